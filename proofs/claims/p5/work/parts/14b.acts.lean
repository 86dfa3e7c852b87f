theorem dOk_ix {a b : Int32} (h : dOk a b) : ∃ j : Nat, j < 6 ∧ a = nI j := by
  rcases h with h | h | h | h | h | h
  · exact ⟨0, by decide, h.1⟩
  · exact ⟨1, by decide, h.1⟩
  · exact ⟨2, by decide, h.1⟩
  · exact ⟨3, by decide, h.1⟩
  · exact ⟨4, by decide, h.1⟩
  · exact ⟨5, by decide, h.1⟩
theorem dX11_canBeDialect_0 : decode cX11_canBeDialect 0 = .ok (.iload_n 0, 1) := by decide +kernel
theorem dX11_canBeDialect_1 : decode cX11_canBeDialect 1 = .ok (.tableswitch 160 0 5 #[39, 69, 87, 102, 117, 132], 39) := by decide +kernel
theorem dX11_canBeDialect_161 : decode cX11_canBeDialect 161 = .ok (.iconst 0, 1) := by decide +kernel
theorem dX11_canBeDialect_162 : decode cX11_canBeDialect 162 = .ok (.ireturn, 1) := by decide +kernel
theorem dX11_canBeDialect_40 : decode cX11_canBeDialect 40 = .ok (.iload_n 1, 1) := by decide +kernel
theorem dX11_canBeDialect_41 : decode cX11_canBeDialect 41 = .ok (.bipush 44, 2) := by decide +kernel
theorem dX11_canBeDialect_43 : decode cX11_canBeDialect 43 = .ok (.if_icmp .eq 21, 3) := by decide +kernel
theorem dX11_canBeDialect_64 : decode cX11_canBeDialect 64 = .ok (.iconst 1, 1) := by decide +kernel
theorem dX11_canBeDialect_65 : decode cX11_canBeDialect 65 = .ok (.goto 4, 3) := by decide +kernel
theorem dX11_canBeDialect_69 : decode cX11_canBeDialect 69 = .ok (.ireturn, 1) := by decide +kernel
theorem dX11_canBeDialect_46 : decode cX11_canBeDialect 46 = .ok (.iload_n 1, 1) := by decide +kernel
theorem dX11_canBeDialect_47 : decode cX11_canBeDialect 47 = .ok (.bipush 59, 2) := by decide +kernel
theorem dX11_canBeDialect_49 : decode cX11_canBeDialect 49 = .ok (.if_icmp .eq 15, 3) := by decide +kernel
theorem dX11_canBeDialect_52 : decode cX11_canBeDialect 52 = .ok (.iload_n 1, 1) := by decide +kernel
theorem dX11_canBeDialect_53 : decode cX11_canBeDialect 53 = .ok (.bipush 124, 2) := by decide +kernel
theorem dX11_canBeDialect_55 : decode cX11_canBeDialect 55 = .ok (.if_icmp .eq 9, 3) := by decide +kernel
theorem dX11_canBeDialect_58 : decode cX11_canBeDialect 58 = .ok (.iload_n 1, 1) := by decide +kernel
theorem dX11_canBeDialect_59 : decode cX11_canBeDialect 59 = .ok (.bipush 9, 2) := by decide +kernel
theorem dX11_canBeDialect_61 : decode cX11_canBeDialect 61 = .ok (.if_icmp .ne 7, 3) := by decide +kernel
theorem dX11_canBeDialect_68 : decode cX11_canBeDialect 68 = .ok (.iconst 0, 1) := by decide +kernel
theorem dX11_canBeDialect_70 : decode cX11_canBeDialect 70 = .ok (.iload_n 1, 1) := by decide +kernel
theorem dX11_canBeDialect_71 : decode cX11_canBeDialect 71 = .ok (.bipush 34, 2) := by decide +kernel
theorem dX11_canBeDialect_73 : decode cX11_canBeDialect 73 = .ok (.if_icmp .eq 9, 3) := by decide +kernel
theorem dX11_canBeDialect_82 : decode cX11_canBeDialect 82 = .ok (.iconst 1, 1) := by decide +kernel
theorem dX11_canBeDialect_83 : decode cX11_canBeDialect 83 = .ok (.goto 4, 3) := by decide +kernel
theorem dX11_canBeDialect_87 : decode cX11_canBeDialect 87 = .ok (.ireturn, 1) := by decide +kernel
theorem dX11_canBeDialect_76 : decode cX11_canBeDialect 76 = .ok (.iload_n 1, 1) := by decide +kernel
theorem dX11_canBeDialect_77 : decode cX11_canBeDialect 77 = .ok (.bipush 39, 2) := by decide +kernel
theorem dX11_canBeDialect_79 : decode cX11_canBeDialect 79 = .ok (.if_icmp .ne 7, 3) := by decide +kernel
theorem dX11_canBeDialect_86 : decode cX11_canBeDialect 86 = .ok (.iconst 0, 1) := by decide +kernel
theorem dX11_canBeDialect_88 : decode cX11_canBeDialect 88 = .ok (.iload_n 1, 1) := by decide +kernel
theorem dX11_canBeDialect_89 : decode cX11_canBeDialect 89 = .ok (.ifCond .eq 8, 3) := by decide +kernel
theorem dX11_canBeDialect_97 : decode cX11_canBeDialect 97 = .ok (.iconst 1, 1) := by decide +kernel
theorem dX11_canBeDialect_98 : decode cX11_canBeDialect 98 = .ok (.goto 4, 3) := by decide +kernel
theorem dX11_canBeDialect_102 : decode cX11_canBeDialect 102 = .ok (.ireturn, 1) := by decide +kernel
theorem dX11_canBeDialect_92 : decode cX11_canBeDialect 92 = .ok (.iload_n 1, 1) := by decide +kernel
theorem dX11_canBeDialect_93 : decode cX11_canBeDialect 93 = .ok (.iconst 1, 1) := by decide +kernel
theorem dX11_canBeDialect_94 : decode cX11_canBeDialect 94 = .ok (.if_icmp .ne 7, 3) := by decide +kernel
theorem dX11_canBeDialect_101 : decode cX11_canBeDialect 101 = .ok (.iconst 0, 1) := by decide +kernel
theorem dX11_canBeDialect_103 : decode cX11_canBeDialect 103 = .ok (.iload_n 1, 1) := by decide +kernel
theorem dX11_canBeDialect_104 : decode cX11_canBeDialect 104 = .ok (.ifCond .eq 8, 3) := by decide +kernel
theorem dX11_canBeDialect_112 : decode cX11_canBeDialect 112 = .ok (.iconst 1, 1) := by decide +kernel
theorem dX11_canBeDialect_113 : decode cX11_canBeDialect 113 = .ok (.goto 4, 3) := by decide +kernel
theorem dX11_canBeDialect_117 : decode cX11_canBeDialect 117 = .ok (.ireturn, 1) := by decide +kernel
theorem dX11_canBeDialect_107 : decode cX11_canBeDialect 107 = .ok (.iload_n 1, 1) := by decide +kernel
theorem dX11_canBeDialect_108 : decode cX11_canBeDialect 108 = .ok (.iconst 1, 1) := by decide +kernel
theorem dX11_canBeDialect_109 : decode cX11_canBeDialect 109 = .ok (.if_icmp .ne 7, 3) := by decide +kernel
theorem dX11_canBeDialect_116 : decode cX11_canBeDialect 116 = .ok (.iconst 0, 1) := by decide +kernel
theorem dX11_canBeDialect_118 : decode cX11_canBeDialect 118 = .ok (.iload_n 1, 1) := by decide +kernel
theorem dX11_canBeDialect_119 : decode cX11_canBeDialect 119 = .ok (.ifCond .lt 12, 3) := by decide +kernel
theorem dX11_canBeDialect_131 : decode cX11_canBeDialect 131 = .ok (.iconst 0, 1) := by decide +kernel
theorem dX11_canBeDialect_132 : decode cX11_canBeDialect 132 = .ok (.ireturn, 1) := by decide +kernel
theorem dX11_canBeDialect_122 : decode cX11_canBeDialect 122 = .ok (.iload_n 1, 1) := by decide +kernel
theorem dX11_canBeDialect_123 : decode cX11_canBeDialect 123 = .ok (.iconst 3, 1) := by decide +kernel
theorem dX11_canBeDialect_124 : decode cX11_canBeDialect 124 = .ok (.if_icmp .gt 7, 3) := by decide +kernel
theorem dX11_canBeDialect_127 : decode cX11_canBeDialect 127 = .ok (.iconst 1, 1) := by decide +kernel
theorem dX11_canBeDialect_128 : decode cX11_canBeDialect 128 = .ok (.goto 4, 3) := by decide +kernel
theorem dX11_canBeDialect_133 : decode cX11_canBeDialect 133 = .ok (.iload_n 1, 1) := by decide +kernel
theorem dX11_canBeDialect_134 : decode cX11_canBeDialect 134 = .ok (.ifCond .eq 21, 3) := by decide +kernel
theorem dX11_canBeDialect_155 : decode cX11_canBeDialect 155 = .ok (.iconst 1, 1) := by decide +kernel
theorem dX11_canBeDialect_156 : decode cX11_canBeDialect 156 = .ok (.goto 4, 3) := by decide +kernel
theorem dX11_canBeDialect_160 : decode cX11_canBeDialect 160 = .ok (.ireturn, 1) := by decide +kernel
theorem dX11_canBeDialect_137 : decode cX11_canBeDialect 137 = .ok (.iload_n 1, 1) := by decide +kernel
theorem dX11_canBeDialect_138 : decode cX11_canBeDialect 138 = .ok (.bipush 35, 2) := by decide +kernel
theorem dX11_canBeDialect_140 : decode cX11_canBeDialect 140 = .ok (.if_icmp .eq 15, 3) := by decide +kernel
theorem dX11_canBeDialect_143 : decode cX11_canBeDialect 143 = .ok (.iload_n 1, 1) := by decide +kernel
theorem dX11_canBeDialect_144 : decode cX11_canBeDialect 144 = .ok (.bipush 37, 2) := by decide +kernel
theorem dX11_canBeDialect_146 : decode cX11_canBeDialect 146 = .ok (.if_icmp .eq 9, 3) := by decide +kernel
theorem dX11_canBeDialect_149 : decode cX11_canBeDialect 149 = .ok (.iload_n 1, 1) := by decide +kernel
theorem dX11_canBeDialect_150 : decode cX11_canBeDialect 150 = .ok (.bipush 42, 2) := by decide +kernel
theorem dX11_canBeDialect_152 : decode cX11_canBeDialect 152 = .ok (.if_icmp .ne 7, 3) := by decide +kernel
theorem dX11_canBeDialect_159 : decode cX11_canBeDialect 159 = .ok (.iconst 0, 1) := by decide +kernel
theorem dX11_dialect_0 : decode cX11_dialect 0 = .ok (.iload_n 1, 1) := by decide +kernel
theorem dX11_dialect_1 : decode cX11_dialect 1 = .ok (.iload_n 2, 1) := by decide +kernel
theorem dX11_dialect_2 : decode cX11_dialect 2 = .ok (.invokestatic 59, 3) := by decide +kernel
theorem mw_210 : Cond.code yX11_canBeDialect cX11_canBeDialect 2 (some .boolean) ∈ wsL_law := lrk_9 _ (List.mem_of_getElem? (i := 18) rfl)
theorem mw_208 : Cond.methodLink RX11 59 yX11_canBeDialect ∈ wsL_law := lrk_9 _ (List.mem_of_getElem? (i := 16) rfl)
theorem mw_209 : Cond.static yX11_canBeDialect ∈ wsL_law := lrk_9 _ (List.mem_of_getElem? (i := 17) rfl)
theorem gS_X11_59 : GoodIn wsL_law (va_wsS RX11 59 yX11_canBeDialect (wl yX11_canBeDialect cX11_canBeDialect 2 (some .boolean))) := g_S mw_208 mw_209 mw_2 mw_210
theorem hdS_X11_canBeDialect : okD yX11_canBeDialect 2 := by decide +kernel
theorem dX11_dialect_5 : decode cX11_dialect 5 = .ok (.ifCond .ne 5, 3) := by decide +kernel
theorem dX11_dialect_10 : decode cX11_dialect 10 = .ok (.aload_n 0, 1) := by decide +kernel
theorem dX11_dialect_11 : decode cX11_dialect 11 = .ok (.getfield 12, 3) := by decide +kernel
theorem dX11_dialect_14 : decode cX11_dialect 14 = .ok (.getfield 32, 3) := by decide +kernel
theorem dX11_dialect_17 : decode cX11_dialect 17 = .ok (.iload_n 1, 1) := by decide +kernel
theorem dX11_dialect_18 : decode cX11_dialect 18 = .ok (.iload_n 2, 1) := by decide +kernel
theorem dX11_dialect_19 : decode cX11_dialect 19 = .ok (.iastore, 1) := by decide +kernel
theorem dX11_dialect_20 : decode cX11_dialect 20 = .ok (.iconst 1, 1) := by decide +kernel
theorem dX11_dialect_21 : decode cX11_dialect 21 = .ok (.ireturn, 1) := by decide +kernel
theorem dX11_dialect_8 : decode cX11_dialect 8 = .ok (.iconst 0, 1) := by decide +kernel
theorem dX11_dialect_9 : decode cX11_dialect 9 = .ok (.ireturn, 1) := by decide +kernel
theorem dX11_feed_0 : decode cX11_feed 0 = .ok (.aload_n 0, 1) := by decide +kernel
theorem dX11_feed_1 : decode cX11_feed 1 = .ok (.getfield 19, 3) := by decide +kernel
theorem dX11_feed_4 : decode cX11_feed 4 = .ok (.iconst 5, 1) := by decide +kernel
theorem dX11_feed_5 : decode cX11_feed 5 = .ok (.invokevirtual 63, 3) := by decide +kernel
theorem mw_227 : Cond.code yX8_hasRoom cX8_hasRoom 2 (some .boolean) ∈ wsL_law := lrk_10 _ (List.mem_of_getElem? (i := 11) rfl)
theorem mw_224 : Cond.methodLink RX11 63 yX8_hasRoom ∈ wsL_law := lrk_10 _ (List.mem_of_getElem? (i := 8) rfl)
theorem mw_225 : Cond.instanceMethod yX8_hasRoom ∈ wsL_law := lrk_10 _ (List.mem_of_getElem? (i := 9) rfl)
theorem mw_226 : Cond.selects RX8 yX8_hasRoom yX8_hasRoom ∈ wsL_law := lrk_10 _ (List.mem_of_getElem? (i := 10) rfl)
theorem gV_X11_63 : GoodIn wsL_law (wsV RX11 63 RX8 yX8_hasRoom (wl yX8_hasRoom cX8_hasRoom 2 (some .boolean))) := g_V mw_224 mw_225 mw_226 mw_18 mw_227
theorem hdV_X8_hasRoom : yX8_hasRoom.cls = RX8 ∧ okD yX8_hasRoom 1 := by decide +kernel
theorem dX11_feed_8 : decode cX11_feed 8 = .ok (.ifCond .ne 5, 3) := by decide +kernel
theorem dX11_feed_13 : decode cX11_feed 13 = .ok (.aload_n 0, 1) := by decide +kernel
theorem dX11_feed_14 : decode cX11_feed 14 = .ok (.getfield 19, 3) := by decide +kernel
theorem dX11_feed_17 : decode cX11_feed 17 = .ok (.iload_n 1, 1) := by decide +kernel
theorem dX11_feed_18 : decode cX11_feed 18 = .ok (.invokevirtual 67, 3) := by decide +kernel
theorem mw_231 : Cond.code yX8_add cX8_add 3 none ∈ wsL_law := lrk_10 _ (List.mem_of_getElem? (i := 15) rfl)
theorem mw_228 : Cond.methodLink RX11 67 yX8_add ∈ wsL_law := lrk_10 _ (List.mem_of_getElem? (i := 12) rfl)
theorem mw_229 : Cond.instanceMethod yX8_add ∈ wsL_law := lrk_10 _ (List.mem_of_getElem? (i := 13) rfl)
theorem mw_230 : Cond.selects RX8 yX8_add yX8_add ∈ wsL_law := lrk_10 _ (List.mem_of_getElem? (i := 14) rfl)
theorem gV_X11_67 : GoodIn wsL_law (wsV RX11 67 RX8 yX8_add (wl yX8_add cX8_add 3 none)) := g_V mw_228 mw_229 mw_230 mw_18 mw_231
theorem hdV_X8_add : yX8_add.cls = RX8 ∧ okD yX8_add 1 := by decide +kernel
theorem dX11_feed_21 : decode cX11_feed 21 = .ok (.aload_n 0, 1) := by decide +kernel
theorem dX11_feed_22 : decode cX11_feed 22 = .ok (.getfield 19, 3) := by decide +kernel
theorem dX11_feed_25 : decode cX11_feed 25 = .ok (.iload_n 2, 1) := by decide +kernel
theorem dX11_feed_26 : decode cX11_feed 26 = .ok (.invokevirtual 67, 3) := by decide +kernel
theorem dX11_feed_29 : decode cX11_feed 29 = .ok (.aload_n 0, 1) := by decide +kernel
theorem dX11_feed_30 : decode cX11_feed 30 = .ok (.getfield 19, 3) := by decide +kernel
theorem dX11_feed_33 : decode cX11_feed 33 = .ok (.iload_n 3, 1) := by decide +kernel
theorem dX11_feed_34 : decode cX11_feed 34 = .ok (.invokevirtual 67, 3) := by decide +kernel
theorem dX11_feed_37 : decode cX11_feed 37 = .ok (.aload_n 0, 1) := by decide +kernel
theorem dX11_feed_38 : decode cX11_feed 38 = .ok (.getfield 19, 3) := by decide +kernel
theorem dX11_feed_41 : decode cX11_feed 41 = .ok (.iload 4, 2) := by decide +kernel
theorem dX11_feed_43 : decode cX11_feed 43 = .ok (.invokevirtual 67, 3) := by decide +kernel
theorem dX11_feed_46 : decode cX11_feed 46 = .ok (.aload_n 0, 1) := by decide +kernel
theorem dX11_feed_47 : decode cX11_feed 47 = .ok (.getfield 19, 3) := by decide +kernel
theorem dX11_feed_50 : decode cX11_feed 50 = .ok (.iload 5, 2) := by decide +kernel
theorem dX11_feed_52 : decode cX11_feed 52 = .ok (.invokevirtual 67, 3) := by decide +kernel
theorem dX11_feed_55 : decode cX11_feed 55 = .ok (.aload_n 0, 1) := by decide +kernel
theorem dX11_feed_56 : decode cX11_feed 56 = .ok (.getfield 19, 3) := by decide +kernel
theorem dX11_feed_59 : decode cX11_feed 59 = .ok (.getfield 71, 3) := by decide +kernel
theorem dX11_feed_62 : decode cX11_feed 62 = .ok (.ireturn, 1) := by decide +kernel
theorem dX11_feed_11 : decode cX11_feed 11 = .ok (.iconst (-1), 1) := by decide +kernel
theorem dX11_feed_12 : decode cX11_feed 12 = .ok (.ireturn, 1) := by decide +kernel
theorem dX11_end_0 : decode cX11_end 0 = .ok (.iload_n 1, 1) := by decide +kernel
theorem dX11_end_1 : decode cX11_end 1 = .ok (.ifCond .lt 14, 3) := by decide +kernel
theorem dX11_end_15 : decode cX11_end 15 = .ok (.iconst 0, 1) := by decide +kernel
theorem dX11_end_16 : decode cX11_end 16 = .ok (.ireturn, 1) := by decide +kernel
theorem dX11_end_4 : decode cX11_end 4 = .ok (.iload_n 1, 1) := by decide +kernel
theorem dX11_end_5 : decode cX11_end 5 = .ok (.aload_n 0, 1) := by decide +kernel
theorem dX11_end_6 : decode cX11_end 6 = .ok (.getfield 19, 3) := by decide +kernel
theorem dX11_end_9 : decode cX11_end 9 = .ok (.getfield 71, 3) := by decide +kernel
theorem dX11_end_12 : decode cX11_end 12 = .ok (.if_icmp .le 5, 3) := by decide +kernel
theorem dX11_end_17 : decode cX11_end 17 = .ok (.aload_n 0, 1) := by decide +kernel
theorem dX11_end_18 : decode cX11_end 18 = .ok (.getfield 19, 3) := by decide +kernel
theorem dX11_end_21 : decode cX11_end 21 = .ok (.iload_n 1, 1) := by decide +kernel
theorem dX11_end_22 : decode cX11_end 22 = .ok (.putfield 71, 3) := by decide +kernel
theorem dX11_end_25 : decode cX11_end 25 = .ok (.iconst 1, 1) := by decide +kernel
theorem dX11_end_26 : decode cX11_end 26 = .ok (.ireturn, 1) := by decide +kernel
theorem dX11_read_0 : decode cX11_read 0 = .ok (.iload_n 1, 1) := by decide +kernel
theorem dX11_read_1 : decode cX11_read 1 = .ok (.invokestatic 75, 3) := by decide +kernel
theorem mw_254 : Cond.methodLink RX11 75 yX6_isPlace ∈ wsL_law := lrk_11 _ (List.mem_of_getElem? (i := 14) rfl)
theorem gS_X11_75 : GoodIn wsL_law (va_wsS RX11 75 yX6_isPlace (wl yX6_isPlace cX6_isPlace 1 (some .boolean))) := g_S mw_254 mw_255 mw_14 mw_256
theorem dX11_read_4 : decode cX11_read 4 = .ok (.ifCond .eq 20, 3) := by decide +kernel
theorem dX11_read_7 : decode cX11_read 7 = .ok (.aload_n 0, 1) := by decide +kernel
theorem dX11_read_8 : decode cX11_read 8 = .ok (.getfield 39, 3) := by decide +kernel
theorem dX11_read_11 : decode cX11_read 11 = .ok (.aconst_null, 1) := by decide +kernel
theorem dX11_read_12 : decode cX11_read 12 = .ok (.bipush 40, 2) := by decide +kernel
theorem dX11_read_14 : decode cX11_read 14 = .ok (.invokevirtual 78, 3) := by decide +kernel
theorem mw_260 : Cond.code yX4_readLines cX4_readLines 5 (some .boolean) ∈ wsL_law := lrk_11 _ (List.mem_of_getElem? (i := 20) rfl)
theorem mw_257 : Cond.methodLink RX11 78 yX4_readLines ∈ wsL_law := lrk_11 _ (List.mem_of_getElem? (i := 17) rfl)
theorem mw_258 : Cond.instanceMethod yX4_readLines ∈ wsL_law := lrk_11 _ (List.mem_of_getElem? (i := 18) rfl)
theorem mw_259 : Cond.selects RX4 yX4_readLines yX4_readLines ∈ wsL_law := lrk_11 _ (List.mem_of_getElem? (i := 19) rfl)
theorem gV_X11_78 : GoodIn wsL_law (wsV RX11 78 RX4 yX4_readLines (wl yX4_readLines cX4_readLines 5 (some .boolean))) := g_V mw_257 mw_258 mw_259 mw_26 mw_260
theorem hdV_X4_readLines : yX4_readLines.cls = RX4 ∧ okD yX4_readLines 2 := by decide +kernel
theorem dX11_read_17 : decode cX11_read 17 = .ok (.ifCond .eq 7, 3) := by decide +kernel
theorem dX11_read_20 : decode cX11_read 20 = .ok (.iconst 1, 1) := by decide +kernel
theorem dX11_read_21 : decode cX11_read 21 = .ok (.goto 4, 3) := by decide +kernel
theorem dX11_read_25 : decode cX11_read 25 = .ok (.istore_n 2, 1) := by decide +kernel
theorem dX11_read_26 : decode cX11_read 26 = .ok (.aload_n 0, 1) := by decide +kernel
theorem dX11_read_27 : decode cX11_read 27 = .ok (.getfield 19, 3) := by decide +kernel
theorem dX11_read_30 : decode cX11_read 30 = .ok (.iconst 0, 1) := by decide +kernel
theorem dX11_read_31 : decode cX11_read 31 = .ok (.putfield 71, 3) := by decide +kernel
theorem dX11_read_34 : decode cX11_read 34 = .ok (.iload_n 2, 1) := by decide +kernel
theorem dX11_read_35 : decode cX11_read 35 = .ok (.ifCond .eq 13, 3) := by decide +kernel
theorem dX11_read_38 : decode cX11_read 38 = .ok (.aload_n 0, 1) := by decide +kernel
theorem dX11_read_39 : decode cX11_read 39 = .ok (.getfield 39, 3) := by decide +kernel
theorem dX11_read_42 : decode cX11_read 42 = .ok (.invokevirtual 82, 3) := by decide +kernel
theorem mw_374 : Cond.code yX4_newSheet cX4_newSheet 3 (some (.object "TypedTables$Sheet")) ∈ wsL_law := lrk_16 _ (List.mem_of_getElem? (i := 14) rfl)
theorem mw_371 : Cond.methodLink RX11 82 yX4_newSheet ∈ wsL_law := lrk_16 _ (List.mem_of_getElem? (i := 11) rfl)
theorem mw_372 : Cond.instanceMethod yX4_newSheet ∈ wsL_law := lrk_16 _ (List.mem_of_getElem? (i := 12) rfl)
theorem mw_373 : Cond.selects RX4 yX4_newSheet yX4_newSheet ∈ wsL_law := lrk_16 _ (List.mem_of_getElem? (i := 13) rfl)
theorem gV_X11_82 : GoodIn wsL_law (wsV RX11 82 RX4 yX4_newSheet (wl yX4_newSheet cX4_newSheet 3 (some (.object "TypedTables$Sheet")))) := g_V mw_371 mw_372 mw_373 mw_26 mw_374
theorem hdV_X4_newSheet : yX4_newSheet.cls = RX4 ∧ okD yX4_newSheet 0 := by decide +kernel
theorem dX11_read_45 : decode cX11_read 45 = .ok (.goto 4, 3) := by decide +kernel
theorem dX11_read_49 : decode cX11_read 49 = .ok (.astore_n 3, 1) := by decide +kernel
theorem dX11_read_50 : decode cX11_read 50 = .ok (.aload_n 3, 1) := by decide +kernel
theorem dX11_read_51 : decode cX11_read 51 = .ok (.ifnonnull 5, 3) := by decide +kernel
theorem dX11_read_56 : decode cX11_read 56 = .ok (.aload_n 0, 1) := by decide +kernel
theorem dX11_read_57 : decode cX11_read 57 = .ok (.getfield 12, 3) := by decide +kernel
theorem dX11_read_60 : decode cX11_read 60 = .ok (.iload_n 1, 1) := by decide +kernel
theorem dX11_read_61 : decode cX11_read 61 = .ok (.aload_n 3, 1) := by decide +kernel
theorem dX11_read_62 : decode cX11_read 62 = .ok (.invokevirtual 86, 3) := by decide +kernel
theorem mw_399 : Cond.code yX6_act cX6_act 3 none ∈ wsL_law := lrk_17 _ (List.mem_of_getElem? (i := 15) rfl)
theorem mw_396 : Cond.methodLink RX11 86 yX6_act ∈ wsL_law := lrk_17 _ (List.mem_of_getElem? (i := 12) rfl)
theorem mw_397 : Cond.instanceMethod yX6_act ∈ wsL_law := lrk_17 _ (List.mem_of_getElem? (i := 13) rfl)
theorem mw_398 : Cond.selects RX6 yX6_act yX6_act ∈ wsL_law := lrk_17 _ (List.mem_of_getElem? (i := 14) rfl)
theorem gV_X11_86 : GoodIn wsL_law (wsV RX11 86 RX6 yX6_act (wl yX6_act cX6_act 3 none)) := g_V mw_396 mw_397 mw_398 mw_14 mw_399
theorem hdV_X6_act : yX6_act.cls = RX6 ∧ okD yX6_act 2 := by decide +kernel
theorem dX11_read_65 : decode cX11_read 65 = .ok (.aload_n 3, 1) := by decide +kernel
theorem dX11_read_66 : decode cX11_read 66 = .ok (.getfield 90, 3) := by decide +kernel
theorem dX11_read_69 : decode cX11_read 69 = .ok (.ireturn, 1) := by decide +kernel
theorem dX11_read_24 : decode cX11_read 24 = .ok (.iconst 0, 1) := by decide +kernel
theorem dX11_read_48 : decode cX11_read 48 = .ok (.aconst_null, 1) := by decide +kernel
theorem dX11_read_54 : decode cX11_read 54 = .ok (.iconst (-1), 1) := by decide +kernel
theorem dX11_read_55 : decode cX11_read 55 = .ok (.ireturn, 1) := by decide +kernel
theorem dX11_row_0 : decode cX11_row 0 = .ok (.aload_n 0, 1) := by decide +kernel
theorem dX11_row_1 : decode cX11_row 1 = .ok (.getfield 12, 3) := by decide +kernel
theorem dX11_row_4 : decode cX11_row 4 = .ok (.iload_n 1, 1) := by decide +kernel
theorem dX11_row_5 : decode cX11_row 5 = .ok (.invokevirtual 114, 3) := by decide +kernel
theorem dX11_row_8 : decode cX11_row 8 = .ok (.astore_n 2, 1) := by decide +kernel
theorem dX11_row_9 : decode cX11_row 9 = .ok (.iconst 0, 1) := by decide +kernel
theorem dX11_row_10 : decode cX11_row 10 = .ok (.istore_n 3, 1) := by decide +kernel
theorem dX11_row_11 : decode cX11_row 11 = .ok (.aload_n 2, 1) := by decide +kernel
theorem dX11_row_12 : decode cX11_row 12 = .ok (.ifnull 30, 3) := by decide +kernel
theorem dX11_row_42 : decode cX11_row 42 = .ok (.aload_n 2, 1) := by decide +kernel
theorem dX11_row_43 : decode cX11_row 43 = .ok (.ifnull 16, 3) := by decide +kernel
theorem dX11_row_59 : decode cX11_row 59 = .ok (.aload_n 0, 1) := by decide +kernel
theorem dX11_row_60 : decode cX11_row 60 = .ok (.getfield 19, 3) := by decide +kernel
theorem dX11_row_63 : decode cX11_row 63 = .ok (.iconst 0, 1) := by decide +kernel
theorem dX11_row_64 : decode cX11_row 64 = .ok (.putfield 71, 3) := by decide +kernel
theorem dX11_row_67 : decode cX11_row 67 = .ok (.aload_n 2, 1) := by decide +kernel
theorem dX11_row_68 : decode cX11_row 68 = .ok (.ifnull 21, 3) := by decide +kernel
theorem dX11_row_89 : decode cX11_row 89 = .ok (.iconst (-1), 1) := by decide +kernel
theorem dX11_row_90 : decode cX11_row 90 = .ok (.ireturn, 1) := by decide +kernel
theorem dX11_row_15 : decode cX11_row 15 = .ok (.aload_n 2, 1) := by decide +kernel
theorem dX11_row_16 : decode cX11_row 16 = .ok (.getfield 90, 3) := by decide +kernel
theorem dX11_row_19 : decode cX11_row 19 = .ok (.bipush 40, 2) := by decide +kernel
theorem dX11_row_21 : decode cX11_row 21 = .ok (.if_icmp .lt 21, 3) := by decide +kernel
theorem dX11_row_46 : decode cX11_row 46 = .ok (.aload_n 0, 1) := by decide +kernel
theorem dX11_row_47 : decode cX11_row 47 = .ok (.getfield 39, 3) := by decide +kernel
theorem dX11_row_50 : decode cX11_row 50 = .ok (.aload_n 2, 1) := by decide +kernel
theorem dX11_row_51 : decode cX11_row 51 = .ok (.getfield 121, 3) := by decide +kernel
theorem dX11_row_54 : decode cX11_row 54 = .ok (.iconst 1, 1) := by decide +kernel
theorem dX11_row_55 : decode cX11_row 55 = .ok (.invokevirtual 78, 3) := by decide +kernel
theorem dX11_row_58 : decode cX11_row 58 = .ok (.istore_n 3, 1) := by decide +kernel
theorem dX11_row_71 : decode cX11_row 71 = .ok (.iload_n 3, 1) := by decide +kernel
theorem dX11_row_72 : decode cX11_row 72 = .ok (.ifCond .eq 17, 3) := by decide +kernel
theorem dX11_row_75 : decode cX11_row 75 = .ok (.aload_n 2, 1) := by decide +kernel
theorem dX11_row_76 : decode cX11_row 76 = .ok (.aload_n 0, 1) := by decide +kernel
theorem dX11_row_77 : decode cX11_row 77 = .ok (.getfield 39, 3) := by decide +kernel
theorem dX11_row_80 : decode cX11_row 80 = .ok (.getfield 139, 3) := by decide +kernel
theorem mw_677 : Cond.fieldLink RX11 139 "TypedTables$Reader" "cells" "[LTypedTables$Cell;" ∈ wsL_law := lrk_29 _ (List.mem_of_getElem? (i := 5) rfl)
theorem dX11_row_83 : decode cX11_row 83 = .ok (.invokevirtual 143, 3) := by decide +kernel
theorem mw_682 : Cond.code yX5_takesRow cX5_takesRow 3 (some .boolean) ∈ wsL_law := lrk_29 _ (List.mem_of_getElem? (i := 10) rfl)
theorem mw_679 : Cond.methodLink RX11 143 yX5_takesRow ∈ wsL_law := lrk_29 _ (List.mem_of_getElem? (i := 7) rfl)
theorem mw_680 : Cond.instanceMethod yX5_takesRow ∈ wsL_law := lrk_29 _ (List.mem_of_getElem? (i := 8) rfl)
theorem mw_681 : Cond.selects RX5 yX5_takesRow yX5_takesRow ∈ wsL_law := lrk_29 _ (List.mem_of_getElem? (i := 9) rfl)
theorem gV_X11_143 : GoodIn wsL_law (wsV RX11 143 RX5 yX5_takesRow (wl yX5_takesRow cX5_takesRow 3 (some .boolean))) := g_V mw_679 mw_680 mw_681 mw_377 mw_682
theorem hdV_X5_takesRow : yX5_takesRow.cls = RX5 ∧ okD yX5_takesRow 1 := by decide +kernel
theorem dX11_row_86 : decode cX11_row 86 = .ok (.ifCond .ne 5, 3) := by decide +kernel
theorem dX11_row_91 : decode cX11_row 91 = .ok (.aload_n 0, 1) := by decide +kernel
theorem dX11_row_92 : decode cX11_row 92 = .ok (.getfield 12, 3) := by decide +kernel
theorem dX11_row_95 : decode cX11_row 95 = .ok (.iload_n 1, 1) := by decide +kernel
theorem dX11_row_96 : decode cX11_row 96 = .ok (.aload_n 2, 1) := by decide +kernel
theorem dX11_row_97 : decode cX11_row 97 = .ok (.aload_n 0, 1) := by decide +kernel
theorem dX11_row_98 : decode cX11_row 98 = .ok (.getfield 39, 3) := by decide +kernel
theorem dX11_row_101 : decode cX11_row 101 = .ok (.getfield 139, 3) := by decide +kernel
theorem dX11_row_104 : decode cX11_row 104 = .ok (.invokevirtual 147, 3) := by decide +kernel
theorem mw_687 : Cond.code yX5_withRow cX5_withRow 4 (some (.object "TypedTables$Sheet")) ∈ wsL_law := lrk_29 _ (List.mem_of_getElem? (i := 15) rfl)
theorem mw_684 : Cond.methodLink RX11 147 yX5_withRow ∈ wsL_law := lrk_29 _ (List.mem_of_getElem? (i := 12) rfl)
theorem mw_685 : Cond.instanceMethod yX5_withRow ∈ wsL_law := lrk_29 _ (List.mem_of_getElem? (i := 13) rfl)
theorem mw_686 : Cond.selects RX5 yX5_withRow yX5_withRow ∈ wsL_law := lrk_29 _ (List.mem_of_getElem? (i := 14) rfl)
theorem gV_X11_147 : GoodIn wsL_law (wsV RX11 147 RX5 yX5_withRow (wl yX5_withRow cX5_withRow 4 (some (.object "TypedTables$Sheet")))) := g_V mw_684 mw_685 mw_686 mw_377 mw_687
theorem hdV_X5_withRow : yX5_withRow.cls = RX5 ∧ okD yX5_withRow 1 := by decide +kernel
theorem dX11_row_107 : decode cX11_row 107 = .ok (.invokevirtual 86, 3) := by decide +kernel
theorem dX11_row_110 : decode cX11_row 110 = .ok (.aload_n 2, 1) := by decide +kernel
theorem dX11_row_111 : decode cX11_row 111 = .ok (.getfield 90, 3) := by decide +kernel
theorem dX11_row_114 : decode cX11_row 114 = .ok (.iconst 1, 1) := by decide +kernel
theorem dX11_row_115 : decode cX11_row 115 = .ok (.iadd, 1) := by decide +kernel
theorem dX11_row_116 : decode cX11_row 116 = .ok (.ireturn, 1) := by decide +kernel
theorem dX11_row_24 : decode cX11_row 24 = .ok (.aload_n 0, 1) := by decide +kernel
theorem dX11_row_25 : decode cX11_row 25 = .ok (.getfield 26, 3) := by decide +kernel
theorem dX11_row_28 : decode cX11_row 28 = .ok (.bipush 6, 2) := by decide +kernel
theorem dX11_row_30 : decode cX11_row 30 = .ok (.iconst 0, 1) := by decide +kernel
theorem dX11_row_31 : decode cX11_row 31 = .ok (.iconst (-1), 1) := by decide +kernel
theorem dX11_row_32 : decode cX11_row 32 = .ok (.aload_n 0, 1) := by decide +kernel
theorem dX11_row_33 : decode cX11_row 33 = .ok (.getfield 19, 3) := by decide +kernel
theorem dX11_row_36 : decode cX11_row 36 = .ok (.invokevirtual 135, 3) := by decide +kernel
theorem mw_678 : Cond.methodLink RX11 135 yX2_tell ∈ wsL_law := lrk_29 _ (List.mem_of_getElem? (i := 6) rfl)
theorem gV_X11_135 : GoodIn wsL_law (wsV RX11 135 RX2 yX2_tell (wl yX2_tell cX2_tell 7 none)) := g_V mw_678 mw_362 mw_363 mw_22 mw_364
theorem dX11_row_39 : decode cX11_row 39 = .ok (.goto 20, 3) := by decide +kernel
theorem dX11_put_0 : decode cX11_put 0 = .ok (.aload_n 0, 1) := by decide +kernel
theorem dX11_put_1 : decode cX11_put 1 = .ok (.getfield 19, 3) := by decide +kernel
theorem dX11_put_4 : decode cX11_put 4 = .ok (.invokevirtual 110, 3) := by decide +kernel
theorem mw_563 : Cond.code yX8_takeCell cX8_takeCell 2 (some (.object "TypedTables$Cell")) ∈ wsL_law := lrk_24 _ (List.mem_of_getElem? (i := 11) rfl)
theorem mw_560 : Cond.methodLink RX11 110 yX8_takeCell ∈ wsL_law := lrk_24 _ (List.mem_of_getElem? (i := 8) rfl)
theorem mw_561 : Cond.instanceMethod yX8_takeCell ∈ wsL_law := lrk_24 _ (List.mem_of_getElem? (i := 9) rfl)
theorem mw_562 : Cond.selects RX8 yX8_takeCell yX8_takeCell ∈ wsL_law := lrk_24 _ (List.mem_of_getElem? (i := 10) rfl)
theorem gV_X11_110 : GoodIn wsL_law (wsV RX11 110 RX8 yX8_takeCell (wl yX8_takeCell cX8_takeCell 2 (some (.object "TypedTables$Cell")))) := g_V mw_560 mw_561 mw_562 mw_18 mw_563
theorem hdV_X8_takeCell : yX8_takeCell.cls = RX8 ∧ okD yX8_takeCell 0 := by decide +kernel
theorem dX11_put_7 : decode cX11_put 7 = .ok (.astore 4, 2) := by decide +kernel
theorem dX11_put_9 : decode cX11_put 9 = .ok (.aload_n 0, 1) := by decide +kernel
theorem dX11_put_10 : decode cX11_put 10 = .ok (.getfield 12, 3) := by decide +kernel
theorem dX11_put_13 : decode cX11_put 13 = .ok (.iload_n 1, 1) := by decide +kernel
theorem dX11_put_14 : decode cX11_put 14 = .ok (.invokevirtual 114, 3) := by decide +kernel
theorem dX11_put_17 : decode cX11_put 17 = .ok (.astore 5, 2) := by decide +kernel
theorem dX11_put_19 : decode cX11_put 19 = .ok (.aload 4, 2) := by decide +kernel
theorem dX11_put_21 : decode cX11_put 21 = .ok (.ifnull 18, 3) := by decide +kernel
theorem dX11_put_39 : decode cX11_put 39 = .ok (.iconst 0, 1) := by decide +kernel
theorem dX11_put_40 : decode cX11_put 40 = .ok (.ireturn, 1) := by decide +kernel
theorem dX11_put_24 : decode cX11_put 24 = .ok (.aload 5, 2) := by decide +kernel
theorem dX11_put_26 : decode cX11_put 26 = .ok (.ifnull 13, 3) := by decide +kernel
theorem dX11_put_29 : decode cX11_put 29 = .ok (.aload 5, 2) := by decide +kernel
theorem dX11_put_31 : decode cX11_put 31 = .ok (.iload_n 2, 1) := by decide +kernel
theorem dX11_put_32 : decode cX11_put 32 = .ok (.iload_n 3, 1) := by decide +kernel
theorem dX11_put_33 : decode cX11_put 33 = .ok (.invokevirtual 118, 3) := by decide +kernel
theorem dX11_put_36 : decode cX11_put 36 = .ok (.ifCond .ne 5, 3) := by decide +kernel
theorem dX11_put_41 : decode cX11_put 41 = .ok (.aload 5, 2) := by decide +kernel
theorem dX11_put_43 : decode cX11_put 43 = .ok (.getfield 121, 3) := by decide +kernel
theorem dX11_put_46 : decode cX11_put 46 = .ok (.iload_n 3, 1) := by decide +kernel
theorem dX11_put_47 : decode cX11_put 47 = .ok (.aaload, 1) := by decide +kernel
theorem dX11_put_48 : decode cX11_put 48 = .ok (.aload 4, 2) := by decide +kernel
theorem dX11_put_50 : decode cX11_put 50 = .ok (.invokevirtual 125, 3) := by decide +kernel
theorem mw_588 : Cond.methodLink RX11 125 yX1_takes ∈ wsL_law := lrk_25 _ (List.mem_of_getElem? (i := 12) rfl)
theorem gV_X11_125 : GoodIn wsL_law (wsV RX11 125 RX1 yX1_takes (wl yX1_takes cX1_takes 2 (some .boolean))) := g_V mw_588 mw_589 mw_590 mw_331 mw_591
theorem dX11_put_53 : decode cX11_put 53 = .ok (.ifCond .ne 5, 3) := by decide +kernel
theorem dX11_put_58 : decode cX11_put 58 = .ok (.aload_n 0, 1) := by decide +kernel
theorem dX11_put_59 : decode cX11_put 59 = .ok (.getfield 12, 3) := by decide +kernel
theorem dX11_put_62 : decode cX11_put 62 = .ok (.iload_n 1, 1) := by decide +kernel
theorem dX11_put_63 : decode cX11_put 63 = .ok (.aload 5, 2) := by decide +kernel
theorem dX11_put_65 : decode cX11_put 65 = .ok (.iload_n 2, 1) := by decide +kernel
theorem dX11_put_66 : decode cX11_put 66 = .ok (.iload_n 3, 1) := by decide +kernel
theorem dX11_put_67 : decode cX11_put 67 = .ok (.aload 4, 2) := by decide +kernel
theorem dX11_put_69 : decode cX11_put 69 = .ok (.invokevirtual 131, 3) := by decide +kernel
theorem mw_604 : Cond.code yX5_withCell cX5_withCell 6 (some (.object "TypedTables$Sheet")) ∈ wsL_law := lrk_26 _ (List.mem_of_getElem? (i := 4) rfl)
theorem mw_601 : Cond.methodLink RX11 131 yX5_withCell ∈ wsL_law := lrk_26 _ (List.mem_of_getElem? (i := 1) rfl)
theorem mw_602 : Cond.instanceMethod yX5_withCell ∈ wsL_law := lrk_26 _ (List.mem_of_getElem? (i := 2) rfl)
theorem mw_603 : Cond.selects RX5 yX5_withCell yX5_withCell ∈ wsL_law := lrk_26 _ (List.mem_of_getElem? (i := 3) rfl)
theorem gV_X11_131 : GoodIn wsL_law (wsV RX11 131 RX5 yX5_withCell (wl yX5_withCell cX5_withCell 6 (some (.object "TypedTables$Sheet")))) := g_V mw_601 mw_602 mw_603 mw_377 mw_604
theorem hdV_X5_withCell : yX5_withCell.cls = RX5 ∧ okD yX5_withCell 3 := by decide +kernel
theorem dX11_put_72 : decode cX11_put 72 = .ok (.invokevirtual 86, 3) := by decide +kernel
theorem dX11_put_75 : decode cX11_put 75 = .ok (.iconst 1, 1) := by decide +kernel
theorem dX11_put_76 : decode cX11_put 76 = .ok (.ireturn, 1) := by decide +kernel
theorem dX11_put_56 : decode cX11_put 56 = .ok (.iconst 0, 1) := by decide +kernel
theorem dX11_put_57 : decode cX11_put 57 = .ok (.ireturn, 1) := by decide +kernel
theorem dX11_out_0 : decode cX11_out 0 = .ok (.aload_n 0, 1) := by decide +kernel
theorem dX11_out_1 : decode cX11_out 1 = .ok (.getfield 12, 3) := by decide +kernel
theorem dX11_out_4 : decode cX11_out 4 = .ok (.iload_n 1, 1) := by decide +kernel
theorem dX11_out_5 : decode cX11_out 5 = .ok (.invokevirtual 114, 3) := by decide +kernel
theorem dX11_out_8 : decode cX11_out 8 = .ok (.astore_n 3, 1) := by decide +kernel
theorem dX11_out_9 : decode cX11_out 9 = .ok (.aload_n 3, 1) := by decide +kernel
theorem dX11_out_10 : decode cX11_out 10 = .ok (.ifnull 11, 3) := by decide +kernel
theorem dX11_out_21 : decode cX11_out 21 = .ok (.iconst (-1), 1) := by decide +kernel
theorem dX11_out_22 : decode cX11_out 22 = .ok (.ireturn, 1) := by decide +kernel
theorem dX11_out_13 : decode cX11_out 13 = .ok (.aload_n 3, 1) := by decide +kernel
theorem dX11_out_14 : decode cX11_out 14 = .ok (.iload_n 2, 1) := by decide +kernel
theorem dX11_out_15 : decode cX11_out 15 = .ok (.invokevirtual 151, 3) := by decide +kernel
theorem dX11_out_18 : decode cX11_out 18 = .ok (.ifCond .ne 5, 3) := by decide +kernel
theorem dX11_out_23 : decode cX11_out 23 = .ok (.aload_n 0, 1) := by decide +kernel
theorem dX11_out_24 : decode cX11_out 24 = .ok (.getfield 12, 3) := by decide +kernel
theorem dX11_out_27 : decode cX11_out 27 = .ok (.iload_n 1, 1) := by decide +kernel
theorem dX11_out_28 : decode cX11_out 28 = .ok (.aload_n 3, 1) := by decide +kernel
theorem dX11_out_29 : decode cX11_out 29 = .ok (.iload_n 2, 1) := by decide +kernel
theorem dX11_out_30 : decode cX11_out 30 = .ok (.invokevirtual 154, 3) := by decide +kernel
theorem mw_704 : Cond.code yX5_withoutRow cX5_withoutRow 5 (some (.object "TypedTables$Sheet")) ∈ wsL_law := lrk_30 _ (List.mem_of_getElem? (i := 8) rfl)
theorem mw_701 : Cond.methodLink RX11 154 yX5_withoutRow ∈ wsL_law := lrk_30 _ (List.mem_of_getElem? (i := 5) rfl)
theorem mw_702 : Cond.instanceMethod yX5_withoutRow ∈ wsL_law := lrk_30 _ (List.mem_of_getElem? (i := 6) rfl)
theorem mw_703 : Cond.selects RX5 yX5_withoutRow yX5_withoutRow ∈ wsL_law := lrk_30 _ (List.mem_of_getElem? (i := 7) rfl)
theorem gV_X11_154 : GoodIn wsL_law (wsV RX11 154 RX5 yX5_withoutRow (wl yX5_withoutRow cX5_withoutRow 5 (some (.object "TypedTables$Sheet")))) := g_V mw_701 mw_702 mw_703 mw_377 mw_704
theorem hdV_X5_withoutRow : yX5_withoutRow.cls = RX5 ∧ okD yX5_withoutRow 1 := by decide +kernel
theorem dX11_out_33 : decode cX11_out 33 = .ok (.invokevirtual 86, 3) := by decide +kernel
theorem dX11_out_36 : decode cX11_out 36 = .ok (.aload_n 3, 1) := by decide +kernel
theorem dX11_out_37 : decode cX11_out 37 = .ok (.getfield 90, 3) := by decide +kernel
theorem dX11_out_40 : decode cX11_out 40 = .ok (.iconst 1, 1) := by decide +kernel
theorem dX11_out_41 : decode cX11_out 41 = .ok (.isub, 1) := by decide +kernel
theorem dX11_out_42 : decode cX11_out 42 = .ok (.ireturn, 1) := by decide +kernel
theorem dX11_name_0 : decode cX11_name 0 = .ok (.aload_n 0, 1) := by decide +kernel
theorem dX11_name_1 : decode cX11_name 1 = .ok (.getfield 19, 3) := by decide +kernel
theorem dX11_name_4 : decode cX11_name 4 = .ok (.invokevirtual 157, 3) := by decide +kernel
theorem mw_718 : Cond.code yX8_takeName cX8_takeName 2 (some (.array .byte)) ∈ wsL_law := lrk_30 _ (List.mem_of_getElem? (i := 22) rfl)
theorem mw_715 : Cond.methodLink RX11 157 yX8_takeName ∈ wsL_law := lrk_30 _ (List.mem_of_getElem? (i := 19) rfl)
theorem mw_716 : Cond.instanceMethod yX8_takeName ∈ wsL_law := lrk_30 _ (List.mem_of_getElem? (i := 20) rfl)
theorem mw_717 : Cond.selects RX8 yX8_takeName yX8_takeName ∈ wsL_law := lrk_30 _ (List.mem_of_getElem? (i := 21) rfl)
theorem gV_X11_157 : GoodIn wsL_law (wsV RX11 157 RX8 yX8_takeName (wl yX8_takeName cX8_takeName 2 (some (.array .byte)))) := g_V mw_715 mw_716 mw_717 mw_18 mw_718
theorem hdV_X8_takeName : yX8_takeName.cls = RX8 ∧ okD yX8_takeName 0 := by decide +kernel
theorem dX11_name_7 : decode cX11_name 7 = .ok (.astore_n 3, 1) := by decide +kernel
theorem dX11_name_8 : decode cX11_name 8 = .ok (.aload_n 0, 1) := by decide +kernel
theorem dX11_name_9 : decode cX11_name 9 = .ok (.getfield 12, 3) := by decide +kernel
theorem dX11_name_12 : decode cX11_name 12 = .ok (.iload_n 1, 1) := by decide +kernel
theorem dX11_name_13 : decode cX11_name 13 = .ok (.invokevirtual 114, 3) := by decide +kernel
theorem dX11_name_16 : decode cX11_name 16 = .ok (.astore 4, 2) := by decide +kernel
theorem dX11_name_18 : decode cX11_name 18 = .ok (.aload_n 3, 1) := by decide +kernel
theorem dX11_name_19 : decode cX11_name 19 = .ok (.ifnull 17, 3) := by decide +kernel
theorem dX11_name_36 : decode cX11_name 36 = .ok (.iconst 0, 1) := by decide +kernel
theorem dX11_name_37 : decode cX11_name 37 = .ok (.ireturn, 1) := by decide +kernel
theorem dX11_name_22 : decode cX11_name 22 = .ok (.aload 4, 2) := by decide +kernel
theorem dX11_name_24 : decode cX11_name 24 = .ok (.ifnull 12, 3) := by decide +kernel
theorem dX11_name_27 : decode cX11_name 27 = .ok (.aload 4, 2) := by decide +kernel
theorem dX11_name_29 : decode cX11_name 29 = .ok (.iload_n 2, 1) := by decide +kernel
theorem dX11_name_30 : decode cX11_name 30 = .ok (.invokevirtual 161, 3) := by decide +kernel
theorem dX11_name_33 : decode cX11_name 33 = .ok (.ifCond .ne 5, 3) := by decide +kernel
theorem dX11_name_38 : decode cX11_name 38 = .ok (.aload 4, 2) := by decide +kernel
theorem dX11_name_40 : decode cX11_name 40 = .ok (.getfield 121, 3) := by decide +kernel
theorem dX11_name_43 : decode cX11_name 43 = .ok (.aload 4, 2) := by decide +kernel
theorem dX11_name_45 : decode cX11_name 45 = .ok (.getfield 121, 3) := by decide +kernel
theorem dX11_name_48 : decode cX11_name 48 = .ok (.arraylength, 1) := by decide +kernel
theorem dX11_name_49 : decode cX11_name 49 = .ok (.aload_n 3, 1) := by decide +kernel
theorem dX11_name_50 : decode cX11_name 50 = .ok (.invokestatic 164, 3) := by decide +kernel
theorem mw_721 : Cond.methodLink RX11 164 yX1_indexOf ∈ wsL_law := lrk_31 _ (List.mem_of_getElem? (i := 1) rfl)
theorem gS_X11_164 : GoodIn wsL_law (va_wsS RX11 164 yX1_indexOf (wl yX1_indexOf cX1_indexOf 4 (some .int))) := g_S mw_721 mw_340 mw_331 mw_341
theorem dX11_name_53 : decode cX11_name 53 = .ok (.istore 5, 2) := by decide +kernel
theorem dX11_name_55 : decode cX11_name 55 = .ok (.iload 5, 2) := by decide +kernel
theorem dX11_name_57 : decode cX11_name 57 = .ok (.iconst (-1), 1) := by decide +kernel
theorem dX11_name_58 : decode cX11_name 58 = .ok (.if_icmp .eq 11, 3) := by decide +kernel
theorem dX11_name_69 : decode cX11_name 69 = .ok (.aload_n 0, 1) := by decide +kernel
theorem dX11_name_70 : decode cX11_name 70 = .ok (.getfield 12, 3) := by decide +kernel
theorem dX11_name_73 : decode cX11_name 73 = .ok (.iload_n 1, 1) := by decide +kernel
theorem dX11_name_74 : decode cX11_name 74 = .ok (.aload 4, 2) := by decide +kernel
theorem dX11_name_76 : decode cX11_name 76 = .ok (.iload_n 2, 1) := by decide +kernel
theorem dX11_name_77 : decode cX11_name 77 = .ok (.new 126, 3) := by decide +kernel
theorem mw_713 : Cond.classLink RX11 126 RX1 ∈ wsL_law := lrk_30 _ (List.mem_of_getElem? (i := 17) rfl)
theorem dX11_name_80 : decode cX11_name 80 = .ok (.dup, 1) := by decide +kernel
theorem dX11_name_81 : decode cX11_name 81 = .ok (.aload_n 3, 1) := by decide +kernel
theorem dX11_name_82 : decode cX11_name 82 = .ok (.aload 4, 2) := by decide +kernel
theorem dX11_name_84 : decode cX11_name 84 = .ok (.getfield 121, 3) := by decide +kernel
theorem dX11_name_87 : decode cX11_name 87 = .ok (.iload_n 2, 1) := by decide +kernel
theorem dX11_name_88 : decode cX11_name 88 = .ok (.aaload, 1) := by decide +kernel
theorem dX11_name_89 : decode cX11_name 89 = .ok (.getfield 168, 3) := by decide +kernel
theorem dX11_name_92 : decode cX11_name 92 = .ok (.invokespecial 171, 3) := by decide +kernel
theorem mw_722 : Cond.methodLink RX11 171 yX1_init ∈ wsL_law := lrk_31 _ (List.mem_of_getElem? (i := 2) rfl)
theorem dX11_name_95 : decode cX11_name 95 = .ok (.invokevirtual 174, 3) := by decide +kernel
theorem mw_726 : Cond.code yX5_withColumn cX5_withColumn 5 (some (.object "TypedTables$Sheet")) ∈ wsL_law := lrk_31 _ (List.mem_of_getElem? (i := 6) rfl)
theorem mw_723 : Cond.methodLink RX11 174 yX5_withColumn ∈ wsL_law := lrk_31 _ (List.mem_of_getElem? (i := 3) rfl)
theorem mw_724 : Cond.instanceMethod yX5_withColumn ∈ wsL_law := lrk_31 _ (List.mem_of_getElem? (i := 4) rfl)
theorem mw_725 : Cond.selects RX5 yX5_withColumn yX5_withColumn ∈ wsL_law := lrk_31 _ (List.mem_of_getElem? (i := 5) rfl)
theorem gV_X11_174 : GoodIn wsL_law (wsV RX11 174 RX5 yX5_withColumn (wl yX5_withColumn cX5_withColumn 5 (some (.object "TypedTables$Sheet")))) := g_V mw_723 mw_724 mw_725 mw_377 mw_726
theorem hdV_X5_withColumn : yX5_withColumn.cls = RX5 ∧ okD yX5_withColumn 2 := by decide +kernel
theorem dX11_name_98 : decode cX11_name 98 = .ok (.invokevirtual 86, 3) := by decide +kernel
theorem dX11_name_101 : decode cX11_name 101 = .ok (.iconst 1, 1) := by decide +kernel
theorem dX11_name_102 : decode cX11_name 102 = .ok (.ireturn, 1) := by decide +kernel
theorem dX11_name_61 : decode cX11_name 61 = .ok (.iload 5, 2) := by decide +kernel
theorem dX11_name_63 : decode cX11_name 63 = .ok (.iload_n 2, 1) := by decide +kernel
theorem dX11_name_64 : decode cX11_name 64 = .ok (.if_icmp .eq 5, 3) := by decide +kernel
theorem dX11_name_67 : decode cX11_name 67 = .ok (.iconst 0, 1) := by decide +kernel
theorem dX11_name_68 : decode cX11_name 68 = .ok (.ireturn, 1) := by decide +kernel
theorem dX11_away_0 : decode cX11_away 0 = .ok (.aload_n 0, 1) := by decide +kernel
theorem dX11_away_1 : decode cX11_away 1 = .ok (.getfield 12, 3) := by decide +kernel
theorem dX11_away_4 : decode cX11_away 4 = .ok (.iload_n 1, 1) := by decide +kernel
theorem dX11_away_5 : decode cX11_away 5 = .ok (.invokevirtual 114, 3) := by decide +kernel
theorem dX11_away_8 : decode cX11_away 8 = .ok (.astore_n 3, 1) := by decide +kernel
theorem dX11_away_9 : decode cX11_away 9 = .ok (.aload_n 3, 1) := by decide +kernel
theorem dX11_away_10 : decode cX11_away 10 = .ok (.ifnull 20, 3) := by decide +kernel
theorem dX11_away_30 : decode cX11_away 30 = .ok (.iconst (-1), 1) := by decide +kernel
theorem dX11_away_31 : decode cX11_away 31 = .ok (.ireturn, 1) := by decide +kernel
theorem dX11_away_13 : decode cX11_away 13 = .ok (.aload_n 3, 1) := by decide +kernel
theorem dX11_away_14 : decode cX11_away 14 = .ok (.iload_n 2, 1) := by decide +kernel
theorem dX11_away_15 : decode cX11_away 15 = .ok (.invokevirtual 161, 3) := by decide +kernel
theorem dX11_away_18 : decode cX11_away 18 = .ok (.ifCond .eq 12, 3) := by decide +kernel
theorem dX11_away_21 : decode cX11_away 21 = .ok (.aload_n 3, 1) := by decide +kernel
theorem dX11_away_22 : decode cX11_away 22 = .ok (.getfield 121, 3) := by decide +kernel
theorem dX11_away_25 : decode cX11_away 25 = .ok (.arraylength, 1) := by decide +kernel
theorem dX11_away_26 : decode cX11_away 26 = .ok (.iconst 1, 1) := by decide +kernel
theorem dX11_away_27 : decode cX11_away 27 = .ok (.if_icmp .ne 5, 3) := by decide +kernel
theorem dX11_away_32 : decode cX11_away 32 = .ok (.aload_n 0, 1) := by decide +kernel
theorem dX11_away_33 : decode cX11_away 33 = .ok (.getfield 12, 3) := by decide +kernel
theorem dX11_away_36 : decode cX11_away 36 = .ok (.iload_n 1, 1) := by decide +kernel
theorem dX11_away_37 : decode cX11_away 37 = .ok (.aload_n 3, 1) := by decide +kernel
theorem dX11_away_38 : decode cX11_away 38 = .ok (.iload_n 2, 1) := by decide +kernel
theorem dX11_away_39 : decode cX11_away 39 = .ok (.invokevirtual 178, 3) := by decide +kernel
theorem mw_746 : Cond.code yX5_withoutColumn cX5_withoutColumn 8 (some (.object "TypedTables$Sheet")) ∈ wsL_law := lrk_32 _ (List.mem_of_getElem? (i := 2) rfl)
theorem mw_743 : Cond.methodLink RX11 178 yX5_withoutColumn ∈ wsL_law := lrk_31 _ (List.mem_of_getElem? (i := 23) rfl)
theorem mw_744 : Cond.instanceMethod yX5_withoutColumn ∈ wsL_law := lrk_32 _ (List.mem_of_getElem? (i := 0) rfl)
theorem mw_745 : Cond.selects RX5 yX5_withoutColumn yX5_withoutColumn ∈ wsL_law := lrk_32 _ (List.mem_of_getElem? (i := 1) rfl)
theorem gV_X11_178 : GoodIn wsL_law (wsV RX11 178 RX5 yX5_withoutColumn (wl yX5_withoutColumn cX5_withoutColumn 8 (some (.object "TypedTables$Sheet")))) := g_V mw_743 mw_744 mw_745 mw_377 mw_746
theorem hdV_X5_withoutColumn : yX5_withoutColumn.cls = RX5 ∧ okD yX5_withoutColumn 1 := by decide +kernel
theorem dX11_away_42 : decode cX11_away 42 = .ok (.invokevirtual 86, 3) := by decide +kernel
theorem dX11_away_45 : decode cX11_away 45 = .ok (.aload_n 3, 1) := by decide +kernel
theorem dX11_away_46 : decode cX11_away 46 = .ok (.getfield 121, 3) := by decide +kernel
theorem dX11_away_49 : decode cX11_away 49 = .ok (.arraylength, 1) := by decide +kernel
theorem dX11_away_50 : decode cX11_away 50 = .ok (.iconst 1, 1) := by decide +kernel
theorem dX11_away_51 : decode cX11_away 51 = .ok (.isub, 1) := by decide +kernel
theorem dX11_away_52 : decode cX11_away 52 = .ok (.ireturn, 1) := by decide +kernel
theorem dX11_type_0 : decode cX11_type 0 = .ok (.aload_n 0, 1) := by decide +kernel
theorem dX11_type_1 : decode cX11_type 1 = .ok (.getfield 12, 3) := by decide +kernel
theorem dX11_type_4 : decode cX11_type 4 = .ok (.iload_n 1, 1) := by decide +kernel
theorem dX11_type_5 : decode cX11_type 5 = .ok (.invokevirtual 114, 3) := by decide +kernel
theorem dX11_type_8 : decode cX11_type 8 = .ok (.astore 4, 2) := by decide +kernel
theorem dX11_type_10 : decode cX11_type 10 = .ok (.aload 4, 2) := by decide +kernel
theorem dX11_type_12 : decode cX11_type 12 = .ok (.ifnull 22, 3) := by decide +kernel
theorem dX11_type_34 : decode cX11_type 34 = .ok (.iconst 0, 1) := by decide +kernel
theorem dX11_type_35 : decode cX11_type 35 = .ok (.ireturn, 1) := by decide +kernel
theorem dX11_type_15 : decode cX11_type 15 = .ok (.aload 4, 2) := by decide +kernel
theorem dX11_type_17 : decode cX11_type 17 = .ok (.iload_n 2, 1) := by decide +kernel
theorem dX11_type_18 : decode cX11_type 18 = .ok (.invokevirtual 161, 3) := by decide +kernel
theorem dX11_type_21 : decode cX11_type 21 = .ok (.ifCond .eq 13, 3) := by decide +kernel
theorem dX11_type_24 : decode cX11_type 24 = .ok (.aload 4, 2) := by decide +kernel
theorem dX11_type_26 : decode cX11_type 26 = .ok (.iload_n 2, 1) := by decide +kernel
theorem dX11_type_27 : decode cX11_type 27 = .ok (.iload_n 3, 1) := by decide +kernel
theorem dX11_type_28 : decode cX11_type 28 = .ok (.invokestatic 181, 3) := by decide +kernel
theorem mw_762 : Cond.code yX11_canBeTold cX11_canBeTold 3 (some .boolean) ∈ wsL_law := lrk_32 _ (List.mem_of_getElem? (i := 18) rfl)
theorem mw_760 : Cond.methodLink RX11 181 yX11_canBeTold ∈ wsL_law := lrk_32 _ (List.mem_of_getElem? (i := 16) rfl)
theorem mw_761 : Cond.static yX11_canBeTold ∈ wsL_law := lrk_32 _ (List.mem_of_getElem? (i := 17) rfl)
theorem gS_X11_181 : GoodIn wsL_law (va_wsS RX11 181 yX11_canBeTold (wl yX11_canBeTold cX11_canBeTold 3 (some .boolean))) := g_S mw_760 mw_761 mw_2 mw_762
theorem hdS_X11_canBeTold : okD yX11_canBeTold 3 := by decide +kernel
theorem dX11_type_31 : decode cX11_type 31 = .ok (.ifCond .ne 5, 3) := by decide +kernel
theorem dX11_type_36 : decode cX11_type 36 = .ok (.aload_n 0, 1) := by decide +kernel
theorem dX11_type_37 : decode cX11_type 37 = .ok (.getfield 12, 3) := by decide +kernel
theorem dX11_type_40 : decode cX11_type 40 = .ok (.iload_n 1, 1) := by decide +kernel
theorem dX11_type_41 : decode cX11_type 41 = .ok (.aload 4, 2) := by decide +kernel
theorem dX11_type_43 : decode cX11_type 43 = .ok (.iload_n 2, 1) := by decide +kernel
theorem dX11_type_44 : decode cX11_type 44 = .ok (.new 126, 3) := by decide +kernel
theorem dX11_type_47 : decode cX11_type 47 = .ok (.dup, 1) := by decide +kernel
theorem dX11_type_48 : decode cX11_type 48 = .ok (.aload 4, 2) := by decide +kernel
theorem dX11_type_50 : decode cX11_type 50 = .ok (.getfield 121, 3) := by decide +kernel
theorem dX11_type_53 : decode cX11_type 53 = .ok (.iload_n 2, 1) := by decide +kernel
theorem dX11_type_54 : decode cX11_type 54 = .ok (.aaload, 1) := by decide +kernel
theorem dX11_type_55 : decode cX11_type 55 = .ok (.getfield 185, 3) := by decide +kernel
theorem dX11_type_58 : decode cX11_type 58 = .ok (.iload_n 3, 1) := by decide +kernel
theorem dX11_type_59 : decode cX11_type 59 = .ok (.invokespecial 171, 3) := by decide +kernel
theorem dX11_type_62 : decode cX11_type 62 = .ok (.invokevirtual 174, 3) := by decide +kernel
theorem dX11_type_65 : decode cX11_type 65 = .ok (.invokevirtual 86, 3) := by decide +kernel
theorem dX11_type_68 : decode cX11_type 68 = .ok (.iconst 1, 1) := by decide +kernel
theorem dX11_type_69 : decode cX11_type 69 = .ok (.ireturn, 1) := by decide +kernel
theorem dX11_joined_0 : decode cX11_joined 0 = .ok (.aload_n 0, 1) := by decide +kernel
theorem dX11_joined_1 : decode cX11_joined 1 = .ok (.getfield 12, 3) := by decide +kernel
theorem dX11_joined_4 : decode cX11_joined 4 = .ok (.iload_n 1, 1) := by decide +kernel
theorem dX11_joined_5 : decode cX11_joined 5 = .ok (.iload_n 2, 1) := by decide +kernel
theorem dX11_joined_6 : decode cX11_joined 6 = .ok (.invokevirtual 189, 3) := by decide +kernel
theorem mw_791 : Cond.code yX6_stripOf cX6_stripOf 5 (some (.object "TypedTables$Strip")) ∈ wsL_law := lrk_33 _ (List.mem_of_getElem? (i := 23) rfl)
theorem mw_788 : Cond.methodLink RX11 189 yX6_stripOf ∈ wsL_law := lrk_33 _ (List.mem_of_getElem? (i := 20) rfl)
theorem mw_789 : Cond.instanceMethod yX6_stripOf ∈ wsL_law := lrk_33 _ (List.mem_of_getElem? (i := 21) rfl)
theorem mw_790 : Cond.selects RX6 yX6_stripOf yX6_stripOf ∈ wsL_law := lrk_33 _ (List.mem_of_getElem? (i := 22) rfl)
theorem gV_X11_189 : GoodIn wsL_law (wsV RX11 189 RX6 yX6_stripOf (wl yX6_stripOf cX6_stripOf 5 (some (.object "TypedTables$Strip")))) := g_V mw_788 mw_789 mw_790 mw_14 mw_791
theorem hdV_X6_stripOf : yX6_stripOf.cls = RX6 ∧ okD yX6_stripOf 2 := by decide +kernel
theorem dX11_joined_9 : decode cX11_joined 9 = .ok (.astore 6, 2) := by decide +kernel
theorem dX11_joined_11 : decode cX11_joined 11 = .ok (.aload_n 0, 1) := by decide +kernel
theorem dX11_joined_12 : decode cX11_joined 12 = .ok (.getfield 12, 3) := by decide +kernel
theorem dX11_joined_15 : decode cX11_joined 15 = .ok (.iload_n 3, 1) := by decide +kernel
theorem dX11_joined_16 : decode cX11_joined 16 = .ok (.iload 4, 2) := by decide +kernel
theorem dX11_joined_18 : decode cX11_joined 18 = .ok (.invokevirtual 189, 3) := by decide +kernel
theorem dX11_joined_21 : decode cX11_joined 21 = .ok (.astore 7, 2) := by decide +kernel
theorem dX11_joined_23 : decode cX11_joined 23 = .ok (.aload 6, 2) := by decide +kernel
theorem dX11_joined_25 : decode cX11_joined 25 = .ok (.ifnull 28, 3) := by decide +kernel
theorem dX11_joined_53 : decode cX11_joined 53 = .ok (.iconst (-1), 1) := by decide +kernel
theorem dX11_joined_54 : decode cX11_joined 54 = .ok (.ireturn, 1) := by decide +kernel
theorem dX11_joined_28 : decode cX11_joined 28 = .ok (.aload 7, 2) := by decide +kernel
theorem dX11_joined_30 : decode cX11_joined 30 = .ok (.ifnull 23, 3) := by decide +kernel
theorem dX11_joined_33 : decode cX11_joined 33 = .ok (.iload 5, 2) := by decide +kernel
theorem dX11_joined_35 : decode cX11_joined 35 = .ok (.invokestatic 75, 3) := by decide +kernel
theorem dX11_joined_38 : decode cX11_joined 38 = .ok (.ifCond .eq 15, 3) := by decide +kernel
theorem dX11_joined_41 : decode cX11_joined 41 = .ok (.iload 5, 2) := by decide +kernel
theorem dX11_joined_43 : decode cX11_joined 43 = .ok (.iload_n 1, 1) := by decide +kernel
theorem dX11_joined_44 : decode cX11_joined 44 = .ok (.if_icmp .eq 9, 3) := by decide +kernel
theorem dX11_joined_47 : decode cX11_joined 47 = .ok (.iload 5, 2) := by decide +kernel
theorem dX11_joined_49 : decode cX11_joined 49 = .ok (.iload_n 3, 1) := by decide +kernel
theorem dX11_joined_50 : decode cX11_joined 50 = .ok (.if_icmp .ne 5, 3) := by decide +kernel
theorem dX11_joined_55 : decode cX11_joined 55 = .ok (.new 193, 3) := by decide +kernel
theorem mw_785 : Cond.classLink RX11 193 RX3 ∈ wsL_law := lrk_33 _ (List.mem_of_getElem? (i := 17) rfl)
theorem mw_786 : Cond.instantiable RX3 3 ∈ wsL_law := lrk_33 _ (List.mem_of_getElem? (i := 18) rfl)
theorem dX11_joined_58 : decode cX11_joined 58 = .ok (.dup, 1) := by decide +kernel
theorem dX11_joined_59 : decode cX11_joined 59 = .ok (.aload 6, 2) := by decide +kernel
theorem dX11_joined_61 : decode cX11_joined 61 = .ok (.aload 7, 2) := by decide +kernel
theorem dX11_joined_63 : decode cX11_joined 63 = .ok (.invokespecial 195, 3) := by decide +kernel
theorem hdI_X3_init : yX3_init.name = "<init>" ∧ okD yX3_init 2 := by decide +kernel
theorem mw_819 : Cond.methodLink RX11 195 yX3_init ∈ wsL_law := lrk_35 _ (List.mem_of_getElem? (i := 3) rfl)
theorem mw_820 : Cond.instanceMethod yX3_init ∈ wsL_law := lrk_35 _ (List.mem_of_getElem? (i := 4) rfl)
theorem mw_821 : Cond.code yX3_init cX3_init 3 none ∈ wsL_law := lrk_35 _ (List.mem_of_getElem? (i := 5) rfl)
theorem dX11_joined_66 : decode cX11_joined 66 = .ok (.invokevirtual 198, 3) := by decide +kernel
theorem mw_832 : Cond.code yX3_newSheet cX3_newSheet 7 (some (.object "TypedTables$Sheet")) ∈ wsL_law := lrk_35 _ (List.mem_of_getElem? (i := 16) rfl)
theorem mw_829 : Cond.methodLink RX11 198 yX3_newSheet ∈ wsL_law := lrk_35 _ (List.mem_of_getElem? (i := 13) rfl)
theorem mw_830 : Cond.instanceMethod yX3_newSheet ∈ wsL_law := lrk_35 _ (List.mem_of_getElem? (i := 14) rfl)
theorem mw_831 : Cond.selects RX3 yX3_newSheet yX3_newSheet ∈ wsL_law := lrk_35 _ (List.mem_of_getElem? (i := 15) rfl)
theorem gV_X11_198 : GoodIn wsL_law (wsV RX11 198 RX3 yX3_newSheet (wl yX3_newSheet cX3_newSheet 7 (some (.object "TypedTables$Sheet")))) := g_V mw_829 mw_830 mw_831 mw_787 mw_832
theorem hdV_X3_newSheet : yX3_newSheet.cls = RX3 ∧ okD yX3_newSheet 0 := by decide +kernel
theorem dX11_joined_69 : decode cX11_joined 69 = .ok (.astore 8, 2) := by decide +kernel
theorem dX11_joined_71 : decode cX11_joined 71 = .ok (.aload 8, 2) := by decide +kernel
theorem dX11_joined_73 : decode cX11_joined 73 = .ok (.ifnonnull 5, 3) := by decide +kernel
theorem dX11_joined_76 : decode cX11_joined 76 = .ok (.iconst (-1), 1) := by decide +kernel
theorem dX11_joined_77 : decode cX11_joined 77 = .ok (.ireturn, 1) := by decide +kernel
theorem dX11_joined_78 : decode cX11_joined 78 = .ok (.aload_n 0, 1) := by decide +kernel
theorem dX11_joined_79 : decode cX11_joined 79 = .ok (.getfield 12, 3) := by decide +kernel
theorem dX11_joined_82 : decode cX11_joined 82 = .ok (.iload 5, 2) := by decide +kernel
theorem dX11_joined_84 : decode cX11_joined 84 = .ok (.aload 8, 2) := by decide +kernel
theorem dX11_joined_86 : decode cX11_joined 86 = .ok (.invokevirtual 86, 3) := by decide +kernel
theorem dX11_joined_89 : decode cX11_joined 89 = .ok (.aload 8, 2) := by decide +kernel
theorem dX11_joined_91 : decode cX11_joined 91 = .ok (.getfield 90, 3) := by decide +kernel
theorem dX11_joined_94 : decode cX11_joined 94 = .ok (.ireturn, 1) := by decide +kernel
theorem dX11_undo_0 : decode cX11_undo 0 = .ok (.aload_n 0, 1) := by decide +kernel
theorem dX11_undo_1 : decode cX11_undo 1 = .ok (.getfield 12, 3) := by decide +kernel
theorem dX11_undo_4 : decode cX11_undo 4 = .ok (.getfield 199, 3) := by decide +kernel
theorem dX11_undo_7 : decode cX11_undo 7 = .ok (.ifCond .ne 5, 3) := by decide +kernel
theorem dX11_undo_12 : decode cX11_undo 12 = .ok (.aload_n 0, 1) := by decide +kernel
theorem dX11_undo_13 : decode cX11_undo 13 = .ok (.getfield 12, 3) := by decide +kernel
theorem dX11_undo_16 : decode cX11_undo 16 = .ok (.invokevirtual 202, 3) := by decide +kernel
theorem mw_973 : Cond.code yX6_undoAct cX6_undoAct 2 none ∈ wsL_law := lrk_41 _ (List.mem_of_getElem? (i := 13) rfl)
theorem mw_970 : Cond.methodLink RX11 202 yX6_undoAct ∈ wsL_law := lrk_41 _ (List.mem_of_getElem? (i := 10) rfl)
theorem mw_971 : Cond.instanceMethod yX6_undoAct ∈ wsL_law := lrk_41 _ (List.mem_of_getElem? (i := 11) rfl)
theorem mw_972 : Cond.selects RX6 yX6_undoAct yX6_undoAct ∈ wsL_law := lrk_41 _ (List.mem_of_getElem? (i := 12) rfl)
theorem gV_X11_202 : GoodIn wsL_law (wsV RX11 202 RX6 yX6_undoAct (wl yX6_undoAct cX6_undoAct 2 none)) := g_V mw_970 mw_971 mw_972 mw_14 mw_973
theorem hdV_X6_undoAct : yX6_undoAct.cls = RX6 ∧ okD yX6_undoAct 0 := by decide +kernel
theorem dX11_undo_19 : decode cX11_undo 19 = .ok (.aload_n 0, 1) := by decide +kernel
theorem dX11_undo_20 : decode cX11_undo 20 = .ok (.getfield 12, 3) := by decide +kernel
theorem dX11_undo_23 : decode cX11_undo 23 = .ok (.getfield 199, 3) := by decide +kernel
theorem dX11_undo_26 : decode cX11_undo 26 = .ok (.ireturn, 1) := by decide +kernel
theorem dX11_undo_10 : decode cX11_undo 10 = .ok (.iconst (-1), 1) := by decide +kernel
theorem dX11_undo_11 : decode cX11_undo 11 = .ok (.ireturn, 1) := by decide +kernel
theorem dX11_narrow_0 : decode cX11_narrow 0 = .ok (.aload_n 0, 1) := by decide +kernel
theorem dX11_narrow_1 : decode cX11_narrow 1 = .ok (.getfield 19, 3) := by decide +kernel
theorem dX11_narrow_4 : decode cX11_narrow 4 = .ok (.getfield 71, 3) := by decide +kernel
theorem dX11_narrow_7 : decode cX11_narrow 7 = .ok (.ifCond .le 7, 3) := by decide +kernel
theorem dX11_narrow_14 : decode cX11_narrow 14 = .ok (.iconst 0, 1) := by decide +kernel
theorem dX11_narrow_15 : decode cX11_narrow 15 = .ok (.istore 4, 2) := by decide +kernel
theorem dX11_narrow_17 : decode cX11_narrow 17 = .ok (.aload_n 0, 1) := by decide +kernel
theorem dX11_narrow_18 : decode cX11_narrow 18 = .ok (.getfield 19, 3) := by decide +kernel
theorem dX11_narrow_21 : decode cX11_narrow 21 = .ok (.invokevirtual 110, 3) := by decide +kernel
theorem dX11_narrow_24 : decode cX11_narrow 24 = .ok (.astore 5, 2) := by decide +kernel
theorem dX11_narrow_26 : decode cX11_narrow 26 = .ok (.aload_n 0, 1) := by decide +kernel
theorem dX11_narrow_27 : decode cX11_narrow 27 = .ok (.getfield 12, 3) := by decide +kernel
theorem dX11_narrow_30 : decode cX11_narrow 30 = .ok (.iload_n 1, 1) := by decide +kernel
theorem dX11_narrow_31 : decode cX11_narrow 31 = .ok (.iload_n 2, 1) := by decide +kernel
theorem dX11_narrow_32 : decode cX11_narrow 32 = .ok (.invokevirtual 189, 3) := by decide +kernel
theorem dX11_narrow_35 : decode cX11_narrow 35 = .ok (.astore 6, 2) := by decide +kernel
theorem dX11_narrow_37 : decode cX11_narrow 37 = .ok (.aload 6, 2) := by decide +kernel
theorem dX11_narrow_39 : decode cX11_narrow 39 = .ok (.ifnull 24, 3) := by decide +kernel
theorem dX11_narrow_63 : decode cX11_narrow 63 = .ok (.iconst (-1), 1) := by decide +kernel
theorem dX11_narrow_64 : decode cX11_narrow 64 = .ok (.ireturn, 1) := by decide +kernel
theorem dX11_narrow_10 : decode cX11_narrow 10 = .ok (.iconst 1, 1) := by decide +kernel
theorem dX11_narrow_11 : decode cX11_narrow 11 = .ok (.goto 4, 3) := by decide +kernel
theorem dX11_narrow_42 : decode cX11_narrow 42 = .ok (.aload_n 0, 1) := by decide +kernel
theorem dX11_narrow_43 : decode cX11_narrow 43 = .ok (.getfield 12, 3) := by decide +kernel
theorem dX11_narrow_46 : decode cX11_narrow 46 = .ok (.iload_n 1, 1) := by decide +kernel
theorem dX11_narrow_47 : decode cX11_narrow 47 = .ok (.invokevirtual 205, 3) := by decide +kernel
theorem mw_987 : Cond.code yX6_canStack cX6_canStack 3 (some .boolean) ∈ wsL_law := lrk_42 _ (List.mem_of_getElem? (i := 3) rfl)
theorem mw_984 : Cond.methodLink RX11 205 yX6_canStack ∈ wsL_law := lrk_42 _ (List.mem_of_getElem? (i := 0) rfl)
theorem mw_985 : Cond.instanceMethod yX6_canStack ∈ wsL_law := lrk_42 _ (List.mem_of_getElem? (i := 1) rfl)
theorem mw_986 : Cond.selects RX6 yX6_canStack yX6_canStack ∈ wsL_law := lrk_42 _ (List.mem_of_getElem? (i := 2) rfl)
theorem gV_X11_205 : GoodIn wsL_law (wsV RX11 205 RX6 yX6_canStack (wl yX6_canStack cX6_canStack 3 (some .boolean))) := g_V mw_984 mw_985 mw_986 mw_14 mw_987
theorem hdV_X6_canStack : yX6_canStack.cls = RX6 ∧ okD yX6_canStack 1 := by decide +kernel
theorem dX11_narrow_50 : decode cX11_narrow 50 = .ok (.ifCond .eq 13, 3) := by decide +kernel
theorem dX11_narrow_53 : decode cX11_narrow 53 = .ok (.iload_n 3, 1) := by decide +kernel
theorem dX11_narrow_54 : decode cX11_narrow 54 = .ok (.ifCond .lt 9, 3) := by decide +kernel
theorem dX11_narrow_57 : decode cX11_narrow 57 = .ok (.iload_n 3, 1) := by decide +kernel
theorem dX11_narrow_58 : decode cX11_narrow 58 = .ok (.bipush 7, 2) := by decide +kernel
theorem dX11_narrow_60 : decode cX11_narrow 60 = .ok (.if_icmp .le 5, 3) := by decide +kernel
theorem dX11_narrow_65 : decode cX11_narrow 65 = .ok (.iload_n 3, 1) := by decide +kernel
theorem dX11_narrow_66 : decode cX11_narrow 66 = .ok (.bipush 6, 2) := by decide +kernel
theorem dX11_narrow_68 : decode cX11_narrow 68 = .ok (.if_icmp .ne 10, 3) := by decide +kernel
theorem dX11_narrow_78 : decode cX11_narrow 78 = .ok (.iload_n 3, 1) := by decide +kernel
theorem dX11_narrow_79 : decode cX11_narrow 79 = .ok (.bipush 6, 2) := by decide +kernel
theorem dX11_narrow_81 : decode cX11_narrow 81 = .ok (.if_icmp .ge 31, 3) := by decide +kernel
theorem dX11_narrow_112 : decode cX11_narrow 112 = .ok (.aload_n 0, 1) := by decide +kernel
theorem dX11_narrow_113 : decode cX11_narrow 113 = .ok (.getfield 12, 3) := by decide +kernel
theorem dX11_narrow_116 : decode cX11_narrow 116 = .ok (.iload_n 1, 1) := by decide +kernel
theorem dX11_narrow_117 : decode cX11_narrow 117 = .ok (.aload 6, 2) := by decide +kernel
theorem dX11_narrow_119 : decode cX11_narrow 119 = .ok (.iload_n 3, 1) := by decide +kernel
theorem dX11_narrow_120 : decode cX11_narrow 120 = .ok (.aload 5, 2) := by decide +kernel
theorem dX11_narrow_122 : decode cX11_narrow 122 = .ok (.invokevirtual 219, 3) := by decide +kernel
theorem mw_993 : Cond.code yX7_narrowed cX7_narrowed 6 (some (.array .int)) ∈ wsL_law := lrk_42 _ (List.mem_of_getElem? (i := 9) rfl)
theorem mw_990 : Cond.methodLink RX11 219 yX7_narrowed ∈ wsL_law := lrk_42 _ (List.mem_of_getElem? (i := 6) rfl)
theorem mw_991 : Cond.instanceMethod yX7_narrowed ∈ wsL_law := lrk_42 _ (List.mem_of_getElem? (i := 7) rfl)
theorem mw_992 : Cond.selects RX7 yX7_narrowed yX7_narrowed ∈ wsL_law := lrk_42 _ (List.mem_of_getElem? (i := 8) rfl)
theorem gV_X11_219 : GoodIn wsL_law (wsV RX11 219 RX7 yX7_narrowed (wl yX7_narrowed cX7_narrowed 6 (some (.array .int)))) := g_V mw_990 mw_991 mw_992 mw_794 mw_993
theorem hdV_X7_narrowed : yX7_narrowed.cls = RX7 ∧ okD yX7_narrowed 2 := by decide +kernel
theorem dX11_narrow_125 : decode cX11_narrow 125 = .ok (.invokevirtual 223, 3) := by decide +kernel
theorem mw_1022 : Cond.code yX6_stack cX6_stack 3 (some .int) ∈ wsL_law := lrk_43 _ (List.mem_of_getElem? (i := 14) rfl)
theorem mw_1019 : Cond.methodLink RX11 223 yX6_stack ∈ wsL_law := lrk_43 _ (List.mem_of_getElem? (i := 11) rfl)
theorem mw_1020 : Cond.instanceMethod yX6_stack ∈ wsL_law := lrk_43 _ (List.mem_of_getElem? (i := 12) rfl)
theorem mw_1021 : Cond.selects RX6 yX6_stack yX6_stack ∈ wsL_law := lrk_43 _ (List.mem_of_getElem? (i := 13) rfl)
theorem gV_X11_223 : GoodIn wsL_law (wsV RX11 223 RX6 yX6_stack (wl yX6_stack cX6_stack 3 (some .int))) := g_V mw_1019 mw_1020 mw_1021 mw_14 mw_1022
theorem hdV_X6_stack : yX6_stack.cls = RX6 ∧ okD yX6_stack 2 := by decide +kernel
theorem dX11_narrow_128 : decode cX11_narrow 128 = .ok (.ireturn, 1) := by decide +kernel
theorem dX11_narrow_84 : decode cX11_narrow 84 = .ok (.iload 4, 2) := by decide +kernel
theorem dX11_narrow_86 : decode cX11_narrow 86 = .ok (.ifCond .eq 24, 3) := by decide +kernel
theorem dX11_narrow_110 : decode cX11_narrow 110 = .ok (.iconst (-1), 1) := by decide +kernel
theorem dX11_narrow_111 : decode cX11_narrow 111 = .ok (.ireturn, 1) := by decide +kernel
theorem dX11_narrow_71 : decode cX11_narrow 71 = .ok (.iload 4, 2) := by decide +kernel
theorem dX11_narrow_73 : decode cX11_narrow 73 = .ok (.ifCond .ne 5, 3) := by decide +kernel
theorem dX11_narrow_76 : decode cX11_narrow 76 = .ok (.iconst (-1), 1) := by decide +kernel
theorem dX11_narrow_77 : decode cX11_narrow 77 = .ok (.ireturn, 1) := by decide +kernel
theorem dX11_narrow_89 : decode cX11_narrow 89 = .ok (.aload 5, 2) := by decide +kernel
theorem dX11_narrow_91 : decode cX11_narrow 91 = .ok (.ifnull 19, 3) := by decide +kernel
theorem dX11_narrow_94 : decode cX11_narrow 94 = .ok (.aload 6, 2) := by decide +kernel
theorem dX11_narrow_96 : decode cX11_narrow 96 = .ok (.getfield 208, 3) := by decide +kernel
theorem mw_982 : Cond.fieldLink RX11 208 "TypedTables$Strip" "type" "I" ∈ wsL_law := lrk_41 _ (List.mem_of_getElem? (i := 22) rfl)
theorem dX11_narrow_99 : decode cX11_narrow 99 = .ok (.aload 5, 2) := by decide +kernel
theorem dX11_narrow_101 : decode cX11_narrow 101 = .ok (.getfield 213, 3) := by decide +kernel
theorem dX11_narrow_104 : decode cX11_narrow 104 = .ok (.invokestatic 216, 3) := by decide +kernel
theorem mw_989 : Cond.methodLink RX11 216 yX11_holds ∈ wsL_law := lrk_42 _ (List.mem_of_getElem? (i := 5) rfl)
theorem gS_X11_216 : GoodIn wsL_law (va_wsS RX11 216 yX11_holds (wl yX11_holds cX11_holds 2 (some .boolean))) := g_S mw_989 mw_593 mw_2 mw_594
theorem dX11_narrow_107 : decode cX11_narrow 107 = .ok (.ifCond .ne 5, 3) := by decide +kernel
theorem dX11_order_0 : decode cX11_order 0 = .ok (.aload_n 0, 1) := by decide +kernel
theorem dX11_order_1 : decode cX11_order 1 = .ok (.getfield 12, 3) := by decide +kernel
theorem dX11_order_4 : decode cX11_order 4 = .ok (.iload_n 1, 1) := by decide +kernel
theorem dX11_order_5 : decode cX11_order 5 = .ok (.iload_n 2, 1) := by decide +kernel
theorem dX11_order_6 : decode cX11_order 6 = .ok (.invokevirtual 189, 3) := by decide +kernel
theorem dX11_order_9 : decode cX11_order 9 = .ok (.astore 4, 2) := by decide +kernel
theorem dX11_order_11 : decode cX11_order 11 = .ok (.aload 4, 2) := by decide +kernel
theorem dX11_order_13 : decode cX11_order 13 = .ok (.ifnull 14, 3) := by decide +kernel
theorem dX11_order_27 : decode cX11_order 27 = .ok (.iconst (-1), 1) := by decide +kernel
theorem dX11_order_28 : decode cX11_order 28 = .ok (.ireturn, 1) := by decide +kernel
theorem dX11_order_16 : decode cX11_order 16 = .ok (.aload_n 0, 1) := by decide +kernel
theorem dX11_order_17 : decode cX11_order 17 = .ok (.getfield 12, 3) := by decide +kernel
theorem dX11_order_20 : decode cX11_order 20 = .ok (.iload_n 1, 1) := by decide +kernel
theorem dX11_order_21 : decode cX11_order 21 = .ok (.invokevirtual 205, 3) := by decide +kernel
theorem dX11_order_24 : decode cX11_order 24 = .ok (.ifCond .ne 5, 3) := by decide +kernel
theorem dX11_order_29 : decode cX11_order 29 = .ok (.aload_n 0, 1) := by decide +kernel
theorem dX11_order_30 : decode cX11_order 30 = .ok (.getfield 12, 3) := by decide +kernel
theorem dX11_order_33 : decode cX11_order 33 = .ok (.iload_n 1, 1) := by decide +kernel
theorem dX11_order_34 : decode cX11_order 34 = .ok (.aload 4, 2) := by decide +kernel
theorem dX11_order_36 : decode cX11_order 36 = .ok (.iload_n 3, 1) := by decide +kernel
theorem dX11_order_37 : decode cX11_order 37 = .ok (.invokevirtual 227, 3) := by decide +kernel
theorem mw_1050 : Cond.methodLink RX11 227 yX7_ordered ∈ wsL_law := lrk_44 _ (List.mem_of_getElem? (i := 18) rfl)
theorem gV_X11_227 : GoodIn wsL_law (wsV RX11 227 RX7 yX7_ordered (wl yX7_ordered cX7_ordered 6 (some (.array .int)))) := g_V mw_1050 mw_1051 mw_1052 mw_794 mw_1053
theorem dX11_order_40 : decode cX11_order 40 = .ok (.invokevirtual 223, 3) := by decide +kernel
theorem dX11_order_43 : decode cX11_order 43 = .ok (.ireturn, 1) := by decide +kernel
theorem dX11_cut_0 : decode cX11_cut 0 = .ok (.aload_n 0, 1) := by decide +kernel
theorem dX11_cut_1 : decode cX11_cut 1 = .ok (.getfield 12, 3) := by decide +kernel
theorem dX11_cut_4 : decode cX11_cut 4 = .ok (.iload_n 1, 1) := by decide +kernel
theorem dX11_cut_5 : decode cX11_cut 5 = .ok (.invokevirtual 231, 3) := by decide +kernel
theorem dX11_cut_8 : decode cX11_cut 8 = .ok (.astore 4, 2) := by decide +kernel
theorem dX11_cut_10 : decode cX11_cut 10 = .ok (.aload 4, 2) := by decide +kernel
theorem dX11_cut_12 : decode cX11_cut 12 = .ok (.ifnull 22, 3) := by decide +kernel
theorem dX11_cut_34 : decode cX11_cut 34 = .ok (.iconst (-1), 1) := by decide +kernel
theorem dX11_cut_35 : decode cX11_cut 35 = .ok (.ireturn, 1) := by decide +kernel
theorem dX11_cut_15 : decode cX11_cut 15 = .ok (.aload_n 0, 1) := by decide +kernel
theorem dX11_cut_16 : decode cX11_cut 16 = .ok (.getfield 12, 3) := by decide +kernel
theorem dX11_cut_19 : decode cX11_cut 19 = .ok (.iload_n 1, 1) := by decide +kernel
theorem dX11_cut_20 : decode cX11_cut 20 = .ok (.invokevirtual 205, 3) := by decide +kernel
theorem dX11_cut_23 : decode cX11_cut 23 = .ok (.ifCond .eq 11, 3) := by decide +kernel
theorem dX11_cut_26 : decode cX11_cut 26 = .ok (.iload_n 2, 1) := by decide +kernel
theorem dX11_cut_27 : decode cX11_cut 27 = .ok (.ifCond .lt 7, 3) := by decide +kernel
theorem dX11_cut_30 : decode cX11_cut 30 = .ok (.iload_n 3, 1) := by decide +kernel
theorem dX11_cut_31 : decode cX11_cut 31 = .ok (.ifCond .ge 5, 3) := by decide +kernel
theorem dX11_cut_36 : decode cX11_cut 36 = .ok (.iload_n 2, 1) := by decide +kernel
theorem dX11_cut_37 : decode cX11_cut 37 = .ok (.aload 4, 2) := by decide +kernel
theorem dX11_cut_39 : decode cX11_cut 39 = .ok (.getfield 235, 3) := by decide +kernel
theorem dX11_cut_42 : decode cX11_cut 42 = .ok (.arraylength, 1) := by decide +kernel
theorem dX11_cut_43 : decode cX11_cut 43 = .ok (.invokestatic 239, 3) := by decide +kernel
theorem mw_1079 : Cond.methodLink RX11 239 Lib.Math.min.name ∈ wsL_law := lrk_45 _ (List.mem_of_getElem? (i := 23) rfl)
theorem dX11_cut_46 : decode cX11_cut 46 = .ok (.istore 5, 2) := by decide +kernel
theorem dX11_cut_48 : decode cX11_cut 48 = .ok (.iload_n 3, 1) := by decide +kernel
theorem dX11_cut_49 : decode cX11_cut 49 = .ok (.aload 4, 2) := by decide +kernel
theorem dX11_cut_51 : decode cX11_cut 51 = .ok (.getfield 235, 3) := by decide +kernel
theorem dX11_cut_54 : decode cX11_cut 54 = .ok (.arraylength, 1) := by decide +kernel
theorem dX11_cut_55 : decode cX11_cut 55 = .ok (.iload 5, 2) := by decide +kernel
theorem dX11_cut_57 : decode cX11_cut 57 = .ok (.isub, 1) := by decide +kernel
theorem dX11_cut_58 : decode cX11_cut 58 = .ok (.invokestatic 239, 3) := by decide +kernel
theorem dX11_cut_61 : decode cX11_cut 61 = .ok (.istore 6, 2) := by decide +kernel
theorem dX11_cut_63 : decode cX11_cut 63 = .ok (.aload_n 0, 1) := by decide +kernel
theorem dX11_cut_64 : decode cX11_cut 64 = .ok (.getfield 12, 3) := by decide +kernel
theorem dX11_cut_67 : decode cX11_cut 67 = .ok (.iload_n 1, 1) := by decide +kernel
theorem dX11_cut_68 : decode cX11_cut 68 = .ok (.aload 4, 2) := by decide +kernel
theorem dX11_cut_70 : decode cX11_cut 70 = .ok (.getfield 235, 3) := by decide +kernel
theorem dX11_cut_73 : decode cX11_cut 73 = .ok (.iload 5, 2) := by decide +kernel
theorem dX11_cut_75 : decode cX11_cut 75 = .ok (.iload 5, 2) := by decide +kernel
theorem dX11_cut_77 : decode cX11_cut 77 = .ok (.iload 6, 2) := by decide +kernel
theorem dX11_cut_79 : decode cX11_cut 79 = .ok (.iadd, 1) := by decide +kernel
theorem dX11_cut_80 : decode cX11_cut 80 = .ok (.invokestatic 245, 3) := by decide +kernel
theorem mw_1083 : Cond.code yJ7_copyOfRange_feecc cJ7_copyOfRange_feecc 3 (some (.array .int)) ∈ wsL_law := lrk_46 _ (List.mem_of_getElem? (i := 3) rfl)
theorem mw_1081 : Cond.methodLink RX11 245 yJ7_copyOfRange_feecc ∈ wsL_law := lrk_46 _ (List.mem_of_getElem? (i := 1) rfl)
theorem mw_1082 : Cond.static yJ7_copyOfRange_feecc ∈ wsL_law := lrk_46 _ (List.mem_of_getElem? (i := 2) rfl)
theorem gS_X11_245 : GoodIn wsL_law (va_wsS RX11 245 yJ7_copyOfRange_feecc (wl yJ7_copyOfRange_feecc cJ7_copyOfRange_feecc 3 (some (.array .int)))) := g_S mw_1081 mw_1082 mw_308 mw_1083
theorem hdS_J7_copyOfRange_feecc : okD yJ7_copyOfRange_feecc 3 := by decide +kernel
theorem dX11_cut_83 : decode cX11_cut 83 = .ok (.invokevirtual 223, 3) := by decide +kernel
theorem dX11_cut_86 : decode cX11_cut 86 = .ok (.ireturn, 1) := by decide +kernel
theorem dX11_unlike_0 : decode cX11_unlike 0 = .ok (.aload_n 0, 1) := by decide +kernel
theorem dX11_unlike_1 : decode cX11_unlike 1 = .ok (.getfield 12, 3) := by decide +kernel
theorem dX11_unlike_4 : decode cX11_unlike 4 = .ok (.iload_n 1, 1) := by decide +kernel
theorem dX11_unlike_5 : decode cX11_unlike 5 = .ok (.iload_n 2, 1) := by decide +kernel
theorem dX11_unlike_6 : decode cX11_unlike 6 = .ok (.invokevirtual 189, 3) := by decide +kernel
theorem dX11_unlike_9 : decode cX11_unlike 9 = .ok (.astore_n 3, 1) := by decide +kernel
theorem dX11_unlike_10 : decode cX11_unlike 10 = .ok (.aload_n 3, 1) := by decide +kernel
theorem dX11_unlike_11 : decode cX11_unlike 11 = .ok (.ifnull 14, 3) := by decide +kernel
theorem dX11_unlike_25 : decode cX11_unlike 25 = .ok (.iconst (-1), 1) := by decide +kernel
theorem dX11_unlike_26 : decode cX11_unlike 26 = .ok (.ireturn, 1) := by decide +kernel
theorem dX11_unlike_14 : decode cX11_unlike 14 = .ok (.aload_n 0, 1) := by decide +kernel
theorem dX11_unlike_15 : decode cX11_unlike 15 = .ok (.getfield 12, 3) := by decide +kernel
theorem dX11_unlike_18 : decode cX11_unlike 18 = .ok (.iload_n 1, 1) := by decide +kernel
theorem dX11_unlike_19 : decode cX11_unlike 19 = .ok (.invokevirtual 205, 3) := by decide +kernel
theorem dX11_unlike_22 : decode cX11_unlike 22 = .ok (.ifCond .ne 5, 3) := by decide +kernel
theorem dX11_unlike_27 : decode cX11_unlike 27 = .ok (.aload_n 0, 1) := by decide +kernel
theorem dX11_unlike_28 : decode cX11_unlike 28 = .ok (.getfield 12, 3) := by decide +kernel
theorem dX11_unlike_31 : decode cX11_unlike 31 = .ok (.iload_n 1, 1) := by decide +kernel
theorem dX11_unlike_32 : decode cX11_unlike 32 = .ok (.aload_n 3, 1) := by decide +kernel
theorem dX11_unlike_33 : decode cX11_unlike 33 = .ok (.invokevirtual 251, 3) := by decide +kernel
theorem mw_1101 : Cond.code yX7_firsts cX7_firsts 4 (some (.array .int)) ∈ wsL_law := lrk_46 _ (List.mem_of_getElem? (i := 21) rfl)
theorem mw_1098 : Cond.methodLink RX11 251 yX7_firsts ∈ wsL_law := lrk_46 _ (List.mem_of_getElem? (i := 18) rfl)
theorem mw_1099 : Cond.instanceMethod yX7_firsts ∈ wsL_law := lrk_46 _ (List.mem_of_getElem? (i := 19) rfl)
theorem mw_1100 : Cond.selects RX7 yX7_firsts yX7_firsts ∈ wsL_law := lrk_46 _ (List.mem_of_getElem? (i := 20) rfl)
theorem gV_X11_251 : GoodIn wsL_law (wsV RX11 251 RX7 yX7_firsts (wl yX7_firsts cX7_firsts 4 (some (.array .int)))) := g_V mw_1098 mw_1099 mw_1100 mw_794 mw_1101
theorem hdV_X7_firsts : yX7_firsts.cls = RX7 ∧ okD yX7_firsts 0 := by decide +kernel
theorem dX11_unlike_36 : decode cX11_unlike 36 = .ok (.invokevirtual 223, 3) := by decide +kernel
theorem dX11_unlike_39 : decode cX11_unlike 39 = .ok (.ireturn, 1) := by decide +kernel
theorem dX11_back_0 : decode cX11_back 0 = .ok (.aload_n 0, 1) := by decide +kernel
theorem dX11_back_1 : decode cX11_back 1 = .ok (.getfield 12, 3) := by decide +kernel
theorem dX11_back_4 : decode cX11_back 4 = .ok (.iload_n 1, 1) := by decide +kernel
theorem dX11_back_5 : decode cX11_back 5 = .ok (.invokevirtual 231, 3) := by decide +kernel
theorem dX11_back_8 : decode cX11_back 8 = .ok (.astore_n 2, 1) := by decide +kernel
theorem dX11_back_9 : decode cX11_back 9 = .ok (.aload_n 2, 1) := by decide +kernel
theorem dX11_back_10 : decode cX11_back 10 = .ok (.ifnull 10, 3) := by decide +kernel
theorem dX11_back_20 : decode cX11_back 20 = .ok (.iconst (-1), 1) := by decide +kernel
theorem dX11_back_21 : decode cX11_back 21 = .ok (.ireturn, 1) := by decide +kernel
theorem dX11_back_13 : decode cX11_back 13 = .ok (.aload_n 2, 1) := by decide +kernel
theorem dX11_back_14 : decode cX11_back 14 = .ok (.getfield 255, 3) := by decide +kernel
theorem mw_1122 : Cond.fieldLink RX11 255 "TypedTables$View" "under" "LTypedTables$View;" ∈ wsL_law := lrk_47 _ (List.mem_of_getElem? (i := 18) rfl)
theorem dX11_back_17 : decode cX11_back 17 = .ok (.ifnonnull 5, 3) := by decide +kernel
theorem dX11_back_22 : decode cX11_back 22 = .ok (.aload_n 0, 1) := by decide +kernel
theorem dX11_back_23 : decode cX11_back 23 = .ok (.getfield 12, 3) := by decide +kernel
theorem dX11_back_26 : decode cX11_back 26 = .ok (.iload_n 1, 1) := by decide +kernel
theorem dX11_back_27 : decode cX11_back 27 = .ok (.aload_n 2, 1) := by decide +kernel
theorem dX11_back_28 : decode cX11_back 28 = .ok (.getfield 255, 3) := by decide +kernel
theorem dX11_back_31 : decode cX11_back 31 = .ok (.invokevirtual 259, 3) := by decide +kernel
theorem mw_1127 : Cond.code yX6_setTop cX6_setTop 3 none ∈ wsL_law := lrk_47 _ (List.mem_of_getElem? (i := 23) rfl)
theorem mw_1124 : Cond.methodLink RX11 259 yX6_setTop ∈ wsL_law := lrk_47 _ (List.mem_of_getElem? (i := 20) rfl)
theorem mw_1125 : Cond.instanceMethod yX6_setTop ∈ wsL_law := lrk_47 _ (List.mem_of_getElem? (i := 21) rfl)
theorem mw_1126 : Cond.selects RX6 yX6_setTop yX6_setTop ∈ wsL_law := lrk_47 _ (List.mem_of_getElem? (i := 22) rfl)
theorem gV_X11_259 : GoodIn wsL_law (wsV RX11 259 RX6 yX6_setTop (wl yX6_setTop cX6_setTop 3 none)) := g_V mw_1124 mw_1125 mw_1126 mw_14 mw_1127
theorem hdV_X6_setTop : yX6_setTop.cls = RX6 ∧ okD yX6_setTop 2 := by decide +kernel
theorem dX11_back_34 : decode cX11_back 34 = .ok (.aload_n 2, 1) := by decide +kernel
theorem dX11_back_35 : decode cX11_back 35 = .ok (.getfield 255, 3) := by decide +kernel
theorem dX11_back_38 : decode cX11_back 38 = .ok (.getfield 263, 3) := by decide +kernel
theorem dX11_back_41 : decode cX11_back 41 = .ok (.ireturn, 1) := by decide +kernel
theorem dX11_find_0 : decode cX11_find 0 = .ok (.aload_n 0, 1) := by decide +kernel
theorem dX11_find_1 : decode cX11_find 1 = .ok (.getfield 19, 3) := by decide +kernel
theorem dX11_find_4 : decode cX11_find 4 = .ok (.invokevirtual 157, 3) := by decide +kernel
theorem dX11_find_7 : decode cX11_find 7 = .ok (.astore_n 2, 1) := by decide +kernel
theorem dX11_find_8 : decode cX11_find 8 = .ok (.aload_n 0, 1) := by decide +kernel
theorem dX11_find_9 : decode cX11_find 9 = .ok (.getfield 12, 3) := by decide +kernel
theorem dX11_find_12 : decode cX11_find 12 = .ok (.iload_n 1, 1) := by decide +kernel
theorem dX11_find_13 : decode cX11_find 13 = .ok (.invokevirtual 114, 3) := by decide +kernel
theorem dX11_find_16 : decode cX11_find 16 = .ok (.astore_n 3, 1) := by decide +kernel
theorem dX11_find_17 : decode cX11_find 17 = .ok (.aload_n 2, 1) := by decide +kernel
theorem dX11_find_18 : decode cX11_find 18 = .ok (.ifnull 7, 3) := by decide +kernel
theorem dX11_find_25 : decode cX11_find 25 = .ok (.iconst (-1), 1) := by decide +kernel
theorem dX11_find_26 : decode cX11_find 26 = .ok (.ireturn, 1) := by decide +kernel
theorem dX11_find_21 : decode cX11_find 21 = .ok (.aload_n 3, 1) := by decide +kernel
theorem dX11_find_22 : decode cX11_find 22 = .ok (.ifnonnull 5, 3) := by decide +kernel
theorem dX11_find_27 : decode cX11_find 27 = .ok (.aload_n 3, 1) := by decide +kernel
theorem dX11_find_28 : decode cX11_find 28 = .ok (.getfield 121, 3) := by decide +kernel
theorem dX11_find_31 : decode cX11_find 31 = .ok (.aload_n 3, 1) := by decide +kernel
theorem dX11_find_32 : decode cX11_find 32 = .ok (.getfield 121, 3) := by decide +kernel
theorem dX11_find_35 : decode cX11_find 35 = .ok (.arraylength, 1) := by decide +kernel
theorem dX11_find_36 : decode cX11_find 36 = .ok (.aload_n 2, 1) := by decide +kernel
theorem dX11_find_37 : decode cX11_find 37 = .ok (.invokestatic 164, 3) := by decide +kernel
theorem dX11_find_40 : decode cX11_find 40 = .ok (.ireturn, 1) := by decide +kernel
theorem dX11_over_0 : decode cX11_over 0 = .ok (.aload_n 0, 1) := by decide +kernel
theorem dX11_over_1 : decode cX11_over 1 = .ok (.getfield 12, 3) := by decide +kernel
theorem dX11_over_4 : decode cX11_over 4 = .ok (.iload_n 1, 1) := by decide +kernel
theorem dX11_over_5 : decode cX11_over 5 = .ok (.iload_n 2, 1) := by decide +kernel
theorem dX11_over_6 : decode cX11_over 6 = .ok (.invokevirtual 189, 3) := by decide +kernel
theorem dX11_over_9 : decode cX11_over 9 = .ok (.astore 4, 2) := by decide +kernel
theorem dX11_over_11 : decode cX11_over 11 = .ok (.aload 4, 2) := by decide +kernel
theorem dX11_over_13 : decode cX11_over 13 = .ok (.ifnonnull 7, 3) := by decide +kernel
theorem dX11_over_16 : decode cX11_over 16 = .ok (.ldc2_w 300, 3) := by decide +kernel
theorem dX11_over_19 : decode cX11_over 19 = .ok (.lreturn, 1) := by decide +kernel
theorem dX11_over_20 : decode cX11_over 20 = .ok (.aload 4, 2) := by decide +kernel
theorem dX11_over_22 : decode cX11_over 22 = .ok (.invokevirtual 314, 3) := by decide +kernel
theorem mw_1277 : Cond.code yX7_filled cX7_filled 4 (some (.object "TypedTables$Strip")) ∈ wsL_law := lrk_54 _ (List.mem_of_getElem? (i := 5) rfl)
theorem mw_1274 : Cond.methodLink RX11 314 yX7_filled ∈ wsL_law := lrk_54 _ (List.mem_of_getElem? (i := 2) rfl)
theorem mw_1275 : Cond.instanceMethod yX7_filled ∈ wsL_law := lrk_54 _ (List.mem_of_getElem? (i := 3) rfl)
theorem mw_1276 : Cond.selects RX7 yX7_filled yX7_filled ∈ wsL_law := lrk_54 _ (List.mem_of_getElem? (i := 4) rfl)
theorem gV_X11_314 : GoodIn wsL_law (wsV RX11 314 RX7 yX7_filled (wl yX7_filled cX7_filled 4 (some (.object "TypedTables$Strip")))) := g_V mw_1274 mw_1275 mw_1276 mw_794 mw_1277
theorem hdV_X7_filled : yX7_filled.cls = RX7 ∧ okD yX7_filled 0 := by decide +kernel
theorem dX11_over_25 : decode cX11_over 25 = .ok (.astore 5, 2) := by decide +kernel
theorem dX11_over_27 : decode cX11_over 27 = .ok (.iload_n 3, 1) := by decide +kernel
theorem dX11_over_28 : decode cX11_over 28 = .ok (.ifCond .ne 11, 3) := by decide +kernel
theorem dX11_over_39 : decode cX11_over 39 = .ok (.iload_n 3, 1) := by decide +kernel
theorem dX11_over_40 : decode cX11_over 40 = .ok (.iconst 1, 1) := by decide +kernel
theorem dX11_over_41 : decode cX11_over 41 = .ok (.if_icmp .ne 9, 3) := by decide +kernel
theorem dX11_over_50 : decode cX11_over 50 = .ok (.aload 5, 2) := by decide +kernel
theorem dX11_over_52 : decode cX11_over 52 = .ok (.getfield 318, 3) := by decide +kernel
theorem mw_1273 : Cond.fieldLink RX11 318 "TypedTables$Strip" "rows" "[I" ∈ wsL_law := lrk_54 _ (List.mem_of_getElem? (i := 1) rfl)
theorem dX11_over_55 : decode cX11_over 55 = .ok (.arraylength, 1) := by decide +kernel
theorem dX11_over_56 : decode cX11_over 56 = .ok (.ifCond .ne 7, 3) := by decide +kernel
theorem dX11_over_63 : decode cX11_over 63 = .ok (.iload_n 3, 1) := by decide +kernel
theorem dX11_over_64 : decode cX11_over 64 = .ok (.tableswitch 76 2 6 #[36, 43, 50, 57, 64], 36) := by decide +kernel
theorem dX11_over_140 : decode cX11_over 140 = .ok (.ldc2_w 300, 3) := by decide +kernel
theorem dX11_over_143 : decode cX11_over 143 = .ok (.lreturn, 1) := by decide +kernel
theorem dX11_over_100 : decode cX11_over 100 = .ok (.aload 5, 2) := by decide +kernel
theorem dX11_over_102 : decode cX11_over 102 = .ok (.invokevirtual 323, 3) := by decide +kernel
theorem mw_1289 : Cond.code yX7_leastRow cX7_leastRow 1 (some .int) ∈ wsL_law := lrk_54 _ (List.mem_of_getElem? (i := 17) rfl)
theorem mw_1286 : Cond.methodLink RX11 323 yX7_leastRow ∈ wsL_law := lrk_54 _ (List.mem_of_getElem? (i := 14) rfl)
theorem mw_1287 : Cond.instanceMethod yX7_leastRow ∈ wsL_law := lrk_54 _ (List.mem_of_getElem? (i := 15) rfl)
theorem mw_1288 : Cond.selects RX7 yX7_leastRow yX7_leastRow ∈ wsL_law := lrk_54 _ (List.mem_of_getElem? (i := 16) rfl)
theorem gV_X11_323 : GoodIn wsL_law (wsV RX11 323 RX7 yX7_leastRow (wl yX7_leastRow cX7_leastRow 1 (some .int))) := g_V mw_1286 mw_1287 mw_1288 mw_794 mw_1289
theorem hdV_X7_leastRow : yX7_leastRow.cls = RX7 ∧ okD yX7_leastRow 0 := by decide +kernel
theorem dX11_over_105 : decode cX11_over 105 = .ok (.i2l, 1) := by decide +kernel
theorem dX11_over_106 : decode cX11_over 106 = .ok (.lreturn, 1) := by decide +kernel
theorem dX11_over_107 : decode cX11_over 107 = .ok (.aload 5, 2) := by decide +kernel
theorem dX11_over_109 : decode cX11_over 109 = .ok (.invokevirtual 326, 3) := by decide +kernel
theorem mw_1297 : Cond.code yX7_greatestRow cX7_greatestRow 1 (some .int) ∈ wsL_law := lrk_55 _ (List.mem_of_getElem? (i := 1) rfl)
theorem mw_1294 : Cond.methodLink RX11 326 yX7_greatestRow ∈ wsL_law := lrk_54 _ (List.mem_of_getElem? (i := 22) rfl)
theorem mw_1295 : Cond.instanceMethod yX7_greatestRow ∈ wsL_law := lrk_54 _ (List.mem_of_getElem? (i := 23) rfl)
theorem mw_1296 : Cond.selects RX7 yX7_greatestRow yX7_greatestRow ∈ wsL_law := lrk_55 _ (List.mem_of_getElem? (i := 0) rfl)
theorem gV_X11_326 : GoodIn wsL_law (wsV RX11 326 RX7 yX7_greatestRow (wl yX7_greatestRow cX7_greatestRow 1 (some .int))) := g_V mw_1294 mw_1295 mw_1296 mw_794 mw_1297
theorem hdV_X7_greatestRow : yX7_greatestRow.cls = RX7 ∧ okD yX7_greatestRow 0 := by decide +kernel
theorem dX11_over_112 : decode cX11_over 112 = .ok (.i2l, 1) := by decide +kernel
theorem dX11_over_113 : decode cX11_over 113 = .ok (.lreturn, 1) := by decide +kernel
theorem dX11_over_114 : decode cX11_over 114 = .ok (.aload 5, 2) := by decide +kernel
theorem dX11_over_116 : decode cX11_over 116 = .ok (.invokevirtual 329, 3) := by decide +kernel
theorem mw_1301 : Cond.code yX7_medianRow cX7_medianRow 1 (some .int) ∈ wsL_law := lrk_55 _ (List.mem_of_getElem? (i := 5) rfl)
theorem mw_1298 : Cond.methodLink RX11 329 yX7_medianRow ∈ wsL_law := lrk_55 _ (List.mem_of_getElem? (i := 2) rfl)
theorem mw_1299 : Cond.instanceMethod yX7_medianRow ∈ wsL_law := lrk_55 _ (List.mem_of_getElem? (i := 3) rfl)
theorem mw_1300 : Cond.selects RX7 yX7_medianRow yX7_medianRow ∈ wsL_law := lrk_55 _ (List.mem_of_getElem? (i := 4) rfl)
theorem gV_X11_329 : GoodIn wsL_law (wsV RX11 329 RX7 yX7_medianRow (wl yX7_medianRow cX7_medianRow 1 (some .int))) := g_V mw_1298 mw_1299 mw_1300 mw_794 mw_1301
theorem hdV_X7_medianRow : yX7_medianRow.cls = RX7 ∧ okD yX7_medianRow 0 := by decide +kernel
theorem dX11_over_119 : decode cX11_over 119 = .ok (.i2l, 1) := by decide +kernel
theorem dX11_over_120 : decode cX11_over 120 = .ok (.lreturn, 1) := by decide +kernel
theorem dX11_over_121 : decode cX11_over 121 = .ok (.aload 5, 2) := by decide +kernel
theorem dX11_over_123 : decode cX11_over 123 = .ok (.invokevirtual 332, 3) := by decide +kernel
theorem mw_1306 : Cond.code yX7_modeRow cX7_modeRow 5 (some .int) ∈ wsL_law := lrk_55 _ (List.mem_of_getElem? (i := 10) rfl)
theorem mw_1303 : Cond.methodLink RX11 332 yX7_modeRow ∈ wsL_law := lrk_55 _ (List.mem_of_getElem? (i := 7) rfl)
theorem mw_1304 : Cond.instanceMethod yX7_modeRow ∈ wsL_law := lrk_55 _ (List.mem_of_getElem? (i := 8) rfl)
theorem mw_1305 : Cond.selects RX7 yX7_modeRow yX7_modeRow ∈ wsL_law := lrk_55 _ (List.mem_of_getElem? (i := 9) rfl)
theorem gV_X11_332 : GoodIn wsL_law (wsV RX11 332 RX7 yX7_modeRow (wl yX7_modeRow cX7_modeRow 5 (some .int))) := g_V mw_1303 mw_1304 mw_1305 mw_794 mw_1306
theorem hdV_X7_modeRow : yX7_modeRow.cls = RX7 ∧ okD yX7_modeRow 0 := by decide +kernel
theorem dX11_over_126 : decode cX11_over 126 = .ok (.i2l, 1) := by decide +kernel
theorem dX11_over_127 : decode cX11_over 127 = .ok (.lreturn, 1) := by decide +kernel
theorem dX11_over_128 : decode cX11_over 128 = .ok (.aload 5, 2) := by decide +kernel
theorem dX11_over_130 : decode cX11_over 130 = .ok (.aload 5, 2) := by decide +kernel
theorem dX11_over_132 : decode cX11_over 132 = .ok (.invokevirtual 332, 3) := by decide +kernel
theorem dX11_over_135 : decode cX11_over 135 = .ok (.invokevirtual 335, 3) := by decide +kernel
theorem mw_1311 : Cond.methodLink RX11 335 yX7_countLike ∈ wsL_law := lrk_55 _ (List.mem_of_getElem? (i := 15) rfl)
theorem gV_X11_335 : GoodIn wsL_law (wsV RX11 335 RX7 yX7_countLike (wl yX7_countLike cX7_countLike 4 (some .int))) := g_V mw_1311 mw_1308 mw_1309 mw_794 mw_1310
theorem dX11_over_138 : decode cX11_over 138 = .ok (.i2l, 1) := by decide +kernel
theorem dX11_over_139 : decode cX11_over 139 = .ok (.lreturn, 1) := by decide +kernel
theorem dX11_over_59 : decode cX11_over 59 = .ok (.ldc2_w 300, 3) := by decide +kernel
theorem dX11_over_62 : decode cX11_over 62 = .ok (.lreturn, 1) := by decide +kernel
theorem dX11_over_44 : decode cX11_over 44 = .ok (.aload 5, 2) := by decide +kernel
theorem dX11_over_46 : decode cX11_over 46 = .ok (.invokevirtual 319, 3) := by decide +kernel
theorem mw_1280 : Cond.methodLink RX11 319 yX7_sum ∈ wsL_law := lrk_54 _ (List.mem_of_getElem? (i := 8) rfl)
theorem gV_X11_319 : GoodIn wsL_law (wsV RX11 319 RX7 yX7_sum (wl yX7_sum cX7_sum 5 (some .long))) := g_V mw_1280 mw_1281 mw_1282 mw_794 mw_1283
theorem dX11_over_49 : decode cX11_over 49 = .ok (.lreturn, 1) := by decide +kernel
theorem dX11_over_31 : decode cX11_over 31 = .ok (.aload 5, 2) := by decide +kernel
theorem dX11_over_33 : decode cX11_over 33 = .ok (.getfield 318, 3) := by decide +kernel
theorem dX11_over_36 : decode cX11_over 36 = .ok (.arraylength, 1) := by decide +kernel
theorem dX11_over_37 : decode cX11_over 37 = .ok (.i2l, 1) := by decide +kernel
theorem dX11_over_38 : decode cX11_over 38 = .ok (.lreturn, 1) := by decide +kernel
theorem dX11_group_0 : decode cX11_group 0 = .ok (.aload_n 0, 1) := by decide +kernel
theorem dX11_group_1 : decode cX11_group 1 = .ok (.getfield 12, 3) := by decide +kernel
theorem dX11_group_4 : decode cX11_group 4 = .ok (.iload_n 1, 1) := by decide +kernel
theorem dX11_group_5 : decode cX11_group 5 = .ok (.iload_n 2, 1) := by decide +kernel
theorem dX11_group_6 : decode cX11_group 6 = .ok (.invokevirtual 189, 3) := by decide +kernel
theorem dX11_group_9 : decode cX11_group 9 = .ok (.astore 6, 2) := by decide +kernel
theorem dX11_group_11 : decode cX11_group 11 = .ok (.aload 6, 2) := by decide +kernel
theorem dX11_group_13 : decode cX11_group 13 = .ok (.ifnonnull 7, 3) := by decide +kernel
theorem dX11_group_16 : decode cX11_group 16 = .ok (.ldc2_w 300, 3) := by decide +kernel
theorem dX11_group_19 : decode cX11_group 19 = .ok (.lreturn, 1) := by decide +kernel
theorem dX11_group_20 : decode cX11_group 20 = .ok (.aload 6, 2) := by decide +kernel
theorem dX11_group_22 : decode cX11_group 22 = .ok (.invokevirtual 251, 3) := by decide +kernel
theorem dX11_group_25 : decode cX11_group 25 = .ok (.astore 7, 2) := by decide +kernel
theorem dX11_group_27 : decode cX11_group 27 = .ok (.iload_n 3, 1) := by decide +kernel
theorem dX11_group_28 : decode cX11_group 28 = .ok (.iconst (-1), 1) := by decide +kernel
theorem dX11_group_29 : decode cX11_group 29 = .ok (.if_icmp .ne 8, 3) := by decide +kernel
theorem dX11_group_37 : decode cX11_group 37 = .ok (.iload_n 3, 1) := by decide +kernel
theorem dX11_group_38 : decode cX11_group 38 = .ok (.ifCond .lt 10, 3) := by decide +kernel
theorem dX11_group_48 : decode cX11_group 48 = .ok (.ldc2_w 300, 3) := by decide +kernel
theorem dX11_group_51 : decode cX11_group 51 = .ok (.lreturn, 1) := by decide +kernel
theorem dX11_group_41 : decode cX11_group 41 = .ok (.iload_n 3, 1) := by decide +kernel
theorem dX11_group_42 : decode cX11_group 42 = .ok (.aload 7, 2) := by decide +kernel
theorem dX11_group_44 : decode cX11_group 44 = .ok (.arraylength, 1) := by decide +kernel
theorem dX11_group_45 : decode cX11_group 45 = .ok (.if_icmp .lt 7, 3) := by decide +kernel
theorem dX11_group_52 : decode cX11_group 52 = .ok (.iload 4, 2) := by decide +kernel
theorem dX11_group_54 : decode cX11_group 54 = .ok (.tableswitch 55 0 2 #[26, 32, 43], 26) := by decide +kernel
theorem dX11_group_109 : decode cX11_group 109 = .ok (.ldc2_w 300, 3) := by decide +kernel
theorem dX11_group_112 : decode cX11_group 112 = .ok (.lreturn, 1) := by decide +kernel
theorem dX11_group_80 : decode cX11_group 80 = .ok (.aload 7, 2) := by decide +kernel
theorem dX11_group_82 : decode cX11_group 82 = .ok (.iload_n 3, 1) := by decide +kernel
theorem dX11_group_83 : decode cX11_group 83 = .ok (.iaload, 1) := by decide +kernel
theorem dX11_group_84 : decode cX11_group 84 = .ok (.i2l, 1) := by decide +kernel
theorem dX11_group_85 : decode cX11_group 85 = .ok (.lreturn, 1) := by decide +kernel
theorem dX11_group_86 : decode cX11_group 86 = .ok (.aload 6, 2) := by decide +kernel
theorem dX11_group_88 : decode cX11_group 88 = .ok (.aload 7, 2) := by decide +kernel
theorem dX11_group_90 : decode cX11_group 90 = .ok (.iload_n 3, 1) := by decide +kernel
theorem dX11_group_91 : decode cX11_group 91 = .ok (.iaload, 1) := by decide +kernel
theorem dX11_group_92 : decode cX11_group 92 = .ok (.invokevirtual 335, 3) := by decide +kernel
theorem dX11_group_95 : decode cX11_group 95 = .ok (.i2l, 1) := by decide +kernel
theorem dX11_group_96 : decode cX11_group 96 = .ok (.lreturn, 1) := by decide +kernel
theorem dX11_group_97 : decode cX11_group 97 = .ok (.aload 6, 2) := by decide +kernel
theorem dX11_group_99 : decode cX11_group 99 = .ok (.aload 7, 2) := by decide +kernel
theorem dX11_group_101 : decode cX11_group 101 = .ok (.iload_n 3, 1) := by decide +kernel
theorem dX11_group_102 : decode cX11_group 102 = .ok (.iaload, 1) := by decide +kernel
theorem dX11_group_103 : decode cX11_group 103 = .ok (.iload 5, 2) := by decide +kernel
theorem dX11_group_105 : decode cX11_group 105 = .ok (.invokevirtual 338, 3) := by decide +kernel
theorem mw_1356 : Cond.code yX7_sumLike cX7_sumLike 3 (some .long) ∈ wsL_law := lrk_57 _ (List.mem_of_getElem? (i := 12) rfl)
theorem mw_1353 : Cond.methodLink RX11 338 yX7_sumLike ∈ wsL_law := lrk_57 _ (List.mem_of_getElem? (i := 9) rfl)
theorem mw_1354 : Cond.instanceMethod yX7_sumLike ∈ wsL_law := lrk_57 _ (List.mem_of_getElem? (i := 10) rfl)
theorem mw_1355 : Cond.selects RX7 yX7_sumLike yX7_sumLike ∈ wsL_law := lrk_57 _ (List.mem_of_getElem? (i := 11) rfl)
theorem gV_X11_338 : GoodIn wsL_law (wsV RX11 338 RX7 yX7_sumLike (wl yX7_sumLike cX7_sumLike 3 (some .long))) := g_V mw_1353 mw_1354 mw_1355 mw_794 mw_1356
theorem hdV_X7_sumLike : yX7_sumLike.cls = RX7 ∧ okD yX7_sumLike 2 := by decide +kernel
theorem dX11_group_108 : decode cX11_group 108 = .ok (.lreturn, 1) := by decide +kernel
theorem dX11_group_32 : decode cX11_group 32 = .ok (.aload 7, 2) := by decide +kernel
theorem dX11_group_34 : decode cX11_group 34 = .ok (.arraylength, 1) := by decide +kernel
theorem dX11_group_35 : decode cX11_group 35 = .ok (.i2l, 1) := by decide +kernel
theorem dX11_group_36 : decode cX11_group 36 = .ok (.lreturn, 1) := by decide +kernel
theorem dX11_matches_0 : decode cX11_matches 0 = .ok (.aload_n 0, 1) := by decide +kernel
theorem dX11_matches_1 : decode cX11_matches 1 = .ok (.getfield 12, 3) := by decide +kernel
theorem dX11_matches_4 : decode cX11_matches 4 = .ok (.iload_n 1, 1) := by decide +kernel
theorem dX11_matches_5 : decode cX11_matches 5 = .ok (.iload_n 2, 1) := by decide +kernel
theorem dX11_matches_6 : decode cX11_matches 6 = .ok (.invokevirtual 189, 3) := by decide +kernel
theorem dX11_matches_9 : decode cX11_matches 9 = .ok (.astore 5, 2) := by decide +kernel
theorem dX11_matches_11 : decode cX11_matches 11 = .ok (.aload_n 0, 1) := by decide +kernel
theorem dX11_matches_12 : decode cX11_matches 12 = .ok (.getfield 12, 3) := by decide +kernel
theorem dX11_matches_15 : decode cX11_matches 15 = .ok (.iload_n 3, 1) := by decide +kernel
theorem dX11_matches_16 : decode cX11_matches 16 = .ok (.iload 4, 2) := by decide +kernel
theorem dX11_matches_18 : decode cX11_matches 18 = .ok (.invokevirtual 189, 3) := by decide +kernel
theorem dX11_matches_21 : decode cX11_matches 21 = .ok (.astore 6, 2) := by decide +kernel
theorem dX11_matches_23 : decode cX11_matches 23 = .ok (.aload 5, 2) := by decide +kernel
theorem dX11_matches_25 : decode cX11_matches 25 = .ok (.ifnull 8, 3) := by decide +kernel
theorem dX11_matches_33 : decode cX11_matches 33 = .ok (.iconst (-1), 1) := by decide +kernel
theorem dX11_matches_34 : decode cX11_matches 34 = .ok (.ireturn, 1) := by decide +kernel
theorem dX11_matches_28 : decode cX11_matches 28 = .ok (.aload 6, 2) := by decide +kernel
theorem dX11_matches_30 : decode cX11_matches 30 = .ok (.ifnonnull 5, 3) := by decide +kernel
theorem dX11_matches_35 : decode cX11_matches 35 = .ok (.new 193, 3) := by decide +kernel
theorem dX11_matches_38 : decode cX11_matches 38 = .ok (.dup, 1) := by decide +kernel
theorem dX11_matches_39 : decode cX11_matches 39 = .ok (.aload 5, 2) := by decide +kernel
theorem dX11_matches_41 : decode cX11_matches 41 = .ok (.aload 6, 2) := by decide +kernel
theorem dX11_matches_43 : decode cX11_matches 43 = .ok (.invokespecial 195, 3) := by decide +kernel
theorem dX11_matches_46 : decode cX11_matches 46 = .ok (.astore 7, 2) := by decide +kernel
theorem dX11_matches_48 : decode cX11_matches 48 = .ok (.aload 7, 2) := by decide +kernel
theorem dX11_matches_50 : decode cX11_matches 50 = .ok (.getfield 342, 3) := by decide +kernel
theorem mw_1371 : Cond.fieldLink RX11 342 "TypedTables$Joint" "type" "I" ∈ wsL_law := lrk_58 _ (List.mem_of_getElem? (i := 3) rfl)
theorem dX11_matches_53 : decode cX11_matches 53 = .ok (.iconst (-1), 1) := by decide +kernel
theorem dX11_matches_54 : decode cX11_matches 54 = .ok (.if_icmp .ne 7, 3) := by decide +kernel
theorem dX11_matches_61 : decode cX11_matches 61 = .ok (.aload 7, 2) := by decide +kernel
theorem dX11_matches_63 : decode cX11_matches 63 = .ok (.invokevirtual 343, 3) := by decide +kernel
theorem mw_1372 : Cond.methodLink RX11 343 yX3_countPairs ∈ wsL_law := lrk_58 _ (List.mem_of_getElem? (i := 4) rfl)
theorem gV_X11_343 : GoodIn wsL_law (wsV RX11 343 RX3 yX3_countPairs (wl yX3_countPairs cX3_countPairs 4 (some .int))) := g_V mw_1372 mw_858 mw_859 mw_787 mw_860
theorem dX11_matches_66 : decode cX11_matches 66 = .ok (.ireturn, 1) := by decide +kernel
theorem dX11_matches_57 : decode cX11_matches 57 = .ok (.iconst (-1), 1) := by decide +kernel
theorem dX11_matches_58 : decode cX11_matches 58 = .ok (.goto 8, 3) := by decide +kernel
theorem dX11_write_0 : decode cX11_write 0 = .ok (.aload_n 0, 1) := by decide +kernel
theorem dX11_write_1 : decode cX11_write 1 = .ok (.getfield 12, 3) := by decide +kernel
theorem dX11_write_4 : decode cX11_write 4 = .ok (.iload_n 1, 1) := by decide +kernel
theorem dX11_write_5 : decode cX11_write 5 = .ok (.invokevirtual 114, 3) := by decide +kernel
theorem dX11_write_8 : decode cX11_write 8 = .ok (.astore_n 2, 1) := by decide +kernel
theorem dX11_write_9 : decode cX11_write 9 = .ok (.aload_n 0, 1) := by decide +kernel
theorem dX11_write_10 : decode cX11_write 10 = .ok (.getfield 12, 3) := by decide +kernel
theorem dX11_write_13 : decode cX11_write 13 = .ok (.iload_n 1, 1) := by decide +kernel
theorem dX11_write_14 : decode cX11_write 14 = .ok (.invokevirtual 231, 3) := by decide +kernel
theorem dX11_write_17 : decode cX11_write 17 = .ok (.astore_n 3, 1) := by decide +kernel
theorem dX11_write_18 : decode cX11_write 18 = .ok (.aload_n 2, 1) := by decide +kernel
theorem dX11_write_19 : decode cX11_write 19 = .ok (.ifnull 7, 3) := by decide +kernel
theorem dX11_write_26 : decode cX11_write 26 = .ok (.iconst (-1), 1) := by decide +kernel
theorem dX11_write_27 : decode cX11_write 27 = .ok (.ireturn, 1) := by decide +kernel
theorem dX11_write_22 : decode cX11_write 22 = .ok (.aload_n 3, 1) := by decide +kernel
theorem dX11_write_23 : decode cX11_write 23 = .ok (.ifnonnull 5, 3) := by decide +kernel
theorem dX11_write_28 : decode cX11_write 28 = .ok (.aload_n 0, 1) := by decide +kernel
theorem dX11_write_29 : decode cX11_write 29 = .ok (.getfield 48, 3) := by decide +kernel
theorem dX11_write_32 : decode cX11_write 32 = .ok (.aload_n 2, 1) := by decide +kernel
theorem dX11_write_33 : decode cX11_write 33 = .ok (.aload_n 3, 1) := by decide +kernel
theorem dX11_write_34 : decode cX11_write 34 = .ok (.getfield 235, 3) := by decide +kernel
theorem dX11_write_37 : decode cX11_write 37 = .ok (.invokevirtual 350, 3) := by decide +kernel
theorem mw_1409 : Cond.code yX10_writeSheet cX10_writeSheet 5 none ∈ wsL_law := lrk_59 _ (List.mem_of_getElem? (i := 17) rfl)
theorem mw_1406 : Cond.methodLink RX11 350 yX10_writeSheet ∈ wsL_law := lrk_59 _ (List.mem_of_getElem? (i := 14) rfl)
theorem mw_1407 : Cond.instanceMethod yX10_writeSheet ∈ wsL_law := lrk_59 _ (List.mem_of_getElem? (i := 15) rfl)
theorem mw_1408 : Cond.selects RX10 yX10_writeSheet yX10_writeSheet ∈ wsL_law := lrk_59 _ (List.mem_of_getElem? (i := 16) rfl)
theorem gV_X11_350 : GoodIn wsL_law (wsV RX11 350 RX10 yX10_writeSheet (wl yX10_writeSheet cX10_writeSheet 5 none)) := g_V mw_1406 mw_1407 mw_1408 mw_31 mw_1409
theorem hdV_X10_writeSheet : yX10_writeSheet.cls = RX10 ∧ okD yX10_writeSheet 2 := by decide +kernel
theorem dX11_write_40 : decode cX11_write 40 = .ok (.aload_n 0, 1) := by decide +kernel
theorem dX11_write_41 : decode cX11_write 41 = .ok (.getfield 48, 3) := by decide +kernel
theorem dX11_write_44 : decode cX11_write 44 = .ok (.getfield 354, 3) := by decide +kernel
theorem dX11_write_47 : decode cX11_write 47 = .ok (.ireturn, 1) := by decide +kernel
theorem dX11_image_0 : decode cX11_image 0 = .ok (.iload_n 1, 1) := by decide +kernel
theorem dX11_image_1 : decode cX11_image 1 = .ok (.ifCond .eq 22, 3) := by decide +kernel
theorem dX11_image_23 : decode cX11_image 23 = .ok (.aload_n 0, 1) := by decide +kernel
theorem dX11_image_24 : decode cX11_image 24 = .ok (.getfield 55, 3) := by decide +kernel
theorem dX11_image_27 : decode cX11_image 27 = .ok (.ifCond .eq 14, 3) := by decide +kernel
theorem dX11_image_41 : decode cX11_image 41 = .ok (.aload_n 0, 1) := by decide +kernel
theorem dX11_image_42 : decode cX11_image 42 = .ok (.getfield 55, 3) := by decide +kernel
theorem dX11_image_45 : decode cX11_image 45 = .ok (.ireturn, 1) := by decide +kernel
theorem dX11_image_4 : decode cX11_image 4 = .ok (.aload_n 0, 1) := by decide +kernel
theorem dX11_image_5 : decode cX11_image 5 = .ok (.getfield 52, 3) := by decide +kernel
theorem dX11_image_8 : decode cX11_image 8 = .ok (.aload_n 0, 1) := by decide +kernel
theorem dX11_image_9 : decode cX11_image 9 = .ok (.getfield 12, 3) := by decide +kernel
theorem dX11_image_12 : decode cX11_image 12 = .ok (.invokevirtual 356, 3) := by decide +kernel
theorem mw_1477 : Cond.code yX6_copyFrom cX6_copyFrom 3 none ∈ wsL_law := lrk_62 _ (List.mem_of_getElem? (i := 13) rfl)
theorem mw_1474 : Cond.methodLink RX11 356 yX6_copyFrom ∈ wsL_law := lrk_62 _ (List.mem_of_getElem? (i := 10) rfl)
theorem mw_1475 : Cond.instanceMethod yX6_copyFrom ∈ wsL_law := lrk_62 _ (List.mem_of_getElem? (i := 11) rfl)
theorem mw_1476 : Cond.selects RX6 yX6_copyFrom yX6_copyFrom ∈ wsL_law := lrk_62 _ (List.mem_of_getElem? (i := 12) rfl)
theorem gV_X11_356 : GoodIn wsL_law (wsV RX11 356 RX6 yX6_copyFrom (wl yX6_copyFrom cX6_copyFrom 3 none)) := g_V mw_1474 mw_1475 mw_1476 mw_14 mw_1477
theorem hdV_X6_copyFrom : yX6_copyFrom.cls = RX6 ∧ okD yX6_copyFrom 1 := by decide +kernel
theorem dX11_image_15 : decode cX11_image 15 = .ok (.aload_n 0, 1) := by decide +kernel
theorem dX11_image_16 : decode cX11_image 16 = .ok (.iconst 1, 1) := by decide +kernel
theorem dX11_image_17 : decode cX11_image 17 = .ok (.putfield 55, 3) := by decide +kernel
theorem dX11_image_20 : decode cX11_image 20 = .ok (.goto 21, 3) := by decide +kernel
theorem dX11_image_30 : decode cX11_image 30 = .ok (.aload_n 0, 1) := by decide +kernel
theorem dX11_image_31 : decode cX11_image 31 = .ok (.getfield 12, 3) := by decide +kernel
theorem dX11_image_34 : decode cX11_image 34 = .ok (.aload_n 0, 1) := by decide +kernel
theorem dX11_image_35 : decode cX11_image 35 = .ok (.getfield 52, 3) := by decide +kernel
theorem dX11_image_38 : decode cX11_image 38 = .ok (.invokevirtual 356, 3) := by decide +kernel
set_option maxHeartbeats 4000000 in
set_option maxRecDepth 100000 in
theorem c_X11_canBeDialect (l : Launch) (D : va_G) (κ : Nat → ClassId) (κq : Nat → Nat) (za : Int32) (zb : Int32) : Er l yX11_canBeDialect (wl yX11_canBeDialect cX11_canBeDialect 2 (some .boolean)) { frames := 0, cells := 0, slots := 0, locals := 0 } D κ κq [.int za, .int zb] [] (fun r : Int32 => some (.int r)) (fun r : Int32 => ((r = 1 ∧ dOk za zb) ∨ (r = 0 ∧ ¬ dOk za zb))) := by
  refine er_of (by decide +kernel) (Nat.le_of_ble_eq_true rfl) ?_
  intro p e s m args below meth c A ls hx hb hr hml hts hown hlk hKK hK hP hE hl
  have hS : va_S A s.heap s.heap [] := va_S.rf
  have hP : va_P D vwCl ([] ++ []) s.heap := hP
  have hFX : FX p s m args c cX11_canBeDialect 2 RX11 := ⟨hx, hb, hml, hown, hts⟩
  have hl : lv_has ls 2 [(0, .int za), (1, .int zb)] := hl
  refine lv_iload_n hx hb dX11_canBeDialect_0 rfl (lv_at hl 0 rfl) ?_
  rcases Classical.em (za.toInt < 0 ∨ 5 < za.toInt) with c_1 | c_1
  · refine lv_tableOut (tgt := 161) hx hb dX11_canBeDialect_1 c_1 (by decide) ?_
    refine lv_iconst (v := 0) hx hb dX11_canBeDialect_161 (by decide) ?_
    exact cr_iret hx hb hr hlk rfl 0 rfl (by exact Or.inr ((⟨rfl, (show ¬ dOk za zb from (dOk_out c_1))⟩))) dX11_canBeDialect_162
  · have e_2 : za = 0 ∨ za = 1 ∨ za = 2 ∨ za = 3 ∨ za = 4 ∨ za = 5 := by
      have q1 : ¬ za.toInt < 0 := fun h => c_1 (Or.inl h)
      have q2 : ¬ 5 < za.toInt := fun h => c_1 (Or.inr h)
      have q3 : ∀ v : Int32, za.toInt = v.toInt → za = v := fun v h => Int32.toInt_inj.mp h
      rcases (show za.toInt = 0 ∨ za.toInt = 1 ∨ za.toInt = 2 ∨ za.toInt = 3 ∨ za.toInt = 4 ∨ za.toInt = 5 by omega) with h | h | h | h | h | h
      · exact Or.inl (q3 0 (h.trans (by decide)))
      · exact Or.inr (Or.inl (q3 1 (h.trans (by decide))))
      · exact Or.inr (Or.inr (Or.inl (q3 2 (h.trans (by decide)))))
      · exact Or.inr (Or.inr (Or.inr (Or.inl (q3 3 (h.trans (by decide))))))
      · exact Or.inr (Or.inr (Or.inr (Or.inr (Or.inl (q3 4 (h.trans (by decide)))))))
      · exact Or.inr (Or.inr (Or.inr (Or.inr (Or.inr ((q3 5 (h.trans (by decide))))))))
    clear c_1
    rcases e_2 with rfl | rfl | rfl | rfl | rfl | rfl
    · refine lv_tableIn (tgt := 40) hx hb dX11_canBeDialect_1 (by decide) (by decide) rfl (by decide) ?_
      refine lv_iload_n hx hb dX11_canBeDialect_40 rfl (lv_at hl 1 rfl) ?_
      refine lv_bipush (v := 44) hx hb dX11_canBeDialect_41 (by decide) ?_
      refine lv_icmp_eq (tgt := 64) hx hb dX11_canBeDialect_43 (by decide) (fun c_3 => ?_) (fun c_3 => ?_)
      · refine lv_iconst (v := 1) hx hb dX11_canBeDialect_64 (by decide) ?_
        refine lv_goto (tgt := 69) hx hb dX11_canBeDialect_65 (by decide) ?_
        exact cr_iret hx hb hr hlk rfl 1 rfl (by exact Or.inl (⟨rfl, (show dOk 0 zb from (by first | exact Or.inr (Or.inr (Or.inr (Or.inr (Or.inl ⟨rfl, by omega, by omega⟩)))) | (unfold dOk; simp_all; done)))⟩)) dX11_canBeDialect_69
      · refine lv_iload_n hx hb dX11_canBeDialect_46 rfl (lv_at hl 1 rfl) ?_
        refine lv_bipush (v := 59) hx hb dX11_canBeDialect_47 (by decide) ?_
        refine lv_icmp_eq (tgt := 64) hx hb dX11_canBeDialect_49 (by decide) (fun c_4 => ?_) (fun c_4 => ?_)
        · refine lv_iconst (v := 1) hx hb dX11_canBeDialect_64 (by decide) ?_
          refine lv_goto (tgt := 69) hx hb dX11_canBeDialect_65 (by decide) ?_
          exact cr_iret hx hb hr hlk rfl 1 rfl (by exact Or.inl (⟨rfl, (show dOk 0 zb from (by first | exact Or.inr (Or.inr (Or.inr (Or.inr (Or.inl ⟨rfl, by omega, by omega⟩)))) | (unfold dOk; simp_all; done)))⟩)) dX11_canBeDialect_69
        · refine lv_iload_n hx hb dX11_canBeDialect_52 rfl (lv_at hl 1 rfl) ?_
          refine lv_bipush (v := 124) hx hb dX11_canBeDialect_53 (by decide) ?_
          refine lv_icmp_eq (tgt := 64) hx hb dX11_canBeDialect_55 (by decide) (fun c_5 => ?_) (fun c_5 => ?_)
          · refine lv_iconst (v := 1) hx hb dX11_canBeDialect_64 (by decide) ?_
            refine lv_goto (tgt := 69) hx hb dX11_canBeDialect_65 (by decide) ?_
            exact cr_iret hx hb hr hlk rfl 1 rfl (by exact Or.inl (⟨rfl, (show dOk 0 zb from (by first | exact Or.inr (Or.inr (Or.inr (Or.inr (Or.inl ⟨rfl, by omega, by omega⟩)))) | (unfold dOk; simp_all; done)))⟩)) dX11_canBeDialect_69
          · refine lv_iload_n hx hb dX11_canBeDialect_58 rfl (lv_at hl 1 rfl) ?_
            refine lv_bipush (v := 9) hx hb dX11_canBeDialect_59 (by decide) ?_
            refine lv_icmp_ne (tgt := 68) hx hb dX11_canBeDialect_61 (by decide) (fun c_6 => ?_) (fun c_6 => ?_)
            · refine lv_iconst (v := 0) hx hb dX11_canBeDialect_68 (by decide) ?_
              exact cr_iret hx hb hr hlk rfl 0 rfl (by exact Or.inr ((⟨rfl, (show ¬ dOk 0 zb from (by first | exact dOk_4n (by omega) | (unfold dOk; simp_all; done) | (unfold dOk; simp_all; decide)))⟩))) dX11_canBeDialect_69
            · refine lv_iconst (v := 1) hx hb dX11_canBeDialect_64 (by decide) ?_
              refine lv_goto (tgt := 69) hx hb dX11_canBeDialect_65 (by decide) ?_
              exact cr_iret hx hb hr hlk rfl 1 rfl (by exact Or.inl (⟨rfl, (show dOk 0 zb from (by first | exact Or.inr (Or.inr (Or.inr (Or.inr (Or.inl ⟨rfl, by omega, by omega⟩)))) | (unfold dOk; simp_all; done)))⟩)) dX11_canBeDialect_69
    · refine lv_tableIn (tgt := 70) hx hb dX11_canBeDialect_1 (by decide) (by decide) rfl (by decide) ?_
      refine lv_iload_n hx hb dX11_canBeDialect_70 rfl (lv_at hl 1 rfl) ?_
      refine lv_bipush (v := 34) hx hb dX11_canBeDialect_71 (by decide) ?_
      refine lv_icmp_eq (tgt := 82) hx hb dX11_canBeDialect_73 (by decide) (fun c_7 => ?_) (fun c_7 => ?_)
      · refine lv_iconst (v := 1) hx hb dX11_canBeDialect_82 (by decide) ?_
        refine lv_goto (tgt := 87) hx hb dX11_canBeDialect_83 (by decide) ?_
        exact cr_iret hx hb hr hlk rfl 1 rfl (by exact Or.inl (⟨rfl, (show dOk 1 zb from (by first | exact Or.inr (Or.inr (Or.inr (Or.inr (Or.inl ⟨rfl, by omega, by omega⟩)))) | (unfold dOk; simp_all; done)))⟩)) dX11_canBeDialect_87
      · refine lv_iload_n hx hb dX11_canBeDialect_76 rfl (lv_at hl 1 rfl) ?_
        refine lv_bipush (v := 39) hx hb dX11_canBeDialect_77 (by decide) ?_
        refine lv_icmp_ne (tgt := 86) hx hb dX11_canBeDialect_79 (by decide) (fun c_8 => ?_) (fun c_8 => ?_)
        · refine lv_iconst (v := 0) hx hb dX11_canBeDialect_86 (by decide) ?_
          exact cr_iret hx hb hr hlk rfl 0 rfl (by exact Or.inr ((⟨rfl, (show ¬ dOk 1 zb from (by first | exact dOk_4n (by omega) | (unfold dOk; simp_all; done) | (unfold dOk; simp_all; decide)))⟩))) dX11_canBeDialect_87
        · refine lv_iconst (v := 1) hx hb dX11_canBeDialect_82 (by decide) ?_
          refine lv_goto (tgt := 87) hx hb dX11_canBeDialect_83 (by decide) ?_
          exact cr_iret hx hb hr hlk rfl 1 rfl (by exact Or.inl (⟨rfl, (show dOk 1 zb from (by first | exact Or.inr (Or.inr (Or.inr (Or.inr (Or.inl ⟨rfl, by omega, by omega⟩)))) | (unfold dOk; simp_all; done)))⟩)) dX11_canBeDialect_87
    · refine lv_tableIn (tgt := 88) hx hb dX11_canBeDialect_1 (by decide) (by decide) rfl (by decide) ?_
      refine lv_iload_n hx hb dX11_canBeDialect_88 rfl (lv_at hl 1 rfl) ?_
      refine lv_if_eq (tgt := 97) hx hb dX11_canBeDialect_89 (by decide) (fun c_9 => ?_) (fun c_9 => ?_)
      · refine lv_iconst (v := 1) hx hb dX11_canBeDialect_97 (by decide) ?_
        refine lv_goto (tgt := 102) hx hb dX11_canBeDialect_98 (by decide) ?_
        exact cr_iret hx hb hr hlk rfl 1 rfl (by exact Or.inl (⟨rfl, (show dOk 2 zb from (by first | exact Or.inr (Or.inr (Or.inr (Or.inr (Or.inl ⟨rfl, by omega, by omega⟩)))) | (unfold dOk; simp_all; done)))⟩)) dX11_canBeDialect_102
      · refine lv_iload_n hx hb dX11_canBeDialect_92 rfl (lv_at hl 1 rfl) ?_
        refine lv_iconst (v := 1) hx hb dX11_canBeDialect_93 (by decide) ?_
        refine lv_icmp_ne (tgt := 101) hx hb dX11_canBeDialect_94 (by decide) (fun c_10 => ?_) (fun c_10 => ?_)
        · refine lv_iconst (v := 0) hx hb dX11_canBeDialect_101 (by decide) ?_
          exact cr_iret hx hb hr hlk rfl 0 rfl (by exact Or.inr ((⟨rfl, (show ¬ dOk 2 zb from (by first | exact dOk_4n (by omega) | (unfold dOk; simp_all; done) | (unfold dOk; simp_all; decide)))⟩))) dX11_canBeDialect_102
        · refine lv_iconst (v := 1) hx hb dX11_canBeDialect_97 (by decide) ?_
          refine lv_goto (tgt := 102) hx hb dX11_canBeDialect_98 (by decide) ?_
          exact cr_iret hx hb hr hlk rfl 1 rfl (by exact Or.inl (⟨rfl, (show dOk 2 zb from (by first | exact Or.inr (Or.inr (Or.inr (Or.inr (Or.inl ⟨rfl, by omega, by omega⟩)))) | (unfold dOk; simp_all; done)))⟩)) dX11_canBeDialect_102
    · refine lv_tableIn (tgt := 103) hx hb dX11_canBeDialect_1 (by decide) (by decide) rfl (by decide) ?_
      refine lv_iload_n hx hb dX11_canBeDialect_103 rfl (lv_at hl 1 rfl) ?_
      refine lv_if_eq (tgt := 112) hx hb dX11_canBeDialect_104 (by decide) (fun c_11 => ?_) (fun c_11 => ?_)
      · refine lv_iconst (v := 1) hx hb dX11_canBeDialect_112 (by decide) ?_
        refine lv_goto (tgt := 117) hx hb dX11_canBeDialect_113 (by decide) ?_
        exact cr_iret hx hb hr hlk rfl 1 rfl (by exact Or.inl (⟨rfl, (show dOk 3 zb from (by first | exact Or.inr (Or.inr (Or.inr (Or.inr (Or.inl ⟨rfl, by omega, by omega⟩)))) | (unfold dOk; simp_all; done)))⟩)) dX11_canBeDialect_117
      · refine lv_iload_n hx hb dX11_canBeDialect_107 rfl (lv_at hl 1 rfl) ?_
        refine lv_iconst (v := 1) hx hb dX11_canBeDialect_108 (by decide) ?_
        refine lv_icmp_ne (tgt := 116) hx hb dX11_canBeDialect_109 (by decide) (fun c_12 => ?_) (fun c_12 => ?_)
        · refine lv_iconst (v := 0) hx hb dX11_canBeDialect_116 (by decide) ?_
          exact cr_iret hx hb hr hlk rfl 0 rfl (by exact Or.inr ((⟨rfl, (show ¬ dOk 3 zb from (by first | exact dOk_4n (by omega) | (unfold dOk; simp_all; done) | (unfold dOk; simp_all; decide)))⟩))) dX11_canBeDialect_117
        · refine lv_iconst (v := 1) hx hb dX11_canBeDialect_112 (by decide) ?_
          refine lv_goto (tgt := 117) hx hb dX11_canBeDialect_113 (by decide) ?_
          exact cr_iret hx hb hr hlk rfl 1 rfl (by exact Or.inl (⟨rfl, (show dOk 3 zb from (by first | exact Or.inr (Or.inr (Or.inr (Or.inr (Or.inl ⟨rfl, by omega, by omega⟩)))) | (unfold dOk; simp_all; done)))⟩)) dX11_canBeDialect_117
    · refine lv_tableIn (tgt := 118) hx hb dX11_canBeDialect_1 (by decide) (by decide) rfl (by decide) ?_
      refine lv_iload_n hx hb dX11_canBeDialect_118 rfl (lv_at hl 1 rfl) ?_
      refine lv_if_lt (tgt := 131) hx hb dX11_canBeDialect_119 (by decide) (fun c_13 => ?_) (fun c_13 => ?_)
      · have nc_13 := cz_lt (a := zb.toInt) (b := (0 : Int)) rfl (by decide) c_13
        refine lv_iconst (v := 0) hx hb dX11_canBeDialect_131 (by decide) ?_
        exact cr_iret hx hb hr hlk rfl 0 rfl (by exact Or.inr ((⟨rfl, (show ¬ dOk 4 zb from (by first | exact dOk_4n (by omega) | (unfold dOk; simp_all; done) | (unfold dOk; simp_all; decide)))⟩))) dX11_canBeDialect_132
      · have nc_13 := cz_nlt (a := zb.toInt) (b := (0 : Int)) rfl (by decide) c_13
        refine lv_iload_n hx hb dX11_canBeDialect_122 rfl (lv_at hl 1 rfl) ?_
        refine lv_iconst (v := 3) hx hb dX11_canBeDialect_123 (by decide) ?_
        refine lv_icmp_gt (tgt := 131) hx hb dX11_canBeDialect_124 (by decide) (fun c_14 => ?_) (fun c_14 => ?_)
        · have nc_14 := cz_lt (a := (3 : Int)) (b := zb.toInt) (by decide) rfl c_14
          refine lv_iconst (v := 0) hx hb dX11_canBeDialect_131 (by decide) ?_
          exact cr_iret hx hb hr hlk rfl 0 rfl (by exact Or.inr ((⟨rfl, (show ¬ dOk 4 zb from (by first | exact dOk_4n (by omega) | (unfold dOk; simp_all; done) | (unfold dOk; simp_all; decide)))⟩))) dX11_canBeDialect_132
        · have nc_14 := cz_nlt (a := (3 : Int)) (b := zb.toInt) (by decide) rfl c_14
          refine lv_iconst (v := 1) hx hb dX11_canBeDialect_127 (by decide) ?_
          refine lv_goto (tgt := 132) hx hb dX11_canBeDialect_128 (by decide) ?_
          exact cr_iret hx hb hr hlk rfl 1 rfl (by exact Or.inl (⟨rfl, (show dOk 4 zb from (by first | exact Or.inr (Or.inr (Or.inr (Or.inr (Or.inl ⟨rfl, by omega, by omega⟩)))) | (unfold dOk; simp_all; done)))⟩)) dX11_canBeDialect_132
    · refine lv_tableIn (tgt := 133) hx hb dX11_canBeDialect_1 (by decide) (by decide) rfl (by decide) ?_
      refine lv_iload_n hx hb dX11_canBeDialect_133 rfl (lv_at hl 1 rfl) ?_
      refine lv_if_eq (tgt := 155) hx hb dX11_canBeDialect_134 (by decide) (fun c_15 => ?_) (fun c_15 => ?_)
      · refine lv_iconst (v := 1) hx hb dX11_canBeDialect_155 (by decide) ?_
        refine lv_goto (tgt := 160) hx hb dX11_canBeDialect_156 (by decide) ?_
        exact cr_iret hx hb hr hlk rfl 1 rfl (by exact Or.inl (⟨rfl, (show dOk 5 zb from (by first | exact Or.inr (Or.inr (Or.inr (Or.inr (Or.inl ⟨rfl, by omega, by omega⟩)))) | (unfold dOk; simp_all; done)))⟩)) dX11_canBeDialect_160
      · refine lv_iload_n hx hb dX11_canBeDialect_137 rfl (lv_at hl 1 rfl) ?_
        refine lv_bipush (v := 35) hx hb dX11_canBeDialect_138 (by decide) ?_
        refine lv_icmp_eq (tgt := 155) hx hb dX11_canBeDialect_140 (by decide) (fun c_16 => ?_) (fun c_16 => ?_)
        · refine lv_iconst (v := 1) hx hb dX11_canBeDialect_155 (by decide) ?_
          refine lv_goto (tgt := 160) hx hb dX11_canBeDialect_156 (by decide) ?_
          exact cr_iret hx hb hr hlk rfl 1 rfl (by exact Or.inl (⟨rfl, (show dOk 5 zb from (by first | exact Or.inr (Or.inr (Or.inr (Or.inr (Or.inl ⟨rfl, by omega, by omega⟩)))) | (unfold dOk; simp_all; done)))⟩)) dX11_canBeDialect_160
        · refine lv_iload_n hx hb dX11_canBeDialect_143 rfl (lv_at hl 1 rfl) ?_
          refine lv_bipush (v := 37) hx hb dX11_canBeDialect_144 (by decide) ?_
          refine lv_icmp_eq (tgt := 155) hx hb dX11_canBeDialect_146 (by decide) (fun c_17 => ?_) (fun c_17 => ?_)
          · refine lv_iconst (v := 1) hx hb dX11_canBeDialect_155 (by decide) ?_
            refine lv_goto (tgt := 160) hx hb dX11_canBeDialect_156 (by decide) ?_
            exact cr_iret hx hb hr hlk rfl 1 rfl (by exact Or.inl (⟨rfl, (show dOk 5 zb from (by first | exact Or.inr (Or.inr (Or.inr (Or.inr (Or.inl ⟨rfl, by omega, by omega⟩)))) | (unfold dOk; simp_all; done)))⟩)) dX11_canBeDialect_160
          · refine lv_iload_n hx hb dX11_canBeDialect_149 rfl (lv_at hl 1 rfl) ?_
            refine lv_bipush (v := 42) hx hb dX11_canBeDialect_150 (by decide) ?_
            refine lv_icmp_ne (tgt := 159) hx hb dX11_canBeDialect_152 (by decide) (fun c_18 => ?_) (fun c_18 => ?_)
            · refine lv_iconst (v := 0) hx hb dX11_canBeDialect_159 (by decide) ?_
              exact cr_iret hx hb hr hlk rfl 0 rfl (by exact Or.inr ((⟨rfl, (show ¬ dOk 5 zb from (by first | exact dOk_4n (by omega) | (unfold dOk; simp_all; done) | (unfold dOk; simp_all; decide)))⟩))) dX11_canBeDialect_160
            · refine lv_iconst (v := 1) hx hb dX11_canBeDialect_155 (by decide) ?_
              refine lv_goto (tgt := 160) hx hb dX11_canBeDialect_156 (by decide) ?_
              exact cr_iret hx hb hr hlk rfl 1 rfl (by exact Or.inl (⟨rfl, (show dOk 5 zb from (by first | exact Or.inr (Or.inr (Or.inr (Or.inr (Or.inl ⟨rfl, by omega, by omega⟩)))) | (unfold dOk; simp_all; done)))⟩)) dX11_canBeDialect_160
set_option maxHeartbeats 4000000 in
set_option maxRecDepth 100000 in
theorem c_X11_dialect (l : Launch) (D : va_G) (κ : Nat → ClassId) (κq : Nat → Nat) (xx : Nat) (tp : Nat) (ft : Nat) (rd : Nat) (wr : Nat) (st2 : Nat) (zi : Int32) (st : Nat) (d : Nat) (sh : Nat) (vw : Nat) (ta : Nat) (sa : Nat) (n : Nat) (dl : Nat → Int32) (za : Int32) (zb : Int32) : Et l yX11_dialect (wl yX11_dialect cX11_dialect 3 (some .boolean)) { frames := 1, cells := 0, slots := 0, locals := 21 } D κ κq [.ref xx, .int za, .int zb] [(xx, .inr (11, [.ref st, .ref tp, .ref ft, .ref rd, .ref wr, .ref st2, .int zi])), (st, .inr (6, [.ref d, .ref sh, .ref vw, .ref ta, .ref sa, .int (nI n)])), (d, .inl (κ 0, 6, .inl dl))] (fun u9 : Int32 × (Nat → Int32) => some (.int u9.1)) (fun u9 : Int32 × (Nat → Int32) => ((u9.1 = 1 ∧ dOk za zb) ∨ (u9.1 = 0 ∧ ¬ dOk za zb))) (fun u9 : Int32 × (Nat → Int32) => [(xx, .inr (11, [.ref st, .ref tp, .ref ft, .ref rd, .ref wr, .ref st2, .int zi])), (st, .inr (6, [.ref d, .ref sh, .ref vw, .ref ta, .ref sa, .int (nI n)])), (d, .inl (κ 0, 6, .inl u9.2))]) := by
  refine et_of (by decide +kernel) (Nat.le_of_ble_eq_true rfl) ?_
  intro p e s m args below meth c A ls hx hb hr hml hts hown hlk hin hKK hK hA hP hD hS hE hl
  have hS : va_S A s.heap s.heap [] := hS
  have hP : va_P D vwCl ([(xx, .inr (11, [.ref st, .ref tp, .ref ft, .ref rd, .ref wr, .ref st2, .int zi])), (st, .inr (6, [.ref d, .ref sh, .ref vw, .ref ta, .ref sa, .int (nI n)])), (d, .inl (κ 0, 6, .inl dl))] ++ []) s.heap := hP
  have hD : va_D A ([(xx, .inr (11, [.ref st, .ref tp, .ref ft, .ref rd, .ref wr, .ref st2, .int zi])), (st, .inr (6, [.ref d, .ref sh, .ref vw, .ref ta, .ref sa, .int (nI n)])), (d, .inl (κ 0, 6, .inl dl))] ++ []) := hD
  have hFX : FX p s m args c cX11_dialect 3 RX11 := ⟨hx, hb, hml, hown, hts⟩
  have hl : lv_has ls 3 [(0, .ref xx), (1, .int za), (2, .int zb)] := hl
  refine lv_iload_n hx hb dX11_dialect_0 rfl (lv_at hl 1 rfl) ?_
  refine lv_iload_n hx hb dX11_dialect_1 rfl (lv_at hl 2 rfl) ?_
  refine er_S (As := [.int za, .int zb]) (rest := []) hFX hKK hE hS (c_X11_canBeDialect l D κ κq za zb) 2 gS_X11_59 hdS_X11_canBeDialect rfl rfl ⟨Nat.le_of_ble_eq_true rfl, Nat.le_of_ble_eq_true rfl⟩ rfl rfl (Nat.le_of_ble_eq_true rfl) dX11_dialect_2 ⟨Nat.le_of_ble_eq_true rfl, Nat.le_of_ble_eq_true rfl⟩ hl.1 (subP0 hP [] rfl) (fun r__1 hp_2 => ?_)
  replace hp_2 : ((r__1 = 1 ∧ dOk za zb) ∨ (r__1 = 0 ∧ ¬ dOk za zb)) := hp_2
  have ha_3 := hp_2
  clear hp_2
  rcases ha_3 with ⟨rfl, a_4⟩ | ⟨rfl, a_5⟩
  · refine W.eq (g2 := F0 m 5 ls [.int 1]) rfl ?_
    refine lv_if_ne (tgt := 10) hx hb dX11_dialect_5 (by decide) (fun c_6 => ?_) (fun c_6 => absurd c_6 (by decide))
    obtain ⟨j_7, hj_7, rfl⟩ := dOk_ix a_4
    refine lv_aload_n hx hb dX11_dialect_10 rfl (lv_at hl 0 rfl) ?_
    refine va_get (D := D) (ci := 11) (v := .ref st) (C := RX11) (T := TX11) (N := 7) hx hb hts inlX11 hown hK hP 0 rfl rfl 0 (by decide) (hts _ mw_15) (fun _ h9 => h9) rfl dX11_dialect_11 ?_
    refine va_get (D := D) (ci := 6) (v := .ref d) (C := RX6) (T := TX6) (N := 6) hx hb hts inlX6 hown hK hP 1 rfl rfl 0 (by decide) (hts _ mw_27) (fun _ h9 => h9) rfl dX11_dialect_14 ?_
    refine lv_iload_n hx hb dX11_dialect_17 rfl (lv_at hl 1 rfl) ?_
    refine lv_iload_n hx hb dX11_dialect_18 rfl (lv_at hl 2 rfl) ?_
    refine va_iast hx hb hK hP hD hS 2 0 rfl rfl (i := nI j_7) (x := zb) (vp_in_nI (n := j_7) (by omega) (by omega)) dX11_dialect_19 (fun H locs hP hD hS => ?_)
    rw [nI_clamp (by omega)] at hP hD
    have hP : va_P D vwCl ([(xx, .inr (11, [.ref st, .ref tp, .ref ft, .ref rd, .ref wr, .ref st2, .int zi])), (st, .inr (6, [.ref d, .ref sh, .ref vw, .ref ta, .ref sa, .int (nI n)])), (d, .inl (κ 0, 6, .inl (upd dl j_7 zb)))] ++ []) H := hP
    have hD : va_D A ([(xx, .inr (11, [.ref st, .ref tp, .ref ft, .ref rd, .ref wr, .ref st2, .int zi])), (st, .inr (6, [.ref d, .ref sh, .ref vw, .ref ta, .ref sa, .int (nI n)])), (d, .inl (κ 0, 6, .inl (upd dl j_7 zb)))] ++ []) := hD
    generalize upd dl j_7 zb = g_8 at hP hD 
    refine lv_iconst (v := 1) hx hb dX11_dialect_20 (by decide) ?_
    exact et_iret hx hb hr hlk rfl hS (1, g_8) rfl (by exact Or.inl (⟨rfl, (show dOk (nI j_7) zb from (by first | assumption | omega | rfl | exact Or.inl (by assumption) | exact Or.inr (by assumption)))⟩)) (subP0 hP [0, 1, 2] rfl) (hD.sub [0, 1, 2] (by decide) rfl) (Nat.le_of_ble_eq_true rfl) (Nat.le_of_ble_eq_true rfl) dX11_dialect_21
  · refine W.eq (g2 := F0 m 5 ls [.int 0]) rfl ?_
    refine lv_if_ne (tgt := 10) hx hb dX11_dialect_5 (by decide) (fun c_9 => absurd c_9 (by decide)) (fun c_9 => ?_)
    refine lv_iconst (v := 0) hx hb dX11_dialect_8 (by decide) ?_
    exact et_iret hx hb hr hlk rfl hS (0, dl) rfl (by exact Or.inr ((⟨rfl, (show ¬ dOk za zb from (by first | assumption | omega | rfl | exact Or.inl (by assumption) | exact Or.inr (by assumption)))⟩))) (subP0 hP [0, 1, 2] rfl) (hD.sub [0, 1, 2] (by decide) rfl) (Nat.le_of_ble_eq_true rfl) (Nat.le_of_ble_eq_true rfl) dX11_dialect_9
set_option maxHeartbeats 4000000 in
set_option maxRecDepth 100000 in
theorem c_X11_feed (l : Launch) (D : va_G) (κ : Nat → ClassId) (κq : Nat → Nat) (xx : Nat) (st : Nat) (tp : Nat) (ft : Nat) (rd : Nat) (wr : Nat) (st2 : Nat) (zi : Int32) (tb : Nat) (L : Nat) (tf : Nat → Int32) (za : Int32) (zb : Int32) (zc : Int32) (zd : Int32) (ze : Int32) (hL : L ≤ 800) : Et l yX11_feed (wl yX11_feed cX11_feed 6 (some .int)) { frames := 1, cells := 0, slots := 0, locals := 22 } D κ κq [.ref xx, .int za, .int zb, .int zc, .int zd, .int ze] [(xx, .inr (11, [.ref st, .ref tp, .ref ft, .ref rd, .ref wr, .ref st2, .int zi])), (tp, .inr (8, [.ref tb, .int (nI L)])), (tb, .inl (κ 0, 800, .inl tf))] (fun u9 : Int32 × Nat × (Nat → Int32) => some (.int u9.1)) (fun u9 : Int32 × Nat × (Nat → Int32) => ((L ≤ 780 ∧ u9.1 = nI (L + 20) ∧ u9.2.1 = L + 20) ∨ (780 < L ∧ u9.1 = -1 ∧ u9.2.1 = L))) (fun u9 : Int32 × Nat × (Nat → Int32) => [(xx, .inr (11, [.ref st, .ref tp, .ref ft, .ref rd, .ref wr, .ref st2, .int zi])), (tp, .inr (8, [.ref tb, .int (nI u9.2.1)])), (tb, .inl (κ 0, 800, .inl u9.2.2))]) := by
  refine et_of (by decide +kernel) (Nat.le_of_ble_eq_true rfl) ?_
  intro p e s m args below meth c A ls hx hb hr hml hts hown hlk hin hKK hK hA hP hD hS hE hl
  have hS : va_S A s.heap s.heap [] := hS
  have hP : va_P D vwCl ([(xx, .inr (11, [.ref st, .ref tp, .ref ft, .ref rd, .ref wr, .ref st2, .int zi])), (tp, .inr (8, [.ref tb, .int (nI L)])), (tb, .inl (κ 0, 800, .inl tf))] ++ []) s.heap := hP
  have hD : va_D A ([(xx, .inr (11, [.ref st, .ref tp, .ref ft, .ref rd, .ref wr, .ref st2, .int zi])), (tp, .inr (8, [.ref tb, .int (nI L)])), (tb, .inl (κ 0, 800, .inl tf))] ++ []) := hD
  have hFX : FX p s m args c cX11_feed 6 RX11 := ⟨hx, hb, hml, hown, hts⟩
  have hl : lv_has ls 6 [(0, .ref xx), (1, .int za), (2, .int zb), (3, .int zc), (4, .int zd), (5, .int ze)] := hl
  refine lv_aload_n hx hb dX11_feed_0 rfl (lv_at hl 0 rfl) ?_
  refine va_get (D := D) (ci := 11) (v := .ref tp) (C := RX11) (T := TX11) (N := 7) hx hb hts inlX11 hown hK hP 0 rfl rfl 1 (by decide) (hts _ mw_19) (fun _ h9 => h9) rfl dX11_feed_1 ?_
  refine lv_iconst (v := 5) hx hb dX11_feed_4 (by decide) ?_
  refine er_V (As := [.int 5]) (rest := []) hFX hKK hE hS (c_X8_hasRoom l D κ κq tp tb L (by omega)) 1 gV_X11_63 hdV_X8_hasRoom rfl rfl ⟨Nat.le_of_ble_eq_true rfl, Nat.le_of_ble_eq_true rfl⟩ rfl rfl (Nat.le_of_ble_eq_true rfl) dX11_feed_5 ⟨Nat.le_of_ble_eq_true rfl, Nat.le_of_ble_eq_true rfl⟩ hl.1 hP 1 8 rfl rfl rfl (subP0 hP [1] rfl) (fun r__1 hp_2 => ?_)
  replace hp_2 : ((r__1 = 1 ∧ L ≤ 780) ∨ (r__1 = 0 ∧ 781 ≤ L)) := hp_2
  have ha_3 := hp_2
  clear hp_2
  rcases ha_3 with ⟨rfl, a_4⟩ | ⟨rfl, a_5⟩
  · refine W.eq (g2 := F0 m 8 ls [.int 1]) rfl ?_
    refine lv_if_ne (tgt := 13) hx hb dX11_feed_8 (by decide) (fun c_6 => ?_) (fun c_6 => absurd c_6 (by decide))
    refine lv_aload_n hx hb dX11_feed_13 rfl (lv_at hl 0 rfl) ?_
    refine va_get (D := D) (ci := 11) (v := .ref tp) (C := RX11) (T := TX11) (N := 7) hx hb hts inlX11 hown hK hP 0 rfl rfl 1 (by decide) (hts _ mw_19) (fun _ h9 => h9) rfl dX11_feed_14 ?_
    refine lv_iload_n hx hb dX11_feed_17 rfl (lv_at hl 1 rfl) ?_
    refine et_VN (CR := [(xx, .inr (11, [.ref st, .ref tp, .ref ft, .ref rd, .ref wr, .ref st2, .int zi]))]) (As := [.int za]) (rest := []) hFX hKK hE hP hD hS hA (c_X8_add l D κ κq tp tb L tf za (by omega)) 1 gV_X11_67 hdV_X8_add ⟨Nat.le_of_ble_eq_true rfl, Nat.le_of_ble_eq_true rfl⟩ rfl rfl (Nat.le_of_ble_eq_true rfl) dX11_feed_18 ⟨Nat.le_of_ble_eq_true rfl, Nat.le_of_ble_eq_true rfl⟩ hl.1 [1, 2] [0] rfl rfl (by decide) (by decide) (by decide) hP 1 8 rfl rfl rfl (fun g__7 H locs hp_8 hP hD hS => ?_)
    refine W.widen (k := 0) (n := 0) (Nat.le_refl _) (Nat.le_refl _) ?_
    replace hP : va_P D vwCl ([(xx, .inr (11, [.ref st, .ref tp, .ref ft, .ref rd, .ref wr, .ref st2, .int zi])), (tp, .inr (8, [.ref tb, .int (nI (L + 4))])), (tb, .inl (κ 0, 800, .inl g__7))] ++ []) H := subP (C := [(xx, .inr (11, [.ref st, .ref tp, .ref ft, .ref rd, .ref wr, .ref st2, .int zi])), (tp, .inr (8, [.ref tb, .int (nI (L + 4))])), (tb, .inl (κ 0, 800, .inl g__7))]) hP [0, 1, 2] rfl
    replace hD : va_D A ([(xx, .inr (11, [.ref st, .ref tp, .ref ft, .ref rd, .ref wr, .ref st2, .int zi])), (tp, .inr (8, [.ref tb, .int (nI (L + 4))])), (tb, .inl (κ 0, 800, .inl g__7))] ++ []) := subD (C := [(xx, .inr (11, [.ref st, .ref tp, .ref ft, .ref rd, .ref wr, .ref st2, .int zi])), (tp, .inr (8, [.ref tb, .int (nI (L + 4))])), (tb, .inl (κ 0, 800, .inl g__7))]) hD [0, 1, 2] (by decide) rfl
    refine W.eq (g2 := F0 m 21 ls []) rfl ?_
    refine lv_aload_n hx hb dX11_feed_21 rfl (lv_at hl 0 rfl) ?_
    refine va_get (D := D) (ci := 11) (v := .ref tp) (C := RX11) (T := TX11) (N := 7) hx hb hts inlX11 hown hK hP 0 rfl rfl 1 (by decide) (hts _ mw_19) (fun _ h9 => h9) rfl dX11_feed_22 ?_
    refine lv_iload_n hx hb dX11_feed_25 rfl (lv_at hl 2 rfl) ?_
    refine et_VN (CR := [(xx, .inr (11, [.ref st, .ref tp, .ref ft, .ref rd, .ref wr, .ref st2, .int zi]))]) (As := [.int zb]) (rest := []) hFX hKK hE hP hD hS hA (c_X8_add l D κ κq tp tb (L + 4) g__7 zb (by omega)) 1 gV_X11_67 hdV_X8_add ⟨Nat.le_of_ble_eq_true rfl, Nat.le_of_ble_eq_true rfl⟩ rfl rfl (Nat.le_of_ble_eq_true rfl) dX11_feed_26 ⟨Nat.le_of_ble_eq_true rfl, Nat.le_of_ble_eq_true rfl⟩ hl.1 [1, 2] [0] rfl rfl (by decide) (by decide) (by decide) hP 1 8 rfl rfl rfl (fun g__9 H locs hp_10 hP hD hS => ?_)
    refine W.widen (k := 0) (n := 0) (Nat.le_refl _) (Nat.le_refl _) ?_
    replace hP : va_P D vwCl ([(xx, .inr (11, [.ref st, .ref tp, .ref ft, .ref rd, .ref wr, .ref st2, .int zi])), (tp, .inr (8, [.ref tb, .int (nI ((L + 4) + 4))])), (tb, .inl (κ 0, 800, .inl g__9))] ++ []) H := subP (C := [(xx, .inr (11, [.ref st, .ref tp, .ref ft, .ref rd, .ref wr, .ref st2, .int zi])), (tp, .inr (8, [.ref tb, .int (nI ((L + 4) + 4))])), (tb, .inl (κ 0, 800, .inl g__9))]) hP [0, 1, 2] rfl
    replace hD : va_D A ([(xx, .inr (11, [.ref st, .ref tp, .ref ft, .ref rd, .ref wr, .ref st2, .int zi])), (tp, .inr (8, [.ref tb, .int (nI ((L + 4) + 4))])), (tb, .inl (κ 0, 800, .inl g__9))] ++ []) := subD (C := [(xx, .inr (11, [.ref st, .ref tp, .ref ft, .ref rd, .ref wr, .ref st2, .int zi])), (tp, .inr (8, [.ref tb, .int (nI ((L + 4) + 4))])), (tb, .inl (κ 0, 800, .inl g__9))]) hD [0, 1, 2] (by decide) rfl
    refine W.eq (g2 := F0 m 29 ls []) rfl ?_
    refine lv_aload_n hx hb dX11_feed_29 rfl (lv_at hl 0 rfl) ?_
    refine va_get (D := D) (ci := 11) (v := .ref tp) (C := RX11) (T := TX11) (N := 7) hx hb hts inlX11 hown hK hP 0 rfl rfl 1 (by decide) (hts _ mw_19) (fun _ h9 => h9) rfl dX11_feed_30 ?_
    refine lv_iload_n hx hb dX11_feed_33 rfl (lv_at hl 3 rfl) ?_
    refine et_VN (CR := [(xx, .inr (11, [.ref st, .ref tp, .ref ft, .ref rd, .ref wr, .ref st2, .int zi]))]) (As := [.int zc]) (rest := []) hFX hKK hE hP hD hS hA (c_X8_add l D κ κq tp tb ((L + 4) + 4) g__9 zc (by omega)) 1 gV_X11_67 hdV_X8_add ⟨Nat.le_of_ble_eq_true rfl, Nat.le_of_ble_eq_true rfl⟩ rfl rfl (Nat.le_of_ble_eq_true rfl) dX11_feed_34 ⟨Nat.le_of_ble_eq_true rfl, Nat.le_of_ble_eq_true rfl⟩ hl.1 [1, 2] [0] rfl rfl (by decide) (by decide) (by decide) hP 1 8 rfl rfl rfl (fun g__11 H locs hp_12 hP hD hS => ?_)
    refine W.widen (k := 0) (n := 0) (Nat.le_refl _) (Nat.le_refl _) ?_
    replace hP : va_P D vwCl ([(xx, .inr (11, [.ref st, .ref tp, .ref ft, .ref rd, .ref wr, .ref st2, .int zi])), (tp, .inr (8, [.ref tb, .int (nI (((L + 4) + 4) + 4))])), (tb, .inl (κ 0, 800, .inl g__11))] ++ []) H := subP (C := [(xx, .inr (11, [.ref st, .ref tp, .ref ft, .ref rd, .ref wr, .ref st2, .int zi])), (tp, .inr (8, [.ref tb, .int (nI (((L + 4) + 4) + 4))])), (tb, .inl (κ 0, 800, .inl g__11))]) hP [0, 1, 2] rfl
    replace hD : va_D A ([(xx, .inr (11, [.ref st, .ref tp, .ref ft, .ref rd, .ref wr, .ref st2, .int zi])), (tp, .inr (8, [.ref tb, .int (nI (((L + 4) + 4) + 4))])), (tb, .inl (κ 0, 800, .inl g__11))] ++ []) := subD (C := [(xx, .inr (11, [.ref st, .ref tp, .ref ft, .ref rd, .ref wr, .ref st2, .int zi])), (tp, .inr (8, [.ref tb, .int (nI (((L + 4) + 4) + 4))])), (tb, .inl (κ 0, 800, .inl g__11))]) hD [0, 1, 2] (by decide) rfl
    refine W.eq (g2 := F0 m 37 ls []) rfl ?_
    refine lv_aload_n hx hb dX11_feed_37 rfl (lv_at hl 0 rfl) ?_
    refine va_get (D := D) (ci := 11) (v := .ref tp) (C := RX11) (T := TX11) (N := 7) hx hb hts inlX11 hown hK hP 0 rfl rfl 1 (by decide) (hts _ mw_19) (fun _ h9 => h9) rfl dX11_feed_38 ?_
    refine lv_iload hx hb dX11_feed_41 (lv_at hl 4 rfl) ?_
    refine et_VN (CR := [(xx, .inr (11, [.ref st, .ref tp, .ref ft, .ref rd, .ref wr, .ref st2, .int zi]))]) (As := [.int zd]) (rest := []) hFX hKK hE hP hD hS hA (c_X8_add l D κ κq tp tb (((L + 4) + 4) + 4) g__11 zd (by omega)) 1 gV_X11_67 hdV_X8_add ⟨Nat.le_of_ble_eq_true rfl, Nat.le_of_ble_eq_true rfl⟩ rfl rfl (Nat.le_of_ble_eq_true rfl) dX11_feed_43 ⟨Nat.le_of_ble_eq_true rfl, Nat.le_of_ble_eq_true rfl⟩ hl.1 [1, 2] [0] rfl rfl (by decide) (by decide) (by decide) hP 1 8 rfl rfl rfl (fun g__13 H locs hp_14 hP hD hS => ?_)
    refine W.widen (k := 0) (n := 0) (Nat.le_refl _) (Nat.le_refl _) ?_
    replace hP : va_P D vwCl ([(xx, .inr (11, [.ref st, .ref tp, .ref ft, .ref rd, .ref wr, .ref st2, .int zi])), (tp, .inr (8, [.ref tb, .int (nI ((((L + 4) + 4) + 4) + 4))])), (tb, .inl (κ 0, 800, .inl g__13))] ++ []) H := subP (C := [(xx, .inr (11, [.ref st, .ref tp, .ref ft, .ref rd, .ref wr, .ref st2, .int zi])), (tp, .inr (8, [.ref tb, .int (nI ((((L + 4) + 4) + 4) + 4))])), (tb, .inl (κ 0, 800, .inl g__13))]) hP [0, 1, 2] rfl
    replace hD : va_D A ([(xx, .inr (11, [.ref st, .ref tp, .ref ft, .ref rd, .ref wr, .ref st2, .int zi])), (tp, .inr (8, [.ref tb, .int (nI ((((L + 4) + 4) + 4) + 4))])), (tb, .inl (κ 0, 800, .inl g__13))] ++ []) := subD (C := [(xx, .inr (11, [.ref st, .ref tp, .ref ft, .ref rd, .ref wr, .ref st2, .int zi])), (tp, .inr (8, [.ref tb, .int (nI ((((L + 4) + 4) + 4) + 4))])), (tb, .inl (κ 0, 800, .inl g__13))]) hD [0, 1, 2] (by decide) rfl
    refine W.eq (g2 := F0 m 46 ls []) rfl ?_
    refine lv_aload_n hx hb dX11_feed_46 rfl (lv_at hl 0 rfl) ?_
    refine va_get (D := D) (ci := 11) (v := .ref tp) (C := RX11) (T := TX11) (N := 7) hx hb hts inlX11 hown hK hP 0 rfl rfl 1 (by decide) (hts _ mw_19) (fun _ h9 => h9) rfl dX11_feed_47 ?_
    refine lv_iload hx hb dX11_feed_50 (lv_at hl 5 rfl) ?_
    refine et_VN (CR := [(xx, .inr (11, [.ref st, .ref tp, .ref ft, .ref rd, .ref wr, .ref st2, .int zi]))]) (As := [.int ze]) (rest := []) hFX hKK hE hP hD hS hA (c_X8_add l D κ κq tp tb ((((L + 4) + 4) + 4) + 4) g__13 ze (by omega)) 1 gV_X11_67 hdV_X8_add ⟨Nat.le_of_ble_eq_true rfl, Nat.le_of_ble_eq_true rfl⟩ rfl rfl (Nat.le_of_ble_eq_true rfl) dX11_feed_52 ⟨Nat.le_of_ble_eq_true rfl, Nat.le_of_ble_eq_true rfl⟩ hl.1 [1, 2] [0] rfl rfl (by decide) (by decide) (by decide) hP 1 8 rfl rfl rfl (fun g__15 H locs hp_16 hP hD hS => ?_)
    refine W.widen (k := 0) (n := 0) (Nat.le_refl _) (Nat.le_refl _) ?_
    replace hP : va_P D vwCl ([(xx, .inr (11, [.ref st, .ref tp, .ref ft, .ref rd, .ref wr, .ref st2, .int zi])), (tp, .inr (8, [.ref tb, .int (nI (((((L + 4) + 4) + 4) + 4) + 4))])), (tb, .inl (κ 0, 800, .inl g__15))] ++ []) H := subP (C := [(xx, .inr (11, [.ref st, .ref tp, .ref ft, .ref rd, .ref wr, .ref st2, .int zi])), (tp, .inr (8, [.ref tb, .int (nI (((((L + 4) + 4) + 4) + 4) + 4))])), (tb, .inl (κ 0, 800, .inl g__15))]) hP [0, 1, 2] rfl
    replace hD : va_D A ([(xx, .inr (11, [.ref st, .ref tp, .ref ft, .ref rd, .ref wr, .ref st2, .int zi])), (tp, .inr (8, [.ref tb, .int (nI (((((L + 4) + 4) + 4) + 4) + 4))])), (tb, .inl (κ 0, 800, .inl g__15))] ++ []) := subD (C := [(xx, .inr (11, [.ref st, .ref tp, .ref ft, .ref rd, .ref wr, .ref st2, .int zi])), (tp, .inr (8, [.ref tb, .int (nI (((((L + 4) + 4) + 4) + 4) + 4))])), (tb, .inl (κ 0, 800, .inl g__15))]) hD [0, 1, 2] (by decide) rfl
    refine W.eq (g2 := F0 m 55 ls []) rfl ?_
    refine lv_aload_n hx hb dX11_feed_55 rfl (lv_at hl 0 rfl) ?_
    refine va_get (D := D) (ci := 11) (v := .ref tp) (C := RX11) (T := TX11) (N := 7) hx hb hts inlX11 hown hK hP 0 rfl rfl 1 (by decide) (hts _ mw_19) (fun _ h9 => h9) rfl dX11_feed_56 ?_
    refine va_get (D := D) (ci := 8) (v := .int (nI (((((L + 4) + 4) + 4) + 4) + 4))) (C := RX8) (T := TX8) (N := 2) hx hb hts inlX8 hown hK hP 1 rfl rfl 1 (by decide) (hts _ mw_223) (fun _ h9 => h9) rfl dX11_feed_59 ?_
    exact et_iret hx hb hr hlk rfl hS (nI (((((L + 4) + 4) + 4) + 4) + 4), ((((L + 4) + 4) + 4) + 4) + 4, g__15) rfl (show (L ≤ 780 ∧ (nI (((((L + 4) + 4) + 4) + 4) + 4)) = nI (L + 20) ∧ (((((L + 4) + 4) + 4) + 4) + 4) = L + 20) ∨ (780 < L ∧ (nI (((((L + 4) + 4) + 4) + 4) + 4)) = -1 ∧ (((((L + 4) + 4) + 4) + 4) + 4) = L) from (Or.inl ⟨by omega, rfl, rfl⟩)) (subP0 hP [0, 1, 2] rfl) (hD.sub [0, 1, 2] (by decide) rfl) (Nat.le_of_ble_eq_true rfl) (Nat.le_of_ble_eq_true rfl) dX11_feed_62
  · refine W.eq (g2 := F0 m 8 ls [.int 0]) rfl ?_
    refine lv_if_ne (tgt := 13) hx hb dX11_feed_8 (by decide) (fun c_17 => absurd c_17 (by decide)) (fun c_17 => ?_)
    refine lv_iconst (v := (-1)) hx hb dX11_feed_11 (by decide) ?_
    exact et_iret hx hb hr hlk rfl hS ((-1), L, tf) rfl (show (L ≤ 780 ∧ (-1 : Int32) = nI (L + 20) ∧ L = L + 20) ∨ (780 < L ∧ (-1 : Int32) = -1 ∧ L = L) from (Or.inr ⟨by omega, rfl, rfl⟩)) (subP0 hP [0, 1, 2] rfl) (hD.sub [0, 1, 2] (by decide) rfl) (Nat.le_of_ble_eq_true rfl) (Nat.le_of_ble_eq_true rfl) dX11_feed_12
set_option maxHeartbeats 4000000 in
set_option maxRecDepth 100000 in
theorem c_X11_end (l : Launch) (D : va_G) (κ : Nat → ClassId) (κq : Nat → Nat) (xx : Nat) (st : Nat) (tp : Nat) (ft : Nat) (rd : Nat) (wr : Nat) (st2 : Nat) (zi : Int32) (tb : Nat) (L : Nat) (za : Int32) (hL : L ≤ 800) : Et l yX11_end (wl yX11_end cX11_end 2 (some .boolean)) { frames := 0, cells := 0, slots := 0, locals := 0 } D κ κq [.ref xx, .int za] [(xx, .inr (11, [.ref st, .ref tp, .ref ft, .ref rd, .ref wr, .ref st2, .int zi])), (tp, .inr (8, [.ref tb, .int (nI L)]))] (fun u9 : Int32 × Nat => some (.int u9.1)) (fun u9 : Int32 × Nat => ((u9.1 = 1 ∧ 0 ≤ za.toInt ∧ za.toInt ≤ (L : Int) ∧ (u9.2 : Int) = za.toInt) ∨ (u9.1 = 0 ∧ (za.toInt < 0 ∨ (L : Int) < za.toInt) ∧ u9.2 = L))) (fun u9 : Int32 × Nat => [(xx, .inr (11, [.ref st, .ref tp, .ref ft, .ref rd, .ref wr, .ref st2, .int zi])), (tp, .inr (8, [.ref tb, .int (nI u9.2)]))]) := by
  refine et_of (by decide +kernel) (Nat.le_of_ble_eq_true rfl) ?_
  intro p e s m args below meth c A ls hx hb hr hml hts hown hlk hin hKK hK hA hP hD hS hE hl
  have hS : va_S A s.heap s.heap [] := hS
  have hP : va_P D vwCl ([(xx, .inr (11, [.ref st, .ref tp, .ref ft, .ref rd, .ref wr, .ref st2, .int zi])), (tp, .inr (8, [.ref tb, .int (nI L)]))] ++ []) s.heap := hP
  have hD : va_D A ([(xx, .inr (11, [.ref st, .ref tp, .ref ft, .ref rd, .ref wr, .ref st2, .int zi])), (tp, .inr (8, [.ref tb, .int (nI L)]))] ++ []) := hD
  have hFX : FX p s m args c cX11_end 2 RX11 := ⟨hx, hb, hml, hown, hts⟩
  have hl : lv_has ls 2 [(0, .ref xx), (1, .int za)] := hl
  refine lv_iload_n hx hb dX11_end_0 rfl (lv_at hl 1 rfl) ?_
  refine lv_if_lt (tgt := 15) hx hb dX11_end_1 (by decide) (fun c_1 => ?_) (fun c_1 => ?_)
  · have nc_1 := cz_lt (a := za.toInt) (b := (0 : Int)) rfl (by decide) c_1
    refine lv_iconst (v := 0) hx hb dX11_end_15 (by decide) ?_
    exact et_iret hx hb hr hlk rfl hS (0, L) rfl (by exact Or.inr ((⟨rfl, (show za.toInt < 0 ∨ (L : Int) < za.toInt from (by first | assumption | omega | rfl | exact Or.inl (by assumption) | exact Or.inr (by assumption))), (show L = L from (by first | assumption | omega | rfl | exact Or.inl (by assumption) | exact Or.inr (by assumption)))⟩))) (subP0 hP [0, 1] rfl) (hD.sub [0, 1] (by decide) rfl) (Nat.le_of_ble_eq_true rfl) (Nat.le_of_ble_eq_true rfl) dX11_end_16
  · have nc_1 := cz_nlt (a := za.toInt) (b := (0 : Int)) rfl (by decide) c_1
    refine lv_iload_n hx hb dX11_end_4 rfl (lv_at hl 1 rfl) ?_
    refine lv_aload_n hx hb dX11_end_5 rfl (lv_at hl 0 rfl) ?_
    refine va_get (D := D) (ci := 11) (v := .ref tp) (C := RX11) (T := TX11) (N := 7) hx hb hts inlX11 hown hK hP 0 rfl rfl 1 (by decide) (hts _ mw_19) (fun _ h9 => h9) rfl dX11_end_6 ?_
    refine va_get (D := D) (ci := 8) (v := .int (nI L)) (C := RX8) (T := TX8) (N := 2) hx hb hts inlX8 hown hK hP 1 rfl rfl 1 (by decide) (hts _ mw_223) (fun _ h9 => h9) rfl dX11_end_9 ?_
    refine lv_icmp_le (tgt := 17) hx hb dX11_end_12 (by decide) (fun c_2 => ?_) (fun c_2 => ?_)
    · have nc_2 := cz_le (a := za.toInt) (b := ((L : Nat) : Int)) rfl (nI_toInt (by omega)) c_2
      obtain ⟨j_3, hj_3, rfl⟩ := i_nat (x := za) (B := 800) (by omega) (by omega)
      have hz_j_3 : (nI j_3).toInt = ((j_3 : Nat) : Int) := nI_toInt (by omega)
      refine lv_aload_n hx hb dX11_end_17 rfl (lv_at hl 0 rfl) ?_
      refine va_get (D := D) (ci := 11) (v := .ref tp) (C := RX11) (T := TX11) (N := 7) hx hb hts inlX11 hown hK hP 0 rfl rfl 1 (by decide) (hts _ mw_19) (fun _ h9 => h9) rfl dX11_end_18 ?_
      refine lv_iload_n hx hb dX11_end_21 rfl (lv_at hl 1 rfl) ?_
      refine va_put (D := D) (ci := 8) (v := .int (nI j_3)) (ty := tyX8 1) (C := RX8) (T := TX8) (N := 2) hx hb hts inlX8 tyX8 tyX8_ok nmX8 hown hK hP hD hS 1 rfl rfl 1 (by decide) (hts _ mw_223) (fun _ h9 => h9) rfl (tyX8_ok 1 (by decide)) rfl rfl (Nat.le_of_ble_eq_true rfl) dX11_end_22 (fun H locs hP hD hS => ?_)
      have hP : va_P D vwCl ([(xx, .inr (11, [.ref st, .ref tp, .ref ft, .ref rd, .ref wr, .ref st2, .int zi])), (tp, .inr (8, [.ref tb, .int (nI j_3)]))] ++ []) H := hP
      have hD : va_D A ([(xx, .inr (11, [.ref st, .ref tp, .ref ft, .ref rd, .ref wr, .ref st2, .int zi])), (tp, .inr (8, [.ref tb, .int (nI j_3)]))] ++ []) := hD
      refine lv_iconst (v := 1) hx hb dX11_end_25 (by decide) ?_
      exact et_iret hx hb hr hlk rfl hS (1, j_3) rfl (by exact Or.inl (⟨rfl, (show 0 ≤ (nI j_3).toInt from (by first | assumption | omega | rfl | exact Or.inl (by assumption) | exact Or.inr (by assumption))), (show (nI j_3).toInt ≤ (L : Int) from (by first | assumption | omega | rfl | exact Or.inl (by assumption) | exact Or.inr (by assumption))), (show (j_3 : Int) = (nI j_3).toInt from (by first | assumption | omega | rfl | exact Or.inl (by assumption) | exact Or.inr (by assumption)))⟩)) (subP0 hP [0, 1] rfl) (hD.sub [0, 1] (by decide) rfl) (Nat.le_of_ble_eq_true rfl) (Nat.le_of_ble_eq_true rfl) dX11_end_26
    · have nc_2 := cz_nle (a := za.toInt) (b := ((L : Nat) : Int)) rfl (nI_toInt (by omega)) c_2
      refine lv_iconst (v := 0) hx hb dX11_end_15 (by decide) ?_
      exact et_iret hx hb hr hlk rfl hS (0, L) rfl (by exact Or.inr ((⟨rfl, (show za.toInt < 0 ∨ (L : Int) < za.toInt from (by first | assumption | omega | rfl | exact Or.inl (by assumption) | exact Or.inr (by assumption))), (show L = L from (by first | assumption | omega | rfl | exact Or.inl (by assumption) | exact Or.inr (by assumption)))⟩))) (subP0 hP [0, 1] rfl) (hD.sub [0, 1] (by decide) rfl) (Nat.le_of_ble_eq_true rfl) (Nat.le_of_ble_eq_true rfl) dX11_end_16
set_option maxHeartbeats 4000000 in
set_option maxRecDepth 100000 in
theorem c_X11_read (l : Launch) (D : va_G) (κ : Nat → ClassId) (κq : Nat → Nat) (im : va_W) (xx : Nat) (tp : Nat) (ft : Nat) (rd : Nat) (wr : Nat) (st2 : Nat) (zi : Int32) (st : Nat) (d : Nat) (sh : Nat) (vw : Nat) (ta : Nat) (sa : Nat) (n : Nat) (fs : Nat → Option Nat) (fv : Nat → Option Nat) (fa : Nat → Int32) (ga : Nat → Option Nat) (tb : Nat) (L : Nat) (tf : Nat → Int32) (dl : Nat → Int32) (bl : Nat) (wk : Nat) (sz : Nat) (fl : Nat) (sr : Nat) (cnt : Nat) (cl : Nat) (rw : Nat) (at0 : Int32) (ca : Int32) (cv : Value) (wf : Nat → Int32) (ff : Nat → Option Nat) (sf : Nat → Int32) (fc : Nat → Option Nat) (f0 : Int32) (f1 : Int32) (f2 : Int32) (f3 : Int32) (f4 : Int32) (f5 : Int32) (kb : Nat) (nb : Nat) (za : Int32) (hn6 : n ≤ 6) (htb : Tb κ im fs fv 3) (hrn : Rn 6 3 fa) (hss : Ss κ im ga 6) (hL : L ≤ 800) (hsz : sz ≤ 20) (hwf : sb_Fit wf) (hbl : Cl κ im bl kb nb) (hc8 : cnt ≤ 8) (hlf : Lc κ im ff cnt) (hrw : rw ≤ 40) : Et l yX11_read (wl yX11_read cX11_read 4 (some .int)) { frames := 10, cells := 700, slots := 8600, locals := 215 } D κ κq [.ref xx, .int za] ([(xx, .inr (11, [.ref st, .ref tp, .ref ft, .ref rd, .ref wr, .ref st2, .int zi])), (st, .inr (6, [.ref d, .ref sh, .ref vw, .ref ta, .ref sa, .int (nI n)])), (sh, .inl (κ 4, 3, .inr (.inr (.inr (.inr fs))))), (vw, .inl (κ 5, 3, .inr (.inr (.inr (.inr fv))))), (ta, .inl (κ 0, 6, .inl fa)), (sa, .inl (κ 4, 6, .inr (.inr (.inr (.inr ga))))), (rd, .inr (4, [.ref tp, .ref d, .ref ft, .ref bl, .int at0, .int ca, .ref wk, .int (nI sz), .ref fl, .ref sr, .int (nI cnt), cv, .ref cl, .int (nI rw)])), (tp, .inr (8, [.ref tb, .int (nI L)])), (tb, .inl (κ 0, 800, .inl tf)), (d, .inl (κ 0, 6, .inl dl)), (ft, .inr (2, [.int f0, .int f1, .int f2, .int f3, .int f4, .int f5])), (wk, .inl (κ 1, 20, .inl wf)), (fl, .inl (κ 2, 8, .inr (.inr (.inr (.inr ff))))), (sr, .inl (κ 0, 8, .inl sf)), (cl, .inl (κ 2, 320, .inr (.inr (.inr (.inr fc)))))] ++ im) (fun u9 : Int32 × Nat × (Nat → Option Nat) × (Nat → Option Nat) × (Nat → Int32) × (Nat → Option Nat) × Int32 × Int32 × Nat × Nat × Value × Nat × (Nat → Int32) × (Nat → Option Nat) × (Nat → Int32) × (Nat → Option Nat) × Int32 × Int32 × Int32 × Int32 × Int32 × Int32 × va_W => some (.int u9.1)) (fun u9 : Int32 × Nat × (Nat → Option Nat) × (Nat → Option Nat) × (Nat → Int32) × (Nat → Option Nat) × Int32 × Int32 × Nat × Nat × Value × Nat × (Nat → Int32) × (Nat → Option Nat) × (Nat → Int32) × (Nat → Option Nat) × Int32 × Int32 × Int32 × Int32 × Int32 × Int32 × va_W => u9.2.1 ≤ 6 ∧ Tb κ u9.2.2.2.2.2.2.2.2.2.2.2.2.2.2.2.2.2.2.2.2.2.2 u9.2.2.1 u9.2.2.2.1 3 ∧ Rn 6 3 u9.2.2.2.2.1 ∧ Ss κ u9.2.2.2.2.2.2.2.2.2.2.2.2.2.2.2.2.2.2.2.2.2.2 u9.2.2.2.2.2.1 6 ∧ u9.2.2.2.2.2.2.2.2.1 ≤ 20 ∧ sb_Fit u9.2.2.2.2.2.2.2.2.2.2.2.2.1 ∧ u9.2.2.2.2.2.2.2.2.2.1 ≤ 8 ∧ u9.2.2.2.2.2.2.2.2.2.2.2.1 ≤ 40 ∧ Sb im u9.2.2.2.2.2.2.2.2.2.2.2.2.2.2.2.2.2.2.2.2.2.2 ∧ Lc κ u9.2.2.2.2.2.2.2.2.2.2.2.2.2.2.2.2.2.2.2.2.2.2 u9.2.2.2.2.2.2.2.2.2.2.2.2.2.1 u9.2.2.2.2.2.2.2.2.2.1) (fun u9 : Int32 × Nat × (Nat → Option Nat) × (Nat → Option Nat) × (Nat → Int32) × (Nat → Option Nat) × Int32 × Int32 × Nat × Nat × Value × Nat × (Nat → Int32) × (Nat → Option Nat) × (Nat → Int32) × (Nat → Option Nat) × Int32 × Int32 × Int32 × Int32 × Int32 × Int32 × va_W => ([(xx, .inr (11, [.ref st, .ref tp, .ref ft, .ref rd, .ref wr, .ref st2, .int zi])), (st, .inr (6, [.ref d, .ref sh, .ref vw, .ref ta, .ref sa, .int (nI u9.2.1)])), (sh, .inl (κ 4, 3, .inr (.inr (.inr (.inr u9.2.2.1))))), (vw, .inl (κ 5, 3, .inr (.inr (.inr (.inr u9.2.2.2.1))))), (ta, .inl (κ 0, 6, .inl u9.2.2.2.2.1)), (sa, .inl (κ 4, 6, .inr (.inr (.inr (.inr u9.2.2.2.2.2.1))))), (rd, .inr (4, [.ref tp, .ref d, .ref ft, .ref bl, .int u9.2.2.2.2.2.2.1, .int u9.2.2.2.2.2.2.2.1, .ref wk, .int (nI u9.2.2.2.2.2.2.2.2.1), .ref fl, .ref sr, .int (nI u9.2.2.2.2.2.2.2.2.2.1), u9.2.2.2.2.2.2.2.2.2.2.1, .ref cl, .int (nI u9.2.2.2.2.2.2.2.2.2.2.2.1)])), (tp, .inr (8, [.ref tb, .int 0])), (tb, .inl (κ 0, 800, .inl tf)), (d, .inl (κ 0, 6, .inl dl)), (ft, .inr (2, [.int u9.2.2.2.2.2.2.2.2.2.2.2.2.2.2.2.2.1, .int u9.2.2.2.2.2.2.2.2.2.2.2.2.2.2.2.2.2.1, .int u9.2.2.2.2.2.2.2.2.2.2.2.2.2.2.2.2.2.2.1, .int u9.2.2.2.2.2.2.2.2.2.2.2.2.2.2.2.2.2.2.2.1, .int u9.2.2.2.2.2.2.2.2.2.2.2.2.2.2.2.2.2.2.2.2.1, .int u9.2.2.2.2.2.2.2.2.2.2.2.2.2.2.2.2.2.2.2.2.2.1])), (wk, .inl (κ 1, 20, .inl u9.2.2.2.2.2.2.2.2.2.2.2.2.1)), (fl, .inl (κ 2, 8, .inr (.inr (.inr (.inr u9.2.2.2.2.2.2.2.2.2.2.2.2.2.1))))), (sr, .inl (κ 0, 8, .inl u9.2.2.2.2.2.2.2.2.2.2.2.2.2.2.1)), (cl, .inl (κ 2, 320, .inr (.inr (.inr (.inr u9.2.2.2.2.2.2.2.2.2.2.2.2.2.2.2.1)))))] ++ u9.2.2.2.2.2.2.2.2.2.2.2.2.2.2.2.2.2.2.2.2.2.2)) := by
  refine et_of (by decide +kernel) (Nat.le_of_ble_eq_true rfl) ?_
  intro p e s m args below meth c A ls hx hb hr hml hts hown hlk hin hKK hK hA hP hD hS hE hl
  have hS : va_S A s.heap s.heap [] := hS
  have hP : va_P D vwCl ([(xx, .inr (11, [.ref st, .ref tp, .ref ft, .ref rd, .ref wr, .ref st2, .int zi])), (st, .inr (6, [.ref d, .ref sh, .ref vw, .ref ta, .ref sa, .int (nI n)])), (sh, .inl (κ 4, 3, .inr (.inr (.inr (.inr fs))))), (vw, .inl (κ 5, 3, .inr (.inr (.inr (.inr fv))))), (ta, .inl (κ 0, 6, .inl fa)), (sa, .inl (κ 4, 6, .inr (.inr (.inr (.inr ga))))), (rd, .inr (4, [.ref tp, .ref d, .ref ft, .ref bl, .int at0, .int ca, .ref wk, .int (nI sz), .ref fl, .ref sr, .int (nI cnt), cv, .ref cl, .int (nI rw)])), (tp, .inr (8, [.ref tb, .int (nI L)])), (tb, .inl (κ 0, 800, .inl tf)), (d, .inl (κ 0, 6, .inl dl)), (ft, .inr (2, [.int f0, .int f1, .int f2, .int f3, .int f4, .int f5])), (wk, .inl (κ 1, 20, .inl wf)), (fl, .inl (κ 2, 8, .inr (.inr (.inr (.inr ff))))), (sr, .inl (κ 0, 8, .inl sf)), (cl, .inl (κ 2, 320, .inr (.inr (.inr (.inr fc)))))] ++ im) s.heap := hP
  have hD : va_D A ([(xx, .inr (11, [.ref st, .ref tp, .ref ft, .ref rd, .ref wr, .ref st2, .int zi])), (st, .inr (6, [.ref d, .ref sh, .ref vw, .ref ta, .ref sa, .int (nI n)])), (sh, .inl (κ 4, 3, .inr (.inr (.inr (.inr fs))))), (vw, .inl (κ 5, 3, .inr (.inr (.inr (.inr fv))))), (ta, .inl (κ 0, 6, .inl fa)), (sa, .inl (κ 4, 6, .inr (.inr (.inr (.inr ga))))), (rd, .inr (4, [.ref tp, .ref d, .ref ft, .ref bl, .int at0, .int ca, .ref wk, .int (nI sz), .ref fl, .ref sr, .int (nI cnt), cv, .ref cl, .int (nI rw)])), (tp, .inr (8, [.ref tb, .int (nI L)])), (tb, .inl (κ 0, 800, .inl tf)), (d, .inl (κ 0, 6, .inl dl)), (ft, .inr (2, [.int f0, .int f1, .int f2, .int f3, .int f4, .int f5])), (wk, .inl (κ 1, 20, .inl wf)), (fl, .inl (κ 2, 8, .inr (.inr (.inr (.inr ff))))), (sr, .inl (κ 0, 8, .inl sf)), (cl, .inl (κ 2, 320, .inr (.inr (.inr (.inr fc)))))] ++ im) := hD
  have hFX : FX p s m args c cX11_read 4 RX11 := ⟨hx, hb, hml, hown, hts⟩
  have hl : lv_has ls 4 [(0, .ref xx), (1, .int za)] := hl
  rcases pl_cases za with ⟨t, ht_t, rfl⟩ | hnp_za
  · skip
    refine lv_iload_n hx hb dX11_read_0 rfl (lv_at hl 1 rfl) ?_
    refine er_S (As := [.int (nI t)]) (rest := []) hFX hKK hE hS (c_X6_isPlace_t l D κ κq t (by omega)) 1 gS_X11_75 hdS_X6_isPlace rfl rfl ⟨Nat.le_of_ble_eq_true rfl, Nat.le_of_ble_eq_true rfl⟩ rfl rfl (Nat.le_of_ble_eq_true rfl) dX11_read_1 ⟨Nat.le_of_ble_eq_true rfl, Nat.le_of_ble_eq_true rfl⟩ hl.1 (subP0 hP [] rfl) (fun _ hp_1 => ?_)
    refine W.eq (g2 := F0 m 4 ls [.int 1]) rfl ?_
    refine lv_if_eq (tgt := 24) hx hb dX11_read_4 (by decide) (fun c_2 => absurd c_2 (by decide)) (fun c_2 => ?_)
    refine lv_aload_n hx hb dX11_read_7 rfl (lv_at hl 0 rfl) ?_
    refine va_get (D := D) (ci := 11) (v := .ref rd) (C := RX11) (T := TX11) (N := 7) hx hb hts inlX11 hown hK hP 0 rfl rfl 3 (by decide) (hts _ mw_28) (fun _ h9 => h9) rfl dX11_read_8 ?_
    refine lv_null hx hb dX11_read_11 ?_
    refine lv_bipush (v := 40) hx hb dX11_read_12 (by decide) ?_
    refine et_VT (CR := [(xx, .inr (11, [.ref st, .ref tp, .ref ft, .ref rd, .ref wr, .ref st2, .int zi])), (st, .inr (6, [.ref d, .ref sh, .ref vw, .ref ta, .ref sa, .int (nI n)])), (sh, .inl (κ 4, 3, .inr (.inr (.inr (.inr fs))))), (vw, .inl (κ 5, 3, .inr (.inr (.inr (.inr fv))))), (ta, .inl (κ 0, 6, .inl fa)), (sa, .inl (κ 4, 6, .inr (.inr (.inr (.inr ga)))))]) (As := [.null, .int 40]) (rest := []) hFX hKK hE hP hD hS hA (c_X4_readLines_n l D κ κq im rd tp d ft bl wk sz fl sr cnt cl rw ca cv tb L tf dl wf ff sf fc kb nb at0 f0 f1 f2 f3 f4 f5 (by omega) (by omega) hwf hbl (by omega) hlf) 2 gV_X11_78 hdV_X4_readLines ⟨Nat.le_of_ble_eq_true rfl, Nat.le_of_ble_eq_true rfl⟩ rfl rfl (Nat.le_of_ble_eq_true rfl) dX11_read_14 ⟨Nat.le_of_ble_eq_true rfl, Nat.le_of_ble_eq_true rfl⟩ hl.1 [6, 7, 8, 9, 10, 11, 12, 13, 14] [0, 1, 2, 3, 4, 5] rfl rfl (by decide) (by decide) (by decide) hP 6 4 rfl rfl rfl (fun u_21 H locs hp_22 hP hD hS => ?_)
    refine W.widen (k := 689) (n := 8104) (Nat.le_refl _) (Nat.le_refl _) ?_
    obtain ⟨r__3, ya__4, yc__5, yv__6, s__7, n9__8, yr__9, g__10, gf__11, gs__12, gc__13, y0__14, y1__15, y2__16, y3__17, y4__18, y5__19, im2__20⟩ := u_21
    replace hP : va_P D vwCl ([(xx, .inr (11, [.ref st, .ref tp, .ref ft, .ref rd, .ref wr, .ref st2, .int zi])), (st, .inr (6, [.ref d, .ref sh, .ref vw, .ref ta, .ref sa, .int (nI n)])), (sh, .inl (κ 4, 3, .inr (.inr (.inr (.inr fs))))), (vw, .inl (κ 5, 3, .inr (.inr (.inr (.inr fv))))), (ta, .inl (κ 0, 6, .inl fa)), (sa, .inl (κ 4, 6, .inr (.inr (.inr (.inr ga))))), (rd, .inr (4, [.ref tp, .ref d, .ref ft, .ref bl, .int ya__4, .int yc__5, .ref wk, .int (nI s__7), .ref fl, .ref sr, .int (nI n9__8), yv__6, .ref cl, .int (nI yr__9)])), (tp, .inr (8, [.ref tb, .int (nI L)])), (tb, .inl (κ 0, 800, .inl tf)), (d, .inl (κ 0, 6, .inl dl)), (ft, .inr (2, [.int y0__14, .int y1__15, .int y2__16, .int y3__17, .int y4__18, .int y5__19])), (wk, .inl (κ 1, 20, .inl g__10)), (fl, .inl (κ 2, 8, .inr (.inr (.inr (.inr gf__11))))), (sr, .inl (κ 0, 8, .inl gs__12)), (cl, .inl (κ 2, 320, .inr (.inr (.inr (.inr gc__13)))))] ++ im2__20) H := subP (C := [(xx, .inr (11, [.ref st, .ref tp, .ref ft, .ref rd, .ref wr, .ref st2, .int zi])), (st, .inr (6, [.ref d, .ref sh, .ref vw, .ref ta, .ref sa, .int (nI n)])), (sh, .inl (κ 4, 3, .inr (.inr (.inr (.inr fs))))), (vw, .inl (κ 5, 3, .inr (.inr (.inr (.inr fv))))), (ta, .inl (κ 0, 6, .inl fa)), (sa, .inl (κ 4, 6, .inr (.inr (.inr (.inr ga))))), (rd, .inr (4, [.ref tp, .ref d, .ref ft, .ref bl, .int ya__4, .int yc__5, .ref wk, .int (nI s__7), .ref fl, .ref sr, .int (nI n9__8), yv__6, .ref cl, .int (nI yr__9)])), (tp, .inr (8, [.ref tb, .int (nI L)])), (tb, .inl (κ 0, 800, .inl tf)), (d, .inl (κ 0, 6, .inl dl)), (ft, .inr (2, [.int y0__14, .int y1__15, .int y2__16, .int y3__17, .int y4__18, .int y5__19])), (wk, .inl (κ 1, 20, .inl g__10)), (fl, .inl (κ 2, 8, .inr (.inr (.inr (.inr gf__11))))), (sr, .inl (κ 0, 8, .inl gs__12)), (cl, .inl (κ 2, 320, .inr (.inr (.inr (.inr gc__13)))))]) hP [0, 1, 2, 3, 4, 5, 6, 7, 8, 9, 10, 11, 12, 13, 14] rfl
    replace hD : va_D A ([(xx, .inr (11, [.ref st, .ref tp, .ref ft, .ref rd, .ref wr, .ref st2, .int zi])), (st, .inr (6, [.ref d, .ref sh, .ref vw, .ref ta, .ref sa, .int (nI n)])), (sh, .inl (κ 4, 3, .inr (.inr (.inr (.inr fs))))), (vw, .inl (κ 5, 3, .inr (.inr (.inr (.inr fv))))), (ta, .inl (κ 0, 6, .inl fa)), (sa, .inl (κ 4, 6, .inr (.inr (.inr (.inr ga))))), (rd, .inr (4, [.ref tp, .ref d, .ref ft, .ref bl, .int ya__4, .int yc__5, .ref wk, .int (nI s__7), .ref fl, .ref sr, .int (nI n9__8), yv__6, .ref cl, .int (nI yr__9)])), (tp, .inr (8, [.ref tb, .int (nI L)])), (tb, .inl (κ 0, 800, .inl tf)), (d, .inl (κ 0, 6, .inl dl)), (ft, .inr (2, [.int y0__14, .int y1__15, .int y2__16, .int y3__17, .int y4__18, .int y5__19])), (wk, .inl (κ 1, 20, .inl g__10)), (fl, .inl (κ 2, 8, .inr (.inr (.inr (.inr gf__11))))), (sr, .inl (κ 0, 8, .inl gs__12)), (cl, .inl (κ 2, 320, .inr (.inr (.inr (.inr gc__13)))))] ++ im2__20) := subD (C := [(xx, .inr (11, [.ref st, .ref tp, .ref ft, .ref rd, .ref wr, .ref st2, .int zi])), (st, .inr (6, [.ref d, .ref sh, .ref vw, .ref ta, .ref sa, .int (nI n)])), (sh, .inl (κ 4, 3, .inr (.inr (.inr (.inr fs))))), (vw, .inl (κ 5, 3, .inr (.inr (.inr (.inr fv))))), (ta, .inl (κ 0, 6, .inl fa)), (sa, .inl (κ 4, 6, .inr (.inr (.inr (.inr ga))))), (rd, .inr (4, [.ref tp, .ref d, .ref ft, .ref bl, .int ya__4, .int yc__5, .ref wk, .int (nI s__7), .ref fl, .ref sr, .int (nI n9__8), yv__6, .ref cl, .int (nI yr__9)])), (tp, .inr (8, [.ref tb, .int (nI L)])), (tb, .inl (κ 0, 800, .inl tf)), (d, .inl (κ 0, 6, .inl dl)), (ft, .inr (2, [.int y0__14, .int y1__15, .int y2__16, .int y3__17, .int y4__18, .int y5__19])), (wk, .inl (κ 1, 20, .inl g__10)), (fl, .inl (κ 2, 8, .inr (.inr (.inr (.inr gf__11))))), (sr, .inl (κ 0, 8, .inl gs__12)), (cl, .inl (κ 2, 320, .inr (.inr (.inr (.inr gc__13)))))]) hD [0, 1, 2, 3, 4, 5, 6, 7, 8, 9, 10, 11, 12, 13, 14] (by decide) rfl
    replace hp_22 : s__7 ≤ 20 ∧ sb_Fit g__10 ∧ n9__8 ≤ 8 ∧ yr__9 ≤ 40 ∧ Sb im im2__20 ∧ Lc κ im2__20 gf__11 n9__8 ∧ ((r__3 = 1 ∧ (∃ q v : Nat, yv__6 = .ref q ∧ (1 ≤ v ∧ v ≤ 8) ∧ Ca κ im2__20 q v ∧ Lc κ im2__20 gc__13 (yr__9 * v))) ∨ (r__3 = 0)) := hp_22
    obtain ⟨h_23, h_24, h_25, h_26, h_27, h_28, ha_29⟩ := hp_22
    replace htb := htb.up h_27
    replace hss := hss.up h_27
    replace hbl := hbl.up h_27
    replace hlf := hlf.up h_27
    rcases ha_29 with ⟨rfl, a_30⟩ | rfl
    · refine W.eq (g2 := F0 m 17 ls [.int 1]) rfl ?_
      obtain ⟨qv, wv, hqv, ⟨hwv1, hwv8⟩, hcav, hlcv⟩ := a_30
      subst hqv
      refine lv_if_eq (tgt := 24) hx hb dX11_read_17 (by decide) (fun c_31 => absurd c_31 (by decide)) (fun c_31 => ?_)
      refine lv_iconst (v := 1) hx hb dX11_read_20 (by decide) ?_
      refine lv_goto (tgt := 25) hx hb dX11_read_21 (by decide) ?_
      refine lv_istore_n (lv' := [(2, .int 1), (0, .ref xx), (1, .int (nI t))]) hx hb dX11_read_25 rfl hl (by decide) rfl (fun ls hl => ?_)
      refine lv_aload_n hx hb dX11_read_26 rfl (lv_at hl 1 rfl) ?_
      refine va_get (D := D) (ci := 11) (v := .ref tp) (C := RX11) (T := TX11) (N := 7) hx hb hts inlX11 hown hK hP 0 rfl rfl 1 (by decide) (hts _ mw_19) (fun _ h9 => h9) rfl dX11_read_27 ?_
      refine lv_iconst (v := 0) hx hb dX11_read_30 (by decide) ?_
      refine va_put (D := D) (ci := 8) (v := .int 0) (ty := tyX8 1) (C := RX8) (T := TX8) (N := 2) hx hb hts inlX8 tyX8 tyX8_ok nmX8 hown hK hP hD hS 7 rfl rfl 1 (by decide) (hts _ mw_223) (fun _ h9 => h9) rfl (tyX8_ok 1 (by decide)) rfl rfl (Nat.le_of_ble_eq_true rfl) dX11_read_31 (fun H locs hP hD hS => ?_)
      have hP : va_P D vwCl ([(xx, .inr (11, [.ref st, .ref tp, .ref ft, .ref rd, .ref wr, .ref st2, .int zi])), (st, .inr (6, [.ref d, .ref sh, .ref vw, .ref ta, .ref sa, .int (nI n)])), (sh, .inl (κ 4, 3, .inr (.inr (.inr (.inr fs))))), (vw, .inl (κ 5, 3, .inr (.inr (.inr (.inr fv))))), (ta, .inl (κ 0, 6, .inl fa)), (sa, .inl (κ 4, 6, .inr (.inr (.inr (.inr ga))))), (rd, .inr (4, [.ref tp, .ref d, .ref ft, .ref bl, .int ya__4, .int yc__5, .ref wk, .int (nI s__7), .ref fl, .ref sr, .int (nI n9__8), .ref qv, .ref cl, .int (nI yr__9)])), (tp, .inr (8, [.ref tb, .int 0])), (tb, .inl (κ 0, 800, .inl tf)), (d, .inl (κ 0, 6, .inl dl)), (ft, .inr (2, [.int y0__14, .int y1__15, .int y2__16, .int y3__17, .int y4__18, .int y5__19])), (wk, .inl (κ 1, 20, .inl g__10)), (fl, .inl (κ 2, 8, .inr (.inr (.inr (.inr gf__11))))), (sr, .inl (κ 0, 8, .inl gs__12)), (cl, .inl (κ 2, 320, .inr (.inr (.inr (.inr gc__13)))))] ++ im2__20) H := hP
      have hD : va_D A ([(xx, .inr (11, [.ref st, .ref tp, .ref ft, .ref rd, .ref wr, .ref st2, .int zi])), (st, .inr (6, [.ref d, .ref sh, .ref vw, .ref ta, .ref sa, .int (nI n)])), (sh, .inl (κ 4, 3, .inr (.inr (.inr (.inr fs))))), (vw, .inl (κ 5, 3, .inr (.inr (.inr (.inr fv))))), (ta, .inl (κ 0, 6, .inl fa)), (sa, .inl (κ 4, 6, .inr (.inr (.inr (.inr ga))))), (rd, .inr (4, [.ref tp, .ref d, .ref ft, .ref bl, .int ya__4, .int yc__5, .ref wk, .int (nI s__7), .ref fl, .ref sr, .int (nI n9__8), .ref qv, .ref cl, .int (nI yr__9)])), (tp, .inr (8, [.ref tb, .int 0])), (tb, .inl (κ 0, 800, .inl tf)), (d, .inl (κ 0, 6, .inl dl)), (ft, .inr (2, [.int y0__14, .int y1__15, .int y2__16, .int y3__17, .int y4__18, .int y5__19])), (wk, .inl (κ 1, 20, .inl g__10)), (fl, .inl (κ 2, 8, .inr (.inr (.inr (.inr gf__11))))), (sr, .inl (κ 0, 8, .inl gs__12)), (cl, .inl (κ 2, 320, .inr (.inr (.inr (.inr gc__13)))))] ++ im2__20) := hD
      refine lv_iload_n hx hb dX11_read_34 rfl (lv_at hl 0 rfl) ?_
      refine lv_if_eq (tgt := 48) hx hb dX11_read_35 (by decide) (fun c_32 => absurd c_32 (by decide)) (fun c_32 => ?_)
      refine lv_aload_n hx hb dX11_read_38 rfl (lv_at hl 1 rfl) ?_
      refine va_get (D := D) (ci := 11) (v := .ref rd) (C := RX11) (T := TX11) (N := 7) hx hb hts inlX11 hown hK hP 0 rfl rfl 3 (by decide) (hts _ mw_28) (fun _ h9 => h9) rfl dX11_read_39 ?_
      refine et_VT (CR := [(xx, .inr (11, [.ref st, .ref tp, .ref ft, .ref rd, .ref wr, .ref st2, .int zi])), (st, .inr (6, [.ref d, .ref sh, .ref vw, .ref ta, .ref sa, .int (nI n)])), (sh, .inl (κ 4, 3, .inr (.inr (.inr (.inr fs))))), (vw, .inl (κ 5, 3, .inr (.inr (.inr (.inr fv))))), (ta, .inl (κ 0, 6, .inl fa)), (sa, .inl (κ 4, 6, .inr (.inr (.inr (.inr ga))))), (tp, .inr (8, [.ref tb, .int 0])), (tb, .inl (κ 0, 800, .inl tf)), (d, .inl (κ 0, 6, .inl dl)), (ft, .inr (2, [.int y0__14, .int y1__15, .int y2__16, .int y3__17, .int y4__18, .int y5__19])), (wk, .inl (κ 1, 20, .inl g__10)), (fl, .inl (κ 2, 8, .inr (.inr (.inr (.inr gf__11))))), (sr, .inl (κ 0, 8, .inl gs__12))]) (As := []) (rest := []) hFX hKK hE hP hD hS hA (c_X4_newSheet l D κ κq im2__20 rd tp d ft bl wk s__7 fl sr n9__8 cl yr__9 yc__5 ya__4 gc__13 qv wv hcav hlcv (by omega) (by omega) (by omega)) 0 gV_X11_82 hdV_X4_newSheet ⟨Nat.le_of_ble_eq_true rfl, Nat.le_of_ble_eq_true rfl⟩ rfl rfl (Nat.le_of_ble_eq_true rfl) dX11_read_42 ⟨Nat.le_of_ble_eq_true rfl, Nat.le_of_ble_eq_true rfl⟩ hl.1 [6, 14] [0, 1, 2, 3, 4, 5, 7, 8, 9, 10, 11, 12, 13] rfl rfl (by decide) (by decide) (by decide) hP 6 4 rfl rfl rfl (fun u_35 H locs hp_36 hP hD hS => ?_)
      refine W.widen (k := 693) (n := 8471) (Nat.le_refl _) (Nat.le_refl _) ?_
      obtain ⟨q__33, im2__34⟩ := u_35
      replace hP : va_P D vwCl ([(xx, .inr (11, [.ref st, .ref tp, .ref ft, .ref rd, .ref wr, .ref st2, .int zi])), (st, .inr (6, [.ref d, .ref sh, .ref vw, .ref ta, .ref sa, .int (nI n)])), (sh, .inl (κ 4, 3, .inr (.inr (.inr (.inr fs))))), (vw, .inl (κ 5, 3, .inr (.inr (.inr (.inr fv))))), (ta, .inl (κ 0, 6, .inl fa)), (sa, .inl (κ 4, 6, .inr (.inr (.inr (.inr ga))))), (rd, .inr (4, [.ref tp, .ref d, .ref ft, .ref bl, .int ya__4, .int yc__5, .ref wk, .int (nI s__7), .ref fl, .ref sr, .int (nI n9__8), .ref qv, .ref cl, .int (nI yr__9)])), (tp, .inr (8, [.ref tb, .int 0])), (tb, .inl (κ 0, 800, .inl tf)), (d, .inl (κ 0, 6, .inl dl)), (ft, .inr (2, [.int y0__14, .int y1__15, .int y2__16, .int y3__17, .int y4__18, .int y5__19])), (wk, .inl (κ 1, 20, .inl g__10)), (fl, .inl (κ 2, 8, .inr (.inr (.inr (.inr gf__11))))), (sr, .inl (κ 0, 8, .inl gs__12)), (cl, .inl (κ 2, 320, .inr (.inr (.inr (.inr gc__13)))))] ++ im2__34) H := subP (C := [(xx, .inr (11, [.ref st, .ref tp, .ref ft, .ref rd, .ref wr, .ref st2, .int zi])), (st, .inr (6, [.ref d, .ref sh, .ref vw, .ref ta, .ref sa, .int (nI n)])), (sh, .inl (κ 4, 3, .inr (.inr (.inr (.inr fs))))), (vw, .inl (κ 5, 3, .inr (.inr (.inr (.inr fv))))), (ta, .inl (κ 0, 6, .inl fa)), (sa, .inl (κ 4, 6, .inr (.inr (.inr (.inr ga))))), (tp, .inr (8, [.ref tb, .int 0])), (tb, .inl (κ 0, 800, .inl tf)), (d, .inl (κ 0, 6, .inl dl)), (ft, .inr (2, [.int y0__14, .int y1__15, .int y2__16, .int y3__17, .int y4__18, .int y5__19])), (wk, .inl (κ 1, 20, .inl g__10)), (fl, .inl (κ 2, 8, .inr (.inr (.inr (.inr gf__11))))), (sr, .inl (κ 0, 8, .inl gs__12)), (rd, .inr (4, [.ref tp, .ref d, .ref ft, .ref bl, .int ya__4, .int yc__5, .ref wk, .int (nI s__7), .ref fl, .ref sr, .int (nI n9__8), .ref qv, .ref cl, .int (nI yr__9)])), (cl, .inl (κ 2, 320, .inr (.inr (.inr (.inr gc__13)))))]) hP [0, 1, 2, 3, 4, 5, 13, 6, 7, 8, 9, 10, 11, 12, 14] rfl
      replace hD : va_D A ([(xx, .inr (11, [.ref st, .ref tp, .ref ft, .ref rd, .ref wr, .ref st2, .int zi])), (st, .inr (6, [.ref d, .ref sh, .ref vw, .ref ta, .ref sa, .int (nI n)])), (sh, .inl (κ 4, 3, .inr (.inr (.inr (.inr fs))))), (vw, .inl (κ 5, 3, .inr (.inr (.inr (.inr fv))))), (ta, .inl (κ 0, 6, .inl fa)), (sa, .inl (κ 4, 6, .inr (.inr (.inr (.inr ga))))), (rd, .inr (4, [.ref tp, .ref d, .ref ft, .ref bl, .int ya__4, .int yc__5, .ref wk, .int (nI s__7), .ref fl, .ref sr, .int (nI n9__8), .ref qv, .ref cl, .int (nI yr__9)])), (tp, .inr (8, [.ref tb, .int 0])), (tb, .inl (κ 0, 800, .inl tf)), (d, .inl (κ 0, 6, .inl dl)), (ft, .inr (2, [.int y0__14, .int y1__15, .int y2__16, .int y3__17, .int y4__18, .int y5__19])), (wk, .inl (κ 1, 20, .inl g__10)), (fl, .inl (κ 2, 8, .inr (.inr (.inr (.inr gf__11))))), (sr, .inl (κ 0, 8, .inl gs__12)), (cl, .inl (κ 2, 320, .inr (.inr (.inr (.inr gc__13)))))] ++ im2__34) := subD (C := [(xx, .inr (11, [.ref st, .ref tp, .ref ft, .ref rd, .ref wr, .ref st2, .int zi])), (st, .inr (6, [.ref d, .ref sh, .ref vw, .ref ta, .ref sa, .int (nI n)])), (sh, .inl (κ 4, 3, .inr (.inr (.inr (.inr fs))))), (vw, .inl (κ 5, 3, .inr (.inr (.inr (.inr fv))))), (ta, .inl (κ 0, 6, .inl fa)), (sa, .inl (κ 4, 6, .inr (.inr (.inr (.inr ga))))), (tp, .inr (8, [.ref tb, .int 0])), (tb, .inl (κ 0, 800, .inl tf)), (d, .inl (κ 0, 6, .inl dl)), (ft, .inr (2, [.int y0__14, .int y1__15, .int y2__16, .int y3__17, .int y4__18, .int y5__19])), (wk, .inl (κ 1, 20, .inl g__10)), (fl, .inl (κ 2, 8, .inr (.inr (.inr (.inr gf__11))))), (sr, .inl (κ 0, 8, .inl gs__12)), (rd, .inr (4, [.ref tp, .ref d, .ref ft, .ref bl, .int ya__4, .int yc__5, .ref wk, .int (nI s__7), .ref fl, .ref sr, .int (nI n9__8), .ref qv, .ref cl, .int (nI yr__9)])), (cl, .inl (κ 2, 320, .inr (.inr (.inr (.inr gc__13)))))]) hD [0, 1, 2, 3, 4, 5, 13, 6, 7, 8, 9, 10, 11, 12, 14] (by decide) rfl
      replace hp_36 : Sb im2__20 im2__34 ∧ Sh κ im2__34 q__33 yr__9 wv := hp_36
      obtain ⟨h_37, h_38⟩ := hp_36
      replace htb := htb.up h_37
      replace hss := hss.up h_37
      replace hbl := hbl.up h_37
      replace hlf := hlf.up h_37
      replace h_28 := h_28.up h_37
      replace hlcv := hlcv.up h_37
      replace hcav := hcav.up h_37
      refine W.eq (g2 := F0 m 45 ls [.ref q__33]) rfl ?_
      refine lv_goto (tgt := 49) hx hb dX11_read_45 (by decide) ?_
      refine lv_astore_n (lv' := [(3, .ref q__33), (2, .int 1), (0, .ref xx), (1, .int (nI t))]) hx hb dX11_read_49 rfl hl (by decide) rfl (fun ls hl => ?_)
      refine lv_aload_n hx hb dX11_read_50 rfl (lv_at hl 0 rfl) ?_
      refine lv_ifnonnull (tgt := 56) hx hb dX11_read_51 (by decide) ?_
      refine lv_aload_n hx hb dX11_read_56 rfl (lv_at hl 2 rfl) ?_
      refine va_get (D := D) (ci := 11) (v := .ref st) (C := RX11) (T := TX11) (N := 7) hx hb hts inlX11 hown hK hP 0 rfl rfl 0 (by decide) (hts _ mw_15) (fun _ h9 => h9) rfl dX11_read_57 ?_
      refine lv_iload_n hx hb dX11_read_60 rfl (lv_at hl 3 rfl) ?_
      refine lv_aload_n hx hb dX11_read_61 rfl (lv_at hl 0 rfl) ?_
      refine et_VT (CR := [(xx, .inr (11, [.ref st, .ref tp, .ref ft, .ref rd, .ref wr, .ref st2, .int zi])), (rd, .inr (4, [.ref tp, .ref d, .ref ft, .ref bl, .int ya__4, .int yc__5, .ref wk, .int (nI s__7), .ref fl, .ref sr, .int (nI n9__8), .ref qv, .ref cl, .int (nI yr__9)])), (tp, .inr (8, [.ref tb, .int 0])), (tb, .inl (κ 0, 800, .inl tf)), (d, .inl (κ 0, 6, .inl dl)), (ft, .inr (2, [.int y0__14, .int y1__15, .int y2__16, .int y3__17, .int y4__18, .int y5__19])), (wk, .inl (κ 1, 20, .inl g__10)), (fl, .inl (κ 2, 8, .inr (.inr (.inr (.inr gf__11))))), (sr, .inl (κ 0, 8, .inl gs__12)), (cl, .inl (κ 2, 320, .inr (.inr (.inr (.inr gc__13)))))]) (As := [.int (nI t), .ref q__33]) (rest := []) hFX hKK hE hP hD hS hA (c_X6_act l D κ κq im2__34 st d sh vw ta sa n fs fv fa ga t q__33 yr__9 wv (by omega) htb hrn hss (by omega) h_38) 2 gV_X11_86 hdV_X6_act ⟨Nat.le_of_ble_eq_true rfl, Nat.le_of_ble_eq_true rfl⟩ rfl rfl (Nat.le_of_ble_eq_true rfl) dX11_read_62 ⟨Nat.le_of_ble_eq_true rfl, Nat.le_of_ble_eq_true rfl⟩ hl.1 [1, 2, 3, 4, 5] [0, 6, 7, 8, 9, 10, 11, 12, 13, 14] rfl rfl (by decide) (by decide) (by decide) hP 1 6 rfl rfl rfl (fun u_44 H locs hp_45 hP hD hS => ?_)
      refine W.widen (k := 693) (n := 8471) (Nat.le_refl _) (Nat.le_refl _) ?_
      obtain ⟨y__39, gs__40, gv__41, fb__42, gb__43⟩ := u_44
      replace hP : va_P D vwCl ([(xx, .inr (11, [.ref st, .ref tp, .ref ft, .ref rd, .ref wr, .ref st2, .int zi])), (st, .inr (6, [.ref d, .ref sh, .ref vw, .ref ta, .ref sa, .int (nI y__39)])), (sh, .inl (κ 4, 3, .inr (.inr (.inr (.inr gs__40))))), (vw, .inl (κ 5, 3, .inr (.inr (.inr (.inr gv__41))))), (ta, .inl (κ 0, 6, .inl fb__42)), (sa, .inl (κ 4, 6, .inr (.inr (.inr (.inr gb__43))))), (rd, .inr (4, [.ref tp, .ref d, .ref ft, .ref bl, .int ya__4, .int yc__5, .ref wk, .int (nI s__7), .ref fl, .ref sr, .int (nI n9__8), .ref qv, .ref cl, .int (nI yr__9)])), (tp, .inr (8, [.ref tb, .int 0])), (tb, .inl (κ 0, 800, .inl tf)), (d, .inl (κ 0, 6, .inl dl)), (ft, .inr (2, [.int y0__14, .int y1__15, .int y2__16, .int y3__17, .int y4__18, .int y5__19])), (wk, .inl (κ 1, 20, .inl g__10)), (fl, .inl (κ 2, 8, .inr (.inr (.inr (.inr gf__11))))), (sr, .inl (κ 0, 8, .inl gs__12)), (cl, .inl (κ 2, 320, .inr (.inr (.inr (.inr gc__13)))))] ++ im2__34) H := subP (C := [(xx, .inr (11, [.ref st, .ref tp, .ref ft, .ref rd, .ref wr, .ref st2, .int zi])), (rd, .inr (4, [.ref tp, .ref d, .ref ft, .ref bl, .int ya__4, .int yc__5, .ref wk, .int (nI s__7), .ref fl, .ref sr, .int (nI n9__8), .ref qv, .ref cl, .int (nI yr__9)])), (tp, .inr (8, [.ref tb, .int 0])), (tb, .inl (κ 0, 800, .inl tf)), (d, .inl (κ 0, 6, .inl dl)), (ft, .inr (2, [.int y0__14, .int y1__15, .int y2__16, .int y3__17, .int y4__18, .int y5__19])), (wk, .inl (κ 1, 20, .inl g__10)), (fl, .inl (κ 2, 8, .inr (.inr (.inr (.inr gf__11))))), (sr, .inl (κ 0, 8, .inl gs__12)), (cl, .inl (κ 2, 320, .inr (.inr (.inr (.inr gc__13))))), (st, .inr (6, [.ref d, .ref sh, .ref vw, .ref ta, .ref sa, .int (nI y__39)])), (sh, .inl (κ 4, 3, .inr (.inr (.inr (.inr gs__40))))), (vw, .inl (κ 5, 3, .inr (.inr (.inr (.inr gv__41))))), (ta, .inl (κ 0, 6, .inl fb__42)), (sa, .inl (κ 4, 6, .inr (.inr (.inr (.inr gb__43)))))]) hP [0, 10, 11, 12, 13, 14, 1, 2, 3, 4, 5, 6, 7, 8, 9] rfl
      replace hD : va_D A ([(xx, .inr (11, [.ref st, .ref tp, .ref ft, .ref rd, .ref wr, .ref st2, .int zi])), (st, .inr (6, [.ref d, .ref sh, .ref vw, .ref ta, .ref sa, .int (nI y__39)])), (sh, .inl (κ 4, 3, .inr (.inr (.inr (.inr gs__40))))), (vw, .inl (κ 5, 3, .inr (.inr (.inr (.inr gv__41))))), (ta, .inl (κ 0, 6, .inl fb__42)), (sa, .inl (κ 4, 6, .inr (.inr (.inr (.inr gb__43))))), (rd, .inr (4, [.ref tp, .ref d, .ref ft, .ref bl, .int ya__4, .int yc__5, .ref wk, .int (nI s__7), .ref fl, .ref sr, .int (nI n9__8), .ref qv, .ref cl, .int (nI yr__9)])), (tp, .inr (8, [.ref tb, .int 0])), (tb, .inl (κ 0, 800, .inl tf)), (d, .inl (κ 0, 6, .inl dl)), (ft, .inr (2, [.int y0__14, .int y1__15, .int y2__16, .int y3__17, .int y4__18, .int y5__19])), (wk, .inl (κ 1, 20, .inl g__10)), (fl, .inl (κ 2, 8, .inr (.inr (.inr (.inr gf__11))))), (sr, .inl (κ 0, 8, .inl gs__12)), (cl, .inl (κ 2, 320, .inr (.inr (.inr (.inr gc__13)))))] ++ im2__34) := subD (C := [(xx, .inr (11, [.ref st, .ref tp, .ref ft, .ref rd, .ref wr, .ref st2, .int zi])), (rd, .inr (4, [.ref tp, .ref d, .ref ft, .ref bl, .int ya__4, .int yc__5, .ref wk, .int (nI s__7), .ref fl, .ref sr, .int (nI n9__8), .ref qv, .ref cl, .int (nI yr__9)])), (tp, .inr (8, [.ref tb, .int 0])), (tb, .inl (κ 0, 800, .inl tf)), (d, .inl (κ 0, 6, .inl dl)), (ft, .inr (2, [.int y0__14, .int y1__15, .int y2__16, .int y3__17, .int y4__18, .int y5__19])), (wk, .inl (κ 1, 20, .inl g__10)), (fl, .inl (κ 2, 8, .inr (.inr (.inr (.inr gf__11))))), (sr, .inl (κ 0, 8, .inl gs__12)), (cl, .inl (κ 2, 320, .inr (.inr (.inr (.inr gc__13))))), (st, .inr (6, [.ref d, .ref sh, .ref vw, .ref ta, .ref sa, .int (nI y__39)])), (sh, .inl (κ 4, 3, .inr (.inr (.inr (.inr gs__40))))), (vw, .inl (κ 5, 3, .inr (.inr (.inr (.inr gv__41))))), (ta, .inl (κ 0, 6, .inl fb__42)), (sa, .inl (κ 4, 6, .inr (.inr (.inr (.inr gb__43)))))]) hD [0, 10, 11, 12, 13, 14, 1, 2, 3, 4, 5, 6, 7, 8, 9] (by decide) rfl
      replace hp_45 : y__39 ≤ 6 ∧ Tb κ im2__34 gs__40 gv__41 3 ∧ Rn 6 3 fb__42 ∧ Ss κ im2__34 gb__43 6 := hp_45
      obtain ⟨h_46, h_47, h_48, h_49⟩ := hp_45
      refine W.eq (g2 := F0 m 65 ls []) rfl ?_
      refine lv_aload_n hx hb dX11_read_65 rfl (lv_at hl 0 rfl) ?_
      obtain ⟨hb_50, c_51, x_52, v_53, g_54, h_55, hm_56, hm_57, hm_58, lo_59, lc_60, vw_61⟩ := id h_38
      obtain ⟨hb_50_1, hb_50_2, hb_50_3⟩ := hb_50
      have hrw_hb_50 := rw_le hb_50_1 hb_50_3
      refine va_get (D := D) (ci := 5) (v := .int (nI yr__9)) (C := RX5) (T := TX5) (N := 4) hx hb hts inlX5 hown hK (oneP (C := [(xx, .inr (11, [.ref st, .ref tp, .ref ft, .ref rd, .ref wr, .ref st2, .int zi])), (st, .inr (6, [.ref d, .ref sh, .ref vw, .ref ta, .ref sa, .int (nI y__39)])), (sh, .inl (κ 4, 3, .inr (.inr (.inr (.inr gs__40))))), (vw, .inl (κ 5, 3, .inr (.inr (.inr (.inr gv__41))))), (ta, .inl (κ 0, 6, .inl fb__42)), (sa, .inl (κ 4, 6, .inr (.inr (.inr (.inr gb__43))))), (rd, .inr (4, [.ref tp, .ref d, .ref ft, .ref bl, .int ya__4, .int yc__5, .ref wk, .int (nI s__7), .ref fl, .ref sr, .int (nI n9__8), .ref qv, .ref cl, .int (nI yr__9)])), (tp, .inr (8, [.ref tb, .int 0])), (tb, .inl (κ 0, 800, .inl tf)), (d, .inl (κ 0, 6, .inl dl)), (ft, .inr (2, [.int y0__14, .int y1__15, .int y2__16, .int y3__17, .int y4__18, .int y5__19])), (wk, .inl (κ 1, 20, .inl g__10)), (fl, .inl (κ 2, 8, .inr (.inr (.inr (.inr gf__11))))), (sr, .inl (κ 0, 8, .inl gs__12)), (cl, .inl (κ 2, 320, .inr (.inr (.inr (.inr gc__13)))))]) hP hm_56) 0 rfl rfl 2 (by decide) (hts _ mw_253) (fun _ h9 => h9) rfl dX11_read_66 ?_
      exact et_iret hx hb hr hlk rfl hS (nI yr__9, y__39, gs__40, gv__41, fb__42, gb__43, ya__4, yc__5, s__7, n9__8, (Value.ref qv), yr__9, g__10, gf__11, gs__12, gc__13, y0__14, y1__15, y2__16, y3__17, y4__18, y5__19, im2__34) rfl ⟨(show y__39 ≤ 6 from (by first | assumption | omega | rfl | exact Or.inl (by assumption) | exact Or.inr (by assumption))), (show Tb κ im2__34 gs__40 gv__41 3 from h_47), (show Rn 6 3 fb__42 from (by first | assumption | omega | rfl | exact Or.inl (by assumption) | exact Or.inr (by assumption))), (show Ss κ im2__34 gb__43 6 from h_49), (show s__7 ≤ 20 from (by first | assumption | omega | rfl | exact Or.inl (by assumption) | exact Or.inr (by assumption))), (show sb_Fit g__10 from (by first | assumption | omega | rfl | exact Or.inl (by assumption) | exact Or.inr (by assumption))), (show n9__8 ≤ 8 from (by first | assumption | omega | rfl | exact Or.inl (by assumption) | exact Or.inr (by assumption))), (show yr__9 ≤ 40 from (by first | assumption | omega | rfl | exact Or.inl (by assumption) | exact Or.inr (by assumption))), (show Sb im im2__34 from (Sb.tr h_27 h_37)), (show Lc κ im2__34 gf__11 n9__8 from h_28)⟩ (subP hP [0, 1, 2, 3, 4, 5, 6, 7, 8, 9, 10, 11, 12, 13, 14] rfl) (subD hD [0, 1, 2, 3, 4, 5, 6, 7, 8, 9, 10, 11, 12, 13, 14] (by decide) rfl) (Nat.le_of_ble_eq_true rfl) (Nat.le_of_ble_eq_true rfl) dX11_read_69
    · refine W.eq (g2 := F0 m 17 ls [.int 0]) rfl ?_
      refine lv_if_eq (tgt := 24) hx hb dX11_read_17 (by decide) (fun c_62 => ?_) (fun c_62 => absurd (by decide) c_62)
      refine lv_iconst (v := 0) hx hb dX11_read_24 (by decide) ?_
      refine lv_istore_n (lv' := [(2, .int 0), (0, .ref xx), (1, .int (nI t))]) hx hb dX11_read_25 rfl hl (by decide) rfl (fun ls hl => ?_)
      refine lv_aload_n hx hb dX11_read_26 rfl (lv_at hl 1 rfl) ?_
      refine va_get (D := D) (ci := 11) (v := .ref tp) (C := RX11) (T := TX11) (N := 7) hx hb hts inlX11 hown hK hP 0 rfl rfl 1 (by decide) (hts _ mw_19) (fun _ h9 => h9) rfl dX11_read_27 ?_
      refine lv_iconst (v := 0) hx hb dX11_read_30 (by decide) ?_
      refine va_put (D := D) (ci := 8) (v := .int 0) (ty := tyX8 1) (C := RX8) (T := TX8) (N := 2) hx hb hts inlX8 tyX8 tyX8_ok nmX8 hown hK hP hD hS 7 rfl rfl 1 (by decide) (hts _ mw_223) (fun _ h9 => h9) rfl (tyX8_ok 1 (by decide)) rfl rfl (Nat.le_of_ble_eq_true rfl) dX11_read_31 (fun H locs hP hD hS => ?_)
      have hP : va_P D vwCl ([(xx, .inr (11, [.ref st, .ref tp, .ref ft, .ref rd, .ref wr, .ref st2, .int zi])), (st, .inr (6, [.ref d, .ref sh, .ref vw, .ref ta, .ref sa, .int (nI n)])), (sh, .inl (κ 4, 3, .inr (.inr (.inr (.inr fs))))), (vw, .inl (κ 5, 3, .inr (.inr (.inr (.inr fv))))), (ta, .inl (κ 0, 6, .inl fa)), (sa, .inl (κ 4, 6, .inr (.inr (.inr (.inr ga))))), (rd, .inr (4, [.ref tp, .ref d, .ref ft, .ref bl, .int ya__4, .int yc__5, .ref wk, .int (nI s__7), .ref fl, .ref sr, .int (nI n9__8), yv__6, .ref cl, .int (nI yr__9)])), (tp, .inr (8, [.ref tb, .int 0])), (tb, .inl (κ 0, 800, .inl tf)), (d, .inl (κ 0, 6, .inl dl)), (ft, .inr (2, [.int y0__14, .int y1__15, .int y2__16, .int y3__17, .int y4__18, .int y5__19])), (wk, .inl (κ 1, 20, .inl g__10)), (fl, .inl (κ 2, 8, .inr (.inr (.inr (.inr gf__11))))), (sr, .inl (κ 0, 8, .inl gs__12)), (cl, .inl (κ 2, 320, .inr (.inr (.inr (.inr gc__13)))))] ++ im2__20) H := hP
      have hD : va_D A ([(xx, .inr (11, [.ref st, .ref tp, .ref ft, .ref rd, .ref wr, .ref st2, .int zi])), (st, .inr (6, [.ref d, .ref sh, .ref vw, .ref ta, .ref sa, .int (nI n)])), (sh, .inl (κ 4, 3, .inr (.inr (.inr (.inr fs))))), (vw, .inl (κ 5, 3, .inr (.inr (.inr (.inr fv))))), (ta, .inl (κ 0, 6, .inl fa)), (sa, .inl (κ 4, 6, .inr (.inr (.inr (.inr ga))))), (rd, .inr (4, [.ref tp, .ref d, .ref ft, .ref bl, .int ya__4, .int yc__5, .ref wk, .int (nI s__7), .ref fl, .ref sr, .int (nI n9__8), yv__6, .ref cl, .int (nI yr__9)])), (tp, .inr (8, [.ref tb, .int 0])), (tb, .inl (κ 0, 800, .inl tf)), (d, .inl (κ 0, 6, .inl dl)), (ft, .inr (2, [.int y0__14, .int y1__15, .int y2__16, .int y3__17, .int y4__18, .int y5__19])), (wk, .inl (κ 1, 20, .inl g__10)), (fl, .inl (κ 2, 8, .inr (.inr (.inr (.inr gf__11))))), (sr, .inl (κ 0, 8, .inl gs__12)), (cl, .inl (κ 2, 320, .inr (.inr (.inr (.inr gc__13)))))] ++ im2__20) := hD
      refine lv_iload_n hx hb dX11_read_34 rfl (lv_at hl 0 rfl) ?_
      refine lv_if_eq (tgt := 48) hx hb dX11_read_35 (by decide) (fun c_63 => ?_) (fun c_63 => absurd (by decide) c_63)
      refine lv_null hx hb dX11_read_48 ?_
      refine lv_astore_nN (lv' := [(3, .null), (2, .int 0), (0, .ref xx), (1, .int (nI t))]) hx hb dX11_read_49 rfl hl (by decide) rfl (fun ls hl => ?_)
      refine lv_aload_nN hx hb dX11_read_50 rfl (lv_at hl 0 rfl) ?_
      refine lv_ifnonnullN hx hb dX11_read_51 ?_
      refine lv_iconst (v := (-1)) hx hb dX11_read_54 (by decide) ?_
      exact et_iret hx hb hr hlk rfl hS ((-1), n, fs, fv, fa, ga, ya__4, yc__5, s__7, n9__8, yv__6, yr__9, g__10, gf__11, gs__12, gc__13, y0__14, y1__15, y2__16, y3__17, y4__18, y5__19, im2__20) rfl ⟨(show n ≤ 6 from (by first | assumption | omega | rfl | exact Or.inl (by assumption) | exact Or.inr (by assumption))), (show Tb κ im2__20 fs fv 3 from htb), (show Rn 6 3 fa from (by first | assumption | omega | rfl | exact Or.inl (by assumption) | exact Or.inr (by assumption))), (show Ss κ im2__20 ga 6 from hss), (show s__7 ≤ 20 from (by first | assumption | omega | rfl | exact Or.inl (by assumption) | exact Or.inr (by assumption))), (show sb_Fit g__10 from (by first | assumption | omega | rfl | exact Or.inl (by assumption) | exact Or.inr (by assumption))), (show n9__8 ≤ 8 from (by first | assumption | omega | rfl | exact Or.inl (by assumption) | exact Or.inr (by assumption))), (show yr__9 ≤ 40 from (by first | assumption | omega | rfl | exact Or.inl (by assumption) | exact Or.inr (by assumption))), (show Sb im im2__20 from h_27), (show Lc κ im2__20 gf__11 n9__8 from h_28)⟩ (subP hP [0, 1, 2, 3, 4, 5, 6, 7, 8, 9, 10, 11, 12, 13, 14] rfl) (subD hD [0, 1, 2, 3, 4, 5, 6, 7, 8, 9, 10, 11, 12, 13, 14] (by decide) rfl) (Nat.le_of_ble_eq_true rfl) (Nat.le_of_ble_eq_true rfl) dX11_read_55
  · skip
    refine lv_iload_n hx hb dX11_read_0 rfl (lv_at hl 1 rfl) ?_
    refine er_S (As := [.int za]) (rest := []) hFX hKK hE hS (c_X6_isPlace_x l D κ κq za (by assumption)) 1 gS_X11_75 hdS_X6_isPlace rfl rfl ⟨Nat.le_of_ble_eq_true rfl, Nat.le_of_ble_eq_true rfl⟩ rfl rfl (Nat.le_of_ble_eq_true rfl) dX11_read_1 ⟨Nat.le_of_ble_eq_true rfl, Nat.le_of_ble_eq_true rfl⟩ hl.1 (subP0 hP [] rfl) (fun _ hp_64 => ?_)
    refine W.eq (g2 := F0 m 4 ls [.int 0]) rfl ?_
    refine lv_if_eq (tgt := 24) hx hb dX11_read_4 (by decide) (fun c_65 => ?_) (fun c_65 => absurd (by decide) c_65)
    refine lv_iconst (v := 0) hx hb dX11_read_24 (by decide) ?_
    refine lv_istore_n (lv' := [(2, .int 0), (0, .ref xx), (1, .int za)]) hx hb dX11_read_25 rfl hl (by decide) rfl (fun ls hl => ?_)
    refine lv_aload_n hx hb dX11_read_26 rfl (lv_at hl 1 rfl) ?_
    refine va_get (D := D) (ci := 11) (v := .ref tp) (C := RX11) (T := TX11) (N := 7) hx hb hts inlX11 hown hK hP 0 rfl rfl 1 (by decide) (hts _ mw_19) (fun _ h9 => h9) rfl dX11_read_27 ?_
    refine lv_iconst (v := 0) hx hb dX11_read_30 (by decide) ?_
    refine va_put (D := D) (ci := 8) (v := .int 0) (ty := tyX8 1) (C := RX8) (T := TX8) (N := 2) hx hb hts inlX8 tyX8 tyX8_ok nmX8 hown hK hP hD hS 7 rfl rfl 1 (by decide) (hts _ mw_223) (fun _ h9 => h9) rfl (tyX8_ok 1 (by decide)) rfl rfl (Nat.le_of_ble_eq_true rfl) dX11_read_31 (fun H locs hP hD hS => ?_)
    have hP : va_P D vwCl ([(xx, .inr (11, [.ref st, .ref tp, .ref ft, .ref rd, .ref wr, .ref st2, .int zi])), (st, .inr (6, [.ref d, .ref sh, .ref vw, .ref ta, .ref sa, .int (nI n)])), (sh, .inl (κ 4, 3, .inr (.inr (.inr (.inr fs))))), (vw, .inl (κ 5, 3, .inr (.inr (.inr (.inr fv))))), (ta, .inl (κ 0, 6, .inl fa)), (sa, .inl (κ 4, 6, .inr (.inr (.inr (.inr ga))))), (rd, .inr (4, [.ref tp, .ref d, .ref ft, .ref bl, .int at0, .int ca, .ref wk, .int (nI sz), .ref fl, .ref sr, .int (nI cnt), cv, .ref cl, .int (nI rw)])), (tp, .inr (8, [.ref tb, .int 0])), (tb, .inl (κ 0, 800, .inl tf)), (d, .inl (κ 0, 6, .inl dl)), (ft, .inr (2, [.int f0, .int f1, .int f2, .int f3, .int f4, .int f5])), (wk, .inl (κ 1, 20, .inl wf)), (fl, .inl (κ 2, 8, .inr (.inr (.inr (.inr ff))))), (sr, .inl (κ 0, 8, .inl sf)), (cl, .inl (κ 2, 320, .inr (.inr (.inr (.inr fc)))))] ++ im) H := hP
    have hD : va_D A ([(xx, .inr (11, [.ref st, .ref tp, .ref ft, .ref rd, .ref wr, .ref st2, .int zi])), (st, .inr (6, [.ref d, .ref sh, .ref vw, .ref ta, .ref sa, .int (nI n)])), (sh, .inl (κ 4, 3, .inr (.inr (.inr (.inr fs))))), (vw, .inl (κ 5, 3, .inr (.inr (.inr (.inr fv))))), (ta, .inl (κ 0, 6, .inl fa)), (sa, .inl (κ 4, 6, .inr (.inr (.inr (.inr ga))))), (rd, .inr (4, [.ref tp, .ref d, .ref ft, .ref bl, .int at0, .int ca, .ref wk, .int (nI sz), .ref fl, .ref sr, .int (nI cnt), cv, .ref cl, .int (nI rw)])), (tp, .inr (8, [.ref tb, .int 0])), (tb, .inl (κ 0, 800, .inl tf)), (d, .inl (κ 0, 6, .inl dl)), (ft, .inr (2, [.int f0, .int f1, .int f2, .int f3, .int f4, .int f5])), (wk, .inl (κ 1, 20, .inl wf)), (fl, .inl (κ 2, 8, .inr (.inr (.inr (.inr ff))))), (sr, .inl (κ 0, 8, .inl sf)), (cl, .inl (κ 2, 320, .inr (.inr (.inr (.inr fc)))))] ++ im) := hD
    refine lv_iload_n hx hb dX11_read_34 rfl (lv_at hl 0 rfl) ?_
    refine lv_if_eq (tgt := 48) hx hb dX11_read_35 (by decide) (fun c_66 => ?_) (fun c_66 => absurd (by decide) c_66)
    refine lv_null hx hb dX11_read_48 ?_
    refine lv_astore_nN (lv' := [(3, .null), (2, .int 0), (0, .ref xx), (1, .int za)]) hx hb dX11_read_49 rfl hl (by decide) rfl (fun ls hl => ?_)
    refine lv_aload_nN hx hb dX11_read_50 rfl (lv_at hl 0 rfl) ?_
    refine lv_ifnonnullN hx hb dX11_read_51 ?_
    refine lv_iconst (v := (-1)) hx hb dX11_read_54 (by decide) ?_
    exact et_iret hx hb hr hlk rfl hS ((-1), n, fs, fv, fa, ga, at0, ca, sz, cnt, cv, rw, wf, ff, sf, fc, f0, f1, f2, f3, f4, f5, im) rfl ⟨(show n ≤ 6 from (by first | assumption | omega | rfl | exact Or.inl (by assumption) | exact Or.inr (by assumption))), (show Tb κ im fs fv 3 from htb), (show Rn 6 3 fa from (by first | assumption | omega | rfl | exact Or.inl (by assumption) | exact Or.inr (by assumption))), (show Ss κ im ga 6 from hss), (show sz ≤ 20 from (by first | assumption | omega | rfl | exact Or.inl (by assumption) | exact Or.inr (by assumption))), (show sb_Fit wf from (by first | assumption | omega | rfl | exact Or.inl (by assumption) | exact Or.inr (by assumption))), (show cnt ≤ 8 from (by first | assumption | omega | rfl | exact Or.inl (by assumption) | exact Or.inr (by assumption))), (show rw ≤ 40 from (by first | assumption | omega | rfl | exact Or.inl (by assumption) | exact Or.inr (by assumption))), (show Sb im im from Sb.rf), (show Lc κ im ff cnt from hlf)⟩ (subP hP [0, 1, 2, 3, 4, 5, 6, 7, 8, 9, 10, 11, 12, 13, 14] rfl) (subD hD [0, 1, 2, 3, 4, 5, 6, 7, 8, 9, 10, 11, 12, 13, 14] (by decide) rfl) (Nat.le_of_ble_eq_true rfl) (Nat.le_of_ble_eq_true rfl) dX11_read_55
set_option maxHeartbeats 4000000 in
set_option maxRecDepth 100000 in
theorem c_X11_row (l : Launch) (D : va_G) (κ : Nat → ClassId) (κq : Nat → Nat) (im : va_W) (xx : Nat) (tp : Nat) (ft : Nat) (rd : Nat) (wr : Nat) (st2 : Nat) (zi : Int32) (st : Nat) (d : Nat) (sh : Nat) (vw : Nat) (ta : Nat) (sa : Nat) (n : Nat) (fs : Nat → Option Nat) (fv : Nat → Option Nat) (fa : Nat → Int32) (ga : Nat → Option Nat) (tb : Nat) (L : Nat) (tf : Nat → Int32) (dl : Nat → Int32) (bl : Nat) (wk : Nat) (sz : Nat) (fl : Nat) (sr : Nat) (cnt : Nat) (cl : Nat) (rw : Nat) (at0 : Int32) (ca : Int32) (cv : Value) (wf : Nat → Int32) (ff : Nat → Option Nat) (sf : Nat → Int32) (fc : Nat → Option Nat) (f0 : Int32) (f1 : Int32) (f2 : Int32) (f3 : Int32) (f4 : Int32) (f5 : Int32) (kb : Nat) (nb : Nat) (za : Int32) (hn6 : n ≤ 6) (htb : Tb κ im fs fv 3) (hrn : Rn 6 3 fa) (hss : Ss κ im ga 6) (hL : L ≤ 800) (hsz : sz ≤ 20) (hwf : sb_Fit wf) (hbl : Cl κ im bl kb nb) (hc8 : cnt ≤ 8) (hlf : Lc κ im ff cnt) (hrw : rw ≤ 40) : Et l yX11_row (wl yX11_row cX11_row 4 (some .int)) { frames := 10, cells := 700, slots := 8600, locals := 215 } D κ κq [.ref xx, .int za] ([(xx, .inr (11, [.ref st, .ref tp, .ref ft, .ref rd, .ref wr, .ref st2, .int zi])), (st, .inr (6, [.ref d, .ref sh, .ref vw, .ref ta, .ref sa, .int (nI n)])), (sh, .inl (κ 4, 3, .inr (.inr (.inr (.inr fs))))), (vw, .inl (κ 5, 3, .inr (.inr (.inr (.inr fv))))), (ta, .inl (κ 0, 6, .inl fa)), (sa, .inl (κ 4, 6, .inr (.inr (.inr (.inr ga))))), (rd, .inr (4, [.ref tp, .ref d, .ref ft, .ref bl, .int at0, .int ca, .ref wk, .int (nI sz), .ref fl, .ref sr, .int (nI cnt), cv, .ref cl, .int (nI rw)])), (tp, .inr (8, [.ref tb, .int (nI L)])), (tb, .inl (κ 0, 800, .inl tf)), (d, .inl (κ 0, 6, .inl dl)), (ft, .inr (2, [.int f0, .int f1, .int f2, .int f3, .int f4, .int f5])), (wk, .inl (κ 1, 20, .inl wf)), (fl, .inl (κ 2, 8, .inr (.inr (.inr (.inr ff))))), (sr, .inl (κ 0, 8, .inl sf)), (cl, .inl (κ 2, 320, .inr (.inr (.inr (.inr fc)))))] ++ im) (fun u9 : Int32 × Nat × (Nat → Option Nat) × (Nat → Option Nat) × (Nat → Int32) × (Nat → Option Nat) × Int32 × Int32 × Nat × Nat × Value × Nat × (Nat → Int32) × (Nat → Option Nat) × (Nat → Int32) × (Nat → Option Nat) × Int32 × Int32 × Int32 × Int32 × Int32 × Int32 × va_W => some (.int u9.1)) (fun u9 : Int32 × Nat × (Nat → Option Nat) × (Nat → Option Nat) × (Nat → Int32) × (Nat → Option Nat) × Int32 × Int32 × Nat × Nat × Value × Nat × (Nat → Int32) × (Nat → Option Nat) × (Nat → Int32) × (Nat → Option Nat) × Int32 × Int32 × Int32 × Int32 × Int32 × Int32 × va_W => u9.2.1 ≤ 6 ∧ Tb κ u9.2.2.2.2.2.2.2.2.2.2.2.2.2.2.2.2.2.2.2.2.2.2 u9.2.2.1 u9.2.2.2.1 3 ∧ Rn 6 3 u9.2.2.2.2.1 ∧ Ss κ u9.2.2.2.2.2.2.2.2.2.2.2.2.2.2.2.2.2.2.2.2.2.2 u9.2.2.2.2.2.1 6 ∧ u9.2.2.2.2.2.2.2.2.1 ≤ 20 ∧ sb_Fit u9.2.2.2.2.2.2.2.2.2.2.2.2.1 ∧ u9.2.2.2.2.2.2.2.2.2.1 ≤ 8 ∧ u9.2.2.2.2.2.2.2.2.2.2.2.1 ≤ 40 ∧ Sb im u9.2.2.2.2.2.2.2.2.2.2.2.2.2.2.2.2.2.2.2.2.2.2 ∧ Lc κ u9.2.2.2.2.2.2.2.2.2.2.2.2.2.2.2.2.2.2.2.2.2.2 u9.2.2.2.2.2.2.2.2.2.2.2.2.2.1 u9.2.2.2.2.2.2.2.2.2.1) (fun u9 : Int32 × Nat × (Nat → Option Nat) × (Nat → Option Nat) × (Nat → Int32) × (Nat → Option Nat) × Int32 × Int32 × Nat × Nat × Value × Nat × (Nat → Int32) × (Nat → Option Nat) × (Nat → Int32) × (Nat → Option Nat) × Int32 × Int32 × Int32 × Int32 × Int32 × Int32 × va_W => ([(xx, .inr (11, [.ref st, .ref tp, .ref ft, .ref rd, .ref wr, .ref st2, .int zi])), (st, .inr (6, [.ref d, .ref sh, .ref vw, .ref ta, .ref sa, .int (nI u9.2.1)])), (sh, .inl (κ 4, 3, .inr (.inr (.inr (.inr u9.2.2.1))))), (vw, .inl (κ 5, 3, .inr (.inr (.inr (.inr u9.2.2.2.1))))), (ta, .inl (κ 0, 6, .inl u9.2.2.2.2.1)), (sa, .inl (κ 4, 6, .inr (.inr (.inr (.inr u9.2.2.2.2.2.1))))), (rd, .inr (4, [.ref tp, .ref d, .ref ft, .ref bl, .int u9.2.2.2.2.2.2.1, .int u9.2.2.2.2.2.2.2.1, .ref wk, .int (nI u9.2.2.2.2.2.2.2.2.1), .ref fl, .ref sr, .int (nI u9.2.2.2.2.2.2.2.2.2.1), u9.2.2.2.2.2.2.2.2.2.2.1, .ref cl, .int (nI u9.2.2.2.2.2.2.2.2.2.2.2.1)])), (tp, .inr (8, [.ref tb, .int 0])), (tb, .inl (κ 0, 800, .inl tf)), (d, .inl (κ 0, 6, .inl dl)), (ft, .inr (2, [.int u9.2.2.2.2.2.2.2.2.2.2.2.2.2.2.2.2.1, .int u9.2.2.2.2.2.2.2.2.2.2.2.2.2.2.2.2.2.1, .int u9.2.2.2.2.2.2.2.2.2.2.2.2.2.2.2.2.2.2.1, .int u9.2.2.2.2.2.2.2.2.2.2.2.2.2.2.2.2.2.2.2.1, .int u9.2.2.2.2.2.2.2.2.2.2.2.2.2.2.2.2.2.2.2.2.1, .int u9.2.2.2.2.2.2.2.2.2.2.2.2.2.2.2.2.2.2.2.2.2.1])), (wk, .inl (κ 1, 20, .inl u9.2.2.2.2.2.2.2.2.2.2.2.2.1)), (fl, .inl (κ 2, 8, .inr (.inr (.inr (.inr u9.2.2.2.2.2.2.2.2.2.2.2.2.2.1))))), (sr, .inl (κ 0, 8, .inl u9.2.2.2.2.2.2.2.2.2.2.2.2.2.2.1)), (cl, .inl (κ 2, 320, .inr (.inr (.inr (.inr u9.2.2.2.2.2.2.2.2.2.2.2.2.2.2.2.1)))))] ++ u9.2.2.2.2.2.2.2.2.2.2.2.2.2.2.2.2.2.2.2.2.2.2)) := by
  refine et_of (by decide +kernel) (Nat.le_of_ble_eq_true rfl) ?_
  intro p e s m args below meth c A ls hx hb hr hml hts hown hlk hin hKK hK hA hP hD hS hE hl
  have hS : va_S A s.heap s.heap [] := hS
  have hP : va_P D vwCl ([(xx, .inr (11, [.ref st, .ref tp, .ref ft, .ref rd, .ref wr, .ref st2, .int zi])), (st, .inr (6, [.ref d, .ref sh, .ref vw, .ref ta, .ref sa, .int (nI n)])), (sh, .inl (κ 4, 3, .inr (.inr (.inr (.inr fs))))), (vw, .inl (κ 5, 3, .inr (.inr (.inr (.inr fv))))), (ta, .inl (κ 0, 6, .inl fa)), (sa, .inl (κ 4, 6, .inr (.inr (.inr (.inr ga))))), (rd, .inr (4, [.ref tp, .ref d, .ref ft, .ref bl, .int at0, .int ca, .ref wk, .int (nI sz), .ref fl, .ref sr, .int (nI cnt), cv, .ref cl, .int (nI rw)])), (tp, .inr (8, [.ref tb, .int (nI L)])), (tb, .inl (κ 0, 800, .inl tf)), (d, .inl (κ 0, 6, .inl dl)), (ft, .inr (2, [.int f0, .int f1, .int f2, .int f3, .int f4, .int f5])), (wk, .inl (κ 1, 20, .inl wf)), (fl, .inl (κ 2, 8, .inr (.inr (.inr (.inr ff))))), (sr, .inl (κ 0, 8, .inl sf)), (cl, .inl (κ 2, 320, .inr (.inr (.inr (.inr fc)))))] ++ im) s.heap := hP
  have hD : va_D A ([(xx, .inr (11, [.ref st, .ref tp, .ref ft, .ref rd, .ref wr, .ref st2, .int zi])), (st, .inr (6, [.ref d, .ref sh, .ref vw, .ref ta, .ref sa, .int (nI n)])), (sh, .inl (κ 4, 3, .inr (.inr (.inr (.inr fs))))), (vw, .inl (κ 5, 3, .inr (.inr (.inr (.inr fv))))), (ta, .inl (κ 0, 6, .inl fa)), (sa, .inl (κ 4, 6, .inr (.inr (.inr (.inr ga))))), (rd, .inr (4, [.ref tp, .ref d, .ref ft, .ref bl, .int at0, .int ca, .ref wk, .int (nI sz), .ref fl, .ref sr, .int (nI cnt), cv, .ref cl, .int (nI rw)])), (tp, .inr (8, [.ref tb, .int (nI L)])), (tb, .inl (κ 0, 800, .inl tf)), (d, .inl (κ 0, 6, .inl dl)), (ft, .inr (2, [.int f0, .int f1, .int f2, .int f3, .int f4, .int f5])), (wk, .inl (κ 1, 20, .inl wf)), (fl, .inl (κ 2, 8, .inr (.inr (.inr (.inr ff))))), (sr, .inl (κ 0, 8, .inl sf)), (cl, .inl (κ 2, 320, .inr (.inr (.inr (.inr fc)))))] ++ im) := hD
  have hFX : FX p s m args c cX11_row 4 RX11 := ⟨hx, hb, hml, hown, hts⟩
  have hl : lv_has ls 4 [(0, .ref xx), (1, .int za)] := hl
  rcases pl_cases za with ⟨t, ht_t, rfl⟩ | hnp_za
  · skip
    rcases htb t (by omega) with ⟨e_1, e_2⟩ | ⟨a_3, R_4, w_5, d_6, v_7, e_1, e_2, h_8, h_9, hd_10⟩
    · skip
      refine lv_aload_n hx hb dX11_row_0 rfl (lv_at hl 0 rfl) ?_
      refine va_get (D := D) (ci := 11) (v := .ref st) (C := RX11) (T := TX11) (N := 7) hx hb hts inlX11 hown hK hP 0 rfl rfl 0 (by decide) (hts _ mw_15) (fun _ h9 => h9) rfl dX11_row_1 ?_
      refine lv_iload_n hx hb dX11_row_4 rfl (lv_at hl 1 rfl) ?_
      refine er_V (As := [.int (nI t)]) (rest := []) hFX hKK hE hS (c_X6_sheetOf_n l D κ κq st d sh vw ta sa n fs t (by omega) e_1) 1 gV_X11_114 hdV_X6_sheetOf rfl rfl ⟨Nat.le_of_ble_eq_true rfl, Nat.le_of_ble_eq_true rfl⟩ rfl rfl (Nat.le_of_ble_eq_true rfl) dX11_row_5 ⟨Nat.le_of_ble_eq_true rfl, Nat.le_of_ble_eq_true rfl⟩ hl.1 hP 1 6 rfl rfl rfl (subP0 hP [1, 2] rfl) (fun _ hp_11 => ?_)
      refine W.eq (g2 := F0 m 8 ls [.null]) rfl ?_
      refine lv_astore_nN (lv' := [(2, .null), (0, .ref xx), (1, .int (nI t))]) hx hb dX11_row_8 rfl hl (by decide) rfl (fun ls hl => ?_)
      refine lv_iconst (v := 0) hx hb dX11_row_9 (by decide) ?_
      refine lv_istore_n (lv' := [(3, .int 0), (2, .null), (0, .ref xx), (1, .int (nI t))]) hx hb dX11_row_10 rfl hl (by decide) rfl (fun ls hl => ?_)
      refine lv_aload_nN hx hb dX11_row_11 rfl (lv_at hl 1 rfl) ?_
      refine lv_ifnullN (tgt := 42) hx hb dX11_row_12 (by decide) ?_
      refine lv_aload_nN hx hb dX11_row_42 rfl (lv_at hl 1 rfl) ?_
      refine lv_ifnullN (tgt := 59) hx hb dX11_row_43 (by decide) ?_
      refine lv_aload_n hx hb dX11_row_59 rfl (lv_at hl 2 rfl) ?_
      refine va_get (D := D) (ci := 11) (v := .ref tp) (C := RX11) (T := TX11) (N := 7) hx hb hts inlX11 hown hK hP 0 rfl rfl 1 (by decide) (hts _ mw_19) (fun _ h9 => h9) rfl dX11_row_60 ?_
      refine lv_iconst (v := 0) hx hb dX11_row_63 (by decide) ?_
      refine va_put (D := D) (ci := 8) (v := .int 0) (ty := tyX8 1) (C := RX8) (T := TX8) (N := 2) hx hb hts inlX8 tyX8 tyX8_ok nmX8 hown hK hP hD hS 7 rfl rfl 1 (by decide) (hts _ mw_223) (fun _ h9 => h9) rfl (tyX8_ok 1 (by decide)) rfl rfl (Nat.le_of_ble_eq_true rfl) dX11_row_64 (fun H locs hP hD hS => ?_)
      have hP : va_P D vwCl ([(xx, .inr (11, [.ref st, .ref tp, .ref ft, .ref rd, .ref wr, .ref st2, .int zi])), (st, .inr (6, [.ref d, .ref sh, .ref vw, .ref ta, .ref sa, .int (nI n)])), (sh, .inl (κ 4, 3, .inr (.inr (.inr (.inr fs))))), (vw, .inl (κ 5, 3, .inr (.inr (.inr (.inr fv))))), (ta, .inl (κ 0, 6, .inl fa)), (sa, .inl (κ 4, 6, .inr (.inr (.inr (.inr ga))))), (rd, .inr (4, [.ref tp, .ref d, .ref ft, .ref bl, .int at0, .int ca, .ref wk, .int (nI sz), .ref fl, .ref sr, .int (nI cnt), cv, .ref cl, .int (nI rw)])), (tp, .inr (8, [.ref tb, .int 0])), (tb, .inl (κ 0, 800, .inl tf)), (d, .inl (κ 0, 6, .inl dl)), (ft, .inr (2, [.int f0, .int f1, .int f2, .int f3, .int f4, .int f5])), (wk, .inl (κ 1, 20, .inl wf)), (fl, .inl (κ 2, 8, .inr (.inr (.inr (.inr ff))))), (sr, .inl (κ 0, 8, .inl sf)), (cl, .inl (κ 2, 320, .inr (.inr (.inr (.inr fc)))))] ++ im) H := hP
      have hD : va_D A ([(xx, .inr (11, [.ref st, .ref tp, .ref ft, .ref rd, .ref wr, .ref st2, .int zi])), (st, .inr (6, [.ref d, .ref sh, .ref vw, .ref ta, .ref sa, .int (nI n)])), (sh, .inl (κ 4, 3, .inr (.inr (.inr (.inr fs))))), (vw, .inl (κ 5, 3, .inr (.inr (.inr (.inr fv))))), (ta, .inl (κ 0, 6, .inl fa)), (sa, .inl (κ 4, 6, .inr (.inr (.inr (.inr ga))))), (rd, .inr (4, [.ref tp, .ref d, .ref ft, .ref bl, .int at0, .int ca, .ref wk, .int (nI sz), .ref fl, .ref sr, .int (nI cnt), cv, .ref cl, .int (nI rw)])), (tp, .inr (8, [.ref tb, .int 0])), (tb, .inl (κ 0, 800, .inl tf)), (d, .inl (κ 0, 6, .inl dl)), (ft, .inr (2, [.int f0, .int f1, .int f2, .int f3, .int f4, .int f5])), (wk, .inl (κ 1, 20, .inl wf)), (fl, .inl (κ 2, 8, .inr (.inr (.inr (.inr ff))))), (sr, .inl (κ 0, 8, .inl sf)), (cl, .inl (κ 2, 320, .inr (.inr (.inr (.inr fc)))))] ++ im) := hD
      refine lv_aload_nN hx hb dX11_row_67 rfl (lv_at hl 1 rfl) ?_
      refine lv_ifnullN (tgt := 89) hx hb dX11_row_68 (by decide) ?_
      refine lv_iconst (v := (-1)) hx hb dX11_row_89 (by decide) ?_
      exact et_iret hx hb hr hlk rfl hS ((-1), n, fs, fv, fa, ga, at0, ca, sz, cnt, cv, rw, wf, ff, sf, fc, f0, f1, f2, f3, f4, f5, im) rfl ⟨(show n ≤ 6 from (by first | assumption | omega | rfl | exact Or.inl (by assumption) | exact Or.inr (by assumption))), (show Tb κ im fs fv 3 from htb), (show Rn 6 3 fa from (by first | assumption | omega | rfl | exact Or.inl (by assumption) | exact Or.inr (by assumption))), (show Ss κ im ga 6 from hss), (show sz ≤ 20 from (by first | assumption | omega | rfl | exact Or.inl (by assumption) | exact Or.inr (by assumption))), (show sb_Fit wf from (by first | assumption | omega | rfl | exact Or.inl (by assumption) | exact Or.inr (by assumption))), (show cnt ≤ 8 from (by first | assumption | omega | rfl | exact Or.inl (by assumption) | exact Or.inr (by assumption))), (show rw ≤ 40 from (by first | assumption | omega | rfl | exact Or.inl (by assumption) | exact Or.inr (by assumption))), (show Sb im im from Sb.rf), (show Lc κ im ff cnt from hlf)⟩ (subP hP [0, 1, 2, 3, 4, 5, 6, 7, 8, 9, 10, 11, 12, 13, 14] rfl) (subD hD [0, 1, 2, 3, 4, 5, 6, 7, 8, 9, 10, 11, 12, 13, 14] (by decide) rfl) (Nat.le_of_ble_eq_true rfl) (Nat.le_of_ble_eq_true rfl) dX11_row_90
    · have hle_a_3 := h_8.le
      refine lv_aload_n hx hb dX11_row_0 rfl (lv_at hl 0 rfl) ?_
      refine va_get (D := D) (ci := 11) (v := .ref st) (C := RX11) (T := TX11) (N := 7) hx hb hts inlX11 hown hK hP 0 rfl rfl 0 (by decide) (hts _ mw_15) (fun _ h9 => h9) rfl dX11_row_1 ?_
      refine lv_iload_n hx hb dX11_row_4 rfl (lv_at hl 1 rfl) ?_
      refine er_V (As := [.int (nI t)]) (rest := []) hFX hKK hE hS (c_X6_sheetOf_s l D κ κq st d sh vw ta sa n fs t a_3 (by omega) e_1) 1 gV_X11_114 hdV_X6_sheetOf rfl rfl ⟨Nat.le_of_ble_eq_true rfl, Nat.le_of_ble_eq_true rfl⟩ rfl rfl (Nat.le_of_ble_eq_true rfl) dX11_row_5 ⟨Nat.le_of_ble_eq_true rfl, Nat.le_of_ble_eq_true rfl⟩ hl.1 hP 1 6 rfl rfl rfl (subP0 hP [1, 2] rfl) (fun _ hp_12 => ?_)
      refine W.eq (g2 := F0 m 8 ls [.ref a_3]) rfl ?_
      refine lv_astore_n (lv' := [(2, .ref a_3), (0, .ref xx), (1, .int (nI t))]) hx hb dX11_row_8 rfl hl (by decide) rfl (fun ls hl => ?_)
      refine lv_iconst (v := 0) hx hb dX11_row_9 (by decide) ?_
      refine lv_istore_n (lv' := [(3, .int 0), (2, .ref a_3), (0, .ref xx), (1, .int (nI t))]) hx hb dX11_row_10 rfl hl (by decide) rfl (fun ls hl => ?_)
      refine lv_aload_n hx hb dX11_row_11 rfl (lv_at hl 1 rfl) ?_
      refine lv_ifnull hx hb dX11_row_12 ?_
      refine lv_aload_n hx hb dX11_row_15 rfl (lv_at hl 1 rfl) ?_
      obtain ⟨hb_13, c_14, x_15, v_16, g_17, h_18, hm_19, hm_20, hm_21, lo_22, lc_23, vw_24⟩ := id h_8
      obtain ⟨hb_13_1, hb_13_2, hb_13_3⟩ := hb_13
      have hrw_hb_13 := rw_le hb_13_1 hb_13_3
      refine va_get (D := D) (ci := 5) (v := .int (nI R_4)) (C := RX5) (T := TX5) (N := 4) hx hb hts inlX5 hown hK (oneP (C := [(xx, .inr (11, [.ref st, .ref tp, .ref ft, .ref rd, .ref wr, .ref st2, .int zi])), (st, .inr (6, [.ref d, .ref sh, .ref vw, .ref ta, .ref sa, .int (nI n)])), (sh, .inl (κ 4, 3, .inr (.inr (.inr (.inr fs))))), (vw, .inl (κ 5, 3, .inr (.inr (.inr (.inr fv))))), (ta, .inl (κ 0, 6, .inl fa)), (sa, .inl (κ 4, 6, .inr (.inr (.inr (.inr ga))))), (rd, .inr (4, [.ref tp, .ref d, .ref ft, .ref bl, .int at0, .int ca, .ref wk, .int (nI sz), .ref fl, .ref sr, .int (nI cnt), cv, .ref cl, .int (nI rw)])), (tp, .inr (8, [.ref tb, .int (nI L)])), (tb, .inl (κ 0, 800, .inl tf)), (d, .inl (κ 0, 6, .inl dl)), (ft, .inr (2, [.int f0, .int f1, .int f2, .int f3, .int f4, .int f5])), (wk, .inl (κ 1, 20, .inl wf)), (fl, .inl (κ 2, 8, .inr (.inr (.inr (.inr ff))))), (sr, .inl (κ 0, 8, .inl sf)), (cl, .inl (κ 2, 320, .inr (.inr (.inr (.inr fc)))))]) hP hm_19) 0 rfl rfl 2 (by decide) (hts _ mw_253) (fun _ h9 => h9) rfl dX11_row_16 ?_
      refine lv_bipush (v := 40) hx hb dX11_row_19 (by decide) ?_
      refine lv_icmp_lt (tgt := 42) hx hb dX11_row_21 (by decide) (fun c_25 => ?_) (fun c_25 => ?_)
      · have nc_25 := cv_lt (a := R_4) (b := 40) (by omega) (by omega) c_25
        refine lv_aload_n hx hb dX11_row_42 rfl (lv_at hl 1 rfl) ?_
        refine lv_ifnull hx hb dX11_row_43 ?_
        refine lv_aload_n hx hb dX11_row_46 rfl (lv_at hl 2 rfl) ?_
        refine va_get (D := D) (ci := 11) (v := .ref rd) (C := RX11) (T := TX11) (N := 7) hx hb hts inlX11 hown hK hP 0 rfl rfl 3 (by decide) (hts _ mw_28) (fun _ h9 => h9) rfl dX11_row_47 ?_
        refine lv_aload_n hx hb dX11_row_50 rfl (lv_at hl 1 rfl) ?_
        refine va_get (D := D) (ci := 5) (v := .ref c_14) (C := RX5) (T := TX5) (N := 4) hx hb hts inlX5 hown hK (oneP (C := [(xx, .inr (11, [.ref st, .ref tp, .ref ft, .ref rd, .ref wr, .ref st2, .int zi])), (st, .inr (6, [.ref d, .ref sh, .ref vw, .ref ta, .ref sa, .int (nI n)])), (sh, .inl (κ 4, 3, .inr (.inr (.inr (.inr fs))))), (vw, .inl (κ 5, 3, .inr (.inr (.inr (.inr fv))))), (ta, .inl (κ 0, 6, .inl fa)), (sa, .inl (κ 4, 6, .inr (.inr (.inr (.inr ga))))), (rd, .inr (4, [.ref tp, .ref d, .ref ft, .ref bl, .int at0, .int ca, .ref wk, .int (nI sz), .ref fl, .ref sr, .int (nI cnt), cv, .ref cl, .int (nI rw)])), (tp, .inr (8, [.ref tb, .int (nI L)])), (tb, .inl (κ 0, 800, .inl tf)), (d, .inl (κ 0, 6, .inl dl)), (ft, .inr (2, [.int f0, .int f1, .int f2, .int f3, .int f4, .int f5])), (wk, .inl (κ 1, 20, .inl wf)), (fl, .inl (κ 2, 8, .inr (.inr (.inr (.inr ff))))), (sr, .inl (κ 0, 8, .inl sf)), (cl, .inl (κ 2, 320, .inr (.inr (.inr (.inr fc)))))]) hP hm_19) 0 rfl rfl 0 (by decide) (hts _ mw_559) (fun _ h9 => h9) rfl dX11_row_51 ?_
        refine lv_iconst (v := 1) hx hb dX11_row_54 (by decide) ?_
        refine et_VT (CR := [(xx, .inr (11, [.ref st, .ref tp, .ref ft, .ref rd, .ref wr, .ref st2, .int zi])), (st, .inr (6, [.ref d, .ref sh, .ref vw, .ref ta, .ref sa, .int (nI n)])), (sh, .inl (κ 4, 3, .inr (.inr (.inr (.inr fs))))), (vw, .inl (κ 5, 3, .inr (.inr (.inr (.inr fv))))), (ta, .inl (κ 0, 6, .inl fa)), (sa, .inl (κ 4, 6, .inr (.inr (.inr (.inr ga)))))]) (As := [.ref c_14, .int 1]) (rest := []) hFX hKK hE hP hD hS hA (c_X4_readLines_r l D κ κq im rd tp d ft bl wk sz fl sr cnt cl rw ca cv tb L tf dl wf ff sf fc kb nb at0 f0 f1 f2 f3 f4 f5 c_14 w_5 1 (by omega) (by omega) hwf hbl (by omega) hlf ⟨_, hm_20, lo_22⟩ (by omega) (by omega) (by omega)) 2 gV_X11_78 hdV_X4_readLines ⟨Nat.le_of_ble_eq_true rfl, Nat.le_of_ble_eq_true rfl⟩ rfl rfl (Nat.le_of_ble_eq_true rfl) dX11_row_55 ⟨Nat.le_of_ble_eq_true rfl, Nat.le_of_ble_eq_true rfl⟩ hl.1 [6, 7, 8, 9, 10, 11, 12, 13, 14] [0, 1, 2, 3, 4, 5] rfl rfl (by decide) (by decide) (by decide) hP 6 4 rfl rfl rfl (fun u_43 H locs hp_44 hP hD hS => ?_)
        refine W.widen (k := 656) (n := 7872) (Nat.le_refl _) (Nat.le_refl _) ?_
        obtain ⟨r__26, ya__27, yc__28, s__29, n9__30, yr__31, g__32, gf__33, gs__34, gc__35, y0__36, y1__37, y2__38, y3__39, y4__40, y5__41, im2__42⟩ := u_43
        replace hP : va_P D vwCl ([(xx, .inr (11, [.ref st, .ref tp, .ref ft, .ref rd, .ref wr, .ref st2, .int zi])), (st, .inr (6, [.ref d, .ref sh, .ref vw, .ref ta, .ref sa, .int (nI n)])), (sh, .inl (κ 4, 3, .inr (.inr (.inr (.inr fs))))), (vw, .inl (κ 5, 3, .inr (.inr (.inr (.inr fv))))), (ta, .inl (κ 0, 6, .inl fa)), (sa, .inl (κ 4, 6, .inr (.inr (.inr (.inr ga))))), (rd, .inr (4, [.ref tp, .ref d, .ref ft, .ref bl, .int ya__27, .int yc__28, .ref wk, .int (nI s__29), .ref fl, .ref sr, .int (nI n9__30), .ref c_14, .ref cl, .int (nI yr__31)])), (tp, .inr (8, [.ref tb, .int (nI L)])), (tb, .inl (κ 0, 800, .inl tf)), (d, .inl (κ 0, 6, .inl dl)), (ft, .inr (2, [.int y0__36, .int y1__37, .int y2__38, .int y3__39, .int y4__40, .int y5__41])), (wk, .inl (κ 1, 20, .inl g__32)), (fl, .inl (κ 2, 8, .inr (.inr (.inr (.inr gf__33))))), (sr, .inl (κ 0, 8, .inl gs__34)), (cl, .inl (κ 2, 320, .inr (.inr (.inr (.inr gc__35)))))] ++ im2__42) H := subP (C := [(xx, .inr (11, [.ref st, .ref tp, .ref ft, .ref rd, .ref wr, .ref st2, .int zi])), (st, .inr (6, [.ref d, .ref sh, .ref vw, .ref ta, .ref sa, .int (nI n)])), (sh, .inl (κ 4, 3, .inr (.inr (.inr (.inr fs))))), (vw, .inl (κ 5, 3, .inr (.inr (.inr (.inr fv))))), (ta, .inl (κ 0, 6, .inl fa)), (sa, .inl (κ 4, 6, .inr (.inr (.inr (.inr ga))))), (rd, .inr (4, [.ref tp, .ref d, .ref ft, .ref bl, .int ya__27, .int yc__28, .ref wk, .int (nI s__29), .ref fl, .ref sr, .int (nI n9__30), .ref c_14, .ref cl, .int (nI yr__31)])), (tp, .inr (8, [.ref tb, .int (nI L)])), (tb, .inl (κ 0, 800, .inl tf)), (d, .inl (κ 0, 6, .inl dl)), (ft, .inr (2, [.int y0__36, .int y1__37, .int y2__38, .int y3__39, .int y4__40, .int y5__41])), (wk, .inl (κ 1, 20, .inl g__32)), (fl, .inl (κ 2, 8, .inr (.inr (.inr (.inr gf__33))))), (sr, .inl (κ 0, 8, .inl gs__34)), (cl, .inl (κ 2, 320, .inr (.inr (.inr (.inr gc__35)))))]) hP [0, 1, 2, 3, 4, 5, 6, 7, 8, 9, 10, 11, 12, 13, 14] rfl
        replace hD : va_D A ([(xx, .inr (11, [.ref st, .ref tp, .ref ft, .ref rd, .ref wr, .ref st2, .int zi])), (st, .inr (6, [.ref d, .ref sh, .ref vw, .ref ta, .ref sa, .int (nI n)])), (sh, .inl (κ 4, 3, .inr (.inr (.inr (.inr fs))))), (vw, .inl (κ 5, 3, .inr (.inr (.inr (.inr fv))))), (ta, .inl (κ 0, 6, .inl fa)), (sa, .inl (κ 4, 6, .inr (.inr (.inr (.inr ga))))), (rd, .inr (4, [.ref tp, .ref d, .ref ft, .ref bl, .int ya__27, .int yc__28, .ref wk, .int (nI s__29), .ref fl, .ref sr, .int (nI n9__30), .ref c_14, .ref cl, .int (nI yr__31)])), (tp, .inr (8, [.ref tb, .int (nI L)])), (tb, .inl (κ 0, 800, .inl tf)), (d, .inl (κ 0, 6, .inl dl)), (ft, .inr (2, [.int y0__36, .int y1__37, .int y2__38, .int y3__39, .int y4__40, .int y5__41])), (wk, .inl (κ 1, 20, .inl g__32)), (fl, .inl (κ 2, 8, .inr (.inr (.inr (.inr gf__33))))), (sr, .inl (κ 0, 8, .inl gs__34)), (cl, .inl (κ 2, 320, .inr (.inr (.inr (.inr gc__35)))))] ++ im2__42) := subD (C := [(xx, .inr (11, [.ref st, .ref tp, .ref ft, .ref rd, .ref wr, .ref st2, .int zi])), (st, .inr (6, [.ref d, .ref sh, .ref vw, .ref ta, .ref sa, .int (nI n)])), (sh, .inl (κ 4, 3, .inr (.inr (.inr (.inr fs))))), (vw, .inl (κ 5, 3, .inr (.inr (.inr (.inr fv))))), (ta, .inl (κ 0, 6, .inl fa)), (sa, .inl (κ 4, 6, .inr (.inr (.inr (.inr ga))))), (rd, .inr (4, [.ref tp, .ref d, .ref ft, .ref bl, .int ya__27, .int yc__28, .ref wk, .int (nI s__29), .ref fl, .ref sr, .int (nI n9__30), .ref c_14, .ref cl, .int (nI yr__31)])), (tp, .inr (8, [.ref tb, .int (nI L)])), (tb, .inl (κ 0, 800, .inl tf)), (d, .inl (κ 0, 6, .inl dl)), (ft, .inr (2, [.int y0__36, .int y1__37, .int y2__38, .int y3__39, .int y4__40, .int y5__41])), (wk, .inl (κ 1, 20, .inl g__32)), (fl, .inl (κ 2, 8, .inr (.inr (.inr (.inr gf__33))))), (sr, .inl (κ 0, 8, .inl gs__34)), (cl, .inl (κ 2, 320, .inr (.inr (.inr (.inr gc__35)))))]) hD [0, 1, 2, 3, 4, 5, 6, 7, 8, 9, 10, 11, 12, 13, 14] (by decide) rfl
        replace hp_44 : s__29 ≤ 20 ∧ sb_Fit g__32 ∧ n9__30 ≤ 8 ∧ yr__31 ≤ 40 ∧ Sb im im2__42 ∧ Lc κ im2__42 gf__33 n9__30 ∧ ((r__26 = 1 ∧ 1 ≤ yr__31 ∧ yr__31 ≤ 1 ∧ Lc κ im2__42 gc__35 (yr__31 * w_5)) ∨ (r__26 = 0)) := hp_44
        obtain ⟨h_45, h_46, h_47, h_48, h_49, h_50, ha_51⟩ := hp_44
        replace htb := htb.up h_49
        replace hss := hss.up h_49
        replace hbl := hbl.up h_49
        replace hlf := hlf.up h_49
        replace h_8 := h_8.up h_49
        replace h_9 := h_9.up h_49
        replace lo_22 := lo_22.up h_49
        replace lc_23 := lc_23.up h_49
        replace vw_24 := vw_24.up h_49
        replace hm_19 := h_49 _ hm_19
        replace hm_20 := h_49 _ hm_20
        replace hm_21 := h_49 _ hm_21
        rcases ha_51 with ⟨rfl, a_52, a_53, a_54⟩ | rfl
        · refine W.eq (g2 := F0 m 58 ls [.int 1]) rfl ?_
          refine lv_istore_n (lv' := [(3, .int 1), (2, .ref a_3), (0, .ref xx), (1, .int (nI t))]) hx hb dX11_row_58 rfl hl (by decide) rfl (fun ls hl => ?_)
          refine lv_aload_n hx hb dX11_row_59 rfl (lv_at hl 2 rfl) ?_
          refine va_get (D := D) (ci := 11) (v := .ref tp) (C := RX11) (T := TX11) (N := 7) hx hb hts inlX11 hown hK hP 0 rfl rfl 1 (by decide) (hts _ mw_19) (fun _ h9 => h9) rfl dX11_row_60 ?_
          refine lv_iconst (v := 0) hx hb dX11_row_63 (by decide) ?_
          refine va_put (D := D) (ci := 8) (v := .int 0) (ty := tyX8 1) (C := RX8) (T := TX8) (N := 2) hx hb hts inlX8 tyX8 tyX8_ok nmX8 hown hK hP hD hS 7 rfl rfl 1 (by decide) (hts _ mw_223) (fun _ h9 => h9) rfl (tyX8_ok 1 (by decide)) rfl rfl (Nat.le_of_ble_eq_true rfl) dX11_row_64 (fun H locs hP hD hS => ?_)
          have hP : va_P D vwCl ([(xx, .inr (11, [.ref st, .ref tp, .ref ft, .ref rd, .ref wr, .ref st2, .int zi])), (st, .inr (6, [.ref d, .ref sh, .ref vw, .ref ta, .ref sa, .int (nI n)])), (sh, .inl (κ 4, 3, .inr (.inr (.inr (.inr fs))))), (vw, .inl (κ 5, 3, .inr (.inr (.inr (.inr fv))))), (ta, .inl (κ 0, 6, .inl fa)), (sa, .inl (κ 4, 6, .inr (.inr (.inr (.inr ga))))), (rd, .inr (4, [.ref tp, .ref d, .ref ft, .ref bl, .int ya__27, .int yc__28, .ref wk, .int (nI s__29), .ref fl, .ref sr, .int (nI n9__30), .ref c_14, .ref cl, .int (nI yr__31)])), (tp, .inr (8, [.ref tb, .int 0])), (tb, .inl (κ 0, 800, .inl tf)), (d, .inl (κ 0, 6, .inl dl)), (ft, .inr (2, [.int y0__36, .int y1__37, .int y2__38, .int y3__39, .int y4__40, .int y5__41])), (wk, .inl (κ 1, 20, .inl g__32)), (fl, .inl (κ 2, 8, .inr (.inr (.inr (.inr gf__33))))), (sr, .inl (κ 0, 8, .inl gs__34)), (cl, .inl (κ 2, 320, .inr (.inr (.inr (.inr gc__35)))))] ++ im2__42) H := hP
          have hD : va_D A ([(xx, .inr (11, [.ref st, .ref tp, .ref ft, .ref rd, .ref wr, .ref st2, .int zi])), (st, .inr (6, [.ref d, .ref sh, .ref vw, .ref ta, .ref sa, .int (nI n)])), (sh, .inl (κ 4, 3, .inr (.inr (.inr (.inr fs))))), (vw, .inl (κ 5, 3, .inr (.inr (.inr (.inr fv))))), (ta, .inl (κ 0, 6, .inl fa)), (sa, .inl (κ 4, 6, .inr (.inr (.inr (.inr ga))))), (rd, .inr (4, [.ref tp, .ref d, .ref ft, .ref bl, .int ya__27, .int yc__28, .ref wk, .int (nI s__29), .ref fl, .ref sr, .int (nI n9__30), .ref c_14, .ref cl, .int (nI yr__31)])), (tp, .inr (8, [.ref tb, .int 0])), (tb, .inl (κ 0, 800, .inl tf)), (d, .inl (κ 0, 6, .inl dl)), (ft, .inr (2, [.int y0__36, .int y1__37, .int y2__38, .int y3__39, .int y4__40, .int y5__41])), (wk, .inl (κ 1, 20, .inl g__32)), (fl, .inl (κ 2, 8, .inr (.inr (.inr (.inr gf__33))))), (sr, .inl (κ 0, 8, .inl gs__34)), (cl, .inl (κ 2, 320, .inr (.inr (.inr (.inr gc__35)))))] ++ im2__42) := hD
          refine lv_aload_n hx hb dX11_row_67 rfl (lv_at hl 1 rfl) ?_
          refine lv_ifnull hx hb dX11_row_68 ?_
          refine lv_iload_n hx hb dX11_row_71 rfl (lv_at hl 0 rfl) ?_
          refine lv_if_eq (tgt := 89) hx hb dX11_row_72 (by decide) (fun c_55 => absurd c_55 (by decide)) (fun c_55 => ?_)
          refine lv_aload_n hx hb dX11_row_75 rfl (lv_at hl 1 rfl) ?_
          refine lv_aload_n hx hb dX11_row_76 rfl (lv_at hl 2 rfl) ?_
          refine va_get (D := D) (ci := 11) (v := .ref rd) (C := RX11) (T := TX11) (N := 7) hx hb hts inlX11 hown hK hP 0 rfl rfl 3 (by decide) (hts _ mw_28) (fun _ h9 => h9) rfl dX11_row_77 ?_
          refine va_get (D := D) (ci := 4) (v := .ref cl) (C := RX4) (T := TX4) (N := 14) hx hb hts inlX4 hown hK hP 6 rfl rfl 12 (by decide) (hts _ mw_677) (fun _ h9 => h9) rfl dX11_row_80 ?_
          have hle9 : w_5 ≤ yr__31 * w_5 := Nat.le_mul_of_pos_left _ (by omega)
          have hle8 : yr__31 * w_5 ≤ 320 := rw_le (by omega) (by omega)
          refine er_V (As := [.ref cl]) (rest := []) hFX hKK hE hS (c_X5_takesRow l D κ κq im2__42 a_3 R_4 w_5 cl 320 (yr__31 * w_5) gc__35 h_8 a_54 (by omega) (by omega) (by omega)) 1 gV_X11_143 hdV_X5_takesRow rfl rfl ⟨Nat.le_of_ble_eq_true rfl, Nat.le_of_ble_eq_true rfl⟩ rfl rfl (Nat.le_of_ble_eq_true rfl) dX11_row_83 ⟨Nat.le_of_ble_eq_true rfl, Nat.le_of_ble_eq_true rfl⟩ hl.1 (oneP (C := [(xx, .inr (11, [.ref st, .ref tp, .ref ft, .ref rd, .ref wr, .ref st2, .int zi])), (st, .inr (6, [.ref d, .ref sh, .ref vw, .ref ta, .ref sa, .int (nI n)])), (sh, .inl (κ 4, 3, .inr (.inr (.inr (.inr fs))))), (vw, .inl (κ 5, 3, .inr (.inr (.inr (.inr fv))))), (ta, .inl (κ 0, 6, .inl fa)), (sa, .inl (κ 4, 6, .inr (.inr (.inr (.inr ga))))), (rd, .inr (4, [.ref tp, .ref d, .ref ft, .ref bl, .int ya__27, .int yc__28, .ref wk, .int (nI s__29), .ref fl, .ref sr, .int (nI n9__30), .ref c_14, .ref cl, .int (nI yr__31)])), (tp, .inr (8, [.ref tb, .int 0])), (tb, .inl (κ 0, 800, .inl tf)), (d, .inl (κ 0, 6, .inl dl)), (ft, .inr (2, [.int y0__36, .int y1__37, .int y2__38, .int y3__39, .int y4__40, .int y5__41])), (wk, .inl (κ 1, 20, .inl g__32)), (fl, .inl (κ 2, 8, .inr (.inr (.inr (.inr gf__33))))), (sr, .inl (κ 0, 8, .inl gs__34)), (cl, .inl (κ 2, 320, .inr (.inr (.inr (.inr gc__35)))))]) hP hm_19) 0 5 rfl rfl rfl (subP hP [14] rfl) (fun r__56 hp_57 => ?_)
          replace hp_57 : ((r__56 = 1) ∨ (r__56 = 0)) := hp_57
          have ha_58 := hp_57
          clear hp_57
          rcases ha_58 with rfl | rfl
          · refine W.eq (g2 := F0 m 86 ls [.int 1]) rfl ?_
            refine lv_if_ne (tgt := 91) hx hb dX11_row_86 (by decide) (fun c_59 => ?_) (fun c_59 => absurd c_59 (by decide))
            refine lv_aload_n hx hb dX11_row_91 rfl (lv_at hl 2 rfl) ?_
            refine va_get (D := D) (ci := 11) (v := .ref st) (C := RX11) (T := TX11) (N := 7) hx hb hts inlX11 hown hK hP 0 rfl rfl 0 (by decide) (hts _ mw_15) (fun _ h9 => h9) rfl dX11_row_92 ?_
            refine lv_iload_n hx hb dX11_row_95 rfl (lv_at hl 3 rfl) ?_
            refine lv_aload_n hx hb dX11_row_96 rfl (lv_at hl 1 rfl) ?_
            refine lv_aload_n hx hb dX11_row_97 rfl (lv_at hl 2 rfl) ?_
            refine va_get (D := D) (ci := 11) (v := .ref rd) (C := RX11) (T := TX11) (N := 7) hx hb hts inlX11 hown hK hP 0 rfl rfl 3 (by decide) (hts _ mw_28) (fun _ h9 => h9) rfl dX11_row_98 ?_
            refine va_get (D := D) (ci := 4) (v := .ref cl) (C := RX4) (T := TX4) (N := 14) hx hb hts inlX4 hown hK hP 6 rfl rfl 12 (by decide) (hts _ mw_677) (fun _ h9 => h9) rfl dX11_row_101 ?_
            refine et_VT (CR := [(xx, .inr (11, [.ref st, .ref tp, .ref ft, .ref rd, .ref wr, .ref st2, .int zi])), (st, .inr (6, [.ref d, .ref sh, .ref vw, .ref ta, .ref sa, .int (nI n)])), (sh, .inl (κ 4, 3, .inr (.inr (.inr (.inr fs))))), (vw, .inl (κ 5, 3, .inr (.inr (.inr (.inr fv))))), (ta, .inl (κ 0, 6, .inl fa)), (sa, .inl (κ 4, 6, .inr (.inr (.inr (.inr ga))))), (rd, .inr (4, [.ref tp, .ref d, .ref ft, .ref bl, .int ya__27, .int yc__28, .ref wk, .int (nI s__29), .ref fl, .ref sr, .int (nI n9__30), .ref c_14, .ref cl, .int (nI yr__31)])), (tp, .inr (8, [.ref tb, .int 0])), (tb, .inl (κ 0, 800, .inl tf)), (d, .inl (κ 0, 6, .inl dl)), (ft, .inr (2, [.int y0__36, .int y1__37, .int y2__38, .int y3__39, .int y4__40, .int y5__41])), (wk, .inl (κ 1, 20, .inl g__32)), (fl, .inl (κ 2, 8, .inr (.inr (.inr (.inr gf__33))))), (sr, .inl (κ 0, 8, .inl gs__34))]) (As := [.ref cl]) (rest := [.int (nI t), .ref st]) hFX hKK hE hP hD hS hA (c_X5_withRow l D κ κq im2__42 a_3 R_4 w_5 cl 320 (yr__31 * w_5) gc__35 h_8 a_54 (by omega) (by omega) (by omega) (by omega)) 1 gV_X11_147 hdV_X5_withRow ⟨Nat.le_of_ble_eq_true rfl, Nat.le_of_ble_eq_true rfl⟩ rfl rfl (Nat.le_of_ble_eq_true rfl) dX11_row_104 ⟨Nat.le_of_ble_eq_true rfl, Nat.le_of_ble_eq_true rfl⟩ hl.1 [14] [0, 1, 2, 3, 4, 5, 6, 7, 8, 9, 10, 11, 12, 13] rfl rfl (by decide) (by decide) (by decide) (oneP (C := [(xx, .inr (11, [.ref st, .ref tp, .ref ft, .ref rd, .ref wr, .ref st2, .int zi])), (st, .inr (6, [.ref d, .ref sh, .ref vw, .ref ta, .ref sa, .int (nI n)])), (sh, .inl (κ 4, 3, .inr (.inr (.inr (.inr fs))))), (vw, .inl (κ 5, 3, .inr (.inr (.inr (.inr fv))))), (ta, .inl (κ 0, 6, .inl fa)), (sa, .inl (κ 4, 6, .inr (.inr (.inr (.inr ga))))), (rd, .inr (4, [.ref tp, .ref d, .ref ft, .ref bl, .int ya__27, .int yc__28, .ref wk, .int (nI s__29), .ref fl, .ref sr, .int (nI n9__30), .ref c_14, .ref cl, .int (nI yr__31)])), (tp, .inr (8, [.ref tb, .int 0])), (tb, .inl (κ 0, 800, .inl tf)), (d, .inl (κ 0, 6, .inl dl)), (ft, .inr (2, [.int y0__36, .int y1__37, .int y2__38, .int y3__39, .int y4__40, .int y5__41])), (wk, .inl (κ 1, 20, .inl g__32)), (fl, .inl (κ 2, 8, .inr (.inr (.inr (.inr gf__33))))), (sr, .inl (κ 0, 8, .inl gs__34)), (cl, .inl (κ 2, 320, .inr (.inr (.inr (.inr gc__35)))))]) hP hm_19) 0 5 rfl rfl rfl (fun u_62 H locs hp_63 hP hD hS => ?_)
            refine W.widen (k := 660) (n := 8239) (Nat.le_refl _) (Nat.le_refl _) ?_
            obtain ⟨r__60, im2__61⟩ := u_62
            replace hP : va_P D vwCl ([(xx, .inr (11, [.ref st, .ref tp, .ref ft, .ref rd, .ref wr, .ref st2, .int zi])), (st, .inr (6, [.ref d, .ref sh, .ref vw, .ref ta, .ref sa, .int (nI n)])), (sh, .inl (κ 4, 3, .inr (.inr (.inr (.inr fs))))), (vw, .inl (κ 5, 3, .inr (.inr (.inr (.inr fv))))), (ta, .inl (κ 0, 6, .inl fa)), (sa, .inl (κ 4, 6, .inr (.inr (.inr (.inr ga))))), (rd, .inr (4, [.ref tp, .ref d, .ref ft, .ref bl, .int ya__27, .int yc__28, .ref wk, .int (nI s__29), .ref fl, .ref sr, .int (nI n9__30), .ref c_14, .ref cl, .int (nI yr__31)])), (tp, .inr (8, [.ref tb, .int 0])), (tb, .inl (κ 0, 800, .inl tf)), (d, .inl (κ 0, 6, .inl dl)), (ft, .inr (2, [.int y0__36, .int y1__37, .int y2__38, .int y3__39, .int y4__40, .int y5__41])), (wk, .inl (κ 1, 20, .inl g__32)), (fl, .inl (κ 2, 8, .inr (.inr (.inr (.inr gf__33))))), (sr, .inl (κ 0, 8, .inl gs__34)), (cl, .inl (κ 2, 320, .inr (.inr (.inr (.inr gc__35)))))] ++ im2__61) H := subP (C := [(xx, .inr (11, [.ref st, .ref tp, .ref ft, .ref rd, .ref wr, .ref st2, .int zi])), (st, .inr (6, [.ref d, .ref sh, .ref vw, .ref ta, .ref sa, .int (nI n)])), (sh, .inl (κ 4, 3, .inr (.inr (.inr (.inr fs))))), (vw, .inl (κ 5, 3, .inr (.inr (.inr (.inr fv))))), (ta, .inl (κ 0, 6, .inl fa)), (sa, .inl (κ 4, 6, .inr (.inr (.inr (.inr ga))))), (rd, .inr (4, [.ref tp, .ref d, .ref ft, .ref bl, .int ya__27, .int yc__28, .ref wk, .int (nI s__29), .ref fl, .ref sr, .int (nI n9__30), .ref c_14, .ref cl, .int (nI yr__31)])), (tp, .inr (8, [.ref tb, .int 0])), (tb, .inl (κ 0, 800, .inl tf)), (d, .inl (κ 0, 6, .inl dl)), (ft, .inr (2, [.int y0__36, .int y1__37, .int y2__38, .int y3__39, .int y4__40, .int y5__41])), (wk, .inl (κ 1, 20, .inl g__32)), (fl, .inl (κ 2, 8, .inr (.inr (.inr (.inr gf__33))))), (sr, .inl (κ 0, 8, .inl gs__34)), (cl, .inl (κ 2, 320, .inr (.inr (.inr (.inr gc__35)))))]) hP [0, 1, 2, 3, 4, 5, 6, 7, 8, 9, 10, 11, 12, 13, 14] rfl
            replace hD : va_D A ([(xx, .inr (11, [.ref st, .ref tp, .ref ft, .ref rd, .ref wr, .ref st2, .int zi])), (st, .inr (6, [.ref d, .ref sh, .ref vw, .ref ta, .ref sa, .int (nI n)])), (sh, .inl (κ 4, 3, .inr (.inr (.inr (.inr fs))))), (vw, .inl (κ 5, 3, .inr (.inr (.inr (.inr fv))))), (ta, .inl (κ 0, 6, .inl fa)), (sa, .inl (κ 4, 6, .inr (.inr (.inr (.inr ga))))), (rd, .inr (4, [.ref tp, .ref d, .ref ft, .ref bl, .int ya__27, .int yc__28, .ref wk, .int (nI s__29), .ref fl, .ref sr, .int (nI n9__30), .ref c_14, .ref cl, .int (nI yr__31)])), (tp, .inr (8, [.ref tb, .int 0])), (tb, .inl (κ 0, 800, .inl tf)), (d, .inl (κ 0, 6, .inl dl)), (ft, .inr (2, [.int y0__36, .int y1__37, .int y2__38, .int y3__39, .int y4__40, .int y5__41])), (wk, .inl (κ 1, 20, .inl g__32)), (fl, .inl (κ 2, 8, .inr (.inr (.inr (.inr gf__33))))), (sr, .inl (κ 0, 8, .inl gs__34)), (cl, .inl (κ 2, 320, .inr (.inr (.inr (.inr gc__35)))))] ++ im2__61) := subD (C := [(xx, .inr (11, [.ref st, .ref tp, .ref ft, .ref rd, .ref wr, .ref st2, .int zi])), (st, .inr (6, [.ref d, .ref sh, .ref vw, .ref ta, .ref sa, .int (nI n)])), (sh, .inl (κ 4, 3, .inr (.inr (.inr (.inr fs))))), (vw, .inl (κ 5, 3, .inr (.inr (.inr (.inr fv))))), (ta, .inl (κ 0, 6, .inl fa)), (sa, .inl (κ 4, 6, .inr (.inr (.inr (.inr ga))))), (rd, .inr (4, [.ref tp, .ref d, .ref ft, .ref bl, .int ya__27, .int yc__28, .ref wk, .int (nI s__29), .ref fl, .ref sr, .int (nI n9__30), .ref c_14, .ref cl, .int (nI yr__31)])), (tp, .inr (8, [.ref tb, .int 0])), (tb, .inl (κ 0, 800, .inl tf)), (d, .inl (κ 0, 6, .inl dl)), (ft, .inr (2, [.int y0__36, .int y1__37, .int y2__38, .int y3__39, .int y4__40, .int y5__41])), (wk, .inl (κ 1, 20, .inl g__32)), (fl, .inl (κ 2, 8, .inr (.inr (.inr (.inr gf__33))))), (sr, .inl (κ 0, 8, .inl gs__34)), (cl, .inl (κ 2, 320, .inr (.inr (.inr (.inr gc__35)))))]) hD [0, 1, 2, 3, 4, 5, 6, 7, 8, 9, 10, 11, 12, 13, 14] (by decide) rfl
            replace hp_63 : Sb im2__42 im2__61 ∧ ((∃ (q : Nat), r__60 = some q ∧ Sh κ im2__61 q (R_4 + 1) w_5)) := hp_63
            obtain ⟨h_64, ha_65⟩ := hp_63
            replace htb := htb.up h_64
            replace hss := hss.up h_64
            replace hbl := hbl.up h_64
            replace hlf := hlf.up h_64
            replace h_8 := h_8.up h_64
            replace h_9 := h_9.up h_64
            replace lo_22 := lo_22.up h_64
            replace lc_23 := lc_23.up h_64
            replace vw_24 := vw_24.up h_64
            replace h_50 := h_50.up h_64
            replace a_54 := a_54.up h_64
            replace hm_19 := h_64 _ hm_19
            replace hm_20 := h_64 _ hm_20
            replace hm_21 := h_64 _ hm_21
            rcases ha_65 with ⟨q__66, rfl, a_67⟩
            · refine W.eq (g2 := F0 m 107 ls [.ref q__66, .int (nI t), .ref st]) rfl ?_
              refine et_VT (CR := [(xx, .inr (11, [.ref st, .ref tp, .ref ft, .ref rd, .ref wr, .ref st2, .int zi])), (rd, .inr (4, [.ref tp, .ref d, .ref ft, .ref bl, .int ya__27, .int yc__28, .ref wk, .int (nI s__29), .ref fl, .ref sr, .int (nI n9__30), .ref c_14, .ref cl, .int (nI yr__31)])), (tp, .inr (8, [.ref tb, .int 0])), (tb, .inl (κ 0, 800, .inl tf)), (d, .inl (κ 0, 6, .inl dl)), (ft, .inr (2, [.int y0__36, .int y1__37, .int y2__38, .int y3__39, .int y4__40, .int y5__41])), (wk, .inl (κ 1, 20, .inl g__32)), (fl, .inl (κ 2, 8, .inr (.inr (.inr (.inr gf__33))))), (sr, .inl (κ 0, 8, .inl gs__34)), (cl, .inl (κ 2, 320, .inr (.inr (.inr (.inr gc__35)))))]) (As := [.int (nI t), .ref q__66]) (rest := []) hFX hKK hE hP hD hS hA (c_X6_act l D κ κq im2__61 st d sh vw ta sa n fs fv fa ga t q__66 (R_4 + 1) w_5 (by omega) htb hrn hss (by omega) a_67) 2 gV_X11_86 hdV_X6_act ⟨Nat.le_of_ble_eq_true rfl, Nat.le_of_ble_eq_true rfl⟩ rfl rfl (Nat.le_of_ble_eq_true rfl) dX11_row_107 ⟨Nat.le_of_ble_eq_true rfl, Nat.le_of_ble_eq_true rfl⟩ hl.1 [1, 2, 3, 4, 5] [0, 6, 7, 8, 9, 10, 11, 12, 13, 14] rfl rfl (by decide) (by decide) (by decide) hP 1 6 rfl rfl rfl (fun u_73 H locs hp_74 hP hD hS => ?_)
              refine W.widen (k := 660) (n := 8239) (Nat.le_refl _) (Nat.le_refl _) ?_
              obtain ⟨y__68, gs__69, gv__70, fb__71, gb__72⟩ := u_73
              replace hP : va_P D vwCl ([(xx, .inr (11, [.ref st, .ref tp, .ref ft, .ref rd, .ref wr, .ref st2, .int zi])), (st, .inr (6, [.ref d, .ref sh, .ref vw, .ref ta, .ref sa, .int (nI y__68)])), (sh, .inl (κ 4, 3, .inr (.inr (.inr (.inr gs__69))))), (vw, .inl (κ 5, 3, .inr (.inr (.inr (.inr gv__70))))), (ta, .inl (κ 0, 6, .inl fb__71)), (sa, .inl (κ 4, 6, .inr (.inr (.inr (.inr gb__72))))), (rd, .inr (4, [.ref tp, .ref d, .ref ft, .ref bl, .int ya__27, .int yc__28, .ref wk, .int (nI s__29), .ref fl, .ref sr, .int (nI n9__30), .ref c_14, .ref cl, .int (nI yr__31)])), (tp, .inr (8, [.ref tb, .int 0])), (tb, .inl (κ 0, 800, .inl tf)), (d, .inl (κ 0, 6, .inl dl)), (ft, .inr (2, [.int y0__36, .int y1__37, .int y2__38, .int y3__39, .int y4__40, .int y5__41])), (wk, .inl (κ 1, 20, .inl g__32)), (fl, .inl (κ 2, 8, .inr (.inr (.inr (.inr gf__33))))), (sr, .inl (κ 0, 8, .inl gs__34)), (cl, .inl (κ 2, 320, .inr (.inr (.inr (.inr gc__35)))))] ++ im2__61) H := subP (C := [(xx, .inr (11, [.ref st, .ref tp, .ref ft, .ref rd, .ref wr, .ref st2, .int zi])), (rd, .inr (4, [.ref tp, .ref d, .ref ft, .ref bl, .int ya__27, .int yc__28, .ref wk, .int (nI s__29), .ref fl, .ref sr, .int (nI n9__30), .ref c_14, .ref cl, .int (nI yr__31)])), (tp, .inr (8, [.ref tb, .int 0])), (tb, .inl (κ 0, 800, .inl tf)), (d, .inl (κ 0, 6, .inl dl)), (ft, .inr (2, [.int y0__36, .int y1__37, .int y2__38, .int y3__39, .int y4__40, .int y5__41])), (wk, .inl (κ 1, 20, .inl g__32)), (fl, .inl (κ 2, 8, .inr (.inr (.inr (.inr gf__33))))), (sr, .inl (κ 0, 8, .inl gs__34)), (cl, .inl (κ 2, 320, .inr (.inr (.inr (.inr gc__35))))), (st, .inr (6, [.ref d, .ref sh, .ref vw, .ref ta, .ref sa, .int (nI y__68)])), (sh, .inl (κ 4, 3, .inr (.inr (.inr (.inr gs__69))))), (vw, .inl (κ 5, 3, .inr (.inr (.inr (.inr gv__70))))), (ta, .inl (κ 0, 6, .inl fb__71)), (sa, .inl (κ 4, 6, .inr (.inr (.inr (.inr gb__72)))))]) hP [0, 10, 11, 12, 13, 14, 1, 2, 3, 4, 5, 6, 7, 8, 9] rfl
              replace hD : va_D A ([(xx, .inr (11, [.ref st, .ref tp, .ref ft, .ref rd, .ref wr, .ref st2, .int zi])), (st, .inr (6, [.ref d, .ref sh, .ref vw, .ref ta, .ref sa, .int (nI y__68)])), (sh, .inl (κ 4, 3, .inr (.inr (.inr (.inr gs__69))))), (vw, .inl (κ 5, 3, .inr (.inr (.inr (.inr gv__70))))), (ta, .inl (κ 0, 6, .inl fb__71)), (sa, .inl (κ 4, 6, .inr (.inr (.inr (.inr gb__72))))), (rd, .inr (4, [.ref tp, .ref d, .ref ft, .ref bl, .int ya__27, .int yc__28, .ref wk, .int (nI s__29), .ref fl, .ref sr, .int (nI n9__30), .ref c_14, .ref cl, .int (nI yr__31)])), (tp, .inr (8, [.ref tb, .int 0])), (tb, .inl (κ 0, 800, .inl tf)), (d, .inl (κ 0, 6, .inl dl)), (ft, .inr (2, [.int y0__36, .int y1__37, .int y2__38, .int y3__39, .int y4__40, .int y5__41])), (wk, .inl (κ 1, 20, .inl g__32)), (fl, .inl (κ 2, 8, .inr (.inr (.inr (.inr gf__33))))), (sr, .inl (κ 0, 8, .inl gs__34)), (cl, .inl (κ 2, 320, .inr (.inr (.inr (.inr gc__35)))))] ++ im2__61) := subD (C := [(xx, .inr (11, [.ref st, .ref tp, .ref ft, .ref rd, .ref wr, .ref st2, .int zi])), (rd, .inr (4, [.ref tp, .ref d, .ref ft, .ref bl, .int ya__27, .int yc__28, .ref wk, .int (nI s__29), .ref fl, .ref sr, .int (nI n9__30), .ref c_14, .ref cl, .int (nI yr__31)])), (tp, .inr (8, [.ref tb, .int 0])), (tb, .inl (κ 0, 800, .inl tf)), (d, .inl (κ 0, 6, .inl dl)), (ft, .inr (2, [.int y0__36, .int y1__37, .int y2__38, .int y3__39, .int y4__40, .int y5__41])), (wk, .inl (κ 1, 20, .inl g__32)), (fl, .inl (κ 2, 8, .inr (.inr (.inr (.inr gf__33))))), (sr, .inl (κ 0, 8, .inl gs__34)), (cl, .inl (κ 2, 320, .inr (.inr (.inr (.inr gc__35))))), (st, .inr (6, [.ref d, .ref sh, .ref vw, .ref ta, .ref sa, .int (nI y__68)])), (sh, .inl (κ 4, 3, .inr (.inr (.inr (.inr gs__69))))), (vw, .inl (κ 5, 3, .inr (.inr (.inr (.inr gv__70))))), (ta, .inl (κ 0, 6, .inl fb__71)), (sa, .inl (κ 4, 6, .inr (.inr (.inr (.inr gb__72)))))]) hD [0, 10, 11, 12, 13, 14, 1, 2, 3, 4, 5, 6, 7, 8, 9] (by decide) rfl
              replace hp_74 : y__68 ≤ 6 ∧ Tb κ im2__61 gs__69 gv__70 3 ∧ Rn 6 3 fb__71 ∧ Ss κ im2__61 gb__72 6 := hp_74
              obtain ⟨h_75, h_76, h_77, h_78⟩ := hp_74
              refine W.eq (g2 := F0 m 110 ls []) rfl ?_
              refine lv_aload_n hx hb dX11_row_110 rfl (lv_at hl 1 rfl) ?_
              refine va_get (D := D) (ci := 5) (v := .int (nI R_4)) (C := RX5) (T := TX5) (N := 4) hx hb hts inlX5 hown hK (oneP (C := [(xx, .inr (11, [.ref st, .ref tp, .ref ft, .ref rd, .ref wr, .ref st2, .int zi])), (st, .inr (6, [.ref d, .ref sh, .ref vw, .ref ta, .ref sa, .int (nI y__68)])), (sh, .inl (κ 4, 3, .inr (.inr (.inr (.inr gs__69))))), (vw, .inl (κ 5, 3, .inr (.inr (.inr (.inr gv__70))))), (ta, .inl (κ 0, 6, .inl fb__71)), (sa, .inl (κ 4, 6, .inr (.inr (.inr (.inr gb__72))))), (rd, .inr (4, [.ref tp, .ref d, .ref ft, .ref bl, .int ya__27, .int yc__28, .ref wk, .int (nI s__29), .ref fl, .ref sr, .int (nI n9__30), .ref c_14, .ref cl, .int (nI yr__31)])), (tp, .inr (8, [.ref tb, .int 0])), (tb, .inl (κ 0, 800, .inl tf)), (d, .inl (κ 0, 6, .inl dl)), (ft, .inr (2, [.int y0__36, .int y1__37, .int y2__38, .int y3__39, .int y4__40, .int y5__41])), (wk, .inl (κ 1, 20, .inl g__32)), (fl, .inl (κ 2, 8, .inr (.inr (.inr (.inr gf__33))))), (sr, .inl (κ 0, 8, .inl gs__34)), (cl, .inl (κ 2, 320, .inr (.inr (.inr (.inr gc__35)))))]) hP hm_19) 0 rfl rfl 2 (by decide) (hts _ mw_253) (fun _ h9 => h9) rfl dX11_row_111 ?_
              refine lv_iconst (v := 1) hx hb dX11_row_114 (by decide) ?_
              refine lv_iadd hx hb dX11_row_115 ?_
              refine ki (v := (nI (R_4 + 1))) (nI_add R_4 1) ?_
              exact et_iret hx hb hr hlk rfl hS (nI (R_4 + 1), y__68, gs__69, gv__70, fb__71, gb__72, ya__27, yc__28, s__29, n9__30, (Value.ref c_14), yr__31, g__32, gf__33, gs__34, gc__35, y0__36, y1__37, y2__38, y3__39, y4__40, y5__41, im2__61) rfl ⟨(show y__68 ≤ 6 from (by first | assumption | omega | rfl | exact Or.inl (by assumption) | exact Or.inr (by assumption))), (show Tb κ im2__61 gs__69 gv__70 3 from h_76), (show Rn 6 3 fb__71 from (by first | assumption | omega | rfl | exact Or.inl (by assumption) | exact Or.inr (by assumption))), (show Ss κ im2__61 gb__72 6 from h_78), (show s__29 ≤ 20 from (by first | assumption | omega | rfl | exact Or.inl (by assumption) | exact Or.inr (by assumption))), (show sb_Fit g__32 from (by first | assumption | omega | rfl | exact Or.inl (by assumption) | exact Or.inr (by assumption))), (show n9__30 ≤ 8 from (by first | assumption | omega | rfl | exact Or.inl (by assumption) | exact Or.inr (by assumption))), (show yr__31 ≤ 40 from (by first | assumption | omega | rfl | exact Or.inl (by assumption) | exact Or.inr (by assumption))), (show Sb im im2__61 from (Sb.tr h_49 h_64)), (show Lc κ im2__61 gf__33 n9__30 from h_50)⟩ (subP hP [0, 1, 2, 3, 4, 5, 6, 7, 8, 9, 10, 11, 12, 13, 14] rfl) (subD hD [0, 1, 2, 3, 4, 5, 6, 7, 8, 9, 10, 11, 12, 13, 14] (by decide) rfl) (Nat.le_of_ble_eq_true rfl) (Nat.le_of_ble_eq_true rfl) dX11_row_116
          · refine W.eq (g2 := F0 m 86 ls [.int 0]) rfl ?_
            refine lv_if_ne (tgt := 91) hx hb dX11_row_86 (by decide) (fun c_79 => absurd c_79 (by decide)) (fun c_79 => ?_)
            refine lv_iconst (v := (-1)) hx hb dX11_row_89 (by decide) ?_
            exact et_iret hx hb hr hlk rfl hS ((-1), n, fs, fv, fa, ga, ya__27, yc__28, s__29, n9__30, (Value.ref c_14), yr__31, g__32, gf__33, gs__34, gc__35, y0__36, y1__37, y2__38, y3__39, y4__40, y5__41, im2__42) rfl ⟨(show n ≤ 6 from (by first | assumption | omega | rfl | exact Or.inl (by assumption) | exact Or.inr (by assumption))), (show Tb κ im2__42 fs fv 3 from htb), (show Rn 6 3 fa from (by first | assumption | omega | rfl | exact Or.inl (by assumption) | exact Or.inr (by assumption))), (show Ss κ im2__42 ga 6 from hss), (show s__29 ≤ 20 from (by first | assumption | omega | rfl | exact Or.inl (by assumption) | exact Or.inr (by assumption))), (show sb_Fit g__32 from (by first | assumption | omega | rfl | exact Or.inl (by assumption) | exact Or.inr (by assumption))), (show n9__30 ≤ 8 from (by first | assumption | omega | rfl | exact Or.inl (by assumption) | exact Or.inr (by assumption))), (show yr__31 ≤ 40 from (by first | assumption | omega | rfl | exact Or.inl (by assumption) | exact Or.inr (by assumption))), (show Sb im im2__42 from h_49), (show Lc κ im2__42 gf__33 n9__30 from h_50)⟩ (subP hP [0, 1, 2, 3, 4, 5, 6, 7, 8, 9, 10, 11, 12, 13, 14] rfl) (subD hD [0, 1, 2, 3, 4, 5, 6, 7, 8, 9, 10, 11, 12, 13, 14] (by decide) rfl) (Nat.le_of_ble_eq_true rfl) (Nat.le_of_ble_eq_true rfl) dX11_row_90
        · refine W.eq (g2 := F0 m 58 ls [.int 0]) rfl ?_
          refine lv_istore_n (lv' := [(3, .int 0), (2, .ref a_3), (0, .ref xx), (1, .int (nI t))]) hx hb dX11_row_58 rfl hl (by decide) rfl (fun ls hl => ?_)
          refine lv_aload_n hx hb dX11_row_59 rfl (lv_at hl 2 rfl) ?_
          refine va_get (D := D) (ci := 11) (v := .ref tp) (C := RX11) (T := TX11) (N := 7) hx hb hts inlX11 hown hK hP 0 rfl rfl 1 (by decide) (hts _ mw_19) (fun _ h9 => h9) rfl dX11_row_60 ?_
          refine lv_iconst (v := 0) hx hb dX11_row_63 (by decide) ?_
          refine va_put (D := D) (ci := 8) (v := .int 0) (ty := tyX8 1) (C := RX8) (T := TX8) (N := 2) hx hb hts inlX8 tyX8 tyX8_ok nmX8 hown hK hP hD hS 7 rfl rfl 1 (by decide) (hts _ mw_223) (fun _ h9 => h9) rfl (tyX8_ok 1 (by decide)) rfl rfl (Nat.le_of_ble_eq_true rfl) dX11_row_64 (fun H locs hP hD hS => ?_)
          have hP : va_P D vwCl ([(xx, .inr (11, [.ref st, .ref tp, .ref ft, .ref rd, .ref wr, .ref st2, .int zi])), (st, .inr (6, [.ref d, .ref sh, .ref vw, .ref ta, .ref sa, .int (nI n)])), (sh, .inl (κ 4, 3, .inr (.inr (.inr (.inr fs))))), (vw, .inl (κ 5, 3, .inr (.inr (.inr (.inr fv))))), (ta, .inl (κ 0, 6, .inl fa)), (sa, .inl (κ 4, 6, .inr (.inr (.inr (.inr ga))))), (rd, .inr (4, [.ref tp, .ref d, .ref ft, .ref bl, .int ya__27, .int yc__28, .ref wk, .int (nI s__29), .ref fl, .ref sr, .int (nI n9__30), .ref c_14, .ref cl, .int (nI yr__31)])), (tp, .inr (8, [.ref tb, .int 0])), (tb, .inl (κ 0, 800, .inl tf)), (d, .inl (κ 0, 6, .inl dl)), (ft, .inr (2, [.int y0__36, .int y1__37, .int y2__38, .int y3__39, .int y4__40, .int y5__41])), (wk, .inl (κ 1, 20, .inl g__32)), (fl, .inl (κ 2, 8, .inr (.inr (.inr (.inr gf__33))))), (sr, .inl (κ 0, 8, .inl gs__34)), (cl, .inl (κ 2, 320, .inr (.inr (.inr (.inr gc__35)))))] ++ im2__42) H := hP
          have hD : va_D A ([(xx, .inr (11, [.ref st, .ref tp, .ref ft, .ref rd, .ref wr, .ref st2, .int zi])), (st, .inr (6, [.ref d, .ref sh, .ref vw, .ref ta, .ref sa, .int (nI n)])), (sh, .inl (κ 4, 3, .inr (.inr (.inr (.inr fs))))), (vw, .inl (κ 5, 3, .inr (.inr (.inr (.inr fv))))), (ta, .inl (κ 0, 6, .inl fa)), (sa, .inl (κ 4, 6, .inr (.inr (.inr (.inr ga))))), (rd, .inr (4, [.ref tp, .ref d, .ref ft, .ref bl, .int ya__27, .int yc__28, .ref wk, .int (nI s__29), .ref fl, .ref sr, .int (nI n9__30), .ref c_14, .ref cl, .int (nI yr__31)])), (tp, .inr (8, [.ref tb, .int 0])), (tb, .inl (κ 0, 800, .inl tf)), (d, .inl (κ 0, 6, .inl dl)), (ft, .inr (2, [.int y0__36, .int y1__37, .int y2__38, .int y3__39, .int y4__40, .int y5__41])), (wk, .inl (κ 1, 20, .inl g__32)), (fl, .inl (κ 2, 8, .inr (.inr (.inr (.inr gf__33))))), (sr, .inl (κ 0, 8, .inl gs__34)), (cl, .inl (κ 2, 320, .inr (.inr (.inr (.inr gc__35)))))] ++ im2__42) := hD
          refine lv_aload_n hx hb dX11_row_67 rfl (lv_at hl 1 rfl) ?_
          refine lv_ifnull hx hb dX11_row_68 ?_
          refine lv_iload_n hx hb dX11_row_71 rfl (lv_at hl 0 rfl) ?_
          refine lv_if_eq (tgt := 89) hx hb dX11_row_72 (by decide) (fun c_80 => ?_) (fun c_80 => absurd (by decide) c_80)
          refine lv_iconst (v := (-1)) hx hb dX11_row_89 (by decide) ?_
          exact et_iret hx hb hr hlk rfl hS ((-1), n, fs, fv, fa, ga, ya__27, yc__28, s__29, n9__30, (Value.ref c_14), yr__31, g__32, gf__33, gs__34, gc__35, y0__36, y1__37, y2__38, y3__39, y4__40, y5__41, im2__42) rfl ⟨(show n ≤ 6 from (by first | assumption | omega | rfl | exact Or.inl (by assumption) | exact Or.inr (by assumption))), (show Tb κ im2__42 fs fv 3 from htb), (show Rn 6 3 fa from (by first | assumption | omega | rfl | exact Or.inl (by assumption) | exact Or.inr (by assumption))), (show Ss κ im2__42 ga 6 from hss), (show s__29 ≤ 20 from (by first | assumption | omega | rfl | exact Or.inl (by assumption) | exact Or.inr (by assumption))), (show sb_Fit g__32 from (by first | assumption | omega | rfl | exact Or.inl (by assumption) | exact Or.inr (by assumption))), (show n9__30 ≤ 8 from (by first | assumption | omega | rfl | exact Or.inl (by assumption) | exact Or.inr (by assumption))), (show yr__31 ≤ 40 from (by first | assumption | omega | rfl | exact Or.inl (by assumption) | exact Or.inr (by assumption))), (show Sb im im2__42 from h_49), (show Lc κ im2__42 gf__33 n9__30 from h_50)⟩ (subP hP [0, 1, 2, 3, 4, 5, 6, 7, 8, 9, 10, 11, 12, 13, 14] rfl) (subD hD [0, 1, 2, 3, 4, 5, 6, 7, 8, 9, 10, 11, 12, 13, 14] (by decide) rfl) (Nat.le_of_ble_eq_true rfl) (Nat.le_of_ble_eq_true rfl) dX11_row_90
      · have nc_25 := cv_nlt (a := R_4) (b := 40) (by omega) (by omega) c_25
        refine lv_aload_n hx hb dX11_row_24 rfl (lv_at hl 2 rfl) ?_
        refine va_get (D := D) (ci := 11) (v := .ref ft) (C := RX11) (T := TX11) (N := 7) hx hb hts inlX11 hown hK hP 0 rfl rfl 2 (by decide) (hts _ mw_23) (fun _ h9 => h9) rfl dX11_row_25 ?_
        refine lv_bipush (v := 6) hx hb dX11_row_28 (by decide) ?_
        refine lv_iconst (v := 0) hx hb dX11_row_30 (by decide) ?_
        refine lv_iconst (v := (-1)) hx hb dX11_row_31 (by decide) ?_
        refine lv_aload_n hx hb dX11_row_32 rfl (lv_at hl 2 rfl) ?_
        refine va_get (D := D) (ci := 11) (v := .ref tp) (C := RX11) (T := TX11) (N := 7) hx hb hts inlX11 hown hK hP 0 rfl rfl 1 (by decide) (hts _ mw_19) (fun _ h9 => h9) rfl dX11_row_33 ?_
        refine et_VN (CR := [(xx, .inr (11, [.ref st, .ref tp, .ref ft, .ref rd, .ref wr, .ref st2, .int zi])), (st, .inr (6, [.ref d, .ref sh, .ref vw, .ref ta, .ref sa, .int (nI n)])), (sh, .inl (κ 4, 3, .inr (.inr (.inr (.inr fs))))), (vw, .inl (κ 5, 3, .inr (.inr (.inr (.inr fv))))), (ta, .inl (κ 0, 6, .inl fa)), (sa, .inl (κ 4, 6, .inr (.inr (.inr (.inr ga))))), (rd, .inr (4, [.ref tp, .ref d, .ref ft, .ref bl, .int at0, .int ca, .ref wk, .int (nI sz), .ref fl, .ref sr, .int (nI cnt), cv, .ref cl, .int (nI rw)])), (d, .inl (κ 0, 6, .inl dl)), (wk, .inl (κ 1, 20, .inl wf)), (fl, .inl (κ 2, 8, .inr (.inr (.inr (.inr ff))))), (sr, .inl (κ 0, 8, .inl sf)), (cl, .inl (κ 2, 320, .inr (.inr (.inr (.inr fc)))))]) (As := [.int 6, .int 0, .int (-1), .ref tp]) (rest := []) hFX hKK hE hP hD hS hA (c_X2_tell l D κ κq ft f0 f1 f2 f3 f4 f5 6 0 (-1) tp tb L tf (by omega)) 4 gV_X11_135 hdV_X2_tell ⟨Nat.le_of_ble_eq_true rfl, Nat.le_of_ble_eq_true rfl⟩ rfl rfl (Nat.le_of_ble_eq_true rfl) dX11_row_36 ⟨Nat.le_of_ble_eq_true rfl, Nat.le_of_ble_eq_true rfl⟩ hl.1 [10, 7, 8] [0, 1, 2, 3, 4, 5, 6, 9, 11, 12, 13, 14] rfl rfl (by decide) (by decide) (by decide) hP 10 2 rfl rfl rfl (fun u_84 H locs hp_85 hP hD hS => ?_)
        refine W.widen (k := 0) (n := 0) (Nat.le_refl _) (Nat.le_refl _) ?_
        obtain ⟨y2__81, y3__82, y5__83⟩ := u_84
        replace hP : va_P D vwCl ([(xx, .inr (11, [.ref st, .ref tp, .ref ft, .ref rd, .ref wr, .ref st2, .int zi])), (st, .inr (6, [.ref d, .ref sh, .ref vw, .ref ta, .ref sa, .int (nI n)])), (sh, .inl (κ 4, 3, .inr (.inr (.inr (.inr fs))))), (vw, .inl (κ 5, 3, .inr (.inr (.inr (.inr fv))))), (ta, .inl (κ 0, 6, .inl fa)), (sa, .inl (κ 4, 6, .inr (.inr (.inr (.inr ga))))), (rd, .inr (4, [.ref tp, .ref d, .ref ft, .ref bl, .int at0, .int ca, .ref wk, .int (nI sz), .ref fl, .ref sr, .int (nI cnt), cv, .ref cl, .int (nI rw)])), (tp, .inr (8, [.ref tb, .int (nI L)])), (tb, .inl (κ 0, 800, .inl tf)), (d, .inl (κ 0, 6, .inl dl)), (ft, .inr (2, [.int 6, .int 0, .int y2__81, .int y3__82, .int (-1), .int y5__83])), (wk, .inl (κ 1, 20, .inl wf)), (fl, .inl (κ 2, 8, .inr (.inr (.inr (.inr ff))))), (sr, .inl (κ 0, 8, .inl sf)), (cl, .inl (κ 2, 320, .inr (.inr (.inr (.inr fc)))))] ++ im) H := subP (C := [(xx, .inr (11, [.ref st, .ref tp, .ref ft, .ref rd, .ref wr, .ref st2, .int zi])), (st, .inr (6, [.ref d, .ref sh, .ref vw, .ref ta, .ref sa, .int (nI n)])), (sh, .inl (κ 4, 3, .inr (.inr (.inr (.inr fs))))), (vw, .inl (κ 5, 3, .inr (.inr (.inr (.inr fv))))), (ta, .inl (κ 0, 6, .inl fa)), (sa, .inl (κ 4, 6, .inr (.inr (.inr (.inr ga))))), (rd, .inr (4, [.ref tp, .ref d, .ref ft, .ref bl, .int at0, .int ca, .ref wk, .int (nI sz), .ref fl, .ref sr, .int (nI cnt), cv, .ref cl, .int (nI rw)])), (d, .inl (κ 0, 6, .inl dl)), (wk, .inl (κ 1, 20, .inl wf)), (fl, .inl (κ 2, 8, .inr (.inr (.inr (.inr ff))))), (sr, .inl (κ 0, 8, .inl sf)), (cl, .inl (κ 2, 320, .inr (.inr (.inr (.inr fc))))), (ft, .inr (2, [.int 6, .int 0, .int y2__81, .int y3__82, .int (-1), .int y5__83])), (tp, .inr (8, [.ref tb, .int (nI L)])), (tb, .inl (κ 0, 800, .inl tf))]) hP [0, 1, 2, 3, 4, 5, 6, 13, 14, 7, 12, 8, 9, 10, 11] rfl
        replace hD : va_D A ([(xx, .inr (11, [.ref st, .ref tp, .ref ft, .ref rd, .ref wr, .ref st2, .int zi])), (st, .inr (6, [.ref d, .ref sh, .ref vw, .ref ta, .ref sa, .int (nI n)])), (sh, .inl (κ 4, 3, .inr (.inr (.inr (.inr fs))))), (vw, .inl (κ 5, 3, .inr (.inr (.inr (.inr fv))))), (ta, .inl (κ 0, 6, .inl fa)), (sa, .inl (κ 4, 6, .inr (.inr (.inr (.inr ga))))), (rd, .inr (4, [.ref tp, .ref d, .ref ft, .ref bl, .int at0, .int ca, .ref wk, .int (nI sz), .ref fl, .ref sr, .int (nI cnt), cv, .ref cl, .int (nI rw)])), (tp, .inr (8, [.ref tb, .int (nI L)])), (tb, .inl (κ 0, 800, .inl tf)), (d, .inl (κ 0, 6, .inl dl)), (ft, .inr (2, [.int 6, .int 0, .int y2__81, .int y3__82, .int (-1), .int y5__83])), (wk, .inl (κ 1, 20, .inl wf)), (fl, .inl (κ 2, 8, .inr (.inr (.inr (.inr ff))))), (sr, .inl (κ 0, 8, .inl sf)), (cl, .inl (κ 2, 320, .inr (.inr (.inr (.inr fc)))))] ++ im) := subD (C := [(xx, .inr (11, [.ref st, .ref tp, .ref ft, .ref rd, .ref wr, .ref st2, .int zi])), (st, .inr (6, [.ref d, .ref sh, .ref vw, .ref ta, .ref sa, .int (nI n)])), (sh, .inl (κ 4, 3, .inr (.inr (.inr (.inr fs))))), (vw, .inl (κ 5, 3, .inr (.inr (.inr (.inr fv))))), (ta, .inl (κ 0, 6, .inl fa)), (sa, .inl (κ 4, 6, .inr (.inr (.inr (.inr ga))))), (rd, .inr (4, [.ref tp, .ref d, .ref ft, .ref bl, .int at0, .int ca, .ref wk, .int (nI sz), .ref fl, .ref sr, .int (nI cnt), cv, .ref cl, .int (nI rw)])), (d, .inl (κ 0, 6, .inl dl)), (wk, .inl (κ 1, 20, .inl wf)), (fl, .inl (κ 2, 8, .inr (.inr (.inr (.inr ff))))), (sr, .inl (κ 0, 8, .inl sf)), (cl, .inl (κ 2, 320, .inr (.inr (.inr (.inr fc))))), (ft, .inr (2, [.int 6, .int 0, .int y2__81, .int y3__82, .int (-1), .int y5__83])), (tp, .inr (8, [.ref tb, .int (nI L)])), (tb, .inl (κ 0, 800, .inl tf))]) hD [0, 1, 2, 3, 4, 5, 6, 13, 14, 7, 12, 8, 9, 10, 11] (by decide) rfl
        refine W.eq (g2 := F0 m 39 ls []) rfl ?_
        refine lv_goto (tgt := 59) hx hb dX11_row_39 (by decide) ?_
        refine lv_aload_n hx hb dX11_row_59 rfl (lv_at hl 2 rfl) ?_
        refine va_get (D := D) (ci := 11) (v := .ref tp) (C := RX11) (T := TX11) (N := 7) hx hb hts inlX11 hown hK hP 0 rfl rfl 1 (by decide) (hts _ mw_19) (fun _ h9 => h9) rfl dX11_row_60 ?_
        refine lv_iconst (v := 0) hx hb dX11_row_63 (by decide) ?_
        refine va_put (D := D) (ci := 8) (v := .int 0) (ty := tyX8 1) (C := RX8) (T := TX8) (N := 2) hx hb hts inlX8 tyX8 tyX8_ok nmX8 hown hK hP hD hS 7 rfl rfl 1 (by decide) (hts _ mw_223) (fun _ h9 => h9) rfl (tyX8_ok 1 (by decide)) rfl rfl (Nat.le_of_ble_eq_true rfl) dX11_row_64 (fun H locs hP hD hS => ?_)
        have hP : va_P D vwCl ([(xx, .inr (11, [.ref st, .ref tp, .ref ft, .ref rd, .ref wr, .ref st2, .int zi])), (st, .inr (6, [.ref d, .ref sh, .ref vw, .ref ta, .ref sa, .int (nI n)])), (sh, .inl (κ 4, 3, .inr (.inr (.inr (.inr fs))))), (vw, .inl (κ 5, 3, .inr (.inr (.inr (.inr fv))))), (ta, .inl (κ 0, 6, .inl fa)), (sa, .inl (κ 4, 6, .inr (.inr (.inr (.inr ga))))), (rd, .inr (4, [.ref tp, .ref d, .ref ft, .ref bl, .int at0, .int ca, .ref wk, .int (nI sz), .ref fl, .ref sr, .int (nI cnt), cv, .ref cl, .int (nI rw)])), (tp, .inr (8, [.ref tb, .int 0])), (tb, .inl (κ 0, 800, .inl tf)), (d, .inl (κ 0, 6, .inl dl)), (ft, .inr (2, [.int 6, .int 0, .int y2__81, .int y3__82, .int (-1), .int y5__83])), (wk, .inl (κ 1, 20, .inl wf)), (fl, .inl (κ 2, 8, .inr (.inr (.inr (.inr ff))))), (sr, .inl (κ 0, 8, .inl sf)), (cl, .inl (κ 2, 320, .inr (.inr (.inr (.inr fc)))))] ++ im) H := hP
        have hD : va_D A ([(xx, .inr (11, [.ref st, .ref tp, .ref ft, .ref rd, .ref wr, .ref st2, .int zi])), (st, .inr (6, [.ref d, .ref sh, .ref vw, .ref ta, .ref sa, .int (nI n)])), (sh, .inl (κ 4, 3, .inr (.inr (.inr (.inr fs))))), (vw, .inl (κ 5, 3, .inr (.inr (.inr (.inr fv))))), (ta, .inl (κ 0, 6, .inl fa)), (sa, .inl (κ 4, 6, .inr (.inr (.inr (.inr ga))))), (rd, .inr (4, [.ref tp, .ref d, .ref ft, .ref bl, .int at0, .int ca, .ref wk, .int (nI sz), .ref fl, .ref sr, .int (nI cnt), cv, .ref cl, .int (nI rw)])), (tp, .inr (8, [.ref tb, .int 0])), (tb, .inl (κ 0, 800, .inl tf)), (d, .inl (κ 0, 6, .inl dl)), (ft, .inr (2, [.int 6, .int 0, .int y2__81, .int y3__82, .int (-1), .int y5__83])), (wk, .inl (κ 1, 20, .inl wf)), (fl, .inl (κ 2, 8, .inr (.inr (.inr (.inr ff))))), (sr, .inl (κ 0, 8, .inl sf)), (cl, .inl (κ 2, 320, .inr (.inr (.inr (.inr fc)))))] ++ im) := hD
        refine lv_aload_n hx hb dX11_row_67 rfl (lv_at hl 1 rfl) ?_
        refine lv_ifnull hx hb dX11_row_68 ?_
        refine lv_iload_n hx hb dX11_row_71 rfl (lv_at hl 0 rfl) ?_
        refine lv_if_eq (tgt := 89) hx hb dX11_row_72 (by decide) (fun c_86 => ?_) (fun c_86 => absurd (by decide) c_86)
        refine lv_iconst (v := (-1)) hx hb dX11_row_89 (by decide) ?_
        exact et_iret hx hb hr hlk rfl hS ((-1), n, fs, fv, fa, ga, at0, ca, sz, cnt, cv, rw, wf, ff, sf, fc, 6, 0, y2__81, y3__82, (-1), y5__83, im) rfl ⟨(show n ≤ 6 from (by first | assumption | omega | rfl | exact Or.inl (by assumption) | exact Or.inr (by assumption))), (show Tb κ im fs fv 3 from htb), (show Rn 6 3 fa from (by first | assumption | omega | rfl | exact Or.inl (by assumption) | exact Or.inr (by assumption))), (show Ss κ im ga 6 from hss), (show sz ≤ 20 from (by first | assumption | omega | rfl | exact Or.inl (by assumption) | exact Or.inr (by assumption))), (show sb_Fit wf from (by first | assumption | omega | rfl | exact Or.inl (by assumption) | exact Or.inr (by assumption))), (show cnt ≤ 8 from (by first | assumption | omega | rfl | exact Or.inl (by assumption) | exact Or.inr (by assumption))), (show rw ≤ 40 from (by first | assumption | omega | rfl | exact Or.inl (by assumption) | exact Or.inr (by assumption))), (show Sb im im from Sb.rf), (show Lc κ im ff cnt from hlf)⟩ (subP hP [0, 1, 2, 3, 4, 5, 6, 7, 8, 9, 10, 11, 12, 13, 14] rfl) (subD hD [0, 1, 2, 3, 4, 5, 6, 7, 8, 9, 10, 11, 12, 13, 14] (by decide) rfl) (Nat.le_of_ble_eq_true rfl) (Nat.le_of_ble_eq_true rfl) dX11_row_90
  · skip
    refine lv_aload_n hx hb dX11_row_0 rfl (lv_at hl 0 rfl) ?_
    refine va_get (D := D) (ci := 11) (v := .ref st) (C := RX11) (T := TX11) (N := 7) hx hb hts inlX11 hown hK hP 0 rfl rfl 0 (by decide) (hts _ mw_15) (fun _ h9 => h9) rfl dX11_row_1 ?_
    refine lv_iload_n hx hb dX11_row_4 rfl (lv_at hl 1 rfl) ?_
    refine er_V (As := [.int za]) (rest := []) hFX hKK hE hS (c_X6_sheetOf_x l D κ κq st d sh vw ta sa n za (by assumption)) 1 gV_X11_114 hdV_X6_sheetOf rfl rfl ⟨Nat.le_of_ble_eq_true rfl, Nat.le_of_ble_eq_true rfl⟩ rfl rfl (Nat.le_of_ble_eq_true rfl) dX11_row_5 ⟨Nat.le_of_ble_eq_true rfl, Nat.le_of_ble_eq_true rfl⟩ hl.1 hP 1 6 rfl rfl rfl (subP0 hP [1] rfl) (fun _ hp_87 => ?_)
    refine W.eq (g2 := F0 m 8 ls [.null]) rfl ?_
    refine lv_astore_nN (lv' := [(2, .null), (0, .ref xx), (1, .int za)]) hx hb dX11_row_8 rfl hl (by decide) rfl (fun ls hl => ?_)
    refine lv_iconst (v := 0) hx hb dX11_row_9 (by decide) ?_
    refine lv_istore_n (lv' := [(3, .int 0), (2, .null), (0, .ref xx), (1, .int za)]) hx hb dX11_row_10 rfl hl (by decide) rfl (fun ls hl => ?_)
    refine lv_aload_nN hx hb dX11_row_11 rfl (lv_at hl 1 rfl) ?_
    refine lv_ifnullN (tgt := 42) hx hb dX11_row_12 (by decide) ?_
    refine lv_aload_nN hx hb dX11_row_42 rfl (lv_at hl 1 rfl) ?_
    refine lv_ifnullN (tgt := 59) hx hb dX11_row_43 (by decide) ?_
    refine lv_aload_n hx hb dX11_row_59 rfl (lv_at hl 2 rfl) ?_
    refine va_get (D := D) (ci := 11) (v := .ref tp) (C := RX11) (T := TX11) (N := 7) hx hb hts inlX11 hown hK hP 0 rfl rfl 1 (by decide) (hts _ mw_19) (fun _ h9 => h9) rfl dX11_row_60 ?_
    refine lv_iconst (v := 0) hx hb dX11_row_63 (by decide) ?_
    refine va_put (D := D) (ci := 8) (v := .int 0) (ty := tyX8 1) (C := RX8) (T := TX8) (N := 2) hx hb hts inlX8 tyX8 tyX8_ok nmX8 hown hK hP hD hS 7 rfl rfl 1 (by decide) (hts _ mw_223) (fun _ h9 => h9) rfl (tyX8_ok 1 (by decide)) rfl rfl (Nat.le_of_ble_eq_true rfl) dX11_row_64 (fun H locs hP hD hS => ?_)
    have hP : va_P D vwCl ([(xx, .inr (11, [.ref st, .ref tp, .ref ft, .ref rd, .ref wr, .ref st2, .int zi])), (st, .inr (6, [.ref d, .ref sh, .ref vw, .ref ta, .ref sa, .int (nI n)])), (sh, .inl (κ 4, 3, .inr (.inr (.inr (.inr fs))))), (vw, .inl (κ 5, 3, .inr (.inr (.inr (.inr fv))))), (ta, .inl (κ 0, 6, .inl fa)), (sa, .inl (κ 4, 6, .inr (.inr (.inr (.inr ga))))), (rd, .inr (4, [.ref tp, .ref d, .ref ft, .ref bl, .int at0, .int ca, .ref wk, .int (nI sz), .ref fl, .ref sr, .int (nI cnt), cv, .ref cl, .int (nI rw)])), (tp, .inr (8, [.ref tb, .int 0])), (tb, .inl (κ 0, 800, .inl tf)), (d, .inl (κ 0, 6, .inl dl)), (ft, .inr (2, [.int f0, .int f1, .int f2, .int f3, .int f4, .int f5])), (wk, .inl (κ 1, 20, .inl wf)), (fl, .inl (κ 2, 8, .inr (.inr (.inr (.inr ff))))), (sr, .inl (κ 0, 8, .inl sf)), (cl, .inl (κ 2, 320, .inr (.inr (.inr (.inr fc)))))] ++ im) H := hP
    have hD : va_D A ([(xx, .inr (11, [.ref st, .ref tp, .ref ft, .ref rd, .ref wr, .ref st2, .int zi])), (st, .inr (6, [.ref d, .ref sh, .ref vw, .ref ta, .ref sa, .int (nI n)])), (sh, .inl (κ 4, 3, .inr (.inr (.inr (.inr fs))))), (vw, .inl (κ 5, 3, .inr (.inr (.inr (.inr fv))))), (ta, .inl (κ 0, 6, .inl fa)), (sa, .inl (κ 4, 6, .inr (.inr (.inr (.inr ga))))), (rd, .inr (4, [.ref tp, .ref d, .ref ft, .ref bl, .int at0, .int ca, .ref wk, .int (nI sz), .ref fl, .ref sr, .int (nI cnt), cv, .ref cl, .int (nI rw)])), (tp, .inr (8, [.ref tb, .int 0])), (tb, .inl (κ 0, 800, .inl tf)), (d, .inl (κ 0, 6, .inl dl)), (ft, .inr (2, [.int f0, .int f1, .int f2, .int f3, .int f4, .int f5])), (wk, .inl (κ 1, 20, .inl wf)), (fl, .inl (κ 2, 8, .inr (.inr (.inr (.inr ff))))), (sr, .inl (κ 0, 8, .inl sf)), (cl, .inl (κ 2, 320, .inr (.inr (.inr (.inr fc)))))] ++ im) := hD
    refine lv_aload_nN hx hb dX11_row_67 rfl (lv_at hl 1 rfl) ?_
    refine lv_ifnullN (tgt := 89) hx hb dX11_row_68 (by decide) ?_
    refine lv_iconst (v := (-1)) hx hb dX11_row_89 (by decide) ?_
    exact et_iret hx hb hr hlk rfl hS ((-1), n, fs, fv, fa, ga, at0, ca, sz, cnt, cv, rw, wf, ff, sf, fc, f0, f1, f2, f3, f4, f5, im) rfl ⟨(show n ≤ 6 from (by first | assumption | omega | rfl | exact Or.inl (by assumption) | exact Or.inr (by assumption))), (show Tb κ im fs fv 3 from htb), (show Rn 6 3 fa from (by first | assumption | omega | rfl | exact Or.inl (by assumption) | exact Or.inr (by assumption))), (show Ss κ im ga 6 from hss), (show sz ≤ 20 from (by first | assumption | omega | rfl | exact Or.inl (by assumption) | exact Or.inr (by assumption))), (show sb_Fit wf from (by first | assumption | omega | rfl | exact Or.inl (by assumption) | exact Or.inr (by assumption))), (show cnt ≤ 8 from (by first | assumption | omega | rfl | exact Or.inl (by assumption) | exact Or.inr (by assumption))), (show rw ≤ 40 from (by first | assumption | omega | rfl | exact Or.inl (by assumption) | exact Or.inr (by assumption))), (show Sb im im from Sb.rf), (show Lc κ im ff cnt from hlf)⟩ (subP hP [0, 1, 2, 3, 4, 5, 6, 7, 8, 9, 10, 11, 12, 13, 14] rfl) (subD hD [0, 1, 2, 3, 4, 5, 6, 7, 8, 9, 10, 11, 12, 13, 14] (by decide) rfl) (Nat.le_of_ble_eq_true rfl) (Nat.le_of_ble_eq_true rfl) dX11_row_90
set_option maxHeartbeats 4000000 in
set_option maxRecDepth 100000 in
theorem c_X11_put (l : Launch) (D : va_G) (κ : Nat → ClassId) (κq : Nat → Nat) (im : va_W) (xx : Nat) (tp : Nat) (ft : Nat) (rd : Nat) (wr : Nat) (st2 : Nat) (zi : Int32) (st : Nat) (d : Nat) (sh : Nat) (vw : Nat) (ta : Nat) (sa : Nat) (n : Nat) (fs : Nat → Option Nat) (fv : Nat → Option Nat) (fa : Nat → Int32) (ga : Nat → Option Nat) (tb : Nat) (L : Nat) (tf : Nat → Int32) (za : Int32) (zb : Int32) (zc : Int32) (hn6 : n ≤ 6) (htb : Tb κ im fs fv 3) (hrn : Rn 6 3 fa) (hss : Ss κ im ga 6) (hL : L ≤ 800) : Et l yX11_put (wl yX11_put cX11_put 6 (some .boolean)) { frames := 8, cells := 6, slots := 390, locals := 169 } D κ κq [.ref xx, .int za, .int zb, .int zc] ([(xx, .inr (11, [.ref st, .ref tp, .ref ft, .ref rd, .ref wr, .ref st2, .int zi])), (st, .inr (6, [.ref d, .ref sh, .ref vw, .ref ta, .ref sa, .int (nI n)])), (sh, .inl (κ 4, 3, .inr (.inr (.inr (.inr fs))))), (vw, .inl (κ 5, 3, .inr (.inr (.inr (.inr fv))))), (ta, .inl (κ 0, 6, .inl fa)), (sa, .inl (κ 4, 6, .inr (.inr (.inr (.inr ga))))), (tp, .inr (8, [.ref tb, .int (nI L)])), (tb, .inl (κ 0, 800, .inl tf))] ++ im) (fun u9 : Int32 × Nat × (Nat → Option Nat) × (Nat → Option Nat) × (Nat → Int32) × (Nat → Option Nat) × va_W => some (.int u9.1)) (fun u9 : Int32 × Nat × (Nat → Option Nat) × (Nat → Option Nat) × (Nat → Int32) × (Nat → Option Nat) × va_W => u9.2.1 ≤ 6 ∧ Tb κ u9.2.2.2.2.2.2 u9.2.2.1 u9.2.2.2.1 3 ∧ Rn 6 3 u9.2.2.2.2.1 ∧ Ss κ u9.2.2.2.2.2.2 u9.2.2.2.2.2.1 6 ∧ Sb im u9.2.2.2.2.2.2) (fun u9 : Int32 × Nat × (Nat → Option Nat) × (Nat → Option Nat) × (Nat → Int32) × (Nat → Option Nat) × va_W => ([(xx, .inr (11, [.ref st, .ref tp, .ref ft, .ref rd, .ref wr, .ref st2, .int zi])), (st, .inr (6, [.ref d, .ref sh, .ref vw, .ref ta, .ref sa, .int (nI u9.2.1)])), (sh, .inl (κ 4, 3, .inr (.inr (.inr (.inr u9.2.2.1))))), (vw, .inl (κ 5, 3, .inr (.inr (.inr (.inr u9.2.2.2.1))))), (ta, .inl (κ 0, 6, .inl u9.2.2.2.2.1)), (sa, .inl (κ 4, 6, .inr (.inr (.inr (.inr u9.2.2.2.2.2.1))))), (tp, .inr (8, [.ref tb, .int 0])), (tb, .inl (κ 0, 800, .inl tf))] ++ u9.2.2.2.2.2.2)) := by
  refine et_of (by decide +kernel) (Nat.le_of_ble_eq_true rfl) ?_
  intro p e s m args below meth c A ls hx hb hr hml hts hown hlk hin hKK hK hA hP hD hS hE hl
  have hS : va_S A s.heap s.heap [] := hS
  have hP : va_P D vwCl ([(xx, .inr (11, [.ref st, .ref tp, .ref ft, .ref rd, .ref wr, .ref st2, .int zi])), (st, .inr (6, [.ref d, .ref sh, .ref vw, .ref ta, .ref sa, .int (nI n)])), (sh, .inl (κ 4, 3, .inr (.inr (.inr (.inr fs))))), (vw, .inl (κ 5, 3, .inr (.inr (.inr (.inr fv))))), (ta, .inl (κ 0, 6, .inl fa)), (sa, .inl (κ 4, 6, .inr (.inr (.inr (.inr ga))))), (tp, .inr (8, [.ref tb, .int (nI L)])), (tb, .inl (κ 0, 800, .inl tf))] ++ im) s.heap := hP
  have hD : va_D A ([(xx, .inr (11, [.ref st, .ref tp, .ref ft, .ref rd, .ref wr, .ref st2, .int zi])), (st, .inr (6, [.ref d, .ref sh, .ref vw, .ref ta, .ref sa, .int (nI n)])), (sh, .inl (κ 4, 3, .inr (.inr (.inr (.inr fs))))), (vw, .inl (κ 5, 3, .inr (.inr (.inr (.inr fv))))), (ta, .inl (κ 0, 6, .inl fa)), (sa, .inl (κ 4, 6, .inr (.inr (.inr (.inr ga))))), (tp, .inr (8, [.ref tb, .int (nI L)])), (tb, .inl (κ 0, 800, .inl tf))] ++ im) := hD
  have hFX : FX p s m args c cX11_put 6 RX11 := ⟨hx, hb, hml, hown, hts⟩
  have hl : lv_has ls 6 [(0, .ref xx), (1, .int za), (2, .int zb), (3, .int zc)] := hl
  rcases pl_cases za with ⟨t, ht_t, rfl⟩ | hnp_za
  · skip
    rcases htb t (by omega) with ⟨e_1, e_2⟩ | ⟨a_3, R_4, w_5, d_6, v_7, e_1, e_2, h_8, h_9, hd_10⟩
    · skip
      refine lv_aload_n hx hb dX11_put_0 rfl (lv_at hl 0 rfl) ?_
      refine va_get (D := D) (ci := 11) (v := .ref tp) (C := RX11) (T := TX11) (N := 7) hx hb hts inlX11 hown hK hP 0 rfl rfl 1 (by decide) (hts _ mw_19) (fun _ h9 => h9) rfl dX11_put_1 ?_
      refine et_VT (CR := [(xx, .inr (11, [.ref st, .ref tp, .ref ft, .ref rd, .ref wr, .ref st2, .int zi])), (st, .inr (6, [.ref d, .ref sh, .ref vw, .ref ta, .ref sa, .int (nI n)])), (sh, .inl (κ 4, 3, .inr (.inr (.inr (.inr fs))))), (vw, .inl (κ 5, 3, .inr (.inr (.inr (.inr fv))))), (ta, .inl (κ 0, 6, .inl fa)), (sa, .inl (κ 4, 6, .inr (.inr (.inr (.inr ga)))))]) (As := []) (rest := []) hFX hKK hE hP hD hS hA (c_X8_takeCell l D κ κq im tp tb L tf (by omega)) 0 gV_X11_110 hdV_X8_takeCell ⟨Nat.le_of_ble_eq_true rfl, Nat.le_of_ble_eq_true rfl⟩ rfl rfl (Nat.le_of_ble_eq_true rfl) dX11_put_4 ⟨Nat.le_of_ble_eq_true rfl, Nat.le_of_ble_eq_true rfl⟩ hl.1 [6, 7] [0, 1, 2, 3, 4, 5] rfl rfl (by decide) (by decide) (by decide) hP 6 8 rfl rfl rfl (fun u_13 H locs hp_14 hP hD hS => ?_)
      refine W.widen (k := 2) (n := 23) (Nat.le_refl _) (Nat.le_refl _) ?_
      obtain ⟨r__11, im2__12⟩ := u_13
      replace hP : va_P D vwCl ([(xx, .inr (11, [.ref st, .ref tp, .ref ft, .ref rd, .ref wr, .ref st2, .int zi])), (st, .inr (6, [.ref d, .ref sh, .ref vw, .ref ta, .ref sa, .int (nI n)])), (sh, .inl (κ 4, 3, .inr (.inr (.inr (.inr fs))))), (vw, .inl (κ 5, 3, .inr (.inr (.inr (.inr fv))))), (ta, .inl (κ 0, 6, .inl fa)), (sa, .inl (κ 4, 6, .inr (.inr (.inr (.inr ga))))), (tp, .inr (8, [.ref tb, .int 0])), (tb, .inl (κ 0, 800, .inl tf))] ++ im2__12) H := subP (C := [(xx, .inr (11, [.ref st, .ref tp, .ref ft, .ref rd, .ref wr, .ref st2, .int zi])), (st, .inr (6, [.ref d, .ref sh, .ref vw, .ref ta, .ref sa, .int (nI n)])), (sh, .inl (κ 4, 3, .inr (.inr (.inr (.inr fs))))), (vw, .inl (κ 5, 3, .inr (.inr (.inr (.inr fv))))), (ta, .inl (κ 0, 6, .inl fa)), (sa, .inl (κ 4, 6, .inr (.inr (.inr (.inr ga))))), (tp, .inr (8, [.ref tb, .int 0])), (tb, .inl (κ 0, 800, .inl tf))]) hP [0, 1, 2, 3, 4, 5, 6, 7] rfl
      replace hD : va_D A ([(xx, .inr (11, [.ref st, .ref tp, .ref ft, .ref rd, .ref wr, .ref st2, .int zi])), (st, .inr (6, [.ref d, .ref sh, .ref vw, .ref ta, .ref sa, .int (nI n)])), (sh, .inl (κ 4, 3, .inr (.inr (.inr (.inr fs))))), (vw, .inl (κ 5, 3, .inr (.inr (.inr (.inr fv))))), (ta, .inl (κ 0, 6, .inl fa)), (sa, .inl (κ 4, 6, .inr (.inr (.inr (.inr ga))))), (tp, .inr (8, [.ref tb, .int 0])), (tb, .inl (κ 0, 800, .inl tf))] ++ im2__12) := subD (C := [(xx, .inr (11, [.ref st, .ref tp, .ref ft, .ref rd, .ref wr, .ref st2, .int zi])), (st, .inr (6, [.ref d, .ref sh, .ref vw, .ref ta, .ref sa, .int (nI n)])), (sh, .inl (κ 4, 3, .inr (.inr (.inr (.inr fs))))), (vw, .inl (κ 5, 3, .inr (.inr (.inr (.inr fv))))), (ta, .inl (κ 0, 6, .inl fa)), (sa, .inl (κ 4, 6, .inr (.inr (.inr (.inr ga))))), (tp, .inr (8, [.ref tb, .int 0])), (tb, .inl (κ 0, 800, .inl tf))]) hD [0, 1, 2, 3, 4, 5, 6, 7] (by decide) rfl
      replace hp_14 : Sb im im2__12 ∧ ((r__11 = none) ∨ (∃ (q : Nat), ∃ (k : Nat), ∃ (n : Nat), r__11 = some q ∧ Cl κ im2__12 q k n)) := hp_14
      obtain ⟨h_15, ha_16⟩ := hp_14
      replace htb := htb.up h_15
      replace hss := hss.up h_15
      rcases ha_16 with rfl | ⟨q__17, k__18, n__19, rfl, a_20⟩
      · refine W.eq (g2 := F0 m 7 ls [.null]) rfl ?_
        refine lv_astoreN (lv' := [(4, .null), (0, .ref xx), (1, .int (nI t)), (2, .int zb), (3, .int zc)]) hx hb dX11_put_7 hl (by decide) rfl (fun ls hl => ?_)
        refine lv_aload_n hx hb dX11_put_9 rfl (lv_at hl 1 rfl) ?_
        refine va_get (D := D) (ci := 11) (v := .ref st) (C := RX11) (T := TX11) (N := 7) hx hb hts inlX11 hown hK hP 0 rfl rfl 0 (by decide) (hts _ mw_15) (fun _ h9 => h9) rfl dX11_put_10 ?_
        refine lv_iload_n hx hb dX11_put_13 rfl (lv_at hl 2 rfl) ?_
        refine er_V (As := [.int (nI t)]) (rest := []) hFX hKK hE hS (c_X6_sheetOf_n l D κ κq st d sh vw ta sa n fs t (by omega) e_1) 1 gV_X11_114 hdV_X6_sheetOf rfl rfl ⟨Nat.le_of_ble_eq_true rfl, Nat.le_of_ble_eq_true rfl⟩ rfl rfl (Nat.le_of_ble_eq_true rfl) dX11_put_14 ⟨Nat.le_of_ble_eq_true rfl, Nat.le_of_ble_eq_true rfl⟩ hl.1 hP 1 6 rfl rfl rfl (subP0 hP [1, 2] rfl) (fun _ hp_21 => ?_)
        refine W.eq (g2 := F0 m 17 ls [.null]) rfl ?_
        refine lv_astoreN (lv' := [(5, .null), (4, .null), (0, .ref xx), (1, .int (nI t)), (2, .int zb), (3, .int zc)]) hx hb dX11_put_17 hl (by decide) rfl (fun ls hl => ?_)
        refine lv_aloadN hx hb dX11_put_19 (lv_at hl 1 rfl) ?_
        refine lv_ifnullN (tgt := 39) hx hb dX11_put_21 (by decide) ?_
        refine lv_iconst (v := 0) hx hb dX11_put_39 (by decide) ?_
        exact et_iret hx hb hr hlk rfl hS (0, n, fs, fv, fa, ga, im2__12) rfl ⟨(show n ≤ 6 from (by first | assumption | omega | rfl | exact Or.inl (by assumption) | exact Or.inr (by assumption))), (show Tb κ im2__12 fs fv 3 from htb), (show Rn 6 3 fa from (by first | assumption | omega | rfl | exact Or.inl (by assumption) | exact Or.inr (by assumption))), (show Ss κ im2__12 ga 6 from hss), (show Sb im im2__12 from h_15)⟩ (subP hP [0, 1, 2, 3, 4, 5, 6, 7] rfl) (subD hD [0, 1, 2, 3, 4, 5, 6, 7] (by decide) rfl) (Nat.le_of_ble_eq_true rfl) (Nat.le_of_ble_eq_true rfl) dX11_put_40
      · refine W.eq (g2 := F0 m 7 ls [.ref q__17]) rfl ?_
        refine lv_astore (lv' := [(4, .ref q__17), (0, .ref xx), (1, .int (nI t)), (2, .int zb), (3, .int zc)]) hx hb dX11_put_7 hl (by decide) rfl (fun ls hl => ?_)
        refine lv_aload_n hx hb dX11_put_9 rfl (lv_at hl 1 rfl) ?_
        refine va_get (D := D) (ci := 11) (v := .ref st) (C := RX11) (T := TX11) (N := 7) hx hb hts inlX11 hown hK hP 0 rfl rfl 0 (by decide) (hts _ mw_15) (fun _ h9 => h9) rfl dX11_put_10 ?_
        refine lv_iload_n hx hb dX11_put_13 rfl (lv_at hl 2 rfl) ?_
        refine er_V (As := [.int (nI t)]) (rest := []) hFX hKK hE hS (c_X6_sheetOf_n l D κ κq st d sh vw ta sa n fs t (by omega) e_1) 1 gV_X11_114 hdV_X6_sheetOf rfl rfl ⟨Nat.le_of_ble_eq_true rfl, Nat.le_of_ble_eq_true rfl⟩ rfl rfl (Nat.le_of_ble_eq_true rfl) dX11_put_14 ⟨Nat.le_of_ble_eq_true rfl, Nat.le_of_ble_eq_true rfl⟩ hl.1 hP 1 6 rfl rfl rfl (subP0 hP [1, 2] rfl) (fun _ hp_22 => ?_)
        refine W.eq (g2 := F0 m 17 ls [.null]) rfl ?_
        refine lv_astoreN (lv' := [(5, .null), (4, .ref q__17), (0, .ref xx), (1, .int (nI t)), (2, .int zb), (3, .int zc)]) hx hb dX11_put_17 hl (by decide) rfl (fun ls hl => ?_)
        refine lv_aload hx hb dX11_put_19 (lv_at hl 1 rfl) ?_
        refine lv_ifnull hx hb dX11_put_21 ?_
        refine lv_aloadN hx hb dX11_put_24 (lv_at hl 0 rfl) ?_
        refine lv_ifnullN (tgt := 39) hx hb dX11_put_26 (by decide) ?_
        refine lv_iconst (v := 0) hx hb dX11_put_39 (by decide) ?_
        exact et_iret hx hb hr hlk rfl hS (0, n, fs, fv, fa, ga, im2__12) rfl ⟨(show n ≤ 6 from (by first | assumption | omega | rfl | exact Or.inl (by assumption) | exact Or.inr (by assumption))), (show Tb κ im2__12 fs fv 3 from htb), (show Rn 6 3 fa from (by first | assumption | omega | rfl | exact Or.inl (by assumption) | exact Or.inr (by assumption))), (show Ss κ im2__12 ga 6 from hss), (show Sb im im2__12 from h_15)⟩ (subP hP [0, 1, 2, 3, 4, 5, 6, 7] rfl) (subD hD [0, 1, 2, 3, 4, 5, 6, 7] (by decide) rfl) (Nat.le_of_ble_eq_true rfl) (Nat.le_of_ble_eq_true rfl) dX11_put_40
    · have hle_a_3 := h_8.le
      refine lv_aload_n hx hb dX11_put_0 rfl (lv_at hl 0 rfl) ?_
      refine va_get (D := D) (ci := 11) (v := .ref tp) (C := RX11) (T := TX11) (N := 7) hx hb hts inlX11 hown hK hP 0 rfl rfl 1 (by decide) (hts _ mw_19) (fun _ h9 => h9) rfl dX11_put_1 ?_
      refine et_VT (CR := [(xx, .inr (11, [.ref st, .ref tp, .ref ft, .ref rd, .ref wr, .ref st2, .int zi])), (st, .inr (6, [.ref d, .ref sh, .ref vw, .ref ta, .ref sa, .int (nI n)])), (sh, .inl (κ 4, 3, .inr (.inr (.inr (.inr fs))))), (vw, .inl (κ 5, 3, .inr (.inr (.inr (.inr fv))))), (ta, .inl (κ 0, 6, .inl fa)), (sa, .inl (κ 4, 6, .inr (.inr (.inr (.inr ga)))))]) (As := []) (rest := []) hFX hKK hE hP hD hS hA (c_X8_takeCell l D κ κq im tp tb L tf (by omega)) 0 gV_X11_110 hdV_X8_takeCell ⟨Nat.le_of_ble_eq_true rfl, Nat.le_of_ble_eq_true rfl⟩ rfl rfl (Nat.le_of_ble_eq_true rfl) dX11_put_4 ⟨Nat.le_of_ble_eq_true rfl, Nat.le_of_ble_eq_true rfl⟩ hl.1 [6, 7] [0, 1, 2, 3, 4, 5] rfl rfl (by decide) (by decide) (by decide) hP 6 8 rfl rfl rfl (fun u_25 H locs hp_26 hP hD hS => ?_)
      refine W.widen (k := 2) (n := 23) (Nat.le_refl _) (Nat.le_refl _) ?_
      obtain ⟨r__23, im2__24⟩ := u_25
      replace hP : va_P D vwCl ([(xx, .inr (11, [.ref st, .ref tp, .ref ft, .ref rd, .ref wr, .ref st2, .int zi])), (st, .inr (6, [.ref d, .ref sh, .ref vw, .ref ta, .ref sa, .int (nI n)])), (sh, .inl (κ 4, 3, .inr (.inr (.inr (.inr fs))))), (vw, .inl (κ 5, 3, .inr (.inr (.inr (.inr fv))))), (ta, .inl (κ 0, 6, .inl fa)), (sa, .inl (κ 4, 6, .inr (.inr (.inr (.inr ga))))), (tp, .inr (8, [.ref tb, .int 0])), (tb, .inl (κ 0, 800, .inl tf))] ++ im2__24) H := subP (C := [(xx, .inr (11, [.ref st, .ref tp, .ref ft, .ref rd, .ref wr, .ref st2, .int zi])), (st, .inr (6, [.ref d, .ref sh, .ref vw, .ref ta, .ref sa, .int (nI n)])), (sh, .inl (κ 4, 3, .inr (.inr (.inr (.inr fs))))), (vw, .inl (κ 5, 3, .inr (.inr (.inr (.inr fv))))), (ta, .inl (κ 0, 6, .inl fa)), (sa, .inl (κ 4, 6, .inr (.inr (.inr (.inr ga))))), (tp, .inr (8, [.ref tb, .int 0])), (tb, .inl (κ 0, 800, .inl tf))]) hP [0, 1, 2, 3, 4, 5, 6, 7] rfl
      replace hD : va_D A ([(xx, .inr (11, [.ref st, .ref tp, .ref ft, .ref rd, .ref wr, .ref st2, .int zi])), (st, .inr (6, [.ref d, .ref sh, .ref vw, .ref ta, .ref sa, .int (nI n)])), (sh, .inl (κ 4, 3, .inr (.inr (.inr (.inr fs))))), (vw, .inl (κ 5, 3, .inr (.inr (.inr (.inr fv))))), (ta, .inl (κ 0, 6, .inl fa)), (sa, .inl (κ 4, 6, .inr (.inr (.inr (.inr ga))))), (tp, .inr (8, [.ref tb, .int 0])), (tb, .inl (κ 0, 800, .inl tf))] ++ im2__24) := subD (C := [(xx, .inr (11, [.ref st, .ref tp, .ref ft, .ref rd, .ref wr, .ref st2, .int zi])), (st, .inr (6, [.ref d, .ref sh, .ref vw, .ref ta, .ref sa, .int (nI n)])), (sh, .inl (κ 4, 3, .inr (.inr (.inr (.inr fs))))), (vw, .inl (κ 5, 3, .inr (.inr (.inr (.inr fv))))), (ta, .inl (κ 0, 6, .inl fa)), (sa, .inl (κ 4, 6, .inr (.inr (.inr (.inr ga))))), (tp, .inr (8, [.ref tb, .int 0])), (tb, .inl (κ 0, 800, .inl tf))]) hD [0, 1, 2, 3, 4, 5, 6, 7] (by decide) rfl
      replace hp_26 : Sb im im2__24 ∧ ((r__23 = none) ∨ (∃ (q : Nat), ∃ (k : Nat), ∃ (n : Nat), r__23 = some q ∧ Cl κ im2__24 q k n)) := hp_26
      obtain ⟨h_27, ha_28⟩ := hp_26
      replace htb := htb.up h_27
      replace hss := hss.up h_27
      replace h_8 := h_8.up h_27
      replace h_9 := h_9.up h_27
      rcases ha_28 with rfl | ⟨q__29, k__30, n__31, rfl, a_32⟩
      · refine W.eq (g2 := F0 m 7 ls [.null]) rfl ?_
        refine lv_astoreN (lv' := [(4, .null), (0, .ref xx), (1, .int (nI t)), (2, .int zb), (3, .int zc)]) hx hb dX11_put_7 hl (by decide) rfl (fun ls hl => ?_)
        refine lv_aload_n hx hb dX11_put_9 rfl (lv_at hl 1 rfl) ?_
        refine va_get (D := D) (ci := 11) (v := .ref st) (C := RX11) (T := TX11) (N := 7) hx hb hts inlX11 hown hK hP 0 rfl rfl 0 (by decide) (hts _ mw_15) (fun _ h9 => h9) rfl dX11_put_10 ?_
        refine lv_iload_n hx hb dX11_put_13 rfl (lv_at hl 2 rfl) ?_
        refine er_V (As := [.int (nI t)]) (rest := []) hFX hKK hE hS (c_X6_sheetOf_s l D κ κq st d sh vw ta sa n fs t a_3 (by omega) e_1) 1 gV_X11_114 hdV_X6_sheetOf rfl rfl ⟨Nat.le_of_ble_eq_true rfl, Nat.le_of_ble_eq_true rfl⟩ rfl rfl (Nat.le_of_ble_eq_true rfl) dX11_put_14 ⟨Nat.le_of_ble_eq_true rfl, Nat.le_of_ble_eq_true rfl⟩ hl.1 hP 1 6 rfl rfl rfl (subP0 hP [1, 2] rfl) (fun _ hp_33 => ?_)
        refine W.eq (g2 := F0 m 17 ls [.ref a_3]) rfl ?_
        refine lv_astore (lv' := [(5, .ref a_3), (4, .null), (0, .ref xx), (1, .int (nI t)), (2, .int zb), (3, .int zc)]) hx hb dX11_put_17 hl (by decide) rfl (fun ls hl => ?_)
        refine lv_aloadN hx hb dX11_put_19 (lv_at hl 1 rfl) ?_
        refine lv_ifnullN (tgt := 39) hx hb dX11_put_21 (by decide) ?_
        refine lv_iconst (v := 0) hx hb dX11_put_39 (by decide) ?_
        exact et_iret hx hb hr hlk rfl hS (0, n, fs, fv, fa, ga, im2__24) rfl ⟨(show n ≤ 6 from (by first | assumption | omega | rfl | exact Or.inl (by assumption) | exact Or.inr (by assumption))), (show Tb κ im2__24 fs fv 3 from htb), (show Rn 6 3 fa from (by first | assumption | omega | rfl | exact Or.inl (by assumption) | exact Or.inr (by assumption))), (show Ss κ im2__24 ga 6 from hss), (show Sb im im2__24 from h_27)⟩ (subP hP [0, 1, 2, 3, 4, 5, 6, 7] rfl) (subD hD [0, 1, 2, 3, 4, 5, 6, 7] (by decide) rfl) (Nat.le_of_ble_eq_true rfl) (Nat.le_of_ble_eq_true rfl) dX11_put_40
      · refine W.eq (g2 := F0 m 7 ls [.ref q__29]) rfl ?_
        refine lv_astore (lv' := [(4, .ref q__29), (0, .ref xx), (1, .int (nI t)), (2, .int zb), (3, .int zc)]) hx hb dX11_put_7 hl (by decide) rfl (fun ls hl => ?_)
        refine lv_aload_n hx hb dX11_put_9 rfl (lv_at hl 1 rfl) ?_
        refine va_get (D := D) (ci := 11) (v := .ref st) (C := RX11) (T := TX11) (N := 7) hx hb hts inlX11 hown hK hP 0 rfl rfl 0 (by decide) (hts _ mw_15) (fun _ h9 => h9) rfl dX11_put_10 ?_
        refine lv_iload_n hx hb dX11_put_13 rfl (lv_at hl 2 rfl) ?_
        refine er_V (As := [.int (nI t)]) (rest := []) hFX hKK hE hS (c_X6_sheetOf_s l D κ κq st d sh vw ta sa n fs t a_3 (by omega) e_1) 1 gV_X11_114 hdV_X6_sheetOf rfl rfl ⟨Nat.le_of_ble_eq_true rfl, Nat.le_of_ble_eq_true rfl⟩ rfl rfl (Nat.le_of_ble_eq_true rfl) dX11_put_14 ⟨Nat.le_of_ble_eq_true rfl, Nat.le_of_ble_eq_true rfl⟩ hl.1 hP 1 6 rfl rfl rfl (subP0 hP [1, 2] rfl) (fun _ hp_34 => ?_)
        refine W.eq (g2 := F0 m 17 ls [.ref a_3]) rfl ?_
        refine lv_astore (lv' := [(5, .ref a_3), (4, .ref q__29), (0, .ref xx), (1, .int (nI t)), (2, .int zb), (3, .int zc)]) hx hb dX11_put_17 hl (by decide) rfl (fun ls hl => ?_)
        refine lv_aload hx hb dX11_put_19 (lv_at hl 1 rfl) ?_
        refine lv_ifnull hx hb dX11_put_21 ?_
        refine lv_aload hx hb dX11_put_24 (lv_at hl 0 rfl) ?_
        refine lv_ifnull hx hb dX11_put_26 ?_
        refine lv_aload hx hb dX11_put_29 (lv_at hl 0 rfl) ?_
        refine lv_iload_n hx hb dX11_put_31 rfl (lv_at hl 4 rfl) ?_
        refine lv_iload_n hx hb dX11_put_32 rfl (lv_at hl 5 rfl) ?_
        obtain ⟨hb_37, c_38, x_39, v_40, g_41, h_42, hm_43, hm_44, hm_45, lo_46, lc_47, vw_48⟩ := id h_8
        obtain ⟨hb_37_1, hb_37_2, hb_37_3⟩ := hb_37
        have hrw_hb_37 := rw_le hb_37_1 hb_37_3
        refine er_V (As := [.int zb, .int zc]) (rest := []) hFX hKK hE hS (c_X5_hasCell l D κ κq im2__24 a_3 R_4 w_5 zb zc h_8) 2 gV_X11_118 hdV_X5_hasCell rfl rfl ⟨Nat.le_of_ble_eq_true rfl, Nat.le_of_ble_eq_true rfl⟩ rfl rfl (Nat.le_of_ble_eq_true rfl) dX11_put_33 ⟨Nat.le_of_ble_eq_true rfl, Nat.le_of_ble_eq_true rfl⟩ hl.1 (oneP (C := [(xx, .inr (11, [.ref st, .ref tp, .ref ft, .ref rd, .ref wr, .ref st2, .int zi])), (st, .inr (6, [.ref d, .ref sh, .ref vw, .ref ta, .ref sa, .int (nI n)])), (sh, .inl (κ 4, 3, .inr (.inr (.inr (.inr fs))))), (vw, .inl (κ 5, 3, .inr (.inr (.inr (.inr fv))))), (ta, .inl (κ 0, 6, .inl fa)), (sa, .inl (κ 4, 6, .inr (.inr (.inr (.inr ga))))), (tp, .inr (8, [.ref tb, .int 0])), (tb, .inl (κ 0, 800, .inl tf))]) hP hm_43) 0 5 rfl rfl rfl (subP hP [] rfl) (fun r__35 hp_36 => ?_)
        replace hp_36 : ((r__35 = 1 ∧ (∃ j : Nat, j < R_4 ∧ zb = nI j) ∧ (∃ k : Nat, k < w_5 ∧ zc = nI k)) ∨ (r__35 = 0)) := hp_36
        have ha_49 := hp_36
        clear hp_36
        rcases ha_49 with ⟨rfl, ⟨j_50, hj_50, rfl⟩, ⟨k_52, hk_52, rfl⟩⟩ | rfl
        · refine W.eq (g2 := F0 m 36 ls [.int 1]) rfl ?_
          refine lv_if_ne (tgt := 41) hx hb dX11_put_36 (by decide) (fun c_54 => ?_) (fun c_54 => absurd c_54 (by decide))
          refine lv_aload hx hb dX11_put_41 (lv_at hl 0 rfl) ?_
          refine va_get (D := D) (ci := 5) (v := .ref c_38) (C := RX5) (T := TX5) (N := 4) hx hb hts inlX5 hown hK (oneP (C := [(xx, .inr (11, [.ref st, .ref tp, .ref ft, .ref rd, .ref wr, .ref st2, .int zi])), (st, .inr (6, [.ref d, .ref sh, .ref vw, .ref ta, .ref sa, .int (nI n)])), (sh, .inl (κ 4, 3, .inr (.inr (.inr (.inr fs))))), (vw, .inl (κ 5, 3, .inr (.inr (.inr (.inr fv))))), (ta, .inl (κ 0, 6, .inl fa)), (sa, .inl (κ 4, 6, .inr (.inr (.inr (.inr ga))))), (tp, .inr (8, [.ref tb, .int 0])), (tb, .inl (κ 0, 800, .inl tf))]) hP hm_43) 0 rfl rfl 0 (by decide) (hts _ mw_559) (fun _ h9 => h9) rfl dX11_put_43 ?_
          refine lv_iload_n hx hb dX11_put_46 rfl (lv_at hl 5 rfl) ?_
          refine va_aldq hx hb hK (oneP (C := [(xx, .inr (11, [.ref st, .ref tp, .ref ft, .ref rd, .ref wr, .ref st2, .int zi])), (st, .inr (6, [.ref d, .ref sh, .ref vw, .ref ta, .ref sa, .int (nI n)])), (sh, .inl (κ 4, 3, .inr (.inr (.inr (.inr fs))))), (vw, .inl (κ 5, 3, .inr (.inr (.inr (.inr fv))))), (ta, .inl (κ 0, 6, .inl fa)), (sa, .inl (κ 4, 6, .inr (.inr (.inr (.inr ga))))), (tp, .inr (8, [.ref tb, .int 0])), (tb, .inl (κ 0, 800, .inl tf))]) hP hm_44) 0 3 rfl rfl (i := nI k_52) (vp_in_nI (n := k_52) (by omega) (by omega)) dX11_put_47 ?_
          obtain ⟨q_55, e_56, m_57, t_58, h_59⟩ := lo_46 k_52 (by omega)
          refine kv (v := .ref q_55) (by rw [nI_clamp (by omega)]; rw [e_56]; rfl) ?_
          refine lv_aload hx hb dX11_put_48 (lv_at hl 1 rfl) ?_
          obtain ⟨ht_62, b_63, hm_64, hb_65⟩ := id h_59
          have hn_b_63 := hb_65.1
          refine er_V (As := [.ref q__29]) (rest := []) hFX hKK hE hS (c_X1_takes l D κ κq im2__24 q_55 m_57 t_58 q__29 k__30 n__31 h_59 a_32) 1 gV_X11_125 hdV_X1_takes rfl rfl ⟨Nat.le_of_ble_eq_true rfl, Nat.le_of_ble_eq_true rfl⟩ rfl rfl (Nat.le_of_ble_eq_true rfl) dX11_put_50 ⟨Nat.le_of_ble_eq_true rfl, Nat.le_of_ble_eq_true rfl⟩ hl.1 (oneP (C := [(xx, .inr (11, [.ref st, .ref tp, .ref ft, .ref rd, .ref wr, .ref st2, .int zi])), (st, .inr (6, [.ref d, .ref sh, .ref vw, .ref ta, .ref sa, .int (nI n)])), (sh, .inl (κ 4, 3, .inr (.inr (.inr (.inr fs))))), (vw, .inl (κ 5, 3, .inr (.inr (.inr (.inr fv))))), (ta, .inl (κ 0, 6, .inl fa)), (sa, .inl (κ 4, 6, .inr (.inr (.inr (.inr ga))))), (tp, .inr (8, [.ref tb, .int 0])), (tb, .inl (κ 0, 800, .inl tf))]) hP hm_64) 0 1 rfl rfl rfl (subP hP [] rfl) (fun r__60 hp_61 => ?_)
          replace hp_61 : ((r__60 = 1) ∨ (r__60 = 0)) := hp_61
          have ha_66 := hp_61
          clear hp_61
          rcases ha_66 with rfl | rfl
          · refine W.eq (g2 := F0 m 53 ls [.int 1]) rfl ?_
            refine lv_if_ne (tgt := 58) hx hb dX11_put_53 (by decide) (fun c_67 => ?_) (fun c_67 => absurd c_67 (by decide))
            refine lv_aload_n hx hb dX11_put_58 rfl (lv_at hl 2 rfl) ?_
            refine va_get (D := D) (ci := 11) (v := .ref st) (C := RX11) (T := TX11) (N := 7) hx hb hts inlX11 hown hK hP 0 rfl rfl 0 (by decide) (hts _ mw_15) (fun _ h9 => h9) rfl dX11_put_59 ?_
            refine lv_iload_n hx hb dX11_put_62 rfl (lv_at hl 3 rfl) ?_
            refine lv_aload hx hb dX11_put_63 (lv_at hl 0 rfl) ?_
            refine lv_iload_n hx hb dX11_put_65 rfl (lv_at hl 4 rfl) ?_
            refine lv_iload_n hx hb dX11_put_66 rfl (lv_at hl 5 rfl) ?_
            refine lv_aload hx hb dX11_put_67 (lv_at hl 1 rfl) ?_
            refine et_VT (CR := [(xx, .inr (11, [.ref st, .ref tp, .ref ft, .ref rd, .ref wr, .ref st2, .int zi])), (st, .inr (6, [.ref d, .ref sh, .ref vw, .ref ta, .ref sa, .int (nI n)])), (sh, .inl (κ 4, 3, .inr (.inr (.inr (.inr fs))))), (vw, .inl (κ 5, 3, .inr (.inr (.inr (.inr fv))))), (ta, .inl (κ 0, 6, .inl fa)), (sa, .inl (κ 4, 6, .inr (.inr (.inr (.inr ga))))), (tp, .inr (8, [.ref tb, .int 0])), (tb, .inl (κ 0, 800, .inl tf))]) (As := [.int (nI j_50), .int (nI k_52), .ref q__29]) (rest := [.int (nI t), .ref st]) hFX hKK hE hP hD hS hA (c_X5_withCell l D κ κq im2__24 a_3 R_4 w_5 j_50 k_52 q__29 k__30 n__31 h_8 (by omega) (by omega) a_32) 3 gV_X11_131 hdV_X5_withCell ⟨Nat.le_of_ble_eq_true rfl, Nat.le_of_ble_eq_true rfl⟩ rfl rfl (Nat.le_of_ble_eq_true rfl) dX11_put_69 ⟨Nat.le_of_ble_eq_true rfl, Nat.le_of_ble_eq_true rfl⟩ hl.1 [] [0, 1, 2, 3, 4, 5, 6, 7] rfl rfl (by decide) (by decide) (by decide) (oneP (C := [(xx, .inr (11, [.ref st, .ref tp, .ref ft, .ref rd, .ref wr, .ref st2, .int zi])), (st, .inr (6, [.ref d, .ref sh, .ref vw, .ref ta, .ref sa, .int (nI n)])), (sh, .inl (κ 4, 3, .inr (.inr (.inr (.inr fs))))), (vw, .inl (κ 5, 3, .inr (.inr (.inr (.inr fv))))), (ta, .inl (κ 0, 6, .inl fa)), (sa, .inl (κ 4, 6, .inr (.inr (.inr (.inr ga))))), (tp, .inr (8, [.ref tb, .int 0])), (tb, .inl (κ 0, 800, .inl tf))]) hP hm_43) 0 5 rfl rfl rfl (fun u_70 H locs hp_71 hP hD hS => ?_)
            refine W.widen (k := 6) (n := 390) (Nat.le_refl _) (Nat.le_refl _) ?_
            obtain ⟨r__68, im2__69⟩ := u_70
            replace hP : va_P D vwCl ([(xx, .inr (11, [.ref st, .ref tp, .ref ft, .ref rd, .ref wr, .ref st2, .int zi])), (st, .inr (6, [.ref d, .ref sh, .ref vw, .ref ta, .ref sa, .int (nI n)])), (sh, .inl (κ 4, 3, .inr (.inr (.inr (.inr fs))))), (vw, .inl (κ 5, 3, .inr (.inr (.inr (.inr fv))))), (ta, .inl (κ 0, 6, .inl fa)), (sa, .inl (κ 4, 6, .inr (.inr (.inr (.inr ga))))), (tp, .inr (8, [.ref tb, .int 0])), (tb, .inl (κ 0, 800, .inl tf))] ++ im2__69) H := subP (C := [(xx, .inr (11, [.ref st, .ref tp, .ref ft, .ref rd, .ref wr, .ref st2, .int zi])), (st, .inr (6, [.ref d, .ref sh, .ref vw, .ref ta, .ref sa, .int (nI n)])), (sh, .inl (κ 4, 3, .inr (.inr (.inr (.inr fs))))), (vw, .inl (κ 5, 3, .inr (.inr (.inr (.inr fv))))), (ta, .inl (κ 0, 6, .inl fa)), (sa, .inl (κ 4, 6, .inr (.inr (.inr (.inr ga))))), (tp, .inr (8, [.ref tb, .int 0])), (tb, .inl (κ 0, 800, .inl tf))]) hP [0, 1, 2, 3, 4, 5, 6, 7] rfl
            replace hD : va_D A ([(xx, .inr (11, [.ref st, .ref tp, .ref ft, .ref rd, .ref wr, .ref st2, .int zi])), (st, .inr (6, [.ref d, .ref sh, .ref vw, .ref ta, .ref sa, .int (nI n)])), (sh, .inl (κ 4, 3, .inr (.inr (.inr (.inr fs))))), (vw, .inl (κ 5, 3, .inr (.inr (.inr (.inr fv))))), (ta, .inl (κ 0, 6, .inl fa)), (sa, .inl (κ 4, 6, .inr (.inr (.inr (.inr ga))))), (tp, .inr (8, [.ref tb, .int 0])), (tb, .inl (κ 0, 800, .inl tf))] ++ im2__69) := subD (C := [(xx, .inr (11, [.ref st, .ref tp, .ref ft, .ref rd, .ref wr, .ref st2, .int zi])), (st, .inr (6, [.ref d, .ref sh, .ref vw, .ref ta, .ref sa, .int (nI n)])), (sh, .inl (κ 4, 3, .inr (.inr (.inr (.inr fs))))), (vw, .inl (κ 5, 3, .inr (.inr (.inr (.inr fv))))), (ta, .inl (κ 0, 6, .inl fa)), (sa, .inl (κ 4, 6, .inr (.inr (.inr (.inr ga))))), (tp, .inr (8, [.ref tb, .int 0])), (tb, .inl (κ 0, 800, .inl tf))]) hD [0, 1, 2, 3, 4, 5, 6, 7] (by decide) rfl
            replace hp_71 : Sb im2__24 im2__69 ∧ ((∃ (q : Nat), r__68 = some q ∧ Sh κ im2__69 q R_4 w_5)) := hp_71
            obtain ⟨h_72, ha_73⟩ := hp_71
            replace htb := htb.up h_72
            replace hss := hss.up h_72
            replace h_8 := h_8.up h_72
            replace h_9 := h_9.up h_72
            replace a_32 := a_32.up h_72
            replace lo_46 := lo_46.up h_72
            replace lc_47 := lc_47.up h_72
            replace vw_48 := vw_48.up h_72
            replace h_59 := h_59.up h_72
            replace hb_65 := hb_65.up h_72
            replace hm_43 := h_72 _ hm_43
            replace hm_44 := h_72 _ hm_44
            replace hm_45 := h_72 _ hm_45
            replace hm_64 := h_72 _ hm_64
            rcases ha_73 with ⟨q__74, rfl, a_75⟩
            · refine W.eq (g2 := F0 m 72 ls [.ref q__74, .int (nI t), .ref st]) rfl ?_
              refine et_VT (CR := [(xx, .inr (11, [.ref st, .ref tp, .ref ft, .ref rd, .ref wr, .ref st2, .int zi])), (tp, .inr (8, [.ref tb, .int 0])), (tb, .inl (κ 0, 800, .inl tf))]) (As := [.int (nI t), .ref q__74]) (rest := []) hFX hKK hE hP hD hS hA (c_X6_act l D κ κq im2__69 st d sh vw ta sa n fs fv fa ga t q__74 R_4 w_5 (by omega) htb hrn hss (by omega) a_75) 2 gV_X11_86 hdV_X6_act ⟨Nat.le_of_ble_eq_true rfl, Nat.le_of_ble_eq_true rfl⟩ rfl rfl (Nat.le_of_ble_eq_true rfl) dX11_put_72 ⟨Nat.le_of_ble_eq_true rfl, Nat.le_of_ble_eq_true rfl⟩ hl.1 [1, 2, 3, 4, 5] [0, 6, 7] rfl rfl (by decide) (by decide) (by decide) hP 1 6 rfl rfl rfl (fun u_81 H locs hp_82 hP hD hS => ?_)
              refine W.widen (k := 6) (n := 390) (Nat.le_refl _) (Nat.le_refl _) ?_
              obtain ⟨y__76, gs__77, gv__78, fb__79, gb__80⟩ := u_81
              replace hP : va_P D vwCl ([(xx, .inr (11, [.ref st, .ref tp, .ref ft, .ref rd, .ref wr, .ref st2, .int zi])), (st, .inr (6, [.ref d, .ref sh, .ref vw, .ref ta, .ref sa, .int (nI y__76)])), (sh, .inl (κ 4, 3, .inr (.inr (.inr (.inr gs__77))))), (vw, .inl (κ 5, 3, .inr (.inr (.inr (.inr gv__78))))), (ta, .inl (κ 0, 6, .inl fb__79)), (sa, .inl (κ 4, 6, .inr (.inr (.inr (.inr gb__80))))), (tp, .inr (8, [.ref tb, .int 0])), (tb, .inl (κ 0, 800, .inl tf))] ++ im2__69) H := subP (C := [(xx, .inr (11, [.ref st, .ref tp, .ref ft, .ref rd, .ref wr, .ref st2, .int zi])), (tp, .inr (8, [.ref tb, .int 0])), (tb, .inl (κ 0, 800, .inl tf)), (st, .inr (6, [.ref d, .ref sh, .ref vw, .ref ta, .ref sa, .int (nI y__76)])), (sh, .inl (κ 4, 3, .inr (.inr (.inr (.inr gs__77))))), (vw, .inl (κ 5, 3, .inr (.inr (.inr (.inr gv__78))))), (ta, .inl (κ 0, 6, .inl fb__79)), (sa, .inl (κ 4, 6, .inr (.inr (.inr (.inr gb__80)))))]) hP [0, 3, 4, 5, 6, 7, 1, 2] rfl
              replace hD : va_D A ([(xx, .inr (11, [.ref st, .ref tp, .ref ft, .ref rd, .ref wr, .ref st2, .int zi])), (st, .inr (6, [.ref d, .ref sh, .ref vw, .ref ta, .ref sa, .int (nI y__76)])), (sh, .inl (κ 4, 3, .inr (.inr (.inr (.inr gs__77))))), (vw, .inl (κ 5, 3, .inr (.inr (.inr (.inr gv__78))))), (ta, .inl (κ 0, 6, .inl fb__79)), (sa, .inl (κ 4, 6, .inr (.inr (.inr (.inr gb__80))))), (tp, .inr (8, [.ref tb, .int 0])), (tb, .inl (κ 0, 800, .inl tf))] ++ im2__69) := subD (C := [(xx, .inr (11, [.ref st, .ref tp, .ref ft, .ref rd, .ref wr, .ref st2, .int zi])), (tp, .inr (8, [.ref tb, .int 0])), (tb, .inl (κ 0, 800, .inl tf)), (st, .inr (6, [.ref d, .ref sh, .ref vw, .ref ta, .ref sa, .int (nI y__76)])), (sh, .inl (κ 4, 3, .inr (.inr (.inr (.inr gs__77))))), (vw, .inl (κ 5, 3, .inr (.inr (.inr (.inr gv__78))))), (ta, .inl (κ 0, 6, .inl fb__79)), (sa, .inl (κ 4, 6, .inr (.inr (.inr (.inr gb__80)))))]) hD [0, 3, 4, 5, 6, 7, 1, 2] (by decide) rfl
              replace hp_82 : y__76 ≤ 6 ∧ Tb κ im2__69 gs__77 gv__78 3 ∧ Rn 6 3 fb__79 ∧ Ss κ im2__69 gb__80 6 := hp_82
              obtain ⟨h_83, h_84, h_85, h_86⟩ := hp_82
              refine W.eq (g2 := F0 m 75 ls []) rfl ?_
              refine lv_iconst (v := 1) hx hb dX11_put_75 (by decide) ?_
              exact et_iret hx hb hr hlk rfl hS (1, y__76, gs__77, gv__78, fb__79, gb__80, im2__69) rfl ⟨(show y__76 ≤ 6 from (by first | assumption | omega | rfl | exact Or.inl (by assumption) | exact Or.inr (by assumption))), (show Tb κ im2__69 gs__77 gv__78 3 from h_84), (show Rn 6 3 fb__79 from (by first | assumption | omega | rfl | exact Or.inl (by assumption) | exact Or.inr (by assumption))), (show Ss κ im2__69 gb__80 6 from h_86), (show Sb im im2__69 from (Sb.tr h_27 h_72))⟩ (subP hP [0, 1, 2, 3, 4, 5, 6, 7] rfl) (subD hD [0, 1, 2, 3, 4, 5, 6, 7] (by decide) rfl) (Nat.le_of_ble_eq_true rfl) (Nat.le_of_ble_eq_true rfl) dX11_put_76
          · refine W.eq (g2 := F0 m 53 ls [.int 0]) rfl ?_
            refine lv_if_ne (tgt := 58) hx hb dX11_put_53 (by decide) (fun c_87 => absurd c_87 (by decide)) (fun c_87 => ?_)
            refine lv_iconst (v := 0) hx hb dX11_put_56 (by decide) ?_
            exact et_iret hx hb hr hlk rfl hS (0, n, fs, fv, fa, ga, im2__24) rfl ⟨(show n ≤ 6 from (by first | assumption | omega | rfl | exact Or.inl (by assumption) | exact Or.inr (by assumption))), (show Tb κ im2__24 fs fv 3 from htb), (show Rn 6 3 fa from (by first | assumption | omega | rfl | exact Or.inl (by assumption) | exact Or.inr (by assumption))), (show Ss κ im2__24 ga 6 from hss), (show Sb im im2__24 from h_27)⟩ (subP hP [0, 1, 2, 3, 4, 5, 6, 7] rfl) (subD hD [0, 1, 2, 3, 4, 5, 6, 7] (by decide) rfl) (Nat.le_of_ble_eq_true rfl) (Nat.le_of_ble_eq_true rfl) dX11_put_57
        · refine W.eq (g2 := F0 m 36 ls [.int 0]) rfl ?_
          refine lv_if_ne (tgt := 41) hx hb dX11_put_36 (by decide) (fun c_88 => absurd c_88 (by decide)) (fun c_88 => ?_)
          refine lv_iconst (v := 0) hx hb dX11_put_39 (by decide) ?_
          exact et_iret hx hb hr hlk rfl hS (0, n, fs, fv, fa, ga, im2__24) rfl ⟨(show n ≤ 6 from (by first | assumption | omega | rfl | exact Or.inl (by assumption) | exact Or.inr (by assumption))), (show Tb κ im2__24 fs fv 3 from htb), (show Rn 6 3 fa from (by first | assumption | omega | rfl | exact Or.inl (by assumption) | exact Or.inr (by assumption))), (show Ss κ im2__24 ga 6 from hss), (show Sb im im2__24 from h_27)⟩ (subP hP [0, 1, 2, 3, 4, 5, 6, 7] rfl) (subD hD [0, 1, 2, 3, 4, 5, 6, 7] (by decide) rfl) (Nat.le_of_ble_eq_true rfl) (Nat.le_of_ble_eq_true rfl) dX11_put_40
  · skip
    refine lv_aload_n hx hb dX11_put_0 rfl (lv_at hl 0 rfl) ?_
    refine va_get (D := D) (ci := 11) (v := .ref tp) (C := RX11) (T := TX11) (N := 7) hx hb hts inlX11 hown hK hP 0 rfl rfl 1 (by decide) (hts _ mw_19) (fun _ h9 => h9) rfl dX11_put_1 ?_
    refine et_VT (CR := [(xx, .inr (11, [.ref st, .ref tp, .ref ft, .ref rd, .ref wr, .ref st2, .int zi])), (st, .inr (6, [.ref d, .ref sh, .ref vw, .ref ta, .ref sa, .int (nI n)])), (sh, .inl (κ 4, 3, .inr (.inr (.inr (.inr fs))))), (vw, .inl (κ 5, 3, .inr (.inr (.inr (.inr fv))))), (ta, .inl (κ 0, 6, .inl fa)), (sa, .inl (κ 4, 6, .inr (.inr (.inr (.inr ga)))))]) (As := []) (rest := []) hFX hKK hE hP hD hS hA (c_X8_takeCell l D κ κq im tp tb L tf (by omega)) 0 gV_X11_110 hdV_X8_takeCell ⟨Nat.le_of_ble_eq_true rfl, Nat.le_of_ble_eq_true rfl⟩ rfl rfl (Nat.le_of_ble_eq_true rfl) dX11_put_4 ⟨Nat.le_of_ble_eq_true rfl, Nat.le_of_ble_eq_true rfl⟩ hl.1 [6, 7] [0, 1, 2, 3, 4, 5] rfl rfl (by decide) (by decide) (by decide) hP 6 8 rfl rfl rfl (fun u_91 H locs hp_92 hP hD hS => ?_)
    refine W.widen (k := 2) (n := 23) (Nat.le_refl _) (Nat.le_refl _) ?_
    obtain ⟨r__89, im2__90⟩ := u_91
    replace hP : va_P D vwCl ([(xx, .inr (11, [.ref st, .ref tp, .ref ft, .ref rd, .ref wr, .ref st2, .int zi])), (st, .inr (6, [.ref d, .ref sh, .ref vw, .ref ta, .ref sa, .int (nI n)])), (sh, .inl (κ 4, 3, .inr (.inr (.inr (.inr fs))))), (vw, .inl (κ 5, 3, .inr (.inr (.inr (.inr fv))))), (ta, .inl (κ 0, 6, .inl fa)), (sa, .inl (κ 4, 6, .inr (.inr (.inr (.inr ga))))), (tp, .inr (8, [.ref tb, .int 0])), (tb, .inl (κ 0, 800, .inl tf))] ++ im2__90) H := subP (C := [(xx, .inr (11, [.ref st, .ref tp, .ref ft, .ref rd, .ref wr, .ref st2, .int zi])), (st, .inr (6, [.ref d, .ref sh, .ref vw, .ref ta, .ref sa, .int (nI n)])), (sh, .inl (κ 4, 3, .inr (.inr (.inr (.inr fs))))), (vw, .inl (κ 5, 3, .inr (.inr (.inr (.inr fv))))), (ta, .inl (κ 0, 6, .inl fa)), (sa, .inl (κ 4, 6, .inr (.inr (.inr (.inr ga))))), (tp, .inr (8, [.ref tb, .int 0])), (tb, .inl (κ 0, 800, .inl tf))]) hP [0, 1, 2, 3, 4, 5, 6, 7] rfl
    replace hD : va_D A ([(xx, .inr (11, [.ref st, .ref tp, .ref ft, .ref rd, .ref wr, .ref st2, .int zi])), (st, .inr (6, [.ref d, .ref sh, .ref vw, .ref ta, .ref sa, .int (nI n)])), (sh, .inl (κ 4, 3, .inr (.inr (.inr (.inr fs))))), (vw, .inl (κ 5, 3, .inr (.inr (.inr (.inr fv))))), (ta, .inl (κ 0, 6, .inl fa)), (sa, .inl (κ 4, 6, .inr (.inr (.inr (.inr ga))))), (tp, .inr (8, [.ref tb, .int 0])), (tb, .inl (κ 0, 800, .inl tf))] ++ im2__90) := subD (C := [(xx, .inr (11, [.ref st, .ref tp, .ref ft, .ref rd, .ref wr, .ref st2, .int zi])), (st, .inr (6, [.ref d, .ref sh, .ref vw, .ref ta, .ref sa, .int (nI n)])), (sh, .inl (κ 4, 3, .inr (.inr (.inr (.inr fs))))), (vw, .inl (κ 5, 3, .inr (.inr (.inr (.inr fv))))), (ta, .inl (κ 0, 6, .inl fa)), (sa, .inl (κ 4, 6, .inr (.inr (.inr (.inr ga))))), (tp, .inr (8, [.ref tb, .int 0])), (tb, .inl (κ 0, 800, .inl tf))]) hD [0, 1, 2, 3, 4, 5, 6, 7] (by decide) rfl
    replace hp_92 : Sb im im2__90 ∧ ((r__89 = none) ∨ (∃ (q : Nat), ∃ (k : Nat), ∃ (n : Nat), r__89 = some q ∧ Cl κ im2__90 q k n)) := hp_92
    obtain ⟨h_93, ha_94⟩ := hp_92
    replace htb := htb.up h_93
    replace hss := hss.up h_93
    rcases ha_94 with rfl | ⟨q__95, k__96, n__97, rfl, a_98⟩
    · refine W.eq (g2 := F0 m 7 ls [.null]) rfl ?_
      refine lv_astoreN (lv' := [(4, .null), (0, .ref xx), (1, .int za), (2, .int zb), (3, .int zc)]) hx hb dX11_put_7 hl (by decide) rfl (fun ls hl => ?_)
      refine lv_aload_n hx hb dX11_put_9 rfl (lv_at hl 1 rfl) ?_
      refine va_get (D := D) (ci := 11) (v := .ref st) (C := RX11) (T := TX11) (N := 7) hx hb hts inlX11 hown hK hP 0 rfl rfl 0 (by decide) (hts _ mw_15) (fun _ h9 => h9) rfl dX11_put_10 ?_
      refine lv_iload_n hx hb dX11_put_13 rfl (lv_at hl 2 rfl) ?_
      refine er_V (As := [.int za]) (rest := []) hFX hKK hE hS (c_X6_sheetOf_x l D κ κq st d sh vw ta sa n za (by assumption)) 1 gV_X11_114 hdV_X6_sheetOf rfl rfl ⟨Nat.le_of_ble_eq_true rfl, Nat.le_of_ble_eq_true rfl⟩ rfl rfl (Nat.le_of_ble_eq_true rfl) dX11_put_14 ⟨Nat.le_of_ble_eq_true rfl, Nat.le_of_ble_eq_true rfl⟩ hl.1 hP 1 6 rfl rfl rfl (subP0 hP [1] rfl) (fun _ hp_99 => ?_)
      refine W.eq (g2 := F0 m 17 ls [.null]) rfl ?_
      refine lv_astoreN (lv' := [(5, .null), (4, .null), (0, .ref xx), (1, .int za), (2, .int zb), (3, .int zc)]) hx hb dX11_put_17 hl (by decide) rfl (fun ls hl => ?_)
      refine lv_aloadN hx hb dX11_put_19 (lv_at hl 1 rfl) ?_
      refine lv_ifnullN (tgt := 39) hx hb dX11_put_21 (by decide) ?_
      refine lv_iconst (v := 0) hx hb dX11_put_39 (by decide) ?_
      exact et_iret hx hb hr hlk rfl hS (0, n, fs, fv, fa, ga, im2__90) rfl ⟨(show n ≤ 6 from (by first | assumption | omega | rfl | exact Or.inl (by assumption) | exact Or.inr (by assumption))), (show Tb κ im2__90 fs fv 3 from htb), (show Rn 6 3 fa from (by first | assumption | omega | rfl | exact Or.inl (by assumption) | exact Or.inr (by assumption))), (show Ss κ im2__90 ga 6 from hss), (show Sb im im2__90 from h_93)⟩ (subP hP [0, 1, 2, 3, 4, 5, 6, 7] rfl) (subD hD [0, 1, 2, 3, 4, 5, 6, 7] (by decide) rfl) (Nat.le_of_ble_eq_true rfl) (Nat.le_of_ble_eq_true rfl) dX11_put_40
    · refine W.eq (g2 := F0 m 7 ls [.ref q__95]) rfl ?_
      refine lv_astore (lv' := [(4, .ref q__95), (0, .ref xx), (1, .int za), (2, .int zb), (3, .int zc)]) hx hb dX11_put_7 hl (by decide) rfl (fun ls hl => ?_)
      refine lv_aload_n hx hb dX11_put_9 rfl (lv_at hl 1 rfl) ?_
      refine va_get (D := D) (ci := 11) (v := .ref st) (C := RX11) (T := TX11) (N := 7) hx hb hts inlX11 hown hK hP 0 rfl rfl 0 (by decide) (hts _ mw_15) (fun _ h9 => h9) rfl dX11_put_10 ?_
      refine lv_iload_n hx hb dX11_put_13 rfl (lv_at hl 2 rfl) ?_
      refine er_V (As := [.int za]) (rest := []) hFX hKK hE hS (c_X6_sheetOf_x l D κ κq st d sh vw ta sa n za (by assumption)) 1 gV_X11_114 hdV_X6_sheetOf rfl rfl ⟨Nat.le_of_ble_eq_true rfl, Nat.le_of_ble_eq_true rfl⟩ rfl rfl (Nat.le_of_ble_eq_true rfl) dX11_put_14 ⟨Nat.le_of_ble_eq_true rfl, Nat.le_of_ble_eq_true rfl⟩ hl.1 hP 1 6 rfl rfl rfl (subP0 hP [1] rfl) (fun _ hp_100 => ?_)
      refine W.eq (g2 := F0 m 17 ls [.null]) rfl ?_
      refine lv_astoreN (lv' := [(5, .null), (4, .ref q__95), (0, .ref xx), (1, .int za), (2, .int zb), (3, .int zc)]) hx hb dX11_put_17 hl (by decide) rfl (fun ls hl => ?_)
      refine lv_aload hx hb dX11_put_19 (lv_at hl 1 rfl) ?_
      refine lv_ifnull hx hb dX11_put_21 ?_
      refine lv_aloadN hx hb dX11_put_24 (lv_at hl 0 rfl) ?_
      refine lv_ifnullN (tgt := 39) hx hb dX11_put_26 (by decide) ?_
      refine lv_iconst (v := 0) hx hb dX11_put_39 (by decide) ?_
      exact et_iret hx hb hr hlk rfl hS (0, n, fs, fv, fa, ga, im2__90) rfl ⟨(show n ≤ 6 from (by first | assumption | omega | rfl | exact Or.inl (by assumption) | exact Or.inr (by assumption))), (show Tb κ im2__90 fs fv 3 from htb), (show Rn 6 3 fa from (by first | assumption | omega | rfl | exact Or.inl (by assumption) | exact Or.inr (by assumption))), (show Ss κ im2__90 ga 6 from hss), (show Sb im im2__90 from h_93)⟩ (subP hP [0, 1, 2, 3, 4, 5, 6, 7] rfl) (subD hD [0, 1, 2, 3, 4, 5, 6, 7] (by decide) rfl) (Nat.le_of_ble_eq_true rfl) (Nat.le_of_ble_eq_true rfl) dX11_put_40
set_option maxHeartbeats 4000000 in
set_option maxRecDepth 100000 in
theorem c_X11_out (l : Launch) (D : va_G) (κ : Nat → ClassId) (κq : Nat → Nat) (im : va_W) (xx : Nat) (tp : Nat) (ft : Nat) (rd : Nat) (wr : Nat) (st2 : Nat) (zi : Int32) (st : Nat) (d : Nat) (sh : Nat) (vw : Nat) (ta : Nat) (sa : Nat) (n : Nat) (fs : Nat → Option Nat) (fv : Nat → Option Nat) (fa : Nat → Int32) (ga : Nat → Option Nat) (za : Int32) (zb : Int32) (hn6 : n ≤ 6) (htb : Tb κ im fs fv 3) (hrn : Rn 6 3 fa) (hss : Ss κ im ga 6) : Et l yX11_out (wl yX11_out cX11_out 4 (some .int)) { frames := 4, cells := 6, slots := 390, locals := 83 } D κ κq [.ref xx, .int za, .int zb] ([(xx, .inr (11, [.ref st, .ref tp, .ref ft, .ref rd, .ref wr, .ref st2, .int zi])), (st, .inr (6, [.ref d, .ref sh, .ref vw, .ref ta, .ref sa, .int (nI n)])), (sh, .inl (κ 4, 3, .inr (.inr (.inr (.inr fs))))), (vw, .inl (κ 5, 3, .inr (.inr (.inr (.inr fv))))), (ta, .inl (κ 0, 6, .inl fa)), (sa, .inl (κ 4, 6, .inr (.inr (.inr (.inr ga)))))] ++ im) (fun u9 : Int32 × Nat × (Nat → Option Nat) × (Nat → Option Nat) × (Nat → Int32) × (Nat → Option Nat) × va_W => some (.int u9.1)) (fun u9 : Int32 × Nat × (Nat → Option Nat) × (Nat → Option Nat) × (Nat → Int32) × (Nat → Option Nat) × va_W => u9.2.1 ≤ 6 ∧ Tb κ u9.2.2.2.2.2.2 u9.2.2.1 u9.2.2.2.1 3 ∧ Rn 6 3 u9.2.2.2.2.1 ∧ Ss κ u9.2.2.2.2.2.2 u9.2.2.2.2.2.1 6 ∧ Sb im u9.2.2.2.2.2.2) (fun u9 : Int32 × Nat × (Nat → Option Nat) × (Nat → Option Nat) × (Nat → Int32) × (Nat → Option Nat) × va_W => ([(xx, .inr (11, [.ref st, .ref tp, .ref ft, .ref rd, .ref wr, .ref st2, .int zi])), (st, .inr (6, [.ref d, .ref sh, .ref vw, .ref ta, .ref sa, .int (nI u9.2.1)])), (sh, .inl (κ 4, 3, .inr (.inr (.inr (.inr u9.2.2.1))))), (vw, .inl (κ 5, 3, .inr (.inr (.inr (.inr u9.2.2.2.1))))), (ta, .inl (κ 0, 6, .inl u9.2.2.2.2.1)), (sa, .inl (κ 4, 6, .inr (.inr (.inr (.inr u9.2.2.2.2.2.1)))))] ++ u9.2.2.2.2.2.2)) := by
  refine et_of (by decide +kernel) (Nat.le_of_ble_eq_true rfl) ?_
  intro p e s m args below meth c A ls hx hb hr hml hts hown hlk hin hKK hK hA hP hD hS hE hl
  have hS : va_S A s.heap s.heap [] := hS
  have hP : va_P D vwCl ([(xx, .inr (11, [.ref st, .ref tp, .ref ft, .ref rd, .ref wr, .ref st2, .int zi])), (st, .inr (6, [.ref d, .ref sh, .ref vw, .ref ta, .ref sa, .int (nI n)])), (sh, .inl (κ 4, 3, .inr (.inr (.inr (.inr fs))))), (vw, .inl (κ 5, 3, .inr (.inr (.inr (.inr fv))))), (ta, .inl (κ 0, 6, .inl fa)), (sa, .inl (κ 4, 6, .inr (.inr (.inr (.inr ga)))))] ++ im) s.heap := hP
  have hD : va_D A ([(xx, .inr (11, [.ref st, .ref tp, .ref ft, .ref rd, .ref wr, .ref st2, .int zi])), (st, .inr (6, [.ref d, .ref sh, .ref vw, .ref ta, .ref sa, .int (nI n)])), (sh, .inl (κ 4, 3, .inr (.inr (.inr (.inr fs))))), (vw, .inl (κ 5, 3, .inr (.inr (.inr (.inr fv))))), (ta, .inl (κ 0, 6, .inl fa)), (sa, .inl (κ 4, 6, .inr (.inr (.inr (.inr ga)))))] ++ im) := hD
  have hFX : FX p s m args c cX11_out 4 RX11 := ⟨hx, hb, hml, hown, hts⟩
  have hl : lv_has ls 4 [(0, .ref xx), (1, .int za), (2, .int zb)] := hl
  rcases pl_cases za with ⟨t, ht_t, rfl⟩ | hnp_za
  · skip
    rcases htb t (by omega) with ⟨e_1, e_2⟩ | ⟨a_3, R_4, w_5, d_6, v_7, e_1, e_2, h_8, h_9, hd_10⟩
    · skip
      refine lv_aload_n hx hb dX11_out_0 rfl (lv_at hl 0 rfl) ?_
      refine va_get (D := D) (ci := 11) (v := .ref st) (C := RX11) (T := TX11) (N := 7) hx hb hts inlX11 hown hK hP 0 rfl rfl 0 (by decide) (hts _ mw_15) (fun _ h9 => h9) rfl dX11_out_1 ?_
      refine lv_iload_n hx hb dX11_out_4 rfl (lv_at hl 1 rfl) ?_
      refine er_V (As := [.int (nI t)]) (rest := []) hFX hKK hE hS (c_X6_sheetOf_n l D κ κq st d sh vw ta sa n fs t (by omega) e_1) 1 gV_X11_114 hdV_X6_sheetOf rfl rfl ⟨Nat.le_of_ble_eq_true rfl, Nat.le_of_ble_eq_true rfl⟩ rfl rfl (Nat.le_of_ble_eq_true rfl) dX11_out_5 ⟨Nat.le_of_ble_eq_true rfl, Nat.le_of_ble_eq_true rfl⟩ hl.1 hP 1 6 rfl rfl rfl (subP0 hP [1, 2] rfl) (fun _ hp_11 => ?_)
      refine W.eq (g2 := F0 m 8 ls [.null]) rfl ?_
      refine lv_astore_nN (lv' := [(3, .null), (0, .ref xx), (1, .int (nI t)), (2, .int zb)]) hx hb dX11_out_8 rfl hl (by decide) rfl (fun ls hl => ?_)
      refine lv_aload_nN hx hb dX11_out_9 rfl (lv_at hl 0 rfl) ?_
      refine lv_ifnullN (tgt := 21) hx hb dX11_out_10 (by decide) ?_
      refine lv_iconst (v := (-1)) hx hb dX11_out_21 (by decide) ?_
      exact et_iret hx hb hr hlk rfl hS ((-1), n, fs, fv, fa, ga, im) rfl ⟨(show n ≤ 6 from (by first | assumption | omega | rfl | exact Or.inl (by assumption) | exact Or.inr (by assumption))), (show Tb κ im fs fv 3 from htb), (show Rn 6 3 fa from (by first | assumption | omega | rfl | exact Or.inl (by assumption) | exact Or.inr (by assumption))), (show Ss κ im ga 6 from hss), (show Sb im im from Sb.rf)⟩ (subP hP [0, 1, 2, 3, 4, 5] rfl) (subD hD [0, 1, 2, 3, 4, 5] (by decide) rfl) (Nat.le_of_ble_eq_true rfl) (Nat.le_of_ble_eq_true rfl) dX11_out_22
    · have hle_a_3 := h_8.le
      refine lv_aload_n hx hb dX11_out_0 rfl (lv_at hl 0 rfl) ?_
      refine va_get (D := D) (ci := 11) (v := .ref st) (C := RX11) (T := TX11) (N := 7) hx hb hts inlX11 hown hK hP 0 rfl rfl 0 (by decide) (hts _ mw_15) (fun _ h9 => h9) rfl dX11_out_1 ?_
      refine lv_iload_n hx hb dX11_out_4 rfl (lv_at hl 1 rfl) ?_
      refine er_V (As := [.int (nI t)]) (rest := []) hFX hKK hE hS (c_X6_sheetOf_s l D κ κq st d sh vw ta sa n fs t a_3 (by omega) e_1) 1 gV_X11_114 hdV_X6_sheetOf rfl rfl ⟨Nat.le_of_ble_eq_true rfl, Nat.le_of_ble_eq_true rfl⟩ rfl rfl (Nat.le_of_ble_eq_true rfl) dX11_out_5 ⟨Nat.le_of_ble_eq_true rfl, Nat.le_of_ble_eq_true rfl⟩ hl.1 hP 1 6 rfl rfl rfl (subP0 hP [1, 2] rfl) (fun _ hp_12 => ?_)
      refine W.eq (g2 := F0 m 8 ls [.ref a_3]) rfl ?_
      refine lv_astore_n (lv' := [(3, .ref a_3), (0, .ref xx), (1, .int (nI t)), (2, .int zb)]) hx hb dX11_out_8 rfl hl (by decide) rfl (fun ls hl => ?_)
      refine lv_aload_n hx hb dX11_out_9 rfl (lv_at hl 0 rfl) ?_
      refine lv_ifnull hx hb dX11_out_10 ?_
      refine lv_aload_n hx hb dX11_out_13 rfl (lv_at hl 0 rfl) ?_
      refine lv_iload_n hx hb dX11_out_14 rfl (lv_at hl 3 rfl) ?_
      obtain ⟨hb_15, c_16, x_17, v_18, g_19, h_20, hm_21, hm_22, hm_23, lo_24, lc_25, vw_26⟩ := id h_8
      obtain ⟨hb_15_1, hb_15_2, hb_15_3⟩ := hb_15
      have hrw_hb_15 := rw_le hb_15_1 hb_15_3
      refine er_V (As := [.int zb]) (rest := []) hFX hKK hE hS (c_X5_hasRow l D κ κq im a_3 R_4 w_5 zb h_8) 1 gV_X11_151 hdV_X5_hasRow rfl rfl ⟨Nat.le_of_ble_eq_true rfl, Nat.le_of_ble_eq_true rfl⟩ rfl rfl (Nat.le_of_ble_eq_true rfl) dX11_out_15 ⟨Nat.le_of_ble_eq_true rfl, Nat.le_of_ble_eq_true rfl⟩ hl.1 (oneP (C := [(xx, .inr (11, [.ref st, .ref tp, .ref ft, .ref rd, .ref wr, .ref st2, .int zi])), (st, .inr (6, [.ref d, .ref sh, .ref vw, .ref ta, .ref sa, .int (nI n)])), (sh, .inl (κ 4, 3, .inr (.inr (.inr (.inr fs))))), (vw, .inl (κ 5, 3, .inr (.inr (.inr (.inr fv))))), (ta, .inl (κ 0, 6, .inl fa)), (sa, .inl (κ 4, 6, .inr (.inr (.inr (.inr ga)))))]) hP hm_21) 0 5 rfl rfl rfl (subP hP [] rfl) (fun r__13 hp_14 => ?_)
      replace hp_14 : ((r__13 = 1 ∧ (∃ j : Nat, j < R_4 ∧ zb = nI j)) ∨ (r__13 = 0)) := hp_14
      have ha_27 := hp_14
      clear hp_14
      rcases ha_27 with ⟨rfl, ⟨j_28, hj_28, rfl⟩⟩ | rfl
      · refine W.eq (g2 := F0 m 18 ls [.int 1]) rfl ?_
        refine lv_if_ne (tgt := 23) hx hb dX11_out_18 (by decide) (fun c_30 => ?_) (fun c_30 => absurd c_30 (by decide))
        refine lv_aload_n hx hb dX11_out_23 rfl (lv_at hl 1 rfl) ?_
        refine va_get (D := D) (ci := 11) (v := .ref st) (C := RX11) (T := TX11) (N := 7) hx hb hts inlX11 hown hK hP 0 rfl rfl 0 (by decide) (hts _ mw_15) (fun _ h9 => h9) rfl dX11_out_24 ?_
        refine lv_iload_n hx hb dX11_out_27 rfl (lv_at hl 2 rfl) ?_
        refine lv_aload_n hx hb dX11_out_28 rfl (lv_at hl 0 rfl) ?_
        refine lv_iload_n hx hb dX11_out_29 rfl (lv_at hl 3 rfl) ?_
        refine et_VT (CR := [(xx, .inr (11, [.ref st, .ref tp, .ref ft, .ref rd, .ref wr, .ref st2, .int zi])), (st, .inr (6, [.ref d, .ref sh, .ref vw, .ref ta, .ref sa, .int (nI n)])), (sh, .inl (κ 4, 3, .inr (.inr (.inr (.inr fs))))), (vw, .inl (κ 5, 3, .inr (.inr (.inr (.inr fv))))), (ta, .inl (κ 0, 6, .inl fa)), (sa, .inl (κ 4, 6, .inr (.inr (.inr (.inr ga)))))]) (As := [.int (nI j_28)]) (rest := [.int (nI t), .ref st]) hFX hKK hE hP hD hS hA (c_X5_withoutRow l D κ κq im a_3 R_4 w_5 j_28 h_8 (by omega)) 1 gV_X11_154 hdV_X5_withoutRow ⟨Nat.le_of_ble_eq_true rfl, Nat.le_of_ble_eq_true rfl⟩ rfl rfl (Nat.le_of_ble_eq_true rfl) dX11_out_30 ⟨Nat.le_of_ble_eq_true rfl, Nat.le_of_ble_eq_true rfl⟩ hl.1 [] [0, 1, 2, 3, 4, 5] rfl rfl (by decide) (by decide) (by decide) (oneP (C := [(xx, .inr (11, [.ref st, .ref tp, .ref ft, .ref rd, .ref wr, .ref st2, .int zi])), (st, .inr (6, [.ref d, .ref sh, .ref vw, .ref ta, .ref sa, .int (nI n)])), (sh, .inl (κ 4, 3, .inr (.inr (.inr (.inr fs))))), (vw, .inl (κ 5, 3, .inr (.inr (.inr (.inr fv))))), (ta, .inl (κ 0, 6, .inl fa)), (sa, .inl (κ 4, 6, .inr (.inr (.inr (.inr ga)))))]) hP hm_21) 0 5 rfl rfl rfl (fun u_33 H locs hp_34 hP hD hS => ?_)
        refine W.widen (k := 4) (n := 367) (Nat.le_refl _) (Nat.le_refl _) ?_
        obtain ⟨r__31, im2__32⟩ := u_33
        replace hP : va_P D vwCl ([(xx, .inr (11, [.ref st, .ref tp, .ref ft, .ref rd, .ref wr, .ref st2, .int zi])), (st, .inr (6, [.ref d, .ref sh, .ref vw, .ref ta, .ref sa, .int (nI n)])), (sh, .inl (κ 4, 3, .inr (.inr (.inr (.inr fs))))), (vw, .inl (κ 5, 3, .inr (.inr (.inr (.inr fv))))), (ta, .inl (κ 0, 6, .inl fa)), (sa, .inl (κ 4, 6, .inr (.inr (.inr (.inr ga)))))] ++ im2__32) H := subP (C := [(xx, .inr (11, [.ref st, .ref tp, .ref ft, .ref rd, .ref wr, .ref st2, .int zi])), (st, .inr (6, [.ref d, .ref sh, .ref vw, .ref ta, .ref sa, .int (nI n)])), (sh, .inl (κ 4, 3, .inr (.inr (.inr (.inr fs))))), (vw, .inl (κ 5, 3, .inr (.inr (.inr (.inr fv))))), (ta, .inl (κ 0, 6, .inl fa)), (sa, .inl (κ 4, 6, .inr (.inr (.inr (.inr ga)))))]) hP [0, 1, 2, 3, 4, 5] rfl
        replace hD : va_D A ([(xx, .inr (11, [.ref st, .ref tp, .ref ft, .ref rd, .ref wr, .ref st2, .int zi])), (st, .inr (6, [.ref d, .ref sh, .ref vw, .ref ta, .ref sa, .int (nI n)])), (sh, .inl (κ 4, 3, .inr (.inr (.inr (.inr fs))))), (vw, .inl (κ 5, 3, .inr (.inr (.inr (.inr fv))))), (ta, .inl (κ 0, 6, .inl fa)), (sa, .inl (κ 4, 6, .inr (.inr (.inr (.inr ga)))))] ++ im2__32) := subD (C := [(xx, .inr (11, [.ref st, .ref tp, .ref ft, .ref rd, .ref wr, .ref st2, .int zi])), (st, .inr (6, [.ref d, .ref sh, .ref vw, .ref ta, .ref sa, .int (nI n)])), (sh, .inl (κ 4, 3, .inr (.inr (.inr (.inr fs))))), (vw, .inl (κ 5, 3, .inr (.inr (.inr (.inr fv))))), (ta, .inl (κ 0, 6, .inl fa)), (sa, .inl (κ 4, 6, .inr (.inr (.inr (.inr ga)))))]) hD [0, 1, 2, 3, 4, 5] (by decide) rfl
        replace hp_34 : Sb im im2__32 ∧ ((∃ (q : Nat), r__31 = some q ∧ Sh κ im2__32 q (R_4 - 1) w_5)) := hp_34
        obtain ⟨h_35, ha_36⟩ := hp_34
        replace htb := htb.up h_35
        replace hss := hss.up h_35
        replace h_8 := h_8.up h_35
        replace h_9 := h_9.up h_35
        replace lo_24 := lo_24.up h_35
        replace lc_25 := lc_25.up h_35
        replace vw_26 := vw_26.up h_35
        replace hm_21 := h_35 _ hm_21
        replace hm_22 := h_35 _ hm_22
        replace hm_23 := h_35 _ hm_23
        rcases ha_36 with ⟨q__37, rfl, a_38⟩
        · refine W.eq (g2 := F0 m 33 ls [.ref q__37, .int (nI t), .ref st]) rfl ?_
          refine et_VT (CR := [(xx, .inr (11, [.ref st, .ref tp, .ref ft, .ref rd, .ref wr, .ref st2, .int zi]))]) (As := [.int (nI t), .ref q__37]) (rest := []) hFX hKK hE hP hD hS hA (c_X6_act l D κ κq im2__32 st d sh vw ta sa n fs fv fa ga t q__37 (R_4 - 1) w_5 (by omega) htb hrn hss (by omega) a_38) 2 gV_X11_86 hdV_X6_act ⟨Nat.le_of_ble_eq_true rfl, Nat.le_of_ble_eq_true rfl⟩ rfl rfl (Nat.le_of_ble_eq_true rfl) dX11_out_33 ⟨Nat.le_of_ble_eq_true rfl, Nat.le_of_ble_eq_true rfl⟩ hl.1 [1, 2, 3, 4, 5] [0] rfl rfl (by decide) (by decide) (by decide) hP 1 6 rfl rfl rfl (fun u_44 H locs hp_45 hP hD hS => ?_)
          refine W.widen (k := 4) (n := 367) (Nat.le_refl _) (Nat.le_refl _) ?_
          obtain ⟨y__39, gs__40, gv__41, fb__42, gb__43⟩ := u_44
          replace hP : va_P D vwCl ([(xx, .inr (11, [.ref st, .ref tp, .ref ft, .ref rd, .ref wr, .ref st2, .int zi])), (st, .inr (6, [.ref d, .ref sh, .ref vw, .ref ta, .ref sa, .int (nI y__39)])), (sh, .inl (κ 4, 3, .inr (.inr (.inr (.inr gs__40))))), (vw, .inl (κ 5, 3, .inr (.inr (.inr (.inr gv__41))))), (ta, .inl (κ 0, 6, .inl fb__42)), (sa, .inl (κ 4, 6, .inr (.inr (.inr (.inr gb__43)))))] ++ im2__32) H := subP (C := [(xx, .inr (11, [.ref st, .ref tp, .ref ft, .ref rd, .ref wr, .ref st2, .int zi])), (st, .inr (6, [.ref d, .ref sh, .ref vw, .ref ta, .ref sa, .int (nI y__39)])), (sh, .inl (κ 4, 3, .inr (.inr (.inr (.inr gs__40))))), (vw, .inl (κ 5, 3, .inr (.inr (.inr (.inr gv__41))))), (ta, .inl (κ 0, 6, .inl fb__42)), (sa, .inl (κ 4, 6, .inr (.inr (.inr (.inr gb__43)))))]) hP [0, 1, 2, 3, 4, 5] rfl
          replace hD : va_D A ([(xx, .inr (11, [.ref st, .ref tp, .ref ft, .ref rd, .ref wr, .ref st2, .int zi])), (st, .inr (6, [.ref d, .ref sh, .ref vw, .ref ta, .ref sa, .int (nI y__39)])), (sh, .inl (κ 4, 3, .inr (.inr (.inr (.inr gs__40))))), (vw, .inl (κ 5, 3, .inr (.inr (.inr (.inr gv__41))))), (ta, .inl (κ 0, 6, .inl fb__42)), (sa, .inl (κ 4, 6, .inr (.inr (.inr (.inr gb__43)))))] ++ im2__32) := subD (C := [(xx, .inr (11, [.ref st, .ref tp, .ref ft, .ref rd, .ref wr, .ref st2, .int zi])), (st, .inr (6, [.ref d, .ref sh, .ref vw, .ref ta, .ref sa, .int (nI y__39)])), (sh, .inl (κ 4, 3, .inr (.inr (.inr (.inr gs__40))))), (vw, .inl (κ 5, 3, .inr (.inr (.inr (.inr gv__41))))), (ta, .inl (κ 0, 6, .inl fb__42)), (sa, .inl (κ 4, 6, .inr (.inr (.inr (.inr gb__43)))))]) hD [0, 1, 2, 3, 4, 5] (by decide) rfl
          replace hp_45 : y__39 ≤ 6 ∧ Tb κ im2__32 gs__40 gv__41 3 ∧ Rn 6 3 fb__42 ∧ Ss κ im2__32 gb__43 6 := hp_45
          obtain ⟨h_46, h_47, h_48, h_49⟩ := hp_45
          refine W.eq (g2 := F0 m 36 ls []) rfl ?_
          refine lv_aload_n hx hb dX11_out_36 rfl (lv_at hl 0 rfl) ?_
          refine va_get (D := D) (ci := 5) (v := .int (nI R_4)) (C := RX5) (T := TX5) (N := 4) hx hb hts inlX5 hown hK (oneP (C := [(xx, .inr (11, [.ref st, .ref tp, .ref ft, .ref rd, .ref wr, .ref st2, .int zi])), (st, .inr (6, [.ref d, .ref sh, .ref vw, .ref ta, .ref sa, .int (nI y__39)])), (sh, .inl (κ 4, 3, .inr (.inr (.inr (.inr gs__40))))), (vw, .inl (κ 5, 3, .inr (.inr (.inr (.inr gv__41))))), (ta, .inl (κ 0, 6, .inl fb__42)), (sa, .inl (κ 4, 6, .inr (.inr (.inr (.inr gb__43)))))]) hP hm_21) 0 rfl rfl 2 (by decide) (hts _ mw_253) (fun _ h9 => h9) rfl dX11_out_37 ?_
          refine lv_iconst (v := 1) hx hb dX11_out_40 (by decide) ?_
          refine lv_isub hx hb dX11_out_41 ?_
          refine ki (v := (nI (R_4 - 1))) (pk_sub (a := R_4) (b := 1) (by omega)) ?_
          exact et_iret hx hb hr hlk rfl hS (nI (R_4 - 1), y__39, gs__40, gv__41, fb__42, gb__43, im2__32) rfl ⟨(show y__39 ≤ 6 from (by first | assumption | omega | rfl | exact Or.inl (by assumption) | exact Or.inr (by assumption))), (show Tb κ im2__32 gs__40 gv__41 3 from h_47), (show Rn 6 3 fb__42 from (by first | assumption | omega | rfl | exact Or.inl (by assumption) | exact Or.inr (by assumption))), (show Ss κ im2__32 gb__43 6 from h_49), (show Sb im im2__32 from h_35)⟩ (subP hP [0, 1, 2, 3, 4, 5] rfl) (subD hD [0, 1, 2, 3, 4, 5] (by decide) rfl) (Nat.le_of_ble_eq_true rfl) (Nat.le_of_ble_eq_true rfl) dX11_out_42
      · refine W.eq (g2 := F0 m 18 ls [.int 0]) rfl ?_
        refine lv_if_ne (tgt := 23) hx hb dX11_out_18 (by decide) (fun c_50 => absurd c_50 (by decide)) (fun c_50 => ?_)
        refine lv_iconst (v := (-1)) hx hb dX11_out_21 (by decide) ?_
        exact et_iret hx hb hr hlk rfl hS ((-1), n, fs, fv, fa, ga, im) rfl ⟨(show n ≤ 6 from (by first | assumption | omega | rfl | exact Or.inl (by assumption) | exact Or.inr (by assumption))), (show Tb κ im fs fv 3 from htb), (show Rn 6 3 fa from (by first | assumption | omega | rfl | exact Or.inl (by assumption) | exact Or.inr (by assumption))), (show Ss κ im ga 6 from hss), (show Sb im im from Sb.rf)⟩ (subP hP [0, 1, 2, 3, 4, 5] rfl) (subD hD [0, 1, 2, 3, 4, 5] (by decide) rfl) (Nat.le_of_ble_eq_true rfl) (Nat.le_of_ble_eq_true rfl) dX11_out_22
  · skip
    refine lv_aload_n hx hb dX11_out_0 rfl (lv_at hl 0 rfl) ?_
    refine va_get (D := D) (ci := 11) (v := .ref st) (C := RX11) (T := TX11) (N := 7) hx hb hts inlX11 hown hK hP 0 rfl rfl 0 (by decide) (hts _ mw_15) (fun _ h9 => h9) rfl dX11_out_1 ?_
    refine lv_iload_n hx hb dX11_out_4 rfl (lv_at hl 1 rfl) ?_
    refine er_V (As := [.int za]) (rest := []) hFX hKK hE hS (c_X6_sheetOf_x l D κ κq st d sh vw ta sa n za (by assumption)) 1 gV_X11_114 hdV_X6_sheetOf rfl rfl ⟨Nat.le_of_ble_eq_true rfl, Nat.le_of_ble_eq_true rfl⟩ rfl rfl (Nat.le_of_ble_eq_true rfl) dX11_out_5 ⟨Nat.le_of_ble_eq_true rfl, Nat.le_of_ble_eq_true rfl⟩ hl.1 hP 1 6 rfl rfl rfl (subP0 hP [1] rfl) (fun _ hp_51 => ?_)
    refine W.eq (g2 := F0 m 8 ls [.null]) rfl ?_
    refine lv_astore_nN (lv' := [(3, .null), (0, .ref xx), (1, .int za), (2, .int zb)]) hx hb dX11_out_8 rfl hl (by decide) rfl (fun ls hl => ?_)
    refine lv_aload_nN hx hb dX11_out_9 rfl (lv_at hl 0 rfl) ?_
    refine lv_ifnullN (tgt := 21) hx hb dX11_out_10 (by decide) ?_
    refine lv_iconst (v := (-1)) hx hb dX11_out_21 (by decide) ?_
    exact et_iret hx hb hr hlk rfl hS ((-1), n, fs, fv, fa, ga, im) rfl ⟨(show n ≤ 6 from (by first | assumption | omega | rfl | exact Or.inl (by assumption) | exact Or.inr (by assumption))), (show Tb κ im fs fv 3 from htb), (show Rn 6 3 fa from (by first | assumption | omega | rfl | exact Or.inl (by assumption) | exact Or.inr (by assumption))), (show Ss κ im ga 6 from hss), (show Sb im im from Sb.rf)⟩ (subP hP [0, 1, 2, 3, 4, 5] rfl) (subD hD [0, 1, 2, 3, 4, 5] (by decide) rfl) (Nat.le_of_ble_eq_true rfl) (Nat.le_of_ble_eq_true rfl) dX11_out_22
set_option maxHeartbeats 4000000 in
set_option maxRecDepth 100000 in
theorem c_X11_name (l : Launch) (D : va_G) (κ : Nat → ClassId) (κq : Nat → Nat) (im : va_W) (xx : Nat) (tp : Nat) (ft : Nat) (rd : Nat) (wr : Nat) (st2 : Nat) (zi : Int32) (st : Nat) (d : Nat) (sh : Nat) (vw : Nat) (ta : Nat) (sa : Nat) (n : Nat) (fs : Nat → Option Nat) (fv : Nat → Option Nat) (fa : Nat → Int32) (ga : Nat → Option Nat) (tb : Nat) (L : Nat) (tf : Nat → Int32) (za : Int32) (zb : Int32) (hn6 : n ≤ 6) (htb : Tb κ im fs fv 3) (hrn : Rn 6 3 fa) (hss : Ss κ im ga 6) (hL : L ≤ 800) : Et l yX11_name (wl yX11_name cX11_name 6 (some .boolean)) { frames := 4, cells := 6, slots := 390, locals := 83 } D κ κq [.ref xx, .int za, .int zb] ([(xx, .inr (11, [.ref st, .ref tp, .ref ft, .ref rd, .ref wr, .ref st2, .int zi])), (st, .inr (6, [.ref d, .ref sh, .ref vw, .ref ta, .ref sa, .int (nI n)])), (sh, .inl (κ 4, 3, .inr (.inr (.inr (.inr fs))))), (vw, .inl (κ 5, 3, .inr (.inr (.inr (.inr fv))))), (ta, .inl (κ 0, 6, .inl fa)), (sa, .inl (κ 4, 6, .inr (.inr (.inr (.inr ga))))), (tp, .inr (8, [.ref tb, .int (nI L)])), (tb, .inl (κ 0, 800, .inl tf))] ++ im) (fun u9 : Int32 × Nat × (Nat → Option Nat) × (Nat → Option Nat) × (Nat → Int32) × (Nat → Option Nat) × va_W => some (.int u9.1)) (fun u9 : Int32 × Nat × (Nat → Option Nat) × (Nat → Option Nat) × (Nat → Int32) × (Nat → Option Nat) × va_W => u9.2.1 ≤ 6 ∧ Tb κ u9.2.2.2.2.2.2 u9.2.2.1 u9.2.2.2.1 3 ∧ Rn 6 3 u9.2.2.2.2.1 ∧ Ss κ u9.2.2.2.2.2.2 u9.2.2.2.2.2.1 6 ∧ Sb im u9.2.2.2.2.2.2) (fun u9 : Int32 × Nat × (Nat → Option Nat) × (Nat → Option Nat) × (Nat → Int32) × (Nat → Option Nat) × va_W => ([(xx, .inr (11, [.ref st, .ref tp, .ref ft, .ref rd, .ref wr, .ref st2, .int zi])), (st, .inr (6, [.ref d, .ref sh, .ref vw, .ref ta, .ref sa, .int (nI u9.2.1)])), (sh, .inl (κ 4, 3, .inr (.inr (.inr (.inr u9.2.2.1))))), (vw, .inl (κ 5, 3, .inr (.inr (.inr (.inr u9.2.2.2.1))))), (ta, .inl (κ 0, 6, .inl u9.2.2.2.2.1)), (sa, .inl (κ 4, 6, .inr (.inr (.inr (.inr u9.2.2.2.2.2.1))))), (tp, .inr (8, [.ref tb, .int 0])), (tb, .inl (κ 0, 800, .inl tf))] ++ u9.2.2.2.2.2.2)) := by
  refine et_of (by decide +kernel) (Nat.le_of_ble_eq_true rfl) ?_
  intro p e s m args below meth c A ls hx hb hr hml hts hown hlk hin hKK hK hA hP hD hS hE hl
  have hS : va_S A s.heap s.heap [] := hS
  have hP : va_P D vwCl ([(xx, .inr (11, [.ref st, .ref tp, .ref ft, .ref rd, .ref wr, .ref st2, .int zi])), (st, .inr (6, [.ref d, .ref sh, .ref vw, .ref ta, .ref sa, .int (nI n)])), (sh, .inl (κ 4, 3, .inr (.inr (.inr (.inr fs))))), (vw, .inl (κ 5, 3, .inr (.inr (.inr (.inr fv))))), (ta, .inl (κ 0, 6, .inl fa)), (sa, .inl (κ 4, 6, .inr (.inr (.inr (.inr ga))))), (tp, .inr (8, [.ref tb, .int (nI L)])), (tb, .inl (κ 0, 800, .inl tf))] ++ im) s.heap := hP
  have hD : va_D A ([(xx, .inr (11, [.ref st, .ref tp, .ref ft, .ref rd, .ref wr, .ref st2, .int zi])), (st, .inr (6, [.ref d, .ref sh, .ref vw, .ref ta, .ref sa, .int (nI n)])), (sh, .inl (κ 4, 3, .inr (.inr (.inr (.inr fs))))), (vw, .inl (κ 5, 3, .inr (.inr (.inr (.inr fv))))), (ta, .inl (κ 0, 6, .inl fa)), (sa, .inl (κ 4, 6, .inr (.inr (.inr (.inr ga))))), (tp, .inr (8, [.ref tb, .int (nI L)])), (tb, .inl (κ 0, 800, .inl tf))] ++ im) := hD
  have hFX : FX p s m args c cX11_name 6 RX11 := ⟨hx, hb, hml, hown, hts⟩
  have hl : lv_has ls 6 [(0, .ref xx), (1, .int za), (2, .int zb)] := hl
  rcases pl_cases za with ⟨t, ht_t, rfl⟩ | hnp_za
  · skip
    rcases htb t (by omega) with ⟨e_1, e_2⟩ | ⟨a_3, R_4, w_5, d_6, v_7, e_1, e_2, h_8, h_9, hd_10⟩
    · skip
      refine lv_aload_n hx hb dX11_name_0 rfl (lv_at hl 0 rfl) ?_
      refine va_get (D := D) (ci := 11) (v := .ref tp) (C := RX11) (T := TX11) (N := 7) hx hb hts inlX11 hown hK hP 0 rfl rfl 1 (by decide) (hts _ mw_19) (fun _ h9 => h9) rfl dX11_name_1 ?_
      refine et_VT (CR := [(xx, .inr (11, [.ref st, .ref tp, .ref ft, .ref rd, .ref wr, .ref st2, .int zi])), (st, .inr (6, [.ref d, .ref sh, .ref vw, .ref ta, .ref sa, .int (nI n)])), (sh, .inl (κ 4, 3, .inr (.inr (.inr (.inr fs))))), (vw, .inl (κ 5, 3, .inr (.inr (.inr (.inr fv))))), (ta, .inl (κ 0, 6, .inl fa)), (sa, .inl (κ 4, 6, .inr (.inr (.inr (.inr ga)))))]) (As := []) (rest := []) hFX hKK hE hP hD hS hA (c_X8_takeName l D κ κq im tp tb L tf (by omega)) 0 gV_X11_157 hdV_X8_takeName ⟨Nat.le_of_ble_eq_true rfl, Nat.le_of_ble_eq_true rfl⟩ rfl rfl (Nat.le_of_ble_eq_true rfl) dX11_name_4 ⟨Nat.le_of_ble_eq_true rfl, Nat.le_of_ble_eq_true rfl⟩ hl.1 [6, 7] [0, 1, 2, 3, 4, 5] rfl rfl (by decide) (by decide) (by decide) hP 6 8 rfl rfl rfl (fun u_13 H locs hp_14 hP hD hS => ?_)
      refine W.widen (k := 1) (n := 20) (Nat.le_refl _) (Nat.le_refl _) ?_
      obtain ⟨r__11, im2__12⟩ := u_13
      replace hP : va_P D vwCl ([(xx, .inr (11, [.ref st, .ref tp, .ref ft, .ref rd, .ref wr, .ref st2, .int zi])), (st, .inr (6, [.ref d, .ref sh, .ref vw, .ref ta, .ref sa, .int (nI n)])), (sh, .inl (κ 4, 3, .inr (.inr (.inr (.inr fs))))), (vw, .inl (κ 5, 3, .inr (.inr (.inr (.inr fv))))), (ta, .inl (κ 0, 6, .inl fa)), (sa, .inl (κ 4, 6, .inr (.inr (.inr (.inr ga))))), (tp, .inr (8, [.ref tb, .int 0])), (tb, .inl (κ 0, 800, .inl tf))] ++ im2__12) H := subP (C := [(xx, .inr (11, [.ref st, .ref tp, .ref ft, .ref rd, .ref wr, .ref st2, .int zi])), (st, .inr (6, [.ref d, .ref sh, .ref vw, .ref ta, .ref sa, .int (nI n)])), (sh, .inl (κ 4, 3, .inr (.inr (.inr (.inr fs))))), (vw, .inl (κ 5, 3, .inr (.inr (.inr (.inr fv))))), (ta, .inl (κ 0, 6, .inl fa)), (sa, .inl (κ 4, 6, .inr (.inr (.inr (.inr ga))))), (tp, .inr (8, [.ref tb, .int 0])), (tb, .inl (κ 0, 800, .inl tf))]) hP [0, 1, 2, 3, 4, 5, 6, 7] rfl
      replace hD : va_D A ([(xx, .inr (11, [.ref st, .ref tp, .ref ft, .ref rd, .ref wr, .ref st2, .int zi])), (st, .inr (6, [.ref d, .ref sh, .ref vw, .ref ta, .ref sa, .int (nI n)])), (sh, .inl (κ 4, 3, .inr (.inr (.inr (.inr fs))))), (vw, .inl (κ 5, 3, .inr (.inr (.inr (.inr fv))))), (ta, .inl (κ 0, 6, .inl fa)), (sa, .inl (κ 4, 6, .inr (.inr (.inr (.inr ga))))), (tp, .inr (8, [.ref tb, .int 0])), (tb, .inl (κ 0, 800, .inl tf))] ++ im2__12) := subD (C := [(xx, .inr (11, [.ref st, .ref tp, .ref ft, .ref rd, .ref wr, .ref st2, .int zi])), (st, .inr (6, [.ref d, .ref sh, .ref vw, .ref ta, .ref sa, .int (nI n)])), (sh, .inl (κ 4, 3, .inr (.inr (.inr (.inr fs))))), (vw, .inl (κ 5, 3, .inr (.inr (.inr (.inr fv))))), (ta, .inl (κ 0, 6, .inl fa)), (sa, .inl (κ 4, 6, .inr (.inr (.inr (.inr ga))))), (tp, .inr (8, [.ref tb, .int 0])), (tb, .inl (κ 0, 800, .inl tf))]) hD [0, 1, 2, 3, 4, 5, 6, 7] (by decide) rfl
      replace hp_14 : Sb im im2__12 ∧ ((r__11 = none) ∨ (∃ (q : Nat), ∃ (n : Nat), r__11 = some q ∧ By κ im2__12 q n ∧ n ≤ 12 ∧ 1 ≤ n)) := hp_14
      obtain ⟨h_15, ha_16⟩ := hp_14
      replace htb := htb.up h_15
      replace hss := hss.up h_15
      rcases ha_16 with rfl | ⟨q__17, n__18, rfl, a_19, a_20, a_21⟩
      · refine W.eq (g2 := F0 m 7 ls [.null]) rfl ?_
        refine lv_astore_nN (lv' := [(3, .null), (0, .ref xx), (1, .int (nI t)), (2, .int zb)]) hx hb dX11_name_7 rfl hl (by decide) rfl (fun ls hl => ?_)
        refine lv_aload_n hx hb dX11_name_8 rfl (lv_at hl 1 rfl) ?_
        refine va_get (D := D) (ci := 11) (v := .ref st) (C := RX11) (T := TX11) (N := 7) hx hb hts inlX11 hown hK hP 0 rfl rfl 0 (by decide) (hts _ mw_15) (fun _ h9 => h9) rfl dX11_name_9 ?_
        refine lv_iload_n hx hb dX11_name_12 rfl (lv_at hl 2 rfl) ?_
        refine er_V (As := [.int (nI t)]) (rest := []) hFX hKK hE hS (c_X6_sheetOf_n l D κ κq st d sh vw ta sa n fs t (by omega) e_1) 1 gV_X11_114 hdV_X6_sheetOf rfl rfl ⟨Nat.le_of_ble_eq_true rfl, Nat.le_of_ble_eq_true rfl⟩ rfl rfl (Nat.le_of_ble_eq_true rfl) dX11_name_13 ⟨Nat.le_of_ble_eq_true rfl, Nat.le_of_ble_eq_true rfl⟩ hl.1 hP 1 6 rfl rfl rfl (subP0 hP [1, 2] rfl) (fun _ hp_22 => ?_)
        refine W.eq (g2 := F0 m 16 ls [.null]) rfl ?_
        refine lv_astoreN (lv' := [(4, .null), (3, .null), (0, .ref xx), (1, .int (nI t)), (2, .int zb)]) hx hb dX11_name_16 hl (by decide) rfl (fun ls hl => ?_)
        refine lv_aload_nN hx hb dX11_name_18 rfl (lv_at hl 1 rfl) ?_
        refine lv_ifnullN (tgt := 36) hx hb dX11_name_19 (by decide) ?_
        refine lv_iconst (v := 0) hx hb dX11_name_36 (by decide) ?_
        exact et_iret hx hb hr hlk rfl hS (0, n, fs, fv, fa, ga, im2__12) rfl ⟨(show n ≤ 6 from (by first | assumption | omega | rfl | exact Or.inl (by assumption) | exact Or.inr (by assumption))), (show Tb κ im2__12 fs fv 3 from htb), (show Rn 6 3 fa from (by first | assumption | omega | rfl | exact Or.inl (by assumption) | exact Or.inr (by assumption))), (show Ss κ im2__12 ga 6 from hss), (show Sb im im2__12 from h_15)⟩ (subP hP [0, 1, 2, 3, 4, 5, 6, 7] rfl) (subD hD [0, 1, 2, 3, 4, 5, 6, 7] (by decide) rfl) (Nat.le_of_ble_eq_true rfl) (Nat.le_of_ble_eq_true rfl) dX11_name_37
      · refine W.eq (g2 := F0 m 7 ls [.ref q__17]) rfl ?_
        refine lv_astore_n (lv' := [(3, .ref q__17), (0, .ref xx), (1, .int (nI t)), (2, .int zb)]) hx hb dX11_name_7 rfl hl (by decide) rfl (fun ls hl => ?_)
        refine lv_aload_n hx hb dX11_name_8 rfl (lv_at hl 1 rfl) ?_
        refine va_get (D := D) (ci := 11) (v := .ref st) (C := RX11) (T := TX11) (N := 7) hx hb hts inlX11 hown hK hP 0 rfl rfl 0 (by decide) (hts _ mw_15) (fun _ h9 => h9) rfl dX11_name_9 ?_
        refine lv_iload_n hx hb dX11_name_12 rfl (lv_at hl 2 rfl) ?_
        refine er_V (As := [.int (nI t)]) (rest := []) hFX hKK hE hS (c_X6_sheetOf_n l D κ κq st d sh vw ta sa n fs t (by omega) e_1) 1 gV_X11_114 hdV_X6_sheetOf rfl rfl ⟨Nat.le_of_ble_eq_true rfl, Nat.le_of_ble_eq_true rfl⟩ rfl rfl (Nat.le_of_ble_eq_true rfl) dX11_name_13 ⟨Nat.le_of_ble_eq_true rfl, Nat.le_of_ble_eq_true rfl⟩ hl.1 hP 1 6 rfl rfl rfl (subP0 hP [1, 2] rfl) (fun _ hp_23 => ?_)
        refine W.eq (g2 := F0 m 16 ls [.null]) rfl ?_
        refine lv_astoreN (lv' := [(4, .null), (3, .ref q__17), (0, .ref xx), (1, .int (nI t)), (2, .int zb)]) hx hb dX11_name_16 hl (by decide) rfl (fun ls hl => ?_)
        refine lv_aload_n hx hb dX11_name_18 rfl (lv_at hl 1 rfl) ?_
        refine lv_ifnull hx hb dX11_name_19 ?_
        refine lv_aloadN hx hb dX11_name_22 (lv_at hl 0 rfl) ?_
        refine lv_ifnullN (tgt := 36) hx hb dX11_name_24 (by decide) ?_
        refine lv_iconst (v := 0) hx hb dX11_name_36 (by decide) ?_
        exact et_iret hx hb hr hlk rfl hS (0, n, fs, fv, fa, ga, im2__12) rfl ⟨(show n ≤ 6 from (by first | assumption | omega | rfl | exact Or.inl (by assumption) | exact Or.inr (by assumption))), (show Tb κ im2__12 fs fv 3 from htb), (show Rn 6 3 fa from (by first | assumption | omega | rfl | exact Or.inl (by assumption) | exact Or.inr (by assumption))), (show Ss κ im2__12 ga 6 from hss), (show Sb im im2__12 from h_15)⟩ (subP hP [0, 1, 2, 3, 4, 5, 6, 7] rfl) (subD hD [0, 1, 2, 3, 4, 5, 6, 7] (by decide) rfl) (Nat.le_of_ble_eq_true rfl) (Nat.le_of_ble_eq_true rfl) dX11_name_37
    · have hle_a_3 := h_8.le
      refine lv_aload_n hx hb dX11_name_0 rfl (lv_at hl 0 rfl) ?_
      refine va_get (D := D) (ci := 11) (v := .ref tp) (C := RX11) (T := TX11) (N := 7) hx hb hts inlX11 hown hK hP 0 rfl rfl 1 (by decide) (hts _ mw_19) (fun _ h9 => h9) rfl dX11_name_1 ?_
      refine et_VT (CR := [(xx, .inr (11, [.ref st, .ref tp, .ref ft, .ref rd, .ref wr, .ref st2, .int zi])), (st, .inr (6, [.ref d, .ref sh, .ref vw, .ref ta, .ref sa, .int (nI n)])), (sh, .inl (κ 4, 3, .inr (.inr (.inr (.inr fs))))), (vw, .inl (κ 5, 3, .inr (.inr (.inr (.inr fv))))), (ta, .inl (κ 0, 6, .inl fa)), (sa, .inl (κ 4, 6, .inr (.inr (.inr (.inr ga)))))]) (As := []) (rest := []) hFX hKK hE hP hD hS hA (c_X8_takeName l D κ κq im tp tb L tf (by omega)) 0 gV_X11_157 hdV_X8_takeName ⟨Nat.le_of_ble_eq_true rfl, Nat.le_of_ble_eq_true rfl⟩ rfl rfl (Nat.le_of_ble_eq_true rfl) dX11_name_4 ⟨Nat.le_of_ble_eq_true rfl, Nat.le_of_ble_eq_true rfl⟩ hl.1 [6, 7] [0, 1, 2, 3, 4, 5] rfl rfl (by decide) (by decide) (by decide) hP 6 8 rfl rfl rfl (fun u_26 H locs hp_27 hP hD hS => ?_)
      refine W.widen (k := 1) (n := 20) (Nat.le_refl _) (Nat.le_refl _) ?_
      obtain ⟨r__24, im2__25⟩ := u_26
      replace hP : va_P D vwCl ([(xx, .inr (11, [.ref st, .ref tp, .ref ft, .ref rd, .ref wr, .ref st2, .int zi])), (st, .inr (6, [.ref d, .ref sh, .ref vw, .ref ta, .ref sa, .int (nI n)])), (sh, .inl (κ 4, 3, .inr (.inr (.inr (.inr fs))))), (vw, .inl (κ 5, 3, .inr (.inr (.inr (.inr fv))))), (ta, .inl (κ 0, 6, .inl fa)), (sa, .inl (κ 4, 6, .inr (.inr (.inr (.inr ga))))), (tp, .inr (8, [.ref tb, .int 0])), (tb, .inl (κ 0, 800, .inl tf))] ++ im2__25) H := subP (C := [(xx, .inr (11, [.ref st, .ref tp, .ref ft, .ref rd, .ref wr, .ref st2, .int zi])), (st, .inr (6, [.ref d, .ref sh, .ref vw, .ref ta, .ref sa, .int (nI n)])), (sh, .inl (κ 4, 3, .inr (.inr (.inr (.inr fs))))), (vw, .inl (κ 5, 3, .inr (.inr (.inr (.inr fv))))), (ta, .inl (κ 0, 6, .inl fa)), (sa, .inl (κ 4, 6, .inr (.inr (.inr (.inr ga))))), (tp, .inr (8, [.ref tb, .int 0])), (tb, .inl (κ 0, 800, .inl tf))]) hP [0, 1, 2, 3, 4, 5, 6, 7] rfl
      replace hD : va_D A ([(xx, .inr (11, [.ref st, .ref tp, .ref ft, .ref rd, .ref wr, .ref st2, .int zi])), (st, .inr (6, [.ref d, .ref sh, .ref vw, .ref ta, .ref sa, .int (nI n)])), (sh, .inl (κ 4, 3, .inr (.inr (.inr (.inr fs))))), (vw, .inl (κ 5, 3, .inr (.inr (.inr (.inr fv))))), (ta, .inl (κ 0, 6, .inl fa)), (sa, .inl (κ 4, 6, .inr (.inr (.inr (.inr ga))))), (tp, .inr (8, [.ref tb, .int 0])), (tb, .inl (κ 0, 800, .inl tf))] ++ im2__25) := subD (C := [(xx, .inr (11, [.ref st, .ref tp, .ref ft, .ref rd, .ref wr, .ref st2, .int zi])), (st, .inr (6, [.ref d, .ref sh, .ref vw, .ref ta, .ref sa, .int (nI n)])), (sh, .inl (κ 4, 3, .inr (.inr (.inr (.inr fs))))), (vw, .inl (κ 5, 3, .inr (.inr (.inr (.inr fv))))), (ta, .inl (κ 0, 6, .inl fa)), (sa, .inl (κ 4, 6, .inr (.inr (.inr (.inr ga))))), (tp, .inr (8, [.ref tb, .int 0])), (tb, .inl (κ 0, 800, .inl tf))]) hD [0, 1, 2, 3, 4, 5, 6, 7] (by decide) rfl
      replace hp_27 : Sb im im2__25 ∧ ((r__24 = none) ∨ (∃ (q : Nat), ∃ (n : Nat), r__24 = some q ∧ By κ im2__25 q n ∧ n ≤ 12 ∧ 1 ≤ n)) := hp_27
      obtain ⟨h_28, ha_29⟩ := hp_27
      replace htb := htb.up h_28
      replace hss := hss.up h_28
      replace h_8 := h_8.up h_28
      replace h_9 := h_9.up h_28
      rcases ha_29 with rfl | ⟨q__30, n__31, rfl, a_32, a_33, a_34⟩
      · refine W.eq (g2 := F0 m 7 ls [.null]) rfl ?_
        refine lv_astore_nN (lv' := [(3, .null), (0, .ref xx), (1, .int (nI t)), (2, .int zb)]) hx hb dX11_name_7 rfl hl (by decide) rfl (fun ls hl => ?_)
        refine lv_aload_n hx hb dX11_name_8 rfl (lv_at hl 1 rfl) ?_
        refine va_get (D := D) (ci := 11) (v := .ref st) (C := RX11) (T := TX11) (N := 7) hx hb hts inlX11 hown hK hP 0 rfl rfl 0 (by decide) (hts _ mw_15) (fun _ h9 => h9) rfl dX11_name_9 ?_
        refine lv_iload_n hx hb dX11_name_12 rfl (lv_at hl 2 rfl) ?_
        refine er_V (As := [.int (nI t)]) (rest := []) hFX hKK hE hS (c_X6_sheetOf_s l D κ κq st d sh vw ta sa n fs t a_3 (by omega) e_1) 1 gV_X11_114 hdV_X6_sheetOf rfl rfl ⟨Nat.le_of_ble_eq_true rfl, Nat.le_of_ble_eq_true rfl⟩ rfl rfl (Nat.le_of_ble_eq_true rfl) dX11_name_13 ⟨Nat.le_of_ble_eq_true rfl, Nat.le_of_ble_eq_true rfl⟩ hl.1 hP 1 6 rfl rfl rfl (subP0 hP [1, 2] rfl) (fun _ hp_35 => ?_)
        refine W.eq (g2 := F0 m 16 ls [.ref a_3]) rfl ?_
        refine lv_astore (lv' := [(4, .ref a_3), (3, .null), (0, .ref xx), (1, .int (nI t)), (2, .int zb)]) hx hb dX11_name_16 hl (by decide) rfl (fun ls hl => ?_)
        refine lv_aload_nN hx hb dX11_name_18 rfl (lv_at hl 1 rfl) ?_
        refine lv_ifnullN (tgt := 36) hx hb dX11_name_19 (by decide) ?_
        refine lv_iconst (v := 0) hx hb dX11_name_36 (by decide) ?_
        exact et_iret hx hb hr hlk rfl hS (0, n, fs, fv, fa, ga, im2__25) rfl ⟨(show n ≤ 6 from (by first | assumption | omega | rfl | exact Or.inl (by assumption) | exact Or.inr (by assumption))), (show Tb κ im2__25 fs fv 3 from htb), (show Rn 6 3 fa from (by first | assumption | omega | rfl | exact Or.inl (by assumption) | exact Or.inr (by assumption))), (show Ss κ im2__25 ga 6 from hss), (show Sb im im2__25 from h_28)⟩ (subP hP [0, 1, 2, 3, 4, 5, 6, 7] rfl) (subD hD [0, 1, 2, 3, 4, 5, 6, 7] (by decide) rfl) (Nat.le_of_ble_eq_true rfl) (Nat.le_of_ble_eq_true rfl) dX11_name_37
      · refine W.eq (g2 := F0 m 7 ls [.ref q__30]) rfl ?_
        refine lv_astore_n (lv' := [(3, .ref q__30), (0, .ref xx), (1, .int (nI t)), (2, .int zb)]) hx hb dX11_name_7 rfl hl (by decide) rfl (fun ls hl => ?_)
        refine lv_aload_n hx hb dX11_name_8 rfl (lv_at hl 1 rfl) ?_
        refine va_get (D := D) (ci := 11) (v := .ref st) (C := RX11) (T := TX11) (N := 7) hx hb hts inlX11 hown hK hP 0 rfl rfl 0 (by decide) (hts _ mw_15) (fun _ h9 => h9) rfl dX11_name_9 ?_
        refine lv_iload_n hx hb dX11_name_12 rfl (lv_at hl 2 rfl) ?_
        refine er_V (As := [.int (nI t)]) (rest := []) hFX hKK hE hS (c_X6_sheetOf_s l D κ κq st d sh vw ta sa n fs t a_3 (by omega) e_1) 1 gV_X11_114 hdV_X6_sheetOf rfl rfl ⟨Nat.le_of_ble_eq_true rfl, Nat.le_of_ble_eq_true rfl⟩ rfl rfl (Nat.le_of_ble_eq_true rfl) dX11_name_13 ⟨Nat.le_of_ble_eq_true rfl, Nat.le_of_ble_eq_true rfl⟩ hl.1 hP 1 6 rfl rfl rfl (subP0 hP [1, 2] rfl) (fun _ hp_36 => ?_)
        refine W.eq (g2 := F0 m 16 ls [.ref a_3]) rfl ?_
        refine lv_astore (lv' := [(4, .ref a_3), (3, .ref q__30), (0, .ref xx), (1, .int (nI t)), (2, .int zb)]) hx hb dX11_name_16 hl (by decide) rfl (fun ls hl => ?_)
        refine lv_aload_n hx hb dX11_name_18 rfl (lv_at hl 1 rfl) ?_
        refine lv_ifnull hx hb dX11_name_19 ?_
        refine lv_aload hx hb dX11_name_22 (lv_at hl 0 rfl) ?_
        refine lv_ifnull hx hb dX11_name_24 ?_
        refine lv_aload hx hb dX11_name_27 (lv_at hl 0 rfl) ?_
        refine lv_iload_n hx hb dX11_name_29 rfl (lv_at hl 4 rfl) ?_
        obtain ⟨hb_39, c_40, x_41, v_42, g_43, h_44, hm_45, hm_46, hm_47, lo_48, lc_49, vw_50⟩ := id h_8
        obtain ⟨hb_39_1, hb_39_2, hb_39_3⟩ := hb_39
        have hrw_hb_39 := rw_le hb_39_1 hb_39_3
        refine er_V (As := [.int zb]) (rest := []) hFX hKK hE hS (c_X5_hasColumn l D κ κq im2__25 a_3 R_4 w_5 zb h_8) 1 gV_X11_161 hdV_X5_hasColumn rfl rfl ⟨Nat.le_of_ble_eq_true rfl, Nat.le_of_ble_eq_true rfl⟩ rfl rfl (Nat.le_of_ble_eq_true rfl) dX11_name_30 ⟨Nat.le_of_ble_eq_true rfl, Nat.le_of_ble_eq_true rfl⟩ hl.1 (oneP (C := [(xx, .inr (11, [.ref st, .ref tp, .ref ft, .ref rd, .ref wr, .ref st2, .int zi])), (st, .inr (6, [.ref d, .ref sh, .ref vw, .ref ta, .ref sa, .int (nI n)])), (sh, .inl (κ 4, 3, .inr (.inr (.inr (.inr fs))))), (vw, .inl (κ 5, 3, .inr (.inr (.inr (.inr fv))))), (ta, .inl (κ 0, 6, .inl fa)), (sa, .inl (κ 4, 6, .inr (.inr (.inr (.inr ga))))), (tp, .inr (8, [.ref tb, .int 0])), (tb, .inl (κ 0, 800, .inl tf))]) hP hm_45) 0 5 rfl rfl rfl (subP hP [] rfl) (fun r__37 hp_38 => ?_)
        replace hp_38 : ((r__37 = 1 ∧ (∃ j : Nat, j < w_5 ∧ zb = nI j)) ∨ (r__37 = 0)) := hp_38
        have ha_51 := hp_38
        clear hp_38
        rcases ha_51 with ⟨rfl, ⟨j_52, hj_52, rfl⟩⟩ | rfl
        · refine W.eq (g2 := F0 m 33 ls [.int 1]) rfl ?_
          refine lv_if_ne (tgt := 38) hx hb dX11_name_33 (by decide) (fun c_54 => ?_) (fun c_54 => absurd c_54 (by decide))
          refine lv_aload hx hb dX11_name_38 (lv_at hl 0 rfl) ?_
          refine va_get (D := D) (ci := 5) (v := .ref c_40) (C := RX5) (T := TX5) (N := 4) hx hb hts inlX5 hown hK (oneP (C := [(xx, .inr (11, [.ref st, .ref tp, .ref ft, .ref rd, .ref wr, .ref st2, .int zi])), (st, .inr (6, [.ref d, .ref sh, .ref vw, .ref ta, .ref sa, .int (nI n)])), (sh, .inl (κ 4, 3, .inr (.inr (.inr (.inr fs))))), (vw, .inl (κ 5, 3, .inr (.inr (.inr (.inr fv))))), (ta, .inl (κ 0, 6, .inl fa)), (sa, .inl (κ 4, 6, .inr (.inr (.inr (.inr ga))))), (tp, .inr (8, [.ref tb, .int 0])), (tb, .inl (κ 0, 800, .inl tf))]) hP hm_45) 0 rfl rfl 0 (by decide) (hts _ mw_559) (fun _ h9 => h9) rfl dX11_name_40 ?_
          refine lv_aload hx hb dX11_name_43 (lv_at hl 0 rfl) ?_
          refine va_get (D := D) (ci := 5) (v := .ref c_40) (C := RX5) (T := TX5) (N := 4) hx hb hts inlX5 hown hK (oneP (C := [(xx, .inr (11, [.ref st, .ref tp, .ref ft, .ref rd, .ref wr, .ref st2, .int zi])), (st, .inr (6, [.ref d, .ref sh, .ref vw, .ref ta, .ref sa, .int (nI n)])), (sh, .inl (κ 4, 3, .inr (.inr (.inr (.inr fs))))), (vw, .inl (κ 5, 3, .inr (.inr (.inr (.inr fv))))), (ta, .inl (κ 0, 6, .inl fa)), (sa, .inl (κ 4, 6, .inr (.inr (.inr (.inr ga))))), (tp, .inr (8, [.ref tb, .int 0])), (tb, .inl (κ 0, 800, .inl tf))]) hP hm_45) 0 rfl rfl 0 (by decide) (hts _ mw_559) (fun _ h9 => h9) rfl dX11_name_45 ?_
          refine va_alen hx hb hK (oneP (C := [(xx, .inr (11, [.ref st, .ref tp, .ref ft, .ref rd, .ref wr, .ref st2, .int zi])), (st, .inr (6, [.ref d, .ref sh, .ref vw, .ref ta, .ref sa, .int (nI n)])), (sh, .inl (κ 4, 3, .inr (.inr (.inr (.inr fs))))), (vw, .inl (κ 5, 3, .inr (.inr (.inr (.inr fv))))), (ta, .inl (κ 0, 6, .inl fa)), (sa, .inl (κ 4, 6, .inr (.inr (.inr (.inr ga))))), (tp, .inr (8, [.ref tb, .int 0])), (tb, .inl (κ 0, 800, .inl tf))]) hP hm_46) 0 3 rfl rfl (v := nI w_5) rfl dX11_name_48 ?_
          refine lv_aload_n hx hb dX11_name_49 rfl (lv_at hl 1 rfl) ?_
          refine er_S (As := [.ref c_40, .int (nI w_5), .ref q__30]) (rest := []) hFX hKK hE hS (c_X1_indexOf l D κ κq im2__25 c_40 w_5 q__30 n__31 w_5 g_43 a_32 lo_48 (by omega) (by omega)) 3 gS_X11_164 hdS_X1_indexOf rfl rfl ⟨Nat.le_of_ble_eq_true rfl, Nat.le_of_ble_eq_true rfl⟩ rfl rfl (Nat.le_of_ble_eq_true rfl) dX11_name_50 ⟨Nat.le_of_ble_eq_true rfl, Nat.le_of_ble_eq_true rfl⟩ hl.1 (va_P.app (oneP (C := [(xx, .inr (11, [.ref st, .ref tp, .ref ft, .ref rd, .ref wr, .ref st2, .int zi])), (st, .inr (6, [.ref d, .ref sh, .ref vw, .ref ta, .ref sa, .int (nI n)])), (sh, .inl (κ 4, 3, .inr (.inr (.inr (.inr fs))))), (vw, .inl (κ 5, 3, .inr (.inr (.inr (.inr fv))))), (ta, .inl (κ 0, 6, .inl fa)), (sa, .inl (κ 4, 6, .inr (.inr (.inr (.inr ga))))), (tp, .inr (8, [.ref tb, .int 0])), (tb, .inl (κ 0, 800, .inl tf))]) hP hm_46) (subP (C := [(xx, .inr (11, [.ref st, .ref tp, .ref ft, .ref rd, .ref wr, .ref st2, .int zi])), (st, .inr (6, [.ref d, .ref sh, .ref vw, .ref ta, .ref sa, .int (nI n)])), (sh, .inl (κ 4, 3, .inr (.inr (.inr (.inr fs))))), (vw, .inl (κ 5, 3, .inr (.inr (.inr (.inr fv))))), (ta, .inl (κ 0, 6, .inl fa)), (sa, .inl (κ 4, 6, .inr (.inr (.inr (.inr ga))))), (tp, .inr (8, [.ref tb, .int 0])), (tb, .inl (κ 0, 800, .inl tf))]) (C' := []) hP [] rfl)) (fun r__55 hp_56 => ?_)
          replace hp_56 : (r__55 = -1 ∨ ∃ j : Nat, j < w_5 ∧ r__55 = nI j) := hp_56
          have h_57 := hp_56
          clear hp_56
          refine W.eq (g2 := F0 m 53 ls [.int r__55]) rfl ?_
          refine lv_istore (lv' := [(5, .int r__55), (4, .ref a_3), (3, .ref q__30), (0, .ref xx), (1, .int (nI t)), (2, .int (nI j_52))]) hx hb dX11_name_53 hl (by decide) rfl (fun ls hl => ?_)
          refine lv_iload hx hb dX11_name_55 (lv_at hl 0 rfl) ?_
          refine lv_iconst (v := (-1)) hx hb dX11_name_57 (by decide) ?_
          refine lv_icmp_eq (tgt := 69) hx hb dX11_name_58 (by decide) (fun c_58 => ?_) (fun c_58 => ?_)
          · refine lv_aload_n hx hb dX11_name_69 rfl (lv_at hl 3 rfl) ?_
            refine va_get (D := D) (ci := 11) (v := .ref st) (C := RX11) (T := TX11) (N := 7) hx hb hts inlX11 hown hK hP 0 rfl rfl 0 (by decide) (hts _ mw_15) (fun _ h9 => h9) rfl dX11_name_70 ?_
            refine lv_iload_n hx hb dX11_name_73 rfl (lv_at hl 4 rfl) ?_
            refine lv_aload hx hb dX11_name_74 (lv_at hl 1 rfl) ?_
            refine lv_iload_n hx hb dX11_name_76 rfl (lv_at hl 5 rfl) ?_
            refine va_new (ci := 1) (fs := [.null, .int 0]) (C := RX1) (T := TX1) (N := 2) hx hb hts inlX1 tyX1 tyX1_ok hown (hts _ mw_713) (hts _ mw_330) (hts _ mw_331) hK hP hD hS hA rfl (fun j hj => by rcases (show j = 0 ∨ j = 1 by omega) with rfl | rfl <;> rfl) (Nat.le_of_ble_eq_true rfl) (Nat.le_of_ble_eq_true rfl) dX11_name_77 (fun q_59 H hP hD hS => ?_)
            replace hP : va_P D vwCl ([(xx, .inr (11, [.ref st, .ref tp, .ref ft, .ref rd, .ref wr, .ref st2, .int zi])), (st, .inr (6, [.ref d, .ref sh, .ref vw, .ref ta, .ref sa, .int (nI n)])), (sh, .inl (κ 4, 3, .inr (.inr (.inr (.inr fs))))), (vw, .inl (κ 5, 3, .inr (.inr (.inr (.inr fv))))), (ta, .inl (κ 0, 6, .inl fa)), (sa, .inl (κ 4, 6, .inr (.inr (.inr (.inr ga))))), (tp, .inr (8, [.ref tb, .int 0])), (tb, .inl (κ 0, 800, .inl tf)), (q_59, .inr (1, [.null, .int 0]))] ++ im2__25) H := mvP hP
            replace hD : va_D A ([(xx, .inr (11, [.ref st, .ref tp, .ref ft, .ref rd, .ref wr, .ref st2, .int zi])), (st, .inr (6, [.ref d, .ref sh, .ref vw, .ref ta, .ref sa, .int (nI n)])), (sh, .inl (κ 4, 3, .inr (.inr (.inr (.inr fs))))), (vw, .inl (κ 5, 3, .inr (.inr (.inr (.inr fv))))), (ta, .inl (κ 0, 6, .inl fa)), (sa, .inl (κ 4, 6, .inr (.inr (.inr (.inr ga))))), (tp, .inr (8, [.ref tb, .int 0])), (tb, .inl (κ 0, 800, .inl tf)), (q_59, .inr (1, [.null, .int 0]))] ++ im2__25) := mvD hD
            refine lv_dup hx hb dX11_name_80 rfl ?_
            refine lv_aload_n hx hb dX11_name_81 rfl (lv_at hl 2 rfl) ?_
            refine lv_aload hx hb dX11_name_82 (lv_at hl 1 rfl) ?_
            refine va_get (D := D) (ci := 5) (v := .ref c_40) (C := RX5) (T := TX5) (N := 4) hx hb hts inlX5 hown hK (oneP (C := [(xx, .inr (11, [.ref st, .ref tp, .ref ft, .ref rd, .ref wr, .ref st2, .int zi])), (st, .inr (6, [.ref d, .ref sh, .ref vw, .ref ta, .ref sa, .int (nI n)])), (sh, .inl (κ 4, 3, .inr (.inr (.inr (.inr fs))))), (vw, .inl (κ 5, 3, .inr (.inr (.inr (.inr fv))))), (ta, .inl (κ 0, 6, .inl fa)), (sa, .inl (κ 4, 6, .inr (.inr (.inr (.inr ga))))), (tp, .inr (8, [.ref tb, .int 0])), (tb, .inl (κ 0, 800, .inl tf)), (q_59, .inr (1, [.null, .int 0]))]) hP hm_45) 0 rfl rfl 0 (by decide) (hts _ mw_559) (fun _ h9 => h9) rfl dX11_name_84 ?_
            refine lv_iload_n hx hb dX11_name_87 rfl (lv_at hl 5 rfl) ?_
            refine va_aldq hx hb hK (oneP (C := [(xx, .inr (11, [.ref st, .ref tp, .ref ft, .ref rd, .ref wr, .ref st2, .int zi])), (st, .inr (6, [.ref d, .ref sh, .ref vw, .ref ta, .ref sa, .int (nI n)])), (sh, .inl (κ 4, 3, .inr (.inr (.inr (.inr fs))))), (vw, .inl (κ 5, 3, .inr (.inr (.inr (.inr fv))))), (ta, .inl (κ 0, 6, .inl fa)), (sa, .inl (κ 4, 6, .inr (.inr (.inr (.inr ga))))), (tp, .inr (8, [.ref tb, .int 0])), (tb, .inl (κ 0, 800, .inl tf)), (q_59, .inr (1, [.null, .int 0]))]) hP hm_46) 0 3 rfl rfl (i := nI j_52) (vp_in_nI (n := j_52) (by omega) (by omega)) dX11_name_88 ?_
            obtain ⟨q_60, e_61, m_62, t_63, h_64⟩ := lo_48 j_52 (by omega)
            refine kv (v := .ref q_60) (by rw [nI_clamp (by omega)]; rw [e_61]; rfl) ?_
            obtain ⟨ht_65, b_66, hm_67, hb_68⟩ := id h_64
            have hn_b_66 := hb_68.1
            refine va_get (D := D) (ci := 1) (v := .int t_63) (C := RX1) (T := TX1) (N := 2) hx hb hts inlX1 hown hK (oneP (C := [(xx, .inr (11, [.ref st, .ref tp, .ref ft, .ref rd, .ref wr, .ref st2, .int zi])), (st, .inr (6, [.ref d, .ref sh, .ref vw, .ref ta, .ref sa, .int (nI n)])), (sh, .inl (κ 4, 3, .inr (.inr (.inr (.inr fs))))), (vw, .inl (κ 5, 3, .inr (.inr (.inr (.inr fv))))), (ta, .inl (κ 0, 6, .inl fa)), (sa, .inl (κ 4, 6, .inr (.inr (.inr (.inr ga))))), (tp, .inr (8, [.ref tb, .int 0])), (tb, .inl (κ 0, 800, .inl tf)), (q_59, .inr (1, [.null, .int 0]))]) hP hm_67) 0 rfl rfl 1 (by decide) (hts _ mw_714) (fun _ h9 => h9) rfl dX11_name_89 ?_
            refine et_IT (CR := [(xx, .inr (11, [.ref st, .ref tp, .ref ft, .ref rd, .ref wr, .ref st2, .int zi])), (st, .inr (6, [.ref d, .ref sh, .ref vw, .ref ta, .ref sa, .int (nI n)])), (sh, .inl (κ 4, 3, .inr (.inr (.inr (.inr fs))))), (vw, .inl (κ 5, 3, .inr (.inr (.inr (.inr fv))))), (ta, .inl (κ 0, 6, .inl fa)), (sa, .inl (κ 4, 6, .inr (.inr (.inr (.inr ga))))), (tp, .inr (8, [.ref tb, .int 0])), (tb, .inl (κ 0, 800, .inl tf))]) (As := [.ref q__30, .int t_63]) (rest := [.ref q_59, .int (nI j_52), .ref a_3, .int (nI t), .ref st]) hFX hKK hE hP hD hS hA (c_X1_init l D κ κq im2__25 q_59 q__30 n__31 t_63 a_32 (by first | assumption | exact To_m | exact To_n (by omega))) 2 mw_722 mw_348 mw_331 mw_349 hdI_X1_init ⟨Nat.le_of_ble_eq_true rfl, Nat.le_of_ble_eq_true rfl⟩ rfl rfl (Nat.le_of_ble_eq_true rfl) dX11_name_92 ⟨Nat.le_of_ble_eq_true rfl, Nat.le_of_ble_eq_true rfl⟩ hl.1 [8] [0, 1, 2, 3, 4, 5, 6, 7] rfl rfl (by decide) (by decide) (by decide) (fun im2__69 H locs hp_70 hP hD hS => ?_)
            refine W.widen (k := 2) (n := 22) (Nat.le_refl _) (Nat.le_refl _) ?_
            replace hP : va_P D vwCl ([(xx, .inr (11, [.ref st, .ref tp, .ref ft, .ref rd, .ref wr, .ref st2, .int zi])), (st, .inr (6, [.ref d, .ref sh, .ref vw, .ref ta, .ref sa, .int (nI n)])), (sh, .inl (κ 4, 3, .inr (.inr (.inr (.inr fs))))), (vw, .inl (κ 5, 3, .inr (.inr (.inr (.inr fv))))), (ta, .inl (κ 0, 6, .inl fa)), (sa, .inl (κ 4, 6, .inr (.inr (.inr (.inr ga))))), (tp, .inr (8, [.ref tb, .int 0])), (tb, .inl (κ 0, 800, .inl tf))] ++ im2__69) H := subP (C := [(xx, .inr (11, [.ref st, .ref tp, .ref ft, .ref rd, .ref wr, .ref st2, .int zi])), (st, .inr (6, [.ref d, .ref sh, .ref vw, .ref ta, .ref sa, .int (nI n)])), (sh, .inl (κ 4, 3, .inr (.inr (.inr (.inr fs))))), (vw, .inl (κ 5, 3, .inr (.inr (.inr (.inr fv))))), (ta, .inl (κ 0, 6, .inl fa)), (sa, .inl (κ 4, 6, .inr (.inr (.inr (.inr ga))))), (tp, .inr (8, [.ref tb, .int 0])), (tb, .inl (κ 0, 800, .inl tf))]) hP [0, 1, 2, 3, 4, 5, 6, 7] rfl
            replace hD : va_D A ([(xx, .inr (11, [.ref st, .ref tp, .ref ft, .ref rd, .ref wr, .ref st2, .int zi])), (st, .inr (6, [.ref d, .ref sh, .ref vw, .ref ta, .ref sa, .int (nI n)])), (sh, .inl (κ 4, 3, .inr (.inr (.inr (.inr fs))))), (vw, .inl (κ 5, 3, .inr (.inr (.inr (.inr fv))))), (ta, .inl (κ 0, 6, .inl fa)), (sa, .inl (κ 4, 6, .inr (.inr (.inr (.inr ga))))), (tp, .inr (8, [.ref tb, .int 0])), (tb, .inl (κ 0, 800, .inl tf))] ++ im2__69) := subD (C := [(xx, .inr (11, [.ref st, .ref tp, .ref ft, .ref rd, .ref wr, .ref st2, .int zi])), (st, .inr (6, [.ref d, .ref sh, .ref vw, .ref ta, .ref sa, .int (nI n)])), (sh, .inl (κ 4, 3, .inr (.inr (.inr (.inr fs))))), (vw, .inl (κ 5, 3, .inr (.inr (.inr (.inr fv))))), (ta, .inl (κ 0, 6, .inl fa)), (sa, .inl (κ 4, 6, .inr (.inr (.inr (.inr ga))))), (tp, .inr (8, [.ref tb, .int 0])), (tb, .inl (κ 0, 800, .inl tf))]) hD [0, 1, 2, 3, 4, 5, 6, 7] (by decide) rfl
            replace hp_70 : Sb im2__25 im2__69 ∧ Co κ im2__69 q_59 n__31 t_63 := hp_70
            obtain ⟨h_71, h_72⟩ := hp_70
            replace htb := htb.up h_71
            replace hss := hss.up h_71
            replace h_8 := h_8.up h_71
            replace h_9 := h_9.up h_71
            replace a_32 := a_32.up h_71
            replace lo_48 := lo_48.up h_71
            replace lc_49 := lc_49.up h_71
            replace vw_50 := vw_50.up h_71
            replace h_64 := h_64.up h_71
            replace hb_68 := hb_68.up h_71
            replace hm_45 := h_71 _ hm_45
            replace hm_46 := h_71 _ hm_46
            replace hm_47 := h_71 _ hm_47
            replace hm_67 := h_71 _ hm_67
            refine W.eq (g2 := F0 m 95 ls [.ref q_59, .int (nI j_52), .ref a_3, .int (nI t), .ref st]) rfl ?_
            refine et_VT (CR := [(xx, .inr (11, [.ref st, .ref tp, .ref ft, .ref rd, .ref wr, .ref st2, .int zi])), (st, .inr (6, [.ref d, .ref sh, .ref vw, .ref ta, .ref sa, .int (nI n)])), (sh, .inl (κ 4, 3, .inr (.inr (.inr (.inr fs))))), (vw, .inl (κ 5, 3, .inr (.inr (.inr (.inr fv))))), (ta, .inl (κ 0, 6, .inl fa)), (sa, .inl (κ 4, 6, .inr (.inr (.inr (.inr ga))))), (tp, .inr (8, [.ref tb, .int 0])), (tb, .inl (κ 0, 800, .inl tf))]) (As := [.int (nI j_52), .ref q_59]) (rest := [.int (nI t), .ref st]) hFX hKK hE hP hD hS hA (c_X5_withColumn l D κ κq im2__69 a_3 R_4 w_5 j_52 q_59 n__31 t_63 h_8 (by omega) h_72) 2 gV_X11_174 hdV_X5_withColumn ⟨Nat.le_of_ble_eq_true rfl, Nat.le_of_ble_eq_true rfl⟩ rfl rfl (Nat.le_of_ble_eq_true rfl) dX11_name_95 ⟨Nat.le_of_ble_eq_true rfl, Nat.le_of_ble_eq_true rfl⟩ hl.1 [] [0, 1, 2, 3, 4, 5, 6, 7] rfl rfl (by decide) (by decide) (by decide) (oneP (C := [(xx, .inr (11, [.ref st, .ref tp, .ref ft, .ref rd, .ref wr, .ref st2, .int zi])), (st, .inr (6, [.ref d, .ref sh, .ref vw, .ref ta, .ref sa, .int (nI n)])), (sh, .inl (κ 4, 3, .inr (.inr (.inr (.inr fs))))), (vw, .inl (κ 5, 3, .inr (.inr (.inr (.inr fv))))), (ta, .inl (κ 0, 6, .inl fa)), (sa, .inl (κ 4, 6, .inr (.inr (.inr (.inr ga))))), (tp, .inr (8, [.ref tb, .int 0])), (tb, .inl (κ 0, 800, .inl tf))]) hP hm_45) 0 5 rfl rfl rfl (fun u_75 H locs hp_76 hP hD hS => ?_)
            refine W.widen (k := 6) (n := 77) (Nat.le_refl _) (Nat.le_refl _) ?_
            obtain ⟨r__73, im2__74⟩ := u_75
            replace hP : va_P D vwCl ([(xx, .inr (11, [.ref st, .ref tp, .ref ft, .ref rd, .ref wr, .ref st2, .int zi])), (st, .inr (6, [.ref d, .ref sh, .ref vw, .ref ta, .ref sa, .int (nI n)])), (sh, .inl (κ 4, 3, .inr (.inr (.inr (.inr fs))))), (vw, .inl (κ 5, 3, .inr (.inr (.inr (.inr fv))))), (ta, .inl (κ 0, 6, .inl fa)), (sa, .inl (κ 4, 6, .inr (.inr (.inr (.inr ga))))), (tp, .inr (8, [.ref tb, .int 0])), (tb, .inl (κ 0, 800, .inl tf))] ++ im2__74) H := subP (C := [(xx, .inr (11, [.ref st, .ref tp, .ref ft, .ref rd, .ref wr, .ref st2, .int zi])), (st, .inr (6, [.ref d, .ref sh, .ref vw, .ref ta, .ref sa, .int (nI n)])), (sh, .inl (κ 4, 3, .inr (.inr (.inr (.inr fs))))), (vw, .inl (κ 5, 3, .inr (.inr (.inr (.inr fv))))), (ta, .inl (κ 0, 6, .inl fa)), (sa, .inl (κ 4, 6, .inr (.inr (.inr (.inr ga))))), (tp, .inr (8, [.ref tb, .int 0])), (tb, .inl (κ 0, 800, .inl tf))]) hP [0, 1, 2, 3, 4, 5, 6, 7] rfl
            replace hD : va_D A ([(xx, .inr (11, [.ref st, .ref tp, .ref ft, .ref rd, .ref wr, .ref st2, .int zi])), (st, .inr (6, [.ref d, .ref sh, .ref vw, .ref ta, .ref sa, .int (nI n)])), (sh, .inl (κ 4, 3, .inr (.inr (.inr (.inr fs))))), (vw, .inl (κ 5, 3, .inr (.inr (.inr (.inr fv))))), (ta, .inl (κ 0, 6, .inl fa)), (sa, .inl (κ 4, 6, .inr (.inr (.inr (.inr ga))))), (tp, .inr (8, [.ref tb, .int 0])), (tb, .inl (κ 0, 800, .inl tf))] ++ im2__74) := subD (C := [(xx, .inr (11, [.ref st, .ref tp, .ref ft, .ref rd, .ref wr, .ref st2, .int zi])), (st, .inr (6, [.ref d, .ref sh, .ref vw, .ref ta, .ref sa, .int (nI n)])), (sh, .inl (κ 4, 3, .inr (.inr (.inr (.inr fs))))), (vw, .inl (κ 5, 3, .inr (.inr (.inr (.inr fv))))), (ta, .inl (κ 0, 6, .inl fa)), (sa, .inl (κ 4, 6, .inr (.inr (.inr (.inr ga))))), (tp, .inr (8, [.ref tb, .int 0])), (tb, .inl (κ 0, 800, .inl tf))]) hD [0, 1, 2, 3, 4, 5, 6, 7] (by decide) rfl
            replace hp_76 : Sb im2__69 im2__74 ∧ ((∃ (q : Nat), r__73 = some q ∧ Sh κ im2__74 q R_4 w_5)) := hp_76
            obtain ⟨h_77, ha_78⟩ := hp_76
            replace htb := htb.up h_77
            replace hss := hss.up h_77
            replace h_8 := h_8.up h_77
            replace h_9 := h_9.up h_77
            replace a_32 := a_32.up h_77
            replace lo_48 := lo_48.up h_77
            replace lc_49 := lc_49.up h_77
            replace vw_50 := vw_50.up h_77
            replace h_64 := h_64.up h_77
            replace hb_68 := hb_68.up h_77
            replace h_72 := h_72.up h_77
            replace hm_45 := h_77 _ hm_45
            replace hm_46 := h_77 _ hm_46
            replace hm_47 := h_77 _ hm_47
            replace hm_67 := h_77 _ hm_67
            rcases ha_78 with ⟨q__79, rfl, a_80⟩
            · refine W.eq (g2 := F0 m 98 ls [.ref q__79, .int (nI t), .ref st]) rfl ?_
              refine et_VT (CR := [(xx, .inr (11, [.ref st, .ref tp, .ref ft, .ref rd, .ref wr, .ref st2, .int zi])), (tp, .inr (8, [.ref tb, .int 0])), (tb, .inl (κ 0, 800, .inl tf))]) (As := [.int (nI t), .ref q__79]) (rest := []) hFX hKK hE hP hD hS hA (c_X6_act l D κ κq im2__74 st d sh vw ta sa n fs fv fa ga t q__79 R_4 w_5 (by omega) htb hrn hss (by omega) a_80) 2 gV_X11_86 hdV_X6_act ⟨Nat.le_of_ble_eq_true rfl, Nat.le_of_ble_eq_true rfl⟩ rfl rfl (Nat.le_of_ble_eq_true rfl) dX11_name_98 ⟨Nat.le_of_ble_eq_true rfl, Nat.le_of_ble_eq_true rfl⟩ hl.1 [1, 2, 3, 4, 5] [0, 6, 7] rfl rfl (by decide) (by decide) (by decide) hP 1 6 rfl rfl rfl (fun u_86 H locs hp_87 hP hD hS => ?_)
              refine W.widen (k := 6) (n := 77) (Nat.le_refl _) (Nat.le_refl _) ?_
              obtain ⟨y__81, gs__82, gv__83, fb__84, gb__85⟩ := u_86
              replace hP : va_P D vwCl ([(xx, .inr (11, [.ref st, .ref tp, .ref ft, .ref rd, .ref wr, .ref st2, .int zi])), (st, .inr (6, [.ref d, .ref sh, .ref vw, .ref ta, .ref sa, .int (nI y__81)])), (sh, .inl (κ 4, 3, .inr (.inr (.inr (.inr gs__82))))), (vw, .inl (κ 5, 3, .inr (.inr (.inr (.inr gv__83))))), (ta, .inl (κ 0, 6, .inl fb__84)), (sa, .inl (κ 4, 6, .inr (.inr (.inr (.inr gb__85))))), (tp, .inr (8, [.ref tb, .int 0])), (tb, .inl (κ 0, 800, .inl tf))] ++ im2__74) H := subP (C := [(xx, .inr (11, [.ref st, .ref tp, .ref ft, .ref rd, .ref wr, .ref st2, .int zi])), (tp, .inr (8, [.ref tb, .int 0])), (tb, .inl (κ 0, 800, .inl tf)), (st, .inr (6, [.ref d, .ref sh, .ref vw, .ref ta, .ref sa, .int (nI y__81)])), (sh, .inl (κ 4, 3, .inr (.inr (.inr (.inr gs__82))))), (vw, .inl (κ 5, 3, .inr (.inr (.inr (.inr gv__83))))), (ta, .inl (κ 0, 6, .inl fb__84)), (sa, .inl (κ 4, 6, .inr (.inr (.inr (.inr gb__85)))))]) hP [0, 3, 4, 5, 6, 7, 1, 2] rfl
              replace hD : va_D A ([(xx, .inr (11, [.ref st, .ref tp, .ref ft, .ref rd, .ref wr, .ref st2, .int zi])), (st, .inr (6, [.ref d, .ref sh, .ref vw, .ref ta, .ref sa, .int (nI y__81)])), (sh, .inl (κ 4, 3, .inr (.inr (.inr (.inr gs__82))))), (vw, .inl (κ 5, 3, .inr (.inr (.inr (.inr gv__83))))), (ta, .inl (κ 0, 6, .inl fb__84)), (sa, .inl (κ 4, 6, .inr (.inr (.inr (.inr gb__85))))), (tp, .inr (8, [.ref tb, .int 0])), (tb, .inl (κ 0, 800, .inl tf))] ++ im2__74) := subD (C := [(xx, .inr (11, [.ref st, .ref tp, .ref ft, .ref rd, .ref wr, .ref st2, .int zi])), (tp, .inr (8, [.ref tb, .int 0])), (tb, .inl (κ 0, 800, .inl tf)), (st, .inr (6, [.ref d, .ref sh, .ref vw, .ref ta, .ref sa, .int (nI y__81)])), (sh, .inl (κ 4, 3, .inr (.inr (.inr (.inr gs__82))))), (vw, .inl (κ 5, 3, .inr (.inr (.inr (.inr gv__83))))), (ta, .inl (κ 0, 6, .inl fb__84)), (sa, .inl (κ 4, 6, .inr (.inr (.inr (.inr gb__85)))))]) hD [0, 3, 4, 5, 6, 7, 1, 2] (by decide) rfl
              replace hp_87 : y__81 ≤ 6 ∧ Tb κ im2__74 gs__82 gv__83 3 ∧ Rn 6 3 fb__84 ∧ Ss κ im2__74 gb__85 6 := hp_87
              obtain ⟨h_88, h_89, h_90, h_91⟩ := hp_87
              refine W.eq (g2 := F0 m 101 ls []) rfl ?_
              refine lv_iconst (v := 1) hx hb dX11_name_101 (by decide) ?_
              exact et_iret hx hb hr hlk rfl hS (1, y__81, gs__82, gv__83, fb__84, gb__85, im2__74) rfl ⟨(show y__81 ≤ 6 from (by first | assumption | omega | rfl | exact Or.inl (by assumption) | exact Or.inr (by assumption))), (show Tb κ im2__74 gs__82 gv__83 3 from h_89), (show Rn 6 3 fb__84 from (by first | assumption | omega | rfl | exact Or.inl (by assumption) | exact Or.inr (by assumption))), (show Ss κ im2__74 gb__85 6 from h_91), (show Sb im im2__74 from (Sb.tr (Sb.tr h_28 h_71) h_77))⟩ (subP hP [0, 1, 2, 3, 4, 5, 6, 7] rfl) (subD hD [0, 1, 2, 3, 4, 5, 6, 7] (by decide) rfl) (Nat.le_of_ble_eq_true rfl) (Nat.le_of_ble_eq_true rfl) dX11_name_102
          · refine lv_iload hx hb dX11_name_61 (lv_at hl 0 rfl) ?_
            refine lv_iload_n hx hb dX11_name_63 rfl (lv_at hl 5 rfl) ?_
            refine lv_icmp_eq (tgt := 69) hx hb dX11_name_64 (by decide) (fun c_92 => ?_) (fun c_92 => ?_)
            · refine lv_aload_n hx hb dX11_name_69 rfl (lv_at hl 3 rfl) ?_
              refine va_get (D := D) (ci := 11) (v := .ref st) (C := RX11) (T := TX11) (N := 7) hx hb hts inlX11 hown hK hP 0 rfl rfl 0 (by decide) (hts _ mw_15) (fun _ h9 => h9) rfl dX11_name_70 ?_
              refine lv_iload_n hx hb dX11_name_73 rfl (lv_at hl 4 rfl) ?_
              refine lv_aload hx hb dX11_name_74 (lv_at hl 1 rfl) ?_
              refine lv_iload_n hx hb dX11_name_76 rfl (lv_at hl 5 rfl) ?_
              refine va_new (ci := 1) (fs := [.null, .int 0]) (C := RX1) (T := TX1) (N := 2) hx hb hts inlX1 tyX1 tyX1_ok hown (hts _ mw_713) (hts _ mw_330) (hts _ mw_331) hK hP hD hS hA rfl (fun j hj => by rcases (show j = 0 ∨ j = 1 by omega) with rfl | rfl <;> rfl) (Nat.le_of_ble_eq_true rfl) (Nat.le_of_ble_eq_true rfl) dX11_name_77 (fun q_93 H hP hD hS => ?_)
              replace hP : va_P D vwCl ([(xx, .inr (11, [.ref st, .ref tp, .ref ft, .ref rd, .ref wr, .ref st2, .int zi])), (st, .inr (6, [.ref d, .ref sh, .ref vw, .ref ta, .ref sa, .int (nI n)])), (sh, .inl (κ 4, 3, .inr (.inr (.inr (.inr fs))))), (vw, .inl (κ 5, 3, .inr (.inr (.inr (.inr fv))))), (ta, .inl (κ 0, 6, .inl fa)), (sa, .inl (κ 4, 6, .inr (.inr (.inr (.inr ga))))), (tp, .inr (8, [.ref tb, .int 0])), (tb, .inl (κ 0, 800, .inl tf)), (q_93, .inr (1, [.null, .int 0]))] ++ im2__25) H := mvP hP
              replace hD : va_D A ([(xx, .inr (11, [.ref st, .ref tp, .ref ft, .ref rd, .ref wr, .ref st2, .int zi])), (st, .inr (6, [.ref d, .ref sh, .ref vw, .ref ta, .ref sa, .int (nI n)])), (sh, .inl (κ 4, 3, .inr (.inr (.inr (.inr fs))))), (vw, .inl (κ 5, 3, .inr (.inr (.inr (.inr fv))))), (ta, .inl (κ 0, 6, .inl fa)), (sa, .inl (κ 4, 6, .inr (.inr (.inr (.inr ga))))), (tp, .inr (8, [.ref tb, .int 0])), (tb, .inl (κ 0, 800, .inl tf)), (q_93, .inr (1, [.null, .int 0]))] ++ im2__25) := mvD hD
              refine lv_dup hx hb dX11_name_80 rfl ?_
              refine lv_aload_n hx hb dX11_name_81 rfl (lv_at hl 2 rfl) ?_
              refine lv_aload hx hb dX11_name_82 (lv_at hl 1 rfl) ?_
              refine va_get (D := D) (ci := 5) (v := .ref c_40) (C := RX5) (T := TX5) (N := 4) hx hb hts inlX5 hown hK (oneP (C := [(xx, .inr (11, [.ref st, .ref tp, .ref ft, .ref rd, .ref wr, .ref st2, .int zi])), (st, .inr (6, [.ref d, .ref sh, .ref vw, .ref ta, .ref sa, .int (nI n)])), (sh, .inl (κ 4, 3, .inr (.inr (.inr (.inr fs))))), (vw, .inl (κ 5, 3, .inr (.inr (.inr (.inr fv))))), (ta, .inl (κ 0, 6, .inl fa)), (sa, .inl (κ 4, 6, .inr (.inr (.inr (.inr ga))))), (tp, .inr (8, [.ref tb, .int 0])), (tb, .inl (κ 0, 800, .inl tf)), (q_93, .inr (1, [.null, .int 0]))]) hP hm_45) 0 rfl rfl 0 (by decide) (hts _ mw_559) (fun _ h9 => h9) rfl dX11_name_84 ?_
              refine lv_iload_n hx hb dX11_name_87 rfl (lv_at hl 5 rfl) ?_
              refine va_aldq hx hb hK (oneP (C := [(xx, .inr (11, [.ref st, .ref tp, .ref ft, .ref rd, .ref wr, .ref st2, .int zi])), (st, .inr (6, [.ref d, .ref sh, .ref vw, .ref ta, .ref sa, .int (nI n)])), (sh, .inl (κ 4, 3, .inr (.inr (.inr (.inr fs))))), (vw, .inl (κ 5, 3, .inr (.inr (.inr (.inr fv))))), (ta, .inl (κ 0, 6, .inl fa)), (sa, .inl (κ 4, 6, .inr (.inr (.inr (.inr ga))))), (tp, .inr (8, [.ref tb, .int 0])), (tb, .inl (κ 0, 800, .inl tf)), (q_93, .inr (1, [.null, .int 0]))]) hP hm_46) 0 3 rfl rfl (i := nI j_52) (vp_in_nI (n := j_52) (by omega) (by omega)) dX11_name_88 ?_
              obtain ⟨q_94, e_95, m_96, t_97, h_98⟩ := lo_48 j_52 (by omega)
              refine kv (v := .ref q_94) (by rw [nI_clamp (by omega)]; rw [e_95]; rfl) ?_
              obtain ⟨ht_99, b_100, hm_101, hb_102⟩ := id h_98
              have hn_b_100 := hb_102.1
              refine va_get (D := D) (ci := 1) (v := .int t_97) (C := RX1) (T := TX1) (N := 2) hx hb hts inlX1 hown hK (oneP (C := [(xx, .inr (11, [.ref st, .ref tp, .ref ft, .ref rd, .ref wr, .ref st2, .int zi])), (st, .inr (6, [.ref d, .ref sh, .ref vw, .ref ta, .ref sa, .int (nI n)])), (sh, .inl (κ 4, 3, .inr (.inr (.inr (.inr fs))))), (vw, .inl (κ 5, 3, .inr (.inr (.inr (.inr fv))))), (ta, .inl (κ 0, 6, .inl fa)), (sa, .inl (κ 4, 6, .inr (.inr (.inr (.inr ga))))), (tp, .inr (8, [.ref tb, .int 0])), (tb, .inl (κ 0, 800, .inl tf)), (q_93, .inr (1, [.null, .int 0]))]) hP hm_101) 0 rfl rfl 1 (by decide) (hts _ mw_714) (fun _ h9 => h9) rfl dX11_name_89 ?_
              refine et_IT (CR := [(xx, .inr (11, [.ref st, .ref tp, .ref ft, .ref rd, .ref wr, .ref st2, .int zi])), (st, .inr (6, [.ref d, .ref sh, .ref vw, .ref ta, .ref sa, .int (nI n)])), (sh, .inl (κ 4, 3, .inr (.inr (.inr (.inr fs))))), (vw, .inl (κ 5, 3, .inr (.inr (.inr (.inr fv))))), (ta, .inl (κ 0, 6, .inl fa)), (sa, .inl (κ 4, 6, .inr (.inr (.inr (.inr ga))))), (tp, .inr (8, [.ref tb, .int 0])), (tb, .inl (κ 0, 800, .inl tf))]) (As := [.ref q__30, .int t_97]) (rest := [.ref q_93, .int (nI j_52), .ref a_3, .int (nI t), .ref st]) hFX hKK hE hP hD hS hA (c_X1_init l D κ κq im2__25 q_93 q__30 n__31 t_97 a_32 (by first | assumption | exact To_m | exact To_n (by omega))) 2 mw_722 mw_348 mw_331 mw_349 hdI_X1_init ⟨Nat.le_of_ble_eq_true rfl, Nat.le_of_ble_eq_true rfl⟩ rfl rfl (Nat.le_of_ble_eq_true rfl) dX11_name_92 ⟨Nat.le_of_ble_eq_true rfl, Nat.le_of_ble_eq_true rfl⟩ hl.1 [8] [0, 1, 2, 3, 4, 5, 6, 7] rfl rfl (by decide) (by decide) (by decide) (fun im2__103 H locs hp_104 hP hD hS => ?_)
              refine W.widen (k := 2) (n := 22) (Nat.le_refl _) (Nat.le_refl _) ?_
              replace hP : va_P D vwCl ([(xx, .inr (11, [.ref st, .ref tp, .ref ft, .ref rd, .ref wr, .ref st2, .int zi])), (st, .inr (6, [.ref d, .ref sh, .ref vw, .ref ta, .ref sa, .int (nI n)])), (sh, .inl (κ 4, 3, .inr (.inr (.inr (.inr fs))))), (vw, .inl (κ 5, 3, .inr (.inr (.inr (.inr fv))))), (ta, .inl (κ 0, 6, .inl fa)), (sa, .inl (κ 4, 6, .inr (.inr (.inr (.inr ga))))), (tp, .inr (8, [.ref tb, .int 0])), (tb, .inl (κ 0, 800, .inl tf))] ++ im2__103) H := subP (C := [(xx, .inr (11, [.ref st, .ref tp, .ref ft, .ref rd, .ref wr, .ref st2, .int zi])), (st, .inr (6, [.ref d, .ref sh, .ref vw, .ref ta, .ref sa, .int (nI n)])), (sh, .inl (κ 4, 3, .inr (.inr (.inr (.inr fs))))), (vw, .inl (κ 5, 3, .inr (.inr (.inr (.inr fv))))), (ta, .inl (κ 0, 6, .inl fa)), (sa, .inl (κ 4, 6, .inr (.inr (.inr (.inr ga))))), (tp, .inr (8, [.ref tb, .int 0])), (tb, .inl (κ 0, 800, .inl tf))]) hP [0, 1, 2, 3, 4, 5, 6, 7] rfl
              replace hD : va_D A ([(xx, .inr (11, [.ref st, .ref tp, .ref ft, .ref rd, .ref wr, .ref st2, .int zi])), (st, .inr (6, [.ref d, .ref sh, .ref vw, .ref ta, .ref sa, .int (nI n)])), (sh, .inl (κ 4, 3, .inr (.inr (.inr (.inr fs))))), (vw, .inl (κ 5, 3, .inr (.inr (.inr (.inr fv))))), (ta, .inl (κ 0, 6, .inl fa)), (sa, .inl (κ 4, 6, .inr (.inr (.inr (.inr ga))))), (tp, .inr (8, [.ref tb, .int 0])), (tb, .inl (κ 0, 800, .inl tf))] ++ im2__103) := subD (C := [(xx, .inr (11, [.ref st, .ref tp, .ref ft, .ref rd, .ref wr, .ref st2, .int zi])), (st, .inr (6, [.ref d, .ref sh, .ref vw, .ref ta, .ref sa, .int (nI n)])), (sh, .inl (κ 4, 3, .inr (.inr (.inr (.inr fs))))), (vw, .inl (κ 5, 3, .inr (.inr (.inr (.inr fv))))), (ta, .inl (κ 0, 6, .inl fa)), (sa, .inl (κ 4, 6, .inr (.inr (.inr (.inr ga))))), (tp, .inr (8, [.ref tb, .int 0])), (tb, .inl (κ 0, 800, .inl tf))]) hD [0, 1, 2, 3, 4, 5, 6, 7] (by decide) rfl
              replace hp_104 : Sb im2__25 im2__103 ∧ Co κ im2__103 q_93 n__31 t_97 := hp_104
              obtain ⟨h_105, h_106⟩ := hp_104
              replace htb := htb.up h_105
              replace hss := hss.up h_105
              replace h_8 := h_8.up h_105
              replace h_9 := h_9.up h_105
              replace a_32 := a_32.up h_105
              replace lo_48 := lo_48.up h_105
              replace lc_49 := lc_49.up h_105
              replace vw_50 := vw_50.up h_105
              replace h_98 := h_98.up h_105
              replace hb_102 := hb_102.up h_105
              replace hm_45 := h_105 _ hm_45
              replace hm_46 := h_105 _ hm_46
              replace hm_47 := h_105 _ hm_47
              replace hm_101 := h_105 _ hm_101
              refine W.eq (g2 := F0 m 95 ls [.ref q_93, .int (nI j_52), .ref a_3, .int (nI t), .ref st]) rfl ?_
              refine et_VT (CR := [(xx, .inr (11, [.ref st, .ref tp, .ref ft, .ref rd, .ref wr, .ref st2, .int zi])), (st, .inr (6, [.ref d, .ref sh, .ref vw, .ref ta, .ref sa, .int (nI n)])), (sh, .inl (κ 4, 3, .inr (.inr (.inr (.inr fs))))), (vw, .inl (κ 5, 3, .inr (.inr (.inr (.inr fv))))), (ta, .inl (κ 0, 6, .inl fa)), (sa, .inl (κ 4, 6, .inr (.inr (.inr (.inr ga))))), (tp, .inr (8, [.ref tb, .int 0])), (tb, .inl (κ 0, 800, .inl tf))]) (As := [.int (nI j_52), .ref q_93]) (rest := [.int (nI t), .ref st]) hFX hKK hE hP hD hS hA (c_X5_withColumn l D κ κq im2__103 a_3 R_4 w_5 j_52 q_93 n__31 t_97 h_8 (by omega) h_106) 2 gV_X11_174 hdV_X5_withColumn ⟨Nat.le_of_ble_eq_true rfl, Nat.le_of_ble_eq_true rfl⟩ rfl rfl (Nat.le_of_ble_eq_true rfl) dX11_name_95 ⟨Nat.le_of_ble_eq_true rfl, Nat.le_of_ble_eq_true rfl⟩ hl.1 [] [0, 1, 2, 3, 4, 5, 6, 7] rfl rfl (by decide) (by decide) (by decide) (oneP (C := [(xx, .inr (11, [.ref st, .ref tp, .ref ft, .ref rd, .ref wr, .ref st2, .int zi])), (st, .inr (6, [.ref d, .ref sh, .ref vw, .ref ta, .ref sa, .int (nI n)])), (sh, .inl (κ 4, 3, .inr (.inr (.inr (.inr fs))))), (vw, .inl (κ 5, 3, .inr (.inr (.inr (.inr fv))))), (ta, .inl (κ 0, 6, .inl fa)), (sa, .inl (κ 4, 6, .inr (.inr (.inr (.inr ga))))), (tp, .inr (8, [.ref tb, .int 0])), (tb, .inl (κ 0, 800, .inl tf))]) hP hm_45) 0 5 rfl rfl rfl (fun u_109 H locs hp_110 hP hD hS => ?_)
              refine W.widen (k := 6) (n := 77) (Nat.le_refl _) (Nat.le_refl _) ?_
              obtain ⟨r__107, im2__108⟩ := u_109
              replace hP : va_P D vwCl ([(xx, .inr (11, [.ref st, .ref tp, .ref ft, .ref rd, .ref wr, .ref st2, .int zi])), (st, .inr (6, [.ref d, .ref sh, .ref vw, .ref ta, .ref sa, .int (nI n)])), (sh, .inl (κ 4, 3, .inr (.inr (.inr (.inr fs))))), (vw, .inl (κ 5, 3, .inr (.inr (.inr (.inr fv))))), (ta, .inl (κ 0, 6, .inl fa)), (sa, .inl (κ 4, 6, .inr (.inr (.inr (.inr ga))))), (tp, .inr (8, [.ref tb, .int 0])), (tb, .inl (κ 0, 800, .inl tf))] ++ im2__108) H := subP (C := [(xx, .inr (11, [.ref st, .ref tp, .ref ft, .ref rd, .ref wr, .ref st2, .int zi])), (st, .inr (6, [.ref d, .ref sh, .ref vw, .ref ta, .ref sa, .int (nI n)])), (sh, .inl (κ 4, 3, .inr (.inr (.inr (.inr fs))))), (vw, .inl (κ 5, 3, .inr (.inr (.inr (.inr fv))))), (ta, .inl (κ 0, 6, .inl fa)), (sa, .inl (κ 4, 6, .inr (.inr (.inr (.inr ga))))), (tp, .inr (8, [.ref tb, .int 0])), (tb, .inl (κ 0, 800, .inl tf))]) hP [0, 1, 2, 3, 4, 5, 6, 7] rfl
              replace hD : va_D A ([(xx, .inr (11, [.ref st, .ref tp, .ref ft, .ref rd, .ref wr, .ref st2, .int zi])), (st, .inr (6, [.ref d, .ref sh, .ref vw, .ref ta, .ref sa, .int (nI n)])), (sh, .inl (κ 4, 3, .inr (.inr (.inr (.inr fs))))), (vw, .inl (κ 5, 3, .inr (.inr (.inr (.inr fv))))), (ta, .inl (κ 0, 6, .inl fa)), (sa, .inl (κ 4, 6, .inr (.inr (.inr (.inr ga))))), (tp, .inr (8, [.ref tb, .int 0])), (tb, .inl (κ 0, 800, .inl tf))] ++ im2__108) := subD (C := [(xx, .inr (11, [.ref st, .ref tp, .ref ft, .ref rd, .ref wr, .ref st2, .int zi])), (st, .inr (6, [.ref d, .ref sh, .ref vw, .ref ta, .ref sa, .int (nI n)])), (sh, .inl (κ 4, 3, .inr (.inr (.inr (.inr fs))))), (vw, .inl (κ 5, 3, .inr (.inr (.inr (.inr fv))))), (ta, .inl (κ 0, 6, .inl fa)), (sa, .inl (κ 4, 6, .inr (.inr (.inr (.inr ga))))), (tp, .inr (8, [.ref tb, .int 0])), (tb, .inl (κ 0, 800, .inl tf))]) hD [0, 1, 2, 3, 4, 5, 6, 7] (by decide) rfl
              replace hp_110 : Sb im2__103 im2__108 ∧ ((∃ (q : Nat), r__107 = some q ∧ Sh κ im2__108 q R_4 w_5)) := hp_110
              obtain ⟨h_111, ha_112⟩ := hp_110
              replace htb := htb.up h_111
              replace hss := hss.up h_111
              replace h_8 := h_8.up h_111
              replace h_9 := h_9.up h_111
              replace a_32 := a_32.up h_111
              replace lo_48 := lo_48.up h_111
              replace lc_49 := lc_49.up h_111
              replace vw_50 := vw_50.up h_111
              replace h_98 := h_98.up h_111
              replace hb_102 := hb_102.up h_111
              replace h_106 := h_106.up h_111
              replace hm_45 := h_111 _ hm_45
              replace hm_46 := h_111 _ hm_46
              replace hm_47 := h_111 _ hm_47
              replace hm_101 := h_111 _ hm_101
              rcases ha_112 with ⟨q__113, rfl, a_114⟩
              · refine W.eq (g2 := F0 m 98 ls [.ref q__113, .int (nI t), .ref st]) rfl ?_
                refine et_VT (CR := [(xx, .inr (11, [.ref st, .ref tp, .ref ft, .ref rd, .ref wr, .ref st2, .int zi])), (tp, .inr (8, [.ref tb, .int 0])), (tb, .inl (κ 0, 800, .inl tf))]) (As := [.int (nI t), .ref q__113]) (rest := []) hFX hKK hE hP hD hS hA (c_X6_act l D κ κq im2__108 st d sh vw ta sa n fs fv fa ga t q__113 R_4 w_5 (by omega) htb hrn hss (by omega) a_114) 2 gV_X11_86 hdV_X6_act ⟨Nat.le_of_ble_eq_true rfl, Nat.le_of_ble_eq_true rfl⟩ rfl rfl (Nat.le_of_ble_eq_true rfl) dX11_name_98 ⟨Nat.le_of_ble_eq_true rfl, Nat.le_of_ble_eq_true rfl⟩ hl.1 [1, 2, 3, 4, 5] [0, 6, 7] rfl rfl (by decide) (by decide) (by decide) hP 1 6 rfl rfl rfl (fun u_120 H locs hp_121 hP hD hS => ?_)
                refine W.widen (k := 6) (n := 77) (Nat.le_refl _) (Nat.le_refl _) ?_
                obtain ⟨y__115, gs__116, gv__117, fb__118, gb__119⟩ := u_120
                replace hP : va_P D vwCl ([(xx, .inr (11, [.ref st, .ref tp, .ref ft, .ref rd, .ref wr, .ref st2, .int zi])), (st, .inr (6, [.ref d, .ref sh, .ref vw, .ref ta, .ref sa, .int (nI y__115)])), (sh, .inl (κ 4, 3, .inr (.inr (.inr (.inr gs__116))))), (vw, .inl (κ 5, 3, .inr (.inr (.inr (.inr gv__117))))), (ta, .inl (κ 0, 6, .inl fb__118)), (sa, .inl (κ 4, 6, .inr (.inr (.inr (.inr gb__119))))), (tp, .inr (8, [.ref tb, .int 0])), (tb, .inl (κ 0, 800, .inl tf))] ++ im2__108) H := subP (C := [(xx, .inr (11, [.ref st, .ref tp, .ref ft, .ref rd, .ref wr, .ref st2, .int zi])), (tp, .inr (8, [.ref tb, .int 0])), (tb, .inl (κ 0, 800, .inl tf)), (st, .inr (6, [.ref d, .ref sh, .ref vw, .ref ta, .ref sa, .int (nI y__115)])), (sh, .inl (κ 4, 3, .inr (.inr (.inr (.inr gs__116))))), (vw, .inl (κ 5, 3, .inr (.inr (.inr (.inr gv__117))))), (ta, .inl (κ 0, 6, .inl fb__118)), (sa, .inl (κ 4, 6, .inr (.inr (.inr (.inr gb__119)))))]) hP [0, 3, 4, 5, 6, 7, 1, 2] rfl
                replace hD : va_D A ([(xx, .inr (11, [.ref st, .ref tp, .ref ft, .ref rd, .ref wr, .ref st2, .int zi])), (st, .inr (6, [.ref d, .ref sh, .ref vw, .ref ta, .ref sa, .int (nI y__115)])), (sh, .inl (κ 4, 3, .inr (.inr (.inr (.inr gs__116))))), (vw, .inl (κ 5, 3, .inr (.inr (.inr (.inr gv__117))))), (ta, .inl (κ 0, 6, .inl fb__118)), (sa, .inl (κ 4, 6, .inr (.inr (.inr (.inr gb__119))))), (tp, .inr (8, [.ref tb, .int 0])), (tb, .inl (κ 0, 800, .inl tf))] ++ im2__108) := subD (C := [(xx, .inr (11, [.ref st, .ref tp, .ref ft, .ref rd, .ref wr, .ref st2, .int zi])), (tp, .inr (8, [.ref tb, .int 0])), (tb, .inl (κ 0, 800, .inl tf)), (st, .inr (6, [.ref d, .ref sh, .ref vw, .ref ta, .ref sa, .int (nI y__115)])), (sh, .inl (κ 4, 3, .inr (.inr (.inr (.inr gs__116))))), (vw, .inl (κ 5, 3, .inr (.inr (.inr (.inr gv__117))))), (ta, .inl (κ 0, 6, .inl fb__118)), (sa, .inl (κ 4, 6, .inr (.inr (.inr (.inr gb__119)))))]) hD [0, 3, 4, 5, 6, 7, 1, 2] (by decide) rfl
                replace hp_121 : y__115 ≤ 6 ∧ Tb κ im2__108 gs__116 gv__117 3 ∧ Rn 6 3 fb__118 ∧ Ss κ im2__108 gb__119 6 := hp_121
                obtain ⟨h_122, h_123, h_124, h_125⟩ := hp_121
                refine W.eq (g2 := F0 m 101 ls []) rfl ?_
                refine lv_iconst (v := 1) hx hb dX11_name_101 (by decide) ?_
                exact et_iret hx hb hr hlk rfl hS (1, y__115, gs__116, gv__117, fb__118, gb__119, im2__108) rfl ⟨(show y__115 ≤ 6 from (by first | assumption | omega | rfl | exact Or.inl (by assumption) | exact Or.inr (by assumption))), (show Tb κ im2__108 gs__116 gv__117 3 from h_123), (show Rn 6 3 fb__118 from (by first | assumption | omega | rfl | exact Or.inl (by assumption) | exact Or.inr (by assumption))), (show Ss κ im2__108 gb__119 6 from h_125), (show Sb im im2__108 from (Sb.tr (Sb.tr h_28 h_105) h_111))⟩ (subP hP [0, 1, 2, 3, 4, 5, 6, 7] rfl) (subD hD [0, 1, 2, 3, 4, 5, 6, 7] (by decide) rfl) (Nat.le_of_ble_eq_true rfl) (Nat.le_of_ble_eq_true rfl) dX11_name_102
            · refine lv_iconst (v := 0) hx hb dX11_name_67 (by decide) ?_
              exact et_iret hx hb hr hlk rfl hS (0, n, fs, fv, fa, ga, im2__25) rfl ⟨(show n ≤ 6 from (by first | assumption | omega | rfl | exact Or.inl (by assumption) | exact Or.inr (by assumption))), (show Tb κ im2__25 fs fv 3 from htb), (show Rn 6 3 fa from (by first | assumption | omega | rfl | exact Or.inl (by assumption) | exact Or.inr (by assumption))), (show Ss κ im2__25 ga 6 from hss), (show Sb im im2__25 from h_28)⟩ (subP hP [0, 1, 2, 3, 4, 5, 6, 7] rfl) (subD hD [0, 1, 2, 3, 4, 5, 6, 7] (by decide) rfl) (Nat.le_of_ble_eq_true rfl) (Nat.le_of_ble_eq_true rfl) dX11_name_68
        · refine W.eq (g2 := F0 m 33 ls [.int 0]) rfl ?_
          refine lv_if_ne (tgt := 38) hx hb dX11_name_33 (by decide) (fun c_126 => absurd c_126 (by decide)) (fun c_126 => ?_)
          refine lv_iconst (v := 0) hx hb dX11_name_36 (by decide) ?_
          exact et_iret hx hb hr hlk rfl hS (0, n, fs, fv, fa, ga, im2__25) rfl ⟨(show n ≤ 6 from (by first | assumption | omega | rfl | exact Or.inl (by assumption) | exact Or.inr (by assumption))), (show Tb κ im2__25 fs fv 3 from htb), (show Rn 6 3 fa from (by first | assumption | omega | rfl | exact Or.inl (by assumption) | exact Or.inr (by assumption))), (show Ss κ im2__25 ga 6 from hss), (show Sb im im2__25 from h_28)⟩ (subP hP [0, 1, 2, 3, 4, 5, 6, 7] rfl) (subD hD [0, 1, 2, 3, 4, 5, 6, 7] (by decide) rfl) (Nat.le_of_ble_eq_true rfl) (Nat.le_of_ble_eq_true rfl) dX11_name_37
  · skip
    refine lv_aload_n hx hb dX11_name_0 rfl (lv_at hl 0 rfl) ?_
    refine va_get (D := D) (ci := 11) (v := .ref tp) (C := RX11) (T := TX11) (N := 7) hx hb hts inlX11 hown hK hP 0 rfl rfl 1 (by decide) (hts _ mw_19) (fun _ h9 => h9) rfl dX11_name_1 ?_
    refine et_VT (CR := [(xx, .inr (11, [.ref st, .ref tp, .ref ft, .ref rd, .ref wr, .ref st2, .int zi])), (st, .inr (6, [.ref d, .ref sh, .ref vw, .ref ta, .ref sa, .int (nI n)])), (sh, .inl (κ 4, 3, .inr (.inr (.inr (.inr fs))))), (vw, .inl (κ 5, 3, .inr (.inr (.inr (.inr fv))))), (ta, .inl (κ 0, 6, .inl fa)), (sa, .inl (κ 4, 6, .inr (.inr (.inr (.inr ga)))))]) (As := []) (rest := []) hFX hKK hE hP hD hS hA (c_X8_takeName l D κ κq im tp tb L tf (by omega)) 0 gV_X11_157 hdV_X8_takeName ⟨Nat.le_of_ble_eq_true rfl, Nat.le_of_ble_eq_true rfl⟩ rfl rfl (Nat.le_of_ble_eq_true rfl) dX11_name_4 ⟨Nat.le_of_ble_eq_true rfl, Nat.le_of_ble_eq_true rfl⟩ hl.1 [6, 7] [0, 1, 2, 3, 4, 5] rfl rfl (by decide) (by decide) (by decide) hP 6 8 rfl rfl rfl (fun u_129 H locs hp_130 hP hD hS => ?_)
    refine W.widen (k := 1) (n := 20) (Nat.le_refl _) (Nat.le_refl _) ?_
    obtain ⟨r__127, im2__128⟩ := u_129
    replace hP : va_P D vwCl ([(xx, .inr (11, [.ref st, .ref tp, .ref ft, .ref rd, .ref wr, .ref st2, .int zi])), (st, .inr (6, [.ref d, .ref sh, .ref vw, .ref ta, .ref sa, .int (nI n)])), (sh, .inl (κ 4, 3, .inr (.inr (.inr (.inr fs))))), (vw, .inl (κ 5, 3, .inr (.inr (.inr (.inr fv))))), (ta, .inl (κ 0, 6, .inl fa)), (sa, .inl (κ 4, 6, .inr (.inr (.inr (.inr ga))))), (tp, .inr (8, [.ref tb, .int 0])), (tb, .inl (κ 0, 800, .inl tf))] ++ im2__128) H := subP (C := [(xx, .inr (11, [.ref st, .ref tp, .ref ft, .ref rd, .ref wr, .ref st2, .int zi])), (st, .inr (6, [.ref d, .ref sh, .ref vw, .ref ta, .ref sa, .int (nI n)])), (sh, .inl (κ 4, 3, .inr (.inr (.inr (.inr fs))))), (vw, .inl (κ 5, 3, .inr (.inr (.inr (.inr fv))))), (ta, .inl (κ 0, 6, .inl fa)), (sa, .inl (κ 4, 6, .inr (.inr (.inr (.inr ga))))), (tp, .inr (8, [.ref tb, .int 0])), (tb, .inl (κ 0, 800, .inl tf))]) hP [0, 1, 2, 3, 4, 5, 6, 7] rfl
    replace hD : va_D A ([(xx, .inr (11, [.ref st, .ref tp, .ref ft, .ref rd, .ref wr, .ref st2, .int zi])), (st, .inr (6, [.ref d, .ref sh, .ref vw, .ref ta, .ref sa, .int (nI n)])), (sh, .inl (κ 4, 3, .inr (.inr (.inr (.inr fs))))), (vw, .inl (κ 5, 3, .inr (.inr (.inr (.inr fv))))), (ta, .inl (κ 0, 6, .inl fa)), (sa, .inl (κ 4, 6, .inr (.inr (.inr (.inr ga))))), (tp, .inr (8, [.ref tb, .int 0])), (tb, .inl (κ 0, 800, .inl tf))] ++ im2__128) := subD (C := [(xx, .inr (11, [.ref st, .ref tp, .ref ft, .ref rd, .ref wr, .ref st2, .int zi])), (st, .inr (6, [.ref d, .ref sh, .ref vw, .ref ta, .ref sa, .int (nI n)])), (sh, .inl (κ 4, 3, .inr (.inr (.inr (.inr fs))))), (vw, .inl (κ 5, 3, .inr (.inr (.inr (.inr fv))))), (ta, .inl (κ 0, 6, .inl fa)), (sa, .inl (κ 4, 6, .inr (.inr (.inr (.inr ga))))), (tp, .inr (8, [.ref tb, .int 0])), (tb, .inl (κ 0, 800, .inl tf))]) hD [0, 1, 2, 3, 4, 5, 6, 7] (by decide) rfl
    replace hp_130 : Sb im im2__128 ∧ ((r__127 = none) ∨ (∃ (q : Nat), ∃ (n : Nat), r__127 = some q ∧ By κ im2__128 q n ∧ n ≤ 12 ∧ 1 ≤ n)) := hp_130
    obtain ⟨h_131, ha_132⟩ := hp_130
    replace htb := htb.up h_131
    replace hss := hss.up h_131
    rcases ha_132 with rfl | ⟨q__133, n__134, rfl, a_135, a_136, a_137⟩
    · refine W.eq (g2 := F0 m 7 ls [.null]) rfl ?_
      refine lv_astore_nN (lv' := [(3, .null), (0, .ref xx), (1, .int za), (2, .int zb)]) hx hb dX11_name_7 rfl hl (by decide) rfl (fun ls hl => ?_)
      refine lv_aload_n hx hb dX11_name_8 rfl (lv_at hl 1 rfl) ?_
      refine va_get (D := D) (ci := 11) (v := .ref st) (C := RX11) (T := TX11) (N := 7) hx hb hts inlX11 hown hK hP 0 rfl rfl 0 (by decide) (hts _ mw_15) (fun _ h9 => h9) rfl dX11_name_9 ?_
      refine lv_iload_n hx hb dX11_name_12 rfl (lv_at hl 2 rfl) ?_
      refine er_V (As := [.int za]) (rest := []) hFX hKK hE hS (c_X6_sheetOf_x l D κ κq st d sh vw ta sa n za (by assumption)) 1 gV_X11_114 hdV_X6_sheetOf rfl rfl ⟨Nat.le_of_ble_eq_true rfl, Nat.le_of_ble_eq_true rfl⟩ rfl rfl (Nat.le_of_ble_eq_true rfl) dX11_name_13 ⟨Nat.le_of_ble_eq_true rfl, Nat.le_of_ble_eq_true rfl⟩ hl.1 hP 1 6 rfl rfl rfl (subP0 hP [1] rfl) (fun _ hp_138 => ?_)
      refine W.eq (g2 := F0 m 16 ls [.null]) rfl ?_
      refine lv_astoreN (lv' := [(4, .null), (3, .null), (0, .ref xx), (1, .int za), (2, .int zb)]) hx hb dX11_name_16 hl (by decide) rfl (fun ls hl => ?_)
      refine lv_aload_nN hx hb dX11_name_18 rfl (lv_at hl 1 rfl) ?_
      refine lv_ifnullN (tgt := 36) hx hb dX11_name_19 (by decide) ?_
      refine lv_iconst (v := 0) hx hb dX11_name_36 (by decide) ?_
      exact et_iret hx hb hr hlk rfl hS (0, n, fs, fv, fa, ga, im2__128) rfl ⟨(show n ≤ 6 from (by first | assumption | omega | rfl | exact Or.inl (by assumption) | exact Or.inr (by assumption))), (show Tb κ im2__128 fs fv 3 from htb), (show Rn 6 3 fa from (by first | assumption | omega | rfl | exact Or.inl (by assumption) | exact Or.inr (by assumption))), (show Ss κ im2__128 ga 6 from hss), (show Sb im im2__128 from h_131)⟩ (subP hP [0, 1, 2, 3, 4, 5, 6, 7] rfl) (subD hD [0, 1, 2, 3, 4, 5, 6, 7] (by decide) rfl) (Nat.le_of_ble_eq_true rfl) (Nat.le_of_ble_eq_true rfl) dX11_name_37
    · refine W.eq (g2 := F0 m 7 ls [.ref q__133]) rfl ?_
      refine lv_astore_n (lv' := [(3, .ref q__133), (0, .ref xx), (1, .int za), (2, .int zb)]) hx hb dX11_name_7 rfl hl (by decide) rfl (fun ls hl => ?_)
      refine lv_aload_n hx hb dX11_name_8 rfl (lv_at hl 1 rfl) ?_
      refine va_get (D := D) (ci := 11) (v := .ref st) (C := RX11) (T := TX11) (N := 7) hx hb hts inlX11 hown hK hP 0 rfl rfl 0 (by decide) (hts _ mw_15) (fun _ h9 => h9) rfl dX11_name_9 ?_
      refine lv_iload_n hx hb dX11_name_12 rfl (lv_at hl 2 rfl) ?_
      refine er_V (As := [.int za]) (rest := []) hFX hKK hE hS (c_X6_sheetOf_x l D κ κq st d sh vw ta sa n za (by assumption)) 1 gV_X11_114 hdV_X6_sheetOf rfl rfl ⟨Nat.le_of_ble_eq_true rfl, Nat.le_of_ble_eq_true rfl⟩ rfl rfl (Nat.le_of_ble_eq_true rfl) dX11_name_13 ⟨Nat.le_of_ble_eq_true rfl, Nat.le_of_ble_eq_true rfl⟩ hl.1 hP 1 6 rfl rfl rfl (subP0 hP [1] rfl) (fun _ hp_139 => ?_)
      refine W.eq (g2 := F0 m 16 ls [.null]) rfl ?_
      refine lv_astoreN (lv' := [(4, .null), (3, .ref q__133), (0, .ref xx), (1, .int za), (2, .int zb)]) hx hb dX11_name_16 hl (by decide) rfl (fun ls hl => ?_)
      refine lv_aload_n hx hb dX11_name_18 rfl (lv_at hl 1 rfl) ?_
      refine lv_ifnull hx hb dX11_name_19 ?_
      refine lv_aloadN hx hb dX11_name_22 (lv_at hl 0 rfl) ?_
      refine lv_ifnullN (tgt := 36) hx hb dX11_name_24 (by decide) ?_
      refine lv_iconst (v := 0) hx hb dX11_name_36 (by decide) ?_
      exact et_iret hx hb hr hlk rfl hS (0, n, fs, fv, fa, ga, im2__128) rfl ⟨(show n ≤ 6 from (by first | assumption | omega | rfl | exact Or.inl (by assumption) | exact Or.inr (by assumption))), (show Tb κ im2__128 fs fv 3 from htb), (show Rn 6 3 fa from (by first | assumption | omega | rfl | exact Or.inl (by assumption) | exact Or.inr (by assumption))), (show Ss κ im2__128 ga 6 from hss), (show Sb im im2__128 from h_131)⟩ (subP hP [0, 1, 2, 3, 4, 5, 6, 7] rfl) (subD hD [0, 1, 2, 3, 4, 5, 6, 7] (by decide) rfl) (Nat.le_of_ble_eq_true rfl) (Nat.le_of_ble_eq_true rfl) dX11_name_37
set_option maxHeartbeats 4000000 in
set_option maxRecDepth 100000 in
theorem c_X11_away (l : Launch) (D : va_G) (κ : Nat → ClassId) (κq : Nat → Nat) (im : va_W) (xx : Nat) (tp : Nat) (ft : Nat) (rd : Nat) (wr : Nat) (st2 : Nat) (zi : Int32) (st : Nat) (d : Nat) (sh : Nat) (vw : Nat) (ta : Nat) (sa : Nat) (n : Nat) (fs : Nat → Option Nat) (fv : Nat → Option Nat) (fa : Nat → Int32) (ga : Nat → Option Nat) (za : Int32) (zb : Int32) (hn6 : n ≤ 6) (htb : Tb κ im fs fv 3) (hrn : Rn 6 3 fa) (hss : Ss κ im ga 6) : Et l yX11_away (wl yX11_away cX11_away 4 (some .int)) { frames := 4, cells := 6, slots := 390, locals := 86 } D κ κq [.ref xx, .int za, .int zb] ([(xx, .inr (11, [.ref st, .ref tp, .ref ft, .ref rd, .ref wr, .ref st2, .int zi])), (st, .inr (6, [.ref d, .ref sh, .ref vw, .ref ta, .ref sa, .int (nI n)])), (sh, .inl (κ 4, 3, .inr (.inr (.inr (.inr fs))))), (vw, .inl (κ 5, 3, .inr (.inr (.inr (.inr fv))))), (ta, .inl (κ 0, 6, .inl fa)), (sa, .inl (κ 4, 6, .inr (.inr (.inr (.inr ga)))))] ++ im) (fun u9 : Int32 × Nat × (Nat → Option Nat) × (Nat → Option Nat) × (Nat → Int32) × (Nat → Option Nat) × va_W => some (.int u9.1)) (fun u9 : Int32 × Nat × (Nat → Option Nat) × (Nat → Option Nat) × (Nat → Int32) × (Nat → Option Nat) × va_W => u9.2.1 ≤ 6 ∧ Tb κ u9.2.2.2.2.2.2 u9.2.2.1 u9.2.2.2.1 3 ∧ Rn 6 3 u9.2.2.2.2.1 ∧ Ss κ u9.2.2.2.2.2.2 u9.2.2.2.2.2.1 6 ∧ Sb im u9.2.2.2.2.2.2) (fun u9 : Int32 × Nat × (Nat → Option Nat) × (Nat → Option Nat) × (Nat → Int32) × (Nat → Option Nat) × va_W => ([(xx, .inr (11, [.ref st, .ref tp, .ref ft, .ref rd, .ref wr, .ref st2, .int zi])), (st, .inr (6, [.ref d, .ref sh, .ref vw, .ref ta, .ref sa, .int (nI u9.2.1)])), (sh, .inl (κ 4, 3, .inr (.inr (.inr (.inr u9.2.2.1))))), (vw, .inl (κ 5, 3, .inr (.inr (.inr (.inr u9.2.2.2.1))))), (ta, .inl (κ 0, 6, .inl u9.2.2.2.2.1)), (sa, .inl (κ 4, 6, .inr (.inr (.inr (.inr u9.2.2.2.2.2.1)))))] ++ u9.2.2.2.2.2.2)) := by
  refine et_of (by decide +kernel) (Nat.le_of_ble_eq_true rfl) ?_
  intro p e s m args below meth c A ls hx hb hr hml hts hown hlk hin hKK hK hA hP hD hS hE hl
  have hS : va_S A s.heap s.heap [] := hS
  have hP : va_P D vwCl ([(xx, .inr (11, [.ref st, .ref tp, .ref ft, .ref rd, .ref wr, .ref st2, .int zi])), (st, .inr (6, [.ref d, .ref sh, .ref vw, .ref ta, .ref sa, .int (nI n)])), (sh, .inl (κ 4, 3, .inr (.inr (.inr (.inr fs))))), (vw, .inl (κ 5, 3, .inr (.inr (.inr (.inr fv))))), (ta, .inl (κ 0, 6, .inl fa)), (sa, .inl (κ 4, 6, .inr (.inr (.inr (.inr ga)))))] ++ im) s.heap := hP
  have hD : va_D A ([(xx, .inr (11, [.ref st, .ref tp, .ref ft, .ref rd, .ref wr, .ref st2, .int zi])), (st, .inr (6, [.ref d, .ref sh, .ref vw, .ref ta, .ref sa, .int (nI n)])), (sh, .inl (κ 4, 3, .inr (.inr (.inr (.inr fs))))), (vw, .inl (κ 5, 3, .inr (.inr (.inr (.inr fv))))), (ta, .inl (κ 0, 6, .inl fa)), (sa, .inl (κ 4, 6, .inr (.inr (.inr (.inr ga)))))] ++ im) := hD
  have hFX : FX p s m args c cX11_away 4 RX11 := ⟨hx, hb, hml, hown, hts⟩
  have hl : lv_has ls 4 [(0, .ref xx), (1, .int za), (2, .int zb)] := hl
  rcases pl_cases za with ⟨t, ht_t, rfl⟩ | hnp_za
  · skip
    rcases htb t (by omega) with ⟨e_1, e_2⟩ | ⟨a_3, R_4, w_5, d_6, v_7, e_1, e_2, h_8, h_9, hd_10⟩
    · skip
      refine lv_aload_n hx hb dX11_away_0 rfl (lv_at hl 0 rfl) ?_
      refine va_get (D := D) (ci := 11) (v := .ref st) (C := RX11) (T := TX11) (N := 7) hx hb hts inlX11 hown hK hP 0 rfl rfl 0 (by decide) (hts _ mw_15) (fun _ h9 => h9) rfl dX11_away_1 ?_
      refine lv_iload_n hx hb dX11_away_4 rfl (lv_at hl 1 rfl) ?_
      refine er_V (As := [.int (nI t)]) (rest := []) hFX hKK hE hS (c_X6_sheetOf_n l D κ κq st d sh vw ta sa n fs t (by omega) e_1) 1 gV_X11_114 hdV_X6_sheetOf rfl rfl ⟨Nat.le_of_ble_eq_true rfl, Nat.le_of_ble_eq_true rfl⟩ rfl rfl (Nat.le_of_ble_eq_true rfl) dX11_away_5 ⟨Nat.le_of_ble_eq_true rfl, Nat.le_of_ble_eq_true rfl⟩ hl.1 hP 1 6 rfl rfl rfl (subP0 hP [1, 2] rfl) (fun _ hp_11 => ?_)
      refine W.eq (g2 := F0 m 8 ls [.null]) rfl ?_
      refine lv_astore_nN (lv' := [(3, .null), (0, .ref xx), (1, .int (nI t)), (2, .int zb)]) hx hb dX11_away_8 rfl hl (by decide) rfl (fun ls hl => ?_)
      refine lv_aload_nN hx hb dX11_away_9 rfl (lv_at hl 0 rfl) ?_
      refine lv_ifnullN (tgt := 30) hx hb dX11_away_10 (by decide) ?_
      refine lv_iconst (v := (-1)) hx hb dX11_away_30 (by decide) ?_
      exact et_iret hx hb hr hlk rfl hS ((-1), n, fs, fv, fa, ga, im) rfl ⟨(show n ≤ 6 from (by first | assumption | omega | rfl | exact Or.inl (by assumption) | exact Or.inr (by assumption))), (show Tb κ im fs fv 3 from htb), (show Rn 6 3 fa from (by first | assumption | omega | rfl | exact Or.inl (by assumption) | exact Or.inr (by assumption))), (show Ss κ im ga 6 from hss), (show Sb im im from Sb.rf)⟩ (subP hP [0, 1, 2, 3, 4, 5] rfl) (subD hD [0, 1, 2, 3, 4, 5] (by decide) rfl) (Nat.le_of_ble_eq_true rfl) (Nat.le_of_ble_eq_true rfl) dX11_away_31
    · have hle_a_3 := h_8.le
      refine lv_aload_n hx hb dX11_away_0 rfl (lv_at hl 0 rfl) ?_
      refine va_get (D := D) (ci := 11) (v := .ref st) (C := RX11) (T := TX11) (N := 7) hx hb hts inlX11 hown hK hP 0 rfl rfl 0 (by decide) (hts _ mw_15) (fun _ h9 => h9) rfl dX11_away_1 ?_
      refine lv_iload_n hx hb dX11_away_4 rfl (lv_at hl 1 rfl) ?_
      refine er_V (As := [.int (nI t)]) (rest := []) hFX hKK hE hS (c_X6_sheetOf_s l D κ κq st d sh vw ta sa n fs t a_3 (by omega) e_1) 1 gV_X11_114 hdV_X6_sheetOf rfl rfl ⟨Nat.le_of_ble_eq_true rfl, Nat.le_of_ble_eq_true rfl⟩ rfl rfl (Nat.le_of_ble_eq_true rfl) dX11_away_5 ⟨Nat.le_of_ble_eq_true rfl, Nat.le_of_ble_eq_true rfl⟩ hl.1 hP 1 6 rfl rfl rfl (subP0 hP [1, 2] rfl) (fun _ hp_12 => ?_)
      refine W.eq (g2 := F0 m 8 ls [.ref a_3]) rfl ?_
      refine lv_astore_n (lv' := [(3, .ref a_3), (0, .ref xx), (1, .int (nI t)), (2, .int zb)]) hx hb dX11_away_8 rfl hl (by decide) rfl (fun ls hl => ?_)
      refine lv_aload_n hx hb dX11_away_9 rfl (lv_at hl 0 rfl) ?_
      refine lv_ifnull hx hb dX11_away_10 ?_
      refine lv_aload_n hx hb dX11_away_13 rfl (lv_at hl 0 rfl) ?_
      refine lv_iload_n hx hb dX11_away_14 rfl (lv_at hl 3 rfl) ?_
      obtain ⟨hb_15, c_16, x_17, v_18, g_19, h_20, hm_21, hm_22, hm_23, lo_24, lc_25, vw_26⟩ := id h_8
      obtain ⟨hb_15_1, hb_15_2, hb_15_3⟩ := hb_15
      have hrw_hb_15 := rw_le hb_15_1 hb_15_3
      refine er_V (As := [.int zb]) (rest := []) hFX hKK hE hS (c_X5_hasColumn l D κ κq im a_3 R_4 w_5 zb h_8) 1 gV_X11_161 hdV_X5_hasColumn rfl rfl ⟨Nat.le_of_ble_eq_true rfl, Nat.le_of_ble_eq_true rfl⟩ rfl rfl (Nat.le_of_ble_eq_true rfl) dX11_away_15 ⟨Nat.le_of_ble_eq_true rfl, Nat.le_of_ble_eq_true rfl⟩ hl.1 (oneP (C := [(xx, .inr (11, [.ref st, .ref tp, .ref ft, .ref rd, .ref wr, .ref st2, .int zi])), (st, .inr (6, [.ref d, .ref sh, .ref vw, .ref ta, .ref sa, .int (nI n)])), (sh, .inl (κ 4, 3, .inr (.inr (.inr (.inr fs))))), (vw, .inl (κ 5, 3, .inr (.inr (.inr (.inr fv))))), (ta, .inl (κ 0, 6, .inl fa)), (sa, .inl (κ 4, 6, .inr (.inr (.inr (.inr ga)))))]) hP hm_21) 0 5 rfl rfl rfl (subP hP [] rfl) (fun r__13 hp_14 => ?_)
      replace hp_14 : ((r__13 = 1 ∧ (∃ j : Nat, j < w_5 ∧ zb = nI j)) ∨ (r__13 = 0)) := hp_14
      have ha_27 := hp_14
      clear hp_14
      rcases ha_27 with ⟨rfl, ⟨j_28, hj_28, rfl⟩⟩ | rfl
      · refine W.eq (g2 := F0 m 18 ls [.int 1]) rfl ?_
        refine lv_if_eq (tgt := 30) hx hb dX11_away_18 (by decide) (fun c_30 => absurd c_30 (by decide)) (fun c_30 => ?_)
        refine lv_aload_n hx hb dX11_away_21 rfl (lv_at hl 0 rfl) ?_
        refine va_get (D := D) (ci := 5) (v := .ref c_16) (C := RX5) (T := TX5) (N := 4) hx hb hts inlX5 hown hK (oneP (C := [(xx, .inr (11, [.ref st, .ref tp, .ref ft, .ref rd, .ref wr, .ref st2, .int zi])), (st, .inr (6, [.ref d, .ref sh, .ref vw, .ref ta, .ref sa, .int (nI n)])), (sh, .inl (κ 4, 3, .inr (.inr (.inr (.inr fs))))), (vw, .inl (κ 5, 3, .inr (.inr (.inr (.inr fv))))), (ta, .inl (κ 0, 6, .inl fa)), (sa, .inl (κ 4, 6, .inr (.inr (.inr (.inr ga)))))]) hP hm_21) 0 rfl rfl 0 (by decide) (hts _ mw_559) (fun _ h9 => h9) rfl dX11_away_22 ?_
        refine va_alen hx hb hK (oneP (C := [(xx, .inr (11, [.ref st, .ref tp, .ref ft, .ref rd, .ref wr, .ref st2, .int zi])), (st, .inr (6, [.ref d, .ref sh, .ref vw, .ref ta, .ref sa, .int (nI n)])), (sh, .inl (κ 4, 3, .inr (.inr (.inr (.inr fs))))), (vw, .inl (κ 5, 3, .inr (.inr (.inr (.inr fv))))), (ta, .inl (κ 0, 6, .inl fa)), (sa, .inl (κ 4, 6, .inr (.inr (.inr (.inr ga)))))]) hP hm_22) 0 3 rfl rfl (v := nI w_5) rfl dX11_away_25 ?_
        refine lv_iconst (v := 1) hx hb dX11_away_26 (by decide) ?_
        refine lv_icmp_ne (tgt := 32) hx hb dX11_away_27 (by decide) (fun c_31 => ?_) (fun c_31 => ?_)
        · have nc_31 := cv_ne (a := w_5) (b := 1) (by omega) (by omega) c_31
          refine lv_aload_n hx hb dX11_away_32 rfl (lv_at hl 1 rfl) ?_
          refine va_get (D := D) (ci := 11) (v := .ref st) (C := RX11) (T := TX11) (N := 7) hx hb hts inlX11 hown hK hP 0 rfl rfl 0 (by decide) (hts _ mw_15) (fun _ h9 => h9) rfl dX11_away_33 ?_
          refine lv_iload_n hx hb dX11_away_36 rfl (lv_at hl 2 rfl) ?_
          refine lv_aload_n hx hb dX11_away_37 rfl (lv_at hl 0 rfl) ?_
          refine lv_iload_n hx hb dX11_away_38 rfl (lv_at hl 3 rfl) ?_
          refine et_VT (CR := [(xx, .inr (11, [.ref st, .ref tp, .ref ft, .ref rd, .ref wr, .ref st2, .int zi])), (st, .inr (6, [.ref d, .ref sh, .ref vw, .ref ta, .ref sa, .int (nI n)])), (sh, .inl (κ 4, 3, .inr (.inr (.inr (.inr fs))))), (vw, .inl (κ 5, 3, .inr (.inr (.inr (.inr fv))))), (ta, .inl (κ 0, 6, .inl fa)), (sa, .inl (κ 4, 6, .inr (.inr (.inr (.inr ga)))))]) (As := [.int (nI j_28)]) (rest := [.int (nI t), .ref st]) hFX hKK hE hP hD hS hA (c_X5_withoutColumn l D κ κq im a_3 R_4 w_5 j_28 h_8 (by omega) (by omega)) 1 gV_X11_178 hdV_X5_withoutColumn ⟨Nat.le_of_ble_eq_true rfl, Nat.le_of_ble_eq_true rfl⟩ rfl rfl (Nat.le_of_ble_eq_true rfl) dX11_away_39 ⟨Nat.le_of_ble_eq_true rfl, Nat.le_of_ble_eq_true rfl⟩ hl.1 [] [0, 1, 2, 3, 4, 5] rfl rfl (by decide) (by decide) (by decide) (oneP (C := [(xx, .inr (11, [.ref st, .ref tp, .ref ft, .ref rd, .ref wr, .ref st2, .int zi])), (st, .inr (6, [.ref d, .ref sh, .ref vw, .ref ta, .ref sa, .int (nI n)])), (sh, .inl (κ 4, 3, .inr (.inr (.inr (.inr fs))))), (vw, .inl (κ 5, 3, .inr (.inr (.inr (.inr fv))))), (ta, .inl (κ 0, 6, .inl fa)), (sa, .inl (κ 4, 6, .inr (.inr (.inr (.inr ga)))))]) hP hm_21) 0 5 rfl rfl rfl (fun u_34 H locs hp_35 hP hD hS => ?_)
          refine W.widen (k := 5) (n := 375) (Nat.le_refl _) (Nat.le_refl _) ?_
          obtain ⟨r__32, im2__33⟩ := u_34
          replace hP : va_P D vwCl ([(xx, .inr (11, [.ref st, .ref tp, .ref ft, .ref rd, .ref wr, .ref st2, .int zi])), (st, .inr (6, [.ref d, .ref sh, .ref vw, .ref ta, .ref sa, .int (nI n)])), (sh, .inl (κ 4, 3, .inr (.inr (.inr (.inr fs))))), (vw, .inl (κ 5, 3, .inr (.inr (.inr (.inr fv))))), (ta, .inl (κ 0, 6, .inl fa)), (sa, .inl (κ 4, 6, .inr (.inr (.inr (.inr ga)))))] ++ im2__33) H := subP (C := [(xx, .inr (11, [.ref st, .ref tp, .ref ft, .ref rd, .ref wr, .ref st2, .int zi])), (st, .inr (6, [.ref d, .ref sh, .ref vw, .ref ta, .ref sa, .int (nI n)])), (sh, .inl (κ 4, 3, .inr (.inr (.inr (.inr fs))))), (vw, .inl (κ 5, 3, .inr (.inr (.inr (.inr fv))))), (ta, .inl (κ 0, 6, .inl fa)), (sa, .inl (κ 4, 6, .inr (.inr (.inr (.inr ga)))))]) hP [0, 1, 2, 3, 4, 5] rfl
          replace hD : va_D A ([(xx, .inr (11, [.ref st, .ref tp, .ref ft, .ref rd, .ref wr, .ref st2, .int zi])), (st, .inr (6, [.ref d, .ref sh, .ref vw, .ref ta, .ref sa, .int (nI n)])), (sh, .inl (κ 4, 3, .inr (.inr (.inr (.inr fs))))), (vw, .inl (κ 5, 3, .inr (.inr (.inr (.inr fv))))), (ta, .inl (κ 0, 6, .inl fa)), (sa, .inl (κ 4, 6, .inr (.inr (.inr (.inr ga)))))] ++ im2__33) := subD (C := [(xx, .inr (11, [.ref st, .ref tp, .ref ft, .ref rd, .ref wr, .ref st2, .int zi])), (st, .inr (6, [.ref d, .ref sh, .ref vw, .ref ta, .ref sa, .int (nI n)])), (sh, .inl (κ 4, 3, .inr (.inr (.inr (.inr fs))))), (vw, .inl (κ 5, 3, .inr (.inr (.inr (.inr fv))))), (ta, .inl (κ 0, 6, .inl fa)), (sa, .inl (κ 4, 6, .inr (.inr (.inr (.inr ga)))))]) hD [0, 1, 2, 3, 4, 5] (by decide) rfl
          replace hp_35 : Sb im im2__33 ∧ ((∃ (q : Nat), r__32 = some q ∧ Sh κ im2__33 q R_4 (w_5 - 1))) := hp_35
          obtain ⟨h_36, ha_37⟩ := hp_35
          replace htb := htb.up h_36
          replace hss := hss.up h_36
          replace h_8 := h_8.up h_36
          replace h_9 := h_9.up h_36
          replace lo_24 := lo_24.up h_36
          replace lc_25 := lc_25.up h_36
          replace vw_26 := vw_26.up h_36
          replace hm_21 := h_36 _ hm_21
          replace hm_22 := h_36 _ hm_22
          replace hm_23 := h_36 _ hm_23
          rcases ha_37 with ⟨q__38, rfl, a_39⟩
          · refine W.eq (g2 := F0 m 42 ls [.ref q__38, .int (nI t), .ref st]) rfl ?_
            refine et_VT (CR := [(xx, .inr (11, [.ref st, .ref tp, .ref ft, .ref rd, .ref wr, .ref st2, .int zi]))]) (As := [.int (nI t), .ref q__38]) (rest := []) hFX hKK hE hP hD hS hA (c_X6_act l D κ κq im2__33 st d sh vw ta sa n fs fv fa ga t q__38 R_4 (w_5 - 1) (by omega) htb hrn hss (by omega) a_39) 2 gV_X11_86 hdV_X6_act ⟨Nat.le_of_ble_eq_true rfl, Nat.le_of_ble_eq_true rfl⟩ rfl rfl (Nat.le_of_ble_eq_true rfl) dX11_away_42 ⟨Nat.le_of_ble_eq_true rfl, Nat.le_of_ble_eq_true rfl⟩ hl.1 [1, 2, 3, 4, 5] [0] rfl rfl (by decide) (by decide) (by decide) hP 1 6 rfl rfl rfl (fun u_45 H locs hp_46 hP hD hS => ?_)
            refine W.widen (k := 5) (n := 375) (Nat.le_refl _) (Nat.le_refl _) ?_
            obtain ⟨y__40, gs__41, gv__42, fb__43, gb__44⟩ := u_45
            replace hP : va_P D vwCl ([(xx, .inr (11, [.ref st, .ref tp, .ref ft, .ref rd, .ref wr, .ref st2, .int zi])), (st, .inr (6, [.ref d, .ref sh, .ref vw, .ref ta, .ref sa, .int (nI y__40)])), (sh, .inl (κ 4, 3, .inr (.inr (.inr (.inr gs__41))))), (vw, .inl (κ 5, 3, .inr (.inr (.inr (.inr gv__42))))), (ta, .inl (κ 0, 6, .inl fb__43)), (sa, .inl (κ 4, 6, .inr (.inr (.inr (.inr gb__44)))))] ++ im2__33) H := subP (C := [(xx, .inr (11, [.ref st, .ref tp, .ref ft, .ref rd, .ref wr, .ref st2, .int zi])), (st, .inr (6, [.ref d, .ref sh, .ref vw, .ref ta, .ref sa, .int (nI y__40)])), (sh, .inl (κ 4, 3, .inr (.inr (.inr (.inr gs__41))))), (vw, .inl (κ 5, 3, .inr (.inr (.inr (.inr gv__42))))), (ta, .inl (κ 0, 6, .inl fb__43)), (sa, .inl (κ 4, 6, .inr (.inr (.inr (.inr gb__44)))))]) hP [0, 1, 2, 3, 4, 5] rfl
            replace hD : va_D A ([(xx, .inr (11, [.ref st, .ref tp, .ref ft, .ref rd, .ref wr, .ref st2, .int zi])), (st, .inr (6, [.ref d, .ref sh, .ref vw, .ref ta, .ref sa, .int (nI y__40)])), (sh, .inl (κ 4, 3, .inr (.inr (.inr (.inr gs__41))))), (vw, .inl (κ 5, 3, .inr (.inr (.inr (.inr gv__42))))), (ta, .inl (κ 0, 6, .inl fb__43)), (sa, .inl (κ 4, 6, .inr (.inr (.inr (.inr gb__44)))))] ++ im2__33) := subD (C := [(xx, .inr (11, [.ref st, .ref tp, .ref ft, .ref rd, .ref wr, .ref st2, .int zi])), (st, .inr (6, [.ref d, .ref sh, .ref vw, .ref ta, .ref sa, .int (nI y__40)])), (sh, .inl (κ 4, 3, .inr (.inr (.inr (.inr gs__41))))), (vw, .inl (κ 5, 3, .inr (.inr (.inr (.inr gv__42))))), (ta, .inl (κ 0, 6, .inl fb__43)), (sa, .inl (κ 4, 6, .inr (.inr (.inr (.inr gb__44)))))]) hD [0, 1, 2, 3, 4, 5] (by decide) rfl
            replace hp_46 : y__40 ≤ 6 ∧ Tb κ im2__33 gs__41 gv__42 3 ∧ Rn 6 3 fb__43 ∧ Ss κ im2__33 gb__44 6 := hp_46
            obtain ⟨h_47, h_48, h_49, h_50⟩ := hp_46
            refine W.eq (g2 := F0 m 45 ls []) rfl ?_
            refine lv_aload_n hx hb dX11_away_45 rfl (lv_at hl 0 rfl) ?_
            refine va_get (D := D) (ci := 5) (v := .ref c_16) (C := RX5) (T := TX5) (N := 4) hx hb hts inlX5 hown hK (oneP (C := [(xx, .inr (11, [.ref st, .ref tp, .ref ft, .ref rd, .ref wr, .ref st2, .int zi])), (st, .inr (6, [.ref d, .ref sh, .ref vw, .ref ta, .ref sa, .int (nI y__40)])), (sh, .inl (κ 4, 3, .inr (.inr (.inr (.inr gs__41))))), (vw, .inl (κ 5, 3, .inr (.inr (.inr (.inr gv__42))))), (ta, .inl (κ 0, 6, .inl fb__43)), (sa, .inl (κ 4, 6, .inr (.inr (.inr (.inr gb__44)))))]) hP hm_21) 0 rfl rfl 0 (by decide) (hts _ mw_559) (fun _ h9 => h9) rfl dX11_away_46 ?_
            refine va_alen hx hb hK (oneP (C := [(xx, .inr (11, [.ref st, .ref tp, .ref ft, .ref rd, .ref wr, .ref st2, .int zi])), (st, .inr (6, [.ref d, .ref sh, .ref vw, .ref ta, .ref sa, .int (nI y__40)])), (sh, .inl (κ 4, 3, .inr (.inr (.inr (.inr gs__41))))), (vw, .inl (κ 5, 3, .inr (.inr (.inr (.inr gv__42))))), (ta, .inl (κ 0, 6, .inl fb__43)), (sa, .inl (κ 4, 6, .inr (.inr (.inr (.inr gb__44)))))]) hP hm_22) 0 3 rfl rfl (v := nI w_5) rfl dX11_away_49 ?_
            refine lv_iconst (v := 1) hx hb dX11_away_50 (by decide) ?_
            refine lv_isub hx hb dX11_away_51 ?_
            refine ki (v := (nI (w_5 - 1))) (pk_sub (a := w_5) (b := 1) (by omega)) ?_
            exact et_iret hx hb hr hlk rfl hS (nI (w_5 - 1), y__40, gs__41, gv__42, fb__43, gb__44, im2__33) rfl ⟨(show y__40 ≤ 6 from (by first | assumption | omega | rfl | exact Or.inl (by assumption) | exact Or.inr (by assumption))), (show Tb κ im2__33 gs__41 gv__42 3 from h_48), (show Rn 6 3 fb__43 from (by first | assumption | omega | rfl | exact Or.inl (by assumption) | exact Or.inr (by assumption))), (show Ss κ im2__33 gb__44 6 from h_50), (show Sb im im2__33 from h_36)⟩ (subP hP [0, 1, 2, 3, 4, 5] rfl) (subD hD [0, 1, 2, 3, 4, 5] (by decide) rfl) (Nat.le_of_ble_eq_true rfl) (Nat.le_of_ble_eq_true rfl) dX11_away_52
        · have nc_31 := cv_eq (a := w_5) (b := 1) (by omega) (by omega) c_31
          refine lv_iconst (v := (-1)) hx hb dX11_away_30 (by decide) ?_
          exact et_iret hx hb hr hlk rfl hS ((-1), n, fs, fv, fa, ga, im) rfl ⟨(show n ≤ 6 from (by first | assumption | omega | rfl | exact Or.inl (by assumption) | exact Or.inr (by assumption))), (show Tb κ im fs fv 3 from htb), (show Rn 6 3 fa from (by first | assumption | omega | rfl | exact Or.inl (by assumption) | exact Or.inr (by assumption))), (show Ss κ im ga 6 from hss), (show Sb im im from Sb.rf)⟩ (subP hP [0, 1, 2, 3, 4, 5] rfl) (subD hD [0, 1, 2, 3, 4, 5] (by decide) rfl) (Nat.le_of_ble_eq_true rfl) (Nat.le_of_ble_eq_true rfl) dX11_away_31
      · refine W.eq (g2 := F0 m 18 ls [.int 0]) rfl ?_
        refine lv_if_eq (tgt := 30) hx hb dX11_away_18 (by decide) (fun c_51 => ?_) (fun c_51 => absurd (by decide) c_51)
        refine lv_iconst (v := (-1)) hx hb dX11_away_30 (by decide) ?_
        exact et_iret hx hb hr hlk rfl hS ((-1), n, fs, fv, fa, ga, im) rfl ⟨(show n ≤ 6 from (by first | assumption | omega | rfl | exact Or.inl (by assumption) | exact Or.inr (by assumption))), (show Tb κ im fs fv 3 from htb), (show Rn 6 3 fa from (by first | assumption | omega | rfl | exact Or.inl (by assumption) | exact Or.inr (by assumption))), (show Ss κ im ga 6 from hss), (show Sb im im from Sb.rf)⟩ (subP hP [0, 1, 2, 3, 4, 5] rfl) (subD hD [0, 1, 2, 3, 4, 5] (by decide) rfl) (Nat.le_of_ble_eq_true rfl) (Nat.le_of_ble_eq_true rfl) dX11_away_31
  · skip
    refine lv_aload_n hx hb dX11_away_0 rfl (lv_at hl 0 rfl) ?_
    refine va_get (D := D) (ci := 11) (v := .ref st) (C := RX11) (T := TX11) (N := 7) hx hb hts inlX11 hown hK hP 0 rfl rfl 0 (by decide) (hts _ mw_15) (fun _ h9 => h9) rfl dX11_away_1 ?_
    refine lv_iload_n hx hb dX11_away_4 rfl (lv_at hl 1 rfl) ?_
    refine er_V (As := [.int za]) (rest := []) hFX hKK hE hS (c_X6_sheetOf_x l D κ κq st d sh vw ta sa n za (by assumption)) 1 gV_X11_114 hdV_X6_sheetOf rfl rfl ⟨Nat.le_of_ble_eq_true rfl, Nat.le_of_ble_eq_true rfl⟩ rfl rfl (Nat.le_of_ble_eq_true rfl) dX11_away_5 ⟨Nat.le_of_ble_eq_true rfl, Nat.le_of_ble_eq_true rfl⟩ hl.1 hP 1 6 rfl rfl rfl (subP0 hP [1] rfl) (fun _ hp_52 => ?_)
    refine W.eq (g2 := F0 m 8 ls [.null]) rfl ?_
    refine lv_astore_nN (lv' := [(3, .null), (0, .ref xx), (1, .int za), (2, .int zb)]) hx hb dX11_away_8 rfl hl (by decide) rfl (fun ls hl => ?_)
    refine lv_aload_nN hx hb dX11_away_9 rfl (lv_at hl 0 rfl) ?_
    refine lv_ifnullN (tgt := 30) hx hb dX11_away_10 (by decide) ?_
    refine lv_iconst (v := (-1)) hx hb dX11_away_30 (by decide) ?_
    exact et_iret hx hb hr hlk rfl hS ((-1), n, fs, fv, fa, ga, im) rfl ⟨(show n ≤ 6 from (by first | assumption | omega | rfl | exact Or.inl (by assumption) | exact Or.inr (by assumption))), (show Tb κ im fs fv 3 from htb), (show Rn 6 3 fa from (by first | assumption | omega | rfl | exact Or.inl (by assumption) | exact Or.inr (by assumption))), (show Ss κ im ga 6 from hss), (show Sb im im from Sb.rf)⟩ (subP hP [0, 1, 2, 3, 4, 5] rfl) (subD hD [0, 1, 2, 3, 4, 5] (by decide) rfl) (Nat.le_of_ble_eq_true rfl) (Nat.le_of_ble_eq_true rfl) dX11_away_31
set_option maxHeartbeats 4000000 in
set_option maxRecDepth 100000 in
theorem c_X11_type (l : Launch) (D : va_G) (κ : Nat → ClassId) (κq : Nat → Nat) (im : va_W) (xx : Nat) (tp : Nat) (ft : Nat) (rd : Nat) (wr : Nat) (st2 : Nat) (zi : Int32) (st : Nat) (d : Nat) (sh : Nat) (vw : Nat) (ta : Nat) (sa : Nat) (n : Nat) (fs : Nat → Option Nat) (fv : Nat → Option Nat) (fa : Nat → Int32) (ga : Nat → Option Nat) (za : Int32) (zb : Int32) (zc : Int32) (hn6 : n ≤ 6) (htb : Tb κ im fs fv 3) (hrn : Rn 6 3 fa) (hss : Ss κ im ga 6) : Et l yX11_type (wl yX11_type cX11_type 5 (some .boolean)) { frames := 5, cells := 6, slots := 390, locals := 107 } D κ κq [.ref xx, .int za, .int zb, .int zc] ([(xx, .inr (11, [.ref st, .ref tp, .ref ft, .ref rd, .ref wr, .ref st2, .int zi])), (st, .inr (6, [.ref d, .ref sh, .ref vw, .ref ta, .ref sa, .int (nI n)])), (sh, .inl (κ 4, 3, .inr (.inr (.inr (.inr fs))))), (vw, .inl (κ 5, 3, .inr (.inr (.inr (.inr fv))))), (ta, .inl (κ 0, 6, .inl fa)), (sa, .inl (κ 4, 6, .inr (.inr (.inr (.inr ga)))))] ++ im) (fun u9 : Int32 × Nat × (Nat → Option Nat) × (Nat → Option Nat) × (Nat → Int32) × (Nat → Option Nat) × va_W => some (.int u9.1)) (fun u9 : Int32 × Nat × (Nat → Option Nat) × (Nat → Option Nat) × (Nat → Int32) × (Nat → Option Nat) × va_W => u9.2.1 ≤ 6 ∧ Tb κ u9.2.2.2.2.2.2 u9.2.2.1 u9.2.2.2.1 3 ∧ Rn 6 3 u9.2.2.2.2.1 ∧ Ss κ u9.2.2.2.2.2.2 u9.2.2.2.2.2.1 6 ∧ Sb im u9.2.2.2.2.2.2) (fun u9 : Int32 × Nat × (Nat → Option Nat) × (Nat → Option Nat) × (Nat → Int32) × (Nat → Option Nat) × va_W => ([(xx, .inr (11, [.ref st, .ref tp, .ref ft, .ref rd, .ref wr, .ref st2, .int zi])), (st, .inr (6, [.ref d, .ref sh, .ref vw, .ref ta, .ref sa, .int (nI u9.2.1)])), (sh, .inl (κ 4, 3, .inr (.inr (.inr (.inr u9.2.2.1))))), (vw, .inl (κ 5, 3, .inr (.inr (.inr (.inr u9.2.2.2.1))))), (ta, .inl (κ 0, 6, .inl u9.2.2.2.2.1)), (sa, .inl (κ 4, 6, .inr (.inr (.inr (.inr u9.2.2.2.2.2.1)))))] ++ u9.2.2.2.2.2.2)) := by
  refine et_of (by decide +kernel) (Nat.le_of_ble_eq_true rfl) ?_
  intro p e s m args below meth c A ls hx hb hr hml hts hown hlk hin hKK hK hA hP hD hS hE hl
  have hS : va_S A s.heap s.heap [] := hS
  have hP : va_P D vwCl ([(xx, .inr (11, [.ref st, .ref tp, .ref ft, .ref rd, .ref wr, .ref st2, .int zi])), (st, .inr (6, [.ref d, .ref sh, .ref vw, .ref ta, .ref sa, .int (nI n)])), (sh, .inl (κ 4, 3, .inr (.inr (.inr (.inr fs))))), (vw, .inl (κ 5, 3, .inr (.inr (.inr (.inr fv))))), (ta, .inl (κ 0, 6, .inl fa)), (sa, .inl (κ 4, 6, .inr (.inr (.inr (.inr ga)))))] ++ im) s.heap := hP
  have hD : va_D A ([(xx, .inr (11, [.ref st, .ref tp, .ref ft, .ref rd, .ref wr, .ref st2, .int zi])), (st, .inr (6, [.ref d, .ref sh, .ref vw, .ref ta, .ref sa, .int (nI n)])), (sh, .inl (κ 4, 3, .inr (.inr (.inr (.inr fs))))), (vw, .inl (κ 5, 3, .inr (.inr (.inr (.inr fv))))), (ta, .inl (κ 0, 6, .inl fa)), (sa, .inl (κ 4, 6, .inr (.inr (.inr (.inr ga)))))] ++ im) := hD
  have hFX : FX p s m args c cX11_type 5 RX11 := ⟨hx, hb, hml, hown, hts⟩
  have hl : lv_has ls 5 [(0, .ref xx), (1, .int za), (2, .int zb), (3, .int zc)] := hl
  rcases pl_cases za with ⟨t, ht_t, rfl⟩ | hnp_za
  · skip
    rcases htb t (by omega) with ⟨e_1, e_2⟩ | ⟨a_3, R_4, w_5, d_6, v_7, e_1, e_2, h_8, h_9, hd_10⟩
    · skip
      refine lv_aload_n hx hb dX11_type_0 rfl (lv_at hl 0 rfl) ?_
      refine va_get (D := D) (ci := 11) (v := .ref st) (C := RX11) (T := TX11) (N := 7) hx hb hts inlX11 hown hK hP 0 rfl rfl 0 (by decide) (hts _ mw_15) (fun _ h9 => h9) rfl dX11_type_1 ?_
      refine lv_iload_n hx hb dX11_type_4 rfl (lv_at hl 1 rfl) ?_
      refine er_V (As := [.int (nI t)]) (rest := []) hFX hKK hE hS (c_X6_sheetOf_n l D κ κq st d sh vw ta sa n fs t (by omega) e_1) 1 gV_X11_114 hdV_X6_sheetOf rfl rfl ⟨Nat.le_of_ble_eq_true rfl, Nat.le_of_ble_eq_true rfl⟩ rfl rfl (Nat.le_of_ble_eq_true rfl) dX11_type_5 ⟨Nat.le_of_ble_eq_true rfl, Nat.le_of_ble_eq_true rfl⟩ hl.1 hP 1 6 rfl rfl rfl (subP0 hP [1, 2] rfl) (fun _ hp_11 => ?_)
      refine W.eq (g2 := F0 m 8 ls [.null]) rfl ?_
      refine lv_astoreN (lv' := [(4, .null), (0, .ref xx), (1, .int (nI t)), (2, .int zb), (3, .int zc)]) hx hb dX11_type_8 hl (by decide) rfl (fun ls hl => ?_)
      refine lv_aloadN hx hb dX11_type_10 (lv_at hl 0 rfl) ?_
      refine lv_ifnullN (tgt := 34) hx hb dX11_type_12 (by decide) ?_
      refine lv_iconst (v := 0) hx hb dX11_type_34 (by decide) ?_
      exact et_iret hx hb hr hlk rfl hS (0, n, fs, fv, fa, ga, im) rfl ⟨(show n ≤ 6 from (by first | assumption | omega | rfl | exact Or.inl (by assumption) | exact Or.inr (by assumption))), (show Tb κ im fs fv 3 from htb), (show Rn 6 3 fa from (by first | assumption | omega | rfl | exact Or.inl (by assumption) | exact Or.inr (by assumption))), (show Ss κ im ga 6 from hss), (show Sb im im from Sb.rf)⟩ (subP hP [0, 1, 2, 3, 4, 5] rfl) (subD hD [0, 1, 2, 3, 4, 5] (by decide) rfl) (Nat.le_of_ble_eq_true rfl) (Nat.le_of_ble_eq_true rfl) dX11_type_35
    · have hle_a_3 := h_8.le
      refine lv_aload_n hx hb dX11_type_0 rfl (lv_at hl 0 rfl) ?_
      refine va_get (D := D) (ci := 11) (v := .ref st) (C := RX11) (T := TX11) (N := 7) hx hb hts inlX11 hown hK hP 0 rfl rfl 0 (by decide) (hts _ mw_15) (fun _ h9 => h9) rfl dX11_type_1 ?_
      refine lv_iload_n hx hb dX11_type_4 rfl (lv_at hl 1 rfl) ?_
      refine er_V (As := [.int (nI t)]) (rest := []) hFX hKK hE hS (c_X6_sheetOf_s l D κ κq st d sh vw ta sa n fs t a_3 (by omega) e_1) 1 gV_X11_114 hdV_X6_sheetOf rfl rfl ⟨Nat.le_of_ble_eq_true rfl, Nat.le_of_ble_eq_true rfl⟩ rfl rfl (Nat.le_of_ble_eq_true rfl) dX11_type_5 ⟨Nat.le_of_ble_eq_true rfl, Nat.le_of_ble_eq_true rfl⟩ hl.1 hP 1 6 rfl rfl rfl (subP0 hP [1, 2] rfl) (fun _ hp_12 => ?_)
      refine W.eq (g2 := F0 m 8 ls [.ref a_3]) rfl ?_
      refine lv_astore (lv' := [(4, .ref a_3), (0, .ref xx), (1, .int (nI t)), (2, .int zb), (3, .int zc)]) hx hb dX11_type_8 hl (by decide) rfl (fun ls hl => ?_)
      refine lv_aload hx hb dX11_type_10 (lv_at hl 0 rfl) ?_
      refine lv_ifnull hx hb dX11_type_12 ?_
      refine lv_aload hx hb dX11_type_15 (lv_at hl 0 rfl) ?_
      refine lv_iload_n hx hb dX11_type_17 rfl (lv_at hl 3 rfl) ?_
      obtain ⟨hb_15, c_16, x_17, v_18, g_19, h_20, hm_21, hm_22, hm_23, lo_24, lc_25, vw_26⟩ := id h_8
      obtain ⟨hb_15_1, hb_15_2, hb_15_3⟩ := hb_15
      have hrw_hb_15 := rw_le hb_15_1 hb_15_3
      refine er_V (As := [.int zb]) (rest := []) hFX hKK hE hS (c_X5_hasColumn l D κ κq im a_3 R_4 w_5 zb h_8) 1 gV_X11_161 hdV_X5_hasColumn rfl rfl ⟨Nat.le_of_ble_eq_true rfl, Nat.le_of_ble_eq_true rfl⟩ rfl rfl (Nat.le_of_ble_eq_true rfl) dX11_type_18 ⟨Nat.le_of_ble_eq_true rfl, Nat.le_of_ble_eq_true rfl⟩ hl.1 (oneP (C := [(xx, .inr (11, [.ref st, .ref tp, .ref ft, .ref rd, .ref wr, .ref st2, .int zi])), (st, .inr (6, [.ref d, .ref sh, .ref vw, .ref ta, .ref sa, .int (nI n)])), (sh, .inl (κ 4, 3, .inr (.inr (.inr (.inr fs))))), (vw, .inl (κ 5, 3, .inr (.inr (.inr (.inr fv))))), (ta, .inl (κ 0, 6, .inl fa)), (sa, .inl (κ 4, 6, .inr (.inr (.inr (.inr ga)))))]) hP hm_21) 0 5 rfl rfl rfl (subP hP [] rfl) (fun r__13 hp_14 => ?_)
      replace hp_14 : ((r__13 = 1 ∧ (∃ j : Nat, j < w_5 ∧ zb = nI j)) ∨ (r__13 = 0)) := hp_14
      have ha_27 := hp_14
      clear hp_14
      rcases ha_27 with ⟨rfl, ⟨j_28, hj_28, rfl⟩⟩ | rfl
      · refine W.eq (g2 := F0 m 21 ls [.int 1]) rfl ?_
        refine lv_if_eq (tgt := 34) hx hb dX11_type_21 (by decide) (fun c_30 => absurd c_30 (by decide)) (fun c_30 => ?_)
        refine lv_aload hx hb dX11_type_24 (lv_at hl 0 rfl) ?_
        refine lv_iload_n hx hb dX11_type_26 rfl (lv_at hl 3 rfl) ?_
        refine lv_iload_n hx hb dX11_type_27 rfl (lv_at hl 4 rfl) ?_
        refine er_S (As := [.ref a_3, .int (nI j_28), .int zc]) (rest := []) hFX hKK hE hS (c_X11_canBeTold l D κ κq im a_3 R_4 w_5 j_28 zc h_8 (by omega)) 3 gS_X11_181 hdS_X11_canBeTold rfl rfl ⟨Nat.le_of_ble_eq_true rfl, Nat.le_of_ble_eq_true rfl⟩ rfl rfl (Nat.le_of_ble_eq_true rfl) dX11_type_28 ⟨Nat.le_of_ble_eq_true rfl, Nat.le_of_ble_eq_true rfl⟩ hl.1 (subP hP [] rfl) (fun r__31 hp_32 => ?_)
        replace hp_32 : ((r__31 = 1 ∧ To zc) ∨ (r__31 = 0)) := hp_32
        have ha_33 := hp_32
        clear hp_32
        rcases ha_33 with ⟨rfl, a_34⟩ | rfl
        · refine W.eq (g2 := F0 m 31 ls [.int 1]) rfl ?_
          refine lv_if_ne (tgt := 36) hx hb dX11_type_31 (by decide) (fun c_35 => ?_) (fun c_35 => absurd c_35 (by decide))
          refine lv_aload_n hx hb dX11_type_36 rfl (lv_at hl 1 rfl) ?_
          refine va_get (D := D) (ci := 11) (v := .ref st) (C := RX11) (T := TX11) (N := 7) hx hb hts inlX11 hown hK hP 0 rfl rfl 0 (by decide) (hts _ mw_15) (fun _ h9 => h9) rfl dX11_type_37 ?_
          refine lv_iload_n hx hb dX11_type_40 rfl (lv_at hl 2 rfl) ?_
          refine lv_aload hx hb dX11_type_41 (lv_at hl 0 rfl) ?_
          refine lv_iload_n hx hb dX11_type_43 rfl (lv_at hl 3 rfl) ?_
          refine va_new (ci := 1) (fs := [.null, .int 0]) (C := RX1) (T := TX1) (N := 2) hx hb hts inlX1 tyX1 tyX1_ok hown (hts _ mw_713) (hts _ mw_330) (hts _ mw_331) hK hP hD hS hA rfl (fun j hj => by rcases (show j = 0 ∨ j = 1 by omega) with rfl | rfl <;> rfl) (Nat.le_of_ble_eq_true rfl) (Nat.le_of_ble_eq_true rfl) dX11_type_44 (fun q_36 H hP hD hS => ?_)
          replace hP : va_P D vwCl ([(xx, .inr (11, [.ref st, .ref tp, .ref ft, .ref rd, .ref wr, .ref st2, .int zi])), (st, .inr (6, [.ref d, .ref sh, .ref vw, .ref ta, .ref sa, .int (nI n)])), (sh, .inl (κ 4, 3, .inr (.inr (.inr (.inr fs))))), (vw, .inl (κ 5, 3, .inr (.inr (.inr (.inr fv))))), (ta, .inl (κ 0, 6, .inl fa)), (sa, .inl (κ 4, 6, .inr (.inr (.inr (.inr ga))))), (q_36, .inr (1, [.null, .int 0]))] ++ im) H := mvP hP
          replace hD : va_D A ([(xx, .inr (11, [.ref st, .ref tp, .ref ft, .ref rd, .ref wr, .ref st2, .int zi])), (st, .inr (6, [.ref d, .ref sh, .ref vw, .ref ta, .ref sa, .int (nI n)])), (sh, .inl (κ 4, 3, .inr (.inr (.inr (.inr fs))))), (vw, .inl (κ 5, 3, .inr (.inr (.inr (.inr fv))))), (ta, .inl (κ 0, 6, .inl fa)), (sa, .inl (κ 4, 6, .inr (.inr (.inr (.inr ga))))), (q_36, .inr (1, [.null, .int 0]))] ++ im) := mvD hD
          refine lv_dup hx hb dX11_type_47 rfl ?_
          refine lv_aload hx hb dX11_type_48 (lv_at hl 0 rfl) ?_
          refine va_get (D := D) (ci := 5) (v := .ref c_16) (C := RX5) (T := TX5) (N := 4) hx hb hts inlX5 hown hK (oneP (C := [(xx, .inr (11, [.ref st, .ref tp, .ref ft, .ref rd, .ref wr, .ref st2, .int zi])), (st, .inr (6, [.ref d, .ref sh, .ref vw, .ref ta, .ref sa, .int (nI n)])), (sh, .inl (κ 4, 3, .inr (.inr (.inr (.inr fs))))), (vw, .inl (κ 5, 3, .inr (.inr (.inr (.inr fv))))), (ta, .inl (κ 0, 6, .inl fa)), (sa, .inl (κ 4, 6, .inr (.inr (.inr (.inr ga))))), (q_36, .inr (1, [.null, .int 0]))]) hP hm_21) 0 rfl rfl 0 (by decide) (hts _ mw_559) (fun _ h9 => h9) rfl dX11_type_50 ?_
          refine lv_iload_n hx hb dX11_type_53 rfl (lv_at hl 3 rfl) ?_
          refine va_aldq hx hb hK (oneP (C := [(xx, .inr (11, [.ref st, .ref tp, .ref ft, .ref rd, .ref wr, .ref st2, .int zi])), (st, .inr (6, [.ref d, .ref sh, .ref vw, .ref ta, .ref sa, .int (nI n)])), (sh, .inl (κ 4, 3, .inr (.inr (.inr (.inr fs))))), (vw, .inl (κ 5, 3, .inr (.inr (.inr (.inr fv))))), (ta, .inl (κ 0, 6, .inl fa)), (sa, .inl (κ 4, 6, .inr (.inr (.inr (.inr ga))))), (q_36, .inr (1, [.null, .int 0]))]) hP hm_22) 0 3 rfl rfl (i := nI j_28) (vp_in_nI (n := j_28) (by omega) (by omega)) dX11_type_54 ?_
          obtain ⟨q_37, e_38, m_39, t_40, h_41⟩ := lo_24 j_28 (by omega)
          refine kv (v := .ref q_37) (by rw [nI_clamp (by omega)]; rw [e_38]; rfl) ?_
          obtain ⟨ht_42, b_43, hm_44, hb_45⟩ := id h_41
          have hn_b_43 := hb_45.1
          refine va_get (D := D) (ci := 1) (v := .ref b_43) (C := RX1) (T := TX1) (N := 2) hx hb hts inlX1 hown hK (oneP (C := [(xx, .inr (11, [.ref st, .ref tp, .ref ft, .ref rd, .ref wr, .ref st2, .int zi])), (st, .inr (6, [.ref d, .ref sh, .ref vw, .ref ta, .ref sa, .int (nI n)])), (sh, .inl (κ 4, 3, .inr (.inr (.inr (.inr fs))))), (vw, .inl (κ 5, 3, .inr (.inr (.inr (.inr fv))))), (ta, .inl (κ 0, 6, .inl fa)), (sa, .inl (κ 4, 6, .inr (.inr (.inr (.inr ga))))), (q_36, .inr (1, [.null, .int 0]))]) hP hm_44) 0 rfl rfl 0 (by decide) (hts _ mw_759) (fun _ h9 => h9) rfl dX11_type_55 ?_
          refine lv_iload_n hx hb dX11_type_58 rfl (lv_at hl 4 rfl) ?_
          refine et_IT (CR := [(xx, .inr (11, [.ref st, .ref tp, .ref ft, .ref rd, .ref wr, .ref st2, .int zi])), (st, .inr (6, [.ref d, .ref sh, .ref vw, .ref ta, .ref sa, .int (nI n)])), (sh, .inl (κ 4, 3, .inr (.inr (.inr (.inr fs))))), (vw, .inl (κ 5, 3, .inr (.inr (.inr (.inr fv))))), (ta, .inl (κ 0, 6, .inl fa)), (sa, .inl (κ 4, 6, .inr (.inr (.inr (.inr ga)))))]) (As := [.ref b_43, .int zc]) (rest := [.ref q_36, .int (nI j_28), .ref a_3, .int (nI t), .ref st]) hFX hKK hE hP hD hS hA (c_X1_init l D κ κq im q_36 b_43 m_39 zc hb_45 (by first | assumption | exact To_m | exact To_n (by omega))) 2 mw_722 mw_348 mw_331 mw_349 hdI_X1_init ⟨Nat.le_of_ble_eq_true rfl, Nat.le_of_ble_eq_true rfl⟩ rfl rfl (Nat.le_of_ble_eq_true rfl) dX11_type_59 ⟨Nat.le_of_ble_eq_true rfl, Nat.le_of_ble_eq_true rfl⟩ hl.1 [6] [0, 1, 2, 3, 4, 5] rfl rfl (by decide) (by decide) (by decide) (fun im2__46 H locs hp_47 hP hD hS => ?_)
          refine W.widen (k := 1) (n := 2) (Nat.le_refl _) (Nat.le_refl _) ?_
          replace hP : va_P D vwCl ([(xx, .inr (11, [.ref st, .ref tp, .ref ft, .ref rd, .ref wr, .ref st2, .int zi])), (st, .inr (6, [.ref d, .ref sh, .ref vw, .ref ta, .ref sa, .int (nI n)])), (sh, .inl (κ 4, 3, .inr (.inr (.inr (.inr fs))))), (vw, .inl (κ 5, 3, .inr (.inr (.inr (.inr fv))))), (ta, .inl (κ 0, 6, .inl fa)), (sa, .inl (κ 4, 6, .inr (.inr (.inr (.inr ga)))))] ++ im2__46) H := subP (C := [(xx, .inr (11, [.ref st, .ref tp, .ref ft, .ref rd, .ref wr, .ref st2, .int zi])), (st, .inr (6, [.ref d, .ref sh, .ref vw, .ref ta, .ref sa, .int (nI n)])), (sh, .inl (κ 4, 3, .inr (.inr (.inr (.inr fs))))), (vw, .inl (κ 5, 3, .inr (.inr (.inr (.inr fv))))), (ta, .inl (κ 0, 6, .inl fa)), (sa, .inl (κ 4, 6, .inr (.inr (.inr (.inr ga)))))]) hP [0, 1, 2, 3, 4, 5] rfl
          replace hD : va_D A ([(xx, .inr (11, [.ref st, .ref tp, .ref ft, .ref rd, .ref wr, .ref st2, .int zi])), (st, .inr (6, [.ref d, .ref sh, .ref vw, .ref ta, .ref sa, .int (nI n)])), (sh, .inl (κ 4, 3, .inr (.inr (.inr (.inr fs))))), (vw, .inl (κ 5, 3, .inr (.inr (.inr (.inr fv))))), (ta, .inl (κ 0, 6, .inl fa)), (sa, .inl (κ 4, 6, .inr (.inr (.inr (.inr ga)))))] ++ im2__46) := subD (C := [(xx, .inr (11, [.ref st, .ref tp, .ref ft, .ref rd, .ref wr, .ref st2, .int zi])), (st, .inr (6, [.ref d, .ref sh, .ref vw, .ref ta, .ref sa, .int (nI n)])), (sh, .inl (κ 4, 3, .inr (.inr (.inr (.inr fs))))), (vw, .inl (κ 5, 3, .inr (.inr (.inr (.inr fv))))), (ta, .inl (κ 0, 6, .inl fa)), (sa, .inl (κ 4, 6, .inr (.inr (.inr (.inr ga)))))]) hD [0, 1, 2, 3, 4, 5] (by decide) rfl
          replace hp_47 : Sb im im2__46 ∧ Co κ im2__46 q_36 m_39 zc := hp_47
          obtain ⟨h_48, h_49⟩ := hp_47
          replace htb := htb.up h_48
          replace hss := hss.up h_48
          replace h_8 := h_8.up h_48
          replace h_9 := h_9.up h_48
          replace lo_24 := lo_24.up h_48
          replace lc_25 := lc_25.up h_48
          replace vw_26 := vw_26.up h_48
          replace h_41 := h_41.up h_48
          replace hb_45 := hb_45.up h_48
          replace hm_21 := h_48 _ hm_21
          replace hm_22 := h_48 _ hm_22
          replace hm_23 := h_48 _ hm_23
          replace hm_44 := h_48 _ hm_44
          refine W.eq (g2 := F0 m 62 ls [.ref q_36, .int (nI j_28), .ref a_3, .int (nI t), .ref st]) rfl ?_
          refine et_VT (CR := [(xx, .inr (11, [.ref st, .ref tp, .ref ft, .ref rd, .ref wr, .ref st2, .int zi])), (st, .inr (6, [.ref d, .ref sh, .ref vw, .ref ta, .ref sa, .int (nI n)])), (sh, .inl (κ 4, 3, .inr (.inr (.inr (.inr fs))))), (vw, .inl (κ 5, 3, .inr (.inr (.inr (.inr fv))))), (ta, .inl (κ 0, 6, .inl fa)), (sa, .inl (κ 4, 6, .inr (.inr (.inr (.inr ga)))))]) (As := [.int (nI j_28), .ref q_36]) (rest := [.int (nI t), .ref st]) hFX hKK hE hP hD hS hA (c_X5_withColumn l D κ κq im2__46 a_3 R_4 w_5 j_28 q_36 m_39 zc h_8 (by omega) h_49) 2 gV_X11_174 hdV_X5_withColumn ⟨Nat.le_of_ble_eq_true rfl, Nat.le_of_ble_eq_true rfl⟩ rfl rfl (Nat.le_of_ble_eq_true rfl) dX11_type_62 ⟨Nat.le_of_ble_eq_true rfl, Nat.le_of_ble_eq_true rfl⟩ hl.1 [] [0, 1, 2, 3, 4, 5] rfl rfl (by decide) (by decide) (by decide) (oneP (C := [(xx, .inr (11, [.ref st, .ref tp, .ref ft, .ref rd, .ref wr, .ref st2, .int zi])), (st, .inr (6, [.ref d, .ref sh, .ref vw, .ref ta, .ref sa, .int (nI n)])), (sh, .inl (κ 4, 3, .inr (.inr (.inr (.inr fs))))), (vw, .inl (κ 5, 3, .inr (.inr (.inr (.inr fv))))), (ta, .inl (κ 0, 6, .inl fa)), (sa, .inl (κ 4, 6, .inr (.inr (.inr (.inr ga)))))]) hP hm_21) 0 5 rfl rfl rfl (fun u_52 H locs hp_53 hP hD hS => ?_)
          refine W.widen (k := 5) (n := 57) (Nat.le_refl _) (Nat.le_refl _) ?_
          obtain ⟨r__50, im2__51⟩ := u_52
          replace hP : va_P D vwCl ([(xx, .inr (11, [.ref st, .ref tp, .ref ft, .ref rd, .ref wr, .ref st2, .int zi])), (st, .inr (6, [.ref d, .ref sh, .ref vw, .ref ta, .ref sa, .int (nI n)])), (sh, .inl (κ 4, 3, .inr (.inr (.inr (.inr fs))))), (vw, .inl (κ 5, 3, .inr (.inr (.inr (.inr fv))))), (ta, .inl (κ 0, 6, .inl fa)), (sa, .inl (κ 4, 6, .inr (.inr (.inr (.inr ga)))))] ++ im2__51) H := subP (C := [(xx, .inr (11, [.ref st, .ref tp, .ref ft, .ref rd, .ref wr, .ref st2, .int zi])), (st, .inr (6, [.ref d, .ref sh, .ref vw, .ref ta, .ref sa, .int (nI n)])), (sh, .inl (κ 4, 3, .inr (.inr (.inr (.inr fs))))), (vw, .inl (κ 5, 3, .inr (.inr (.inr (.inr fv))))), (ta, .inl (κ 0, 6, .inl fa)), (sa, .inl (κ 4, 6, .inr (.inr (.inr (.inr ga)))))]) hP [0, 1, 2, 3, 4, 5] rfl
          replace hD : va_D A ([(xx, .inr (11, [.ref st, .ref tp, .ref ft, .ref rd, .ref wr, .ref st2, .int zi])), (st, .inr (6, [.ref d, .ref sh, .ref vw, .ref ta, .ref sa, .int (nI n)])), (sh, .inl (κ 4, 3, .inr (.inr (.inr (.inr fs))))), (vw, .inl (κ 5, 3, .inr (.inr (.inr (.inr fv))))), (ta, .inl (κ 0, 6, .inl fa)), (sa, .inl (κ 4, 6, .inr (.inr (.inr (.inr ga)))))] ++ im2__51) := subD (C := [(xx, .inr (11, [.ref st, .ref tp, .ref ft, .ref rd, .ref wr, .ref st2, .int zi])), (st, .inr (6, [.ref d, .ref sh, .ref vw, .ref ta, .ref sa, .int (nI n)])), (sh, .inl (κ 4, 3, .inr (.inr (.inr (.inr fs))))), (vw, .inl (κ 5, 3, .inr (.inr (.inr (.inr fv))))), (ta, .inl (κ 0, 6, .inl fa)), (sa, .inl (κ 4, 6, .inr (.inr (.inr (.inr ga)))))]) hD [0, 1, 2, 3, 4, 5] (by decide) rfl
          replace hp_53 : Sb im2__46 im2__51 ∧ ((∃ (q : Nat), r__50 = some q ∧ Sh κ im2__51 q R_4 w_5)) := hp_53
          obtain ⟨h_54, ha_55⟩ := hp_53
          replace htb := htb.up h_54
          replace hss := hss.up h_54
          replace h_8 := h_8.up h_54
          replace h_9 := h_9.up h_54
          replace lo_24 := lo_24.up h_54
          replace lc_25 := lc_25.up h_54
          replace vw_26 := vw_26.up h_54
          replace h_41 := h_41.up h_54
          replace hb_45 := hb_45.up h_54
          replace h_49 := h_49.up h_54
          replace hm_21 := h_54 _ hm_21
          replace hm_22 := h_54 _ hm_22
          replace hm_23 := h_54 _ hm_23
          replace hm_44 := h_54 _ hm_44
          rcases ha_55 with ⟨q__56, rfl, a_57⟩
          · refine W.eq (g2 := F0 m 65 ls [.ref q__56, .int (nI t), .ref st]) rfl ?_
            refine et_VT (CR := [(xx, .inr (11, [.ref st, .ref tp, .ref ft, .ref rd, .ref wr, .ref st2, .int zi]))]) (As := [.int (nI t), .ref q__56]) (rest := []) hFX hKK hE hP hD hS hA (c_X6_act l D κ κq im2__51 st d sh vw ta sa n fs fv fa ga t q__56 R_4 w_5 (by omega) htb hrn hss (by omega) a_57) 2 gV_X11_86 hdV_X6_act ⟨Nat.le_of_ble_eq_true rfl, Nat.le_of_ble_eq_true rfl⟩ rfl rfl (Nat.le_of_ble_eq_true rfl) dX11_type_65 ⟨Nat.le_of_ble_eq_true rfl, Nat.le_of_ble_eq_true rfl⟩ hl.1 [1, 2, 3, 4, 5] [0] rfl rfl (by decide) (by decide) (by decide) hP 1 6 rfl rfl rfl (fun u_63 H locs hp_64 hP hD hS => ?_)
            refine W.widen (k := 5) (n := 57) (Nat.le_refl _) (Nat.le_refl _) ?_
            obtain ⟨y__58, gs__59, gv__60, fb__61, gb__62⟩ := u_63
            replace hP : va_P D vwCl ([(xx, .inr (11, [.ref st, .ref tp, .ref ft, .ref rd, .ref wr, .ref st2, .int zi])), (st, .inr (6, [.ref d, .ref sh, .ref vw, .ref ta, .ref sa, .int (nI y__58)])), (sh, .inl (κ 4, 3, .inr (.inr (.inr (.inr gs__59))))), (vw, .inl (κ 5, 3, .inr (.inr (.inr (.inr gv__60))))), (ta, .inl (κ 0, 6, .inl fb__61)), (sa, .inl (κ 4, 6, .inr (.inr (.inr (.inr gb__62)))))] ++ im2__51) H := subP (C := [(xx, .inr (11, [.ref st, .ref tp, .ref ft, .ref rd, .ref wr, .ref st2, .int zi])), (st, .inr (6, [.ref d, .ref sh, .ref vw, .ref ta, .ref sa, .int (nI y__58)])), (sh, .inl (κ 4, 3, .inr (.inr (.inr (.inr gs__59))))), (vw, .inl (κ 5, 3, .inr (.inr (.inr (.inr gv__60))))), (ta, .inl (κ 0, 6, .inl fb__61)), (sa, .inl (κ 4, 6, .inr (.inr (.inr (.inr gb__62)))))]) hP [0, 1, 2, 3, 4, 5] rfl
            replace hD : va_D A ([(xx, .inr (11, [.ref st, .ref tp, .ref ft, .ref rd, .ref wr, .ref st2, .int zi])), (st, .inr (6, [.ref d, .ref sh, .ref vw, .ref ta, .ref sa, .int (nI y__58)])), (sh, .inl (κ 4, 3, .inr (.inr (.inr (.inr gs__59))))), (vw, .inl (κ 5, 3, .inr (.inr (.inr (.inr gv__60))))), (ta, .inl (κ 0, 6, .inl fb__61)), (sa, .inl (κ 4, 6, .inr (.inr (.inr (.inr gb__62)))))] ++ im2__51) := subD (C := [(xx, .inr (11, [.ref st, .ref tp, .ref ft, .ref rd, .ref wr, .ref st2, .int zi])), (st, .inr (6, [.ref d, .ref sh, .ref vw, .ref ta, .ref sa, .int (nI y__58)])), (sh, .inl (κ 4, 3, .inr (.inr (.inr (.inr gs__59))))), (vw, .inl (κ 5, 3, .inr (.inr (.inr (.inr gv__60))))), (ta, .inl (κ 0, 6, .inl fb__61)), (sa, .inl (κ 4, 6, .inr (.inr (.inr (.inr gb__62)))))]) hD [0, 1, 2, 3, 4, 5] (by decide) rfl
            replace hp_64 : y__58 ≤ 6 ∧ Tb κ im2__51 gs__59 gv__60 3 ∧ Rn 6 3 fb__61 ∧ Ss κ im2__51 gb__62 6 := hp_64
            obtain ⟨h_65, h_66, h_67, h_68⟩ := hp_64
            refine W.eq (g2 := F0 m 68 ls []) rfl ?_
            refine lv_iconst (v := 1) hx hb dX11_type_68 (by decide) ?_
            exact et_iret hx hb hr hlk rfl hS (1, y__58, gs__59, gv__60, fb__61, gb__62, im2__51) rfl ⟨(show y__58 ≤ 6 from (by first | assumption | omega | rfl | exact Or.inl (by assumption) | exact Or.inr (by assumption))), (show Tb κ im2__51 gs__59 gv__60 3 from h_66), (show Rn 6 3 fb__61 from (by first | assumption | omega | rfl | exact Or.inl (by assumption) | exact Or.inr (by assumption))), (show Ss κ im2__51 gb__62 6 from h_68), (show Sb im im2__51 from (Sb.tr h_48 h_54))⟩ (subP hP [0, 1, 2, 3, 4, 5] rfl) (subD hD [0, 1, 2, 3, 4, 5] (by decide) rfl) (Nat.le_of_ble_eq_true rfl) (Nat.le_of_ble_eq_true rfl) dX11_type_69
        · refine W.eq (g2 := F0 m 31 ls [.int 0]) rfl ?_
          refine lv_if_ne (tgt := 36) hx hb dX11_type_31 (by decide) (fun c_69 => absurd c_69 (by decide)) (fun c_69 => ?_)
          refine lv_iconst (v := 0) hx hb dX11_type_34 (by decide) ?_
          exact et_iret hx hb hr hlk rfl hS (0, n, fs, fv, fa, ga, im) rfl ⟨(show n ≤ 6 from (by first | assumption | omega | rfl | exact Or.inl (by assumption) | exact Or.inr (by assumption))), (show Tb κ im fs fv 3 from htb), (show Rn 6 3 fa from (by first | assumption | omega | rfl | exact Or.inl (by assumption) | exact Or.inr (by assumption))), (show Ss κ im ga 6 from hss), (show Sb im im from Sb.rf)⟩ (subP hP [0, 1, 2, 3, 4, 5] rfl) (subD hD [0, 1, 2, 3, 4, 5] (by decide) rfl) (Nat.le_of_ble_eq_true rfl) (Nat.le_of_ble_eq_true rfl) dX11_type_35
      · refine W.eq (g2 := F0 m 21 ls [.int 0]) rfl ?_
        refine lv_if_eq (tgt := 34) hx hb dX11_type_21 (by decide) (fun c_70 => ?_) (fun c_70 => absurd (by decide) c_70)
        refine lv_iconst (v := 0) hx hb dX11_type_34 (by decide) ?_
        exact et_iret hx hb hr hlk rfl hS (0, n, fs, fv, fa, ga, im) rfl ⟨(show n ≤ 6 from (by first | assumption | omega | rfl | exact Or.inl (by assumption) | exact Or.inr (by assumption))), (show Tb κ im fs fv 3 from htb), (show Rn 6 3 fa from (by first | assumption | omega | rfl | exact Or.inl (by assumption) | exact Or.inr (by assumption))), (show Ss κ im ga 6 from hss), (show Sb im im from Sb.rf)⟩ (subP hP [0, 1, 2, 3, 4, 5] rfl) (subD hD [0, 1, 2, 3, 4, 5] (by decide) rfl) (Nat.le_of_ble_eq_true rfl) (Nat.le_of_ble_eq_true rfl) dX11_type_35
  · skip
    refine lv_aload_n hx hb dX11_type_0 rfl (lv_at hl 0 rfl) ?_
    refine va_get (D := D) (ci := 11) (v := .ref st) (C := RX11) (T := TX11) (N := 7) hx hb hts inlX11 hown hK hP 0 rfl rfl 0 (by decide) (hts _ mw_15) (fun _ h9 => h9) rfl dX11_type_1 ?_
    refine lv_iload_n hx hb dX11_type_4 rfl (lv_at hl 1 rfl) ?_
    refine er_V (As := [.int za]) (rest := []) hFX hKK hE hS (c_X6_sheetOf_x l D κ κq st d sh vw ta sa n za (by assumption)) 1 gV_X11_114 hdV_X6_sheetOf rfl rfl ⟨Nat.le_of_ble_eq_true rfl, Nat.le_of_ble_eq_true rfl⟩ rfl rfl (Nat.le_of_ble_eq_true rfl) dX11_type_5 ⟨Nat.le_of_ble_eq_true rfl, Nat.le_of_ble_eq_true rfl⟩ hl.1 hP 1 6 rfl rfl rfl (subP0 hP [1] rfl) (fun _ hp_71 => ?_)
    refine W.eq (g2 := F0 m 8 ls [.null]) rfl ?_
    refine lv_astoreN (lv' := [(4, .null), (0, .ref xx), (1, .int za), (2, .int zb), (3, .int zc)]) hx hb dX11_type_8 hl (by decide) rfl (fun ls hl => ?_)
    refine lv_aloadN hx hb dX11_type_10 (lv_at hl 0 rfl) ?_
    refine lv_ifnullN (tgt := 34) hx hb dX11_type_12 (by decide) ?_
    refine lv_iconst (v := 0) hx hb dX11_type_34 (by decide) ?_
    exact et_iret hx hb hr hlk rfl hS (0, n, fs, fv, fa, ga, im) rfl ⟨(show n ≤ 6 from (by first | assumption | omega | rfl | exact Or.inl (by assumption) | exact Or.inr (by assumption))), (show Tb κ im fs fv 3 from htb), (show Rn 6 3 fa from (by first | assumption | omega | rfl | exact Or.inl (by assumption) | exact Or.inr (by assumption))), (show Ss κ im ga 6 from hss), (show Sb im im from Sb.rf)⟩ (subP hP [0, 1, 2, 3, 4, 5] rfl) (subD hD [0, 1, 2, 3, 4, 5] (by decide) rfl) (Nat.le_of_ble_eq_true rfl) (Nat.le_of_ble_eq_true rfl) dX11_type_35
set_option maxHeartbeats 4000000 in
set_option maxRecDepth 100000 in
theorem c_X11_joined (l : Launch) (D : va_G) (κ : Nat → ClassId) (κq : Nat → Nat) (im : va_W) (xx : Nat) (tp : Nat) (ft : Nat) (rd : Nat) (wr : Nat) (st2 : Nat) (zi : Int32) (st : Nat) (d : Nat) (sh : Nat) (vw : Nat) (ta : Nat) (sa : Nat) (n : Nat) (fs : Nat → Option Nat) (fv : Nat → Option Nat) (fa : Nat → Int32) (ga : Nat → Option Nat) (za : Int32) (zb : Int32) (zc : Int32) (zd : Int32) (ze : Int32) (hn6 : n ≤ 6) (htb : Tb κ im fs fv 3) (hrn : Rn 6 3 fa) (hss : Ss κ im ga 6) : Et l yX11_joined (wl yX11_joined cX11_joined 9 (some .int)) { frames := 6, cells := 30, slots := 600, locals := 138 } D κ κq [.ref xx, .int za, .int zb, .int zc, .int zd, .int ze] ([(xx, .inr (11, [.ref st, .ref tp, .ref ft, .ref rd, .ref wr, .ref st2, .int zi])), (st, .inr (6, [.ref d, .ref sh, .ref vw, .ref ta, .ref sa, .int (nI n)])), (sh, .inl (κ 4, 3, .inr (.inr (.inr (.inr fs))))), (vw, .inl (κ 5, 3, .inr (.inr (.inr (.inr fv))))), (ta, .inl (κ 0, 6, .inl fa)), (sa, .inl (κ 4, 6, .inr (.inr (.inr (.inr ga)))))] ++ im) (fun u9 : Int32 × Nat × (Nat → Option Nat) × (Nat → Option Nat) × (Nat → Int32) × (Nat → Option Nat) × va_W => some (.int u9.1)) (fun u9 : Int32 × Nat × (Nat → Option Nat) × (Nat → Option Nat) × (Nat → Int32) × (Nat → Option Nat) × va_W => u9.2.1 ≤ 6 ∧ Tb κ u9.2.2.2.2.2.2 u9.2.2.1 u9.2.2.2.1 3 ∧ Rn 6 3 u9.2.2.2.2.1 ∧ Ss κ u9.2.2.2.2.2.2 u9.2.2.2.2.2.1 6 ∧ Sb im u9.2.2.2.2.2.2) (fun u9 : Int32 × Nat × (Nat → Option Nat) × (Nat → Option Nat) × (Nat → Int32) × (Nat → Option Nat) × va_W => ([(xx, .inr (11, [.ref st, .ref tp, .ref ft, .ref rd, .ref wr, .ref st2, .int zi])), (st, .inr (6, [.ref d, .ref sh, .ref vw, .ref ta, .ref sa, .int (nI u9.2.1)])), (sh, .inl (κ 4, 3, .inr (.inr (.inr (.inr u9.2.2.1))))), (vw, .inl (κ 5, 3, .inr (.inr (.inr (.inr u9.2.2.2.1))))), (ta, .inl (κ 0, 6, .inl u9.2.2.2.2.1)), (sa, .inl (κ 4, 6, .inr (.inr (.inr (.inr u9.2.2.2.2.2.1)))))] ++ u9.2.2.2.2.2.2)) := by
  refine et_of (by decide +kernel) (Nat.le_of_ble_eq_true rfl) ?_
  intro p e s m args below meth c A ls hx hb hr hml hts hown hlk hin hKK hK hA hP hD hS hE hl
  have hS : va_S A s.heap s.heap [] := hS
  have hP : va_P D vwCl ([(xx, .inr (11, [.ref st, .ref tp, .ref ft, .ref rd, .ref wr, .ref st2, .int zi])), (st, .inr (6, [.ref d, .ref sh, .ref vw, .ref ta, .ref sa, .int (nI n)])), (sh, .inl (κ 4, 3, .inr (.inr (.inr (.inr fs))))), (vw, .inl (κ 5, 3, .inr (.inr (.inr (.inr fv))))), (ta, .inl (κ 0, 6, .inl fa)), (sa, .inl (κ 4, 6, .inr (.inr (.inr (.inr ga)))))] ++ im) s.heap := hP
  have hD : va_D A ([(xx, .inr (11, [.ref st, .ref tp, .ref ft, .ref rd, .ref wr, .ref st2, .int zi])), (st, .inr (6, [.ref d, .ref sh, .ref vw, .ref ta, .ref sa, .int (nI n)])), (sh, .inl (κ 4, 3, .inr (.inr (.inr (.inr fs))))), (vw, .inl (κ 5, 3, .inr (.inr (.inr (.inr fv))))), (ta, .inl (κ 0, 6, .inl fa)), (sa, .inl (κ 4, 6, .inr (.inr (.inr (.inr ga)))))] ++ im) := hD
  have hFX : FX p s m args c cX11_joined 9 RX11 := ⟨hx, hb, hml, hown, hts⟩
  have hl : lv_has ls 9 [(0, .ref xx), (1, .int za), (2, .int zb), (3, .int zc), (4, .int zd), (5, .int ze)] := hl
  rcases pl_cases za with ⟨t, ht_t, rfl⟩ | hnp_za
  · skip
    rcases htb t (by omega) with ⟨e_1, e_2⟩ | ⟨a_3, R_4, w_5, d_6, v_7, e_1, e_2, h_8, h_9, hd_10⟩
    · skip
      rcases pl_cases zc with ⟨t2, ht_t2, rfl⟩ | hnp_zc
      · skip
        rcases htb t2 (by omega) with ⟨e_11, e_12⟩ | ⟨a_13, R_14, w_15, d_16, v_17, e_11, e_12, h_18, h_19, hd_20⟩
        · skip
          rcases pl_cases ze with ⟨t3, ht_t3, rfl⟩ | hnp_ze
          · skip
            refine lv_aload_n hx hb dX11_joined_0 rfl (lv_at hl 0 rfl) ?_
            refine va_get (D := D) (ci := 11) (v := .ref st) (C := RX11) (T := TX11) (N := 7) hx hb hts inlX11 hown hK hP 0 rfl rfl 0 (by decide) (hts _ mw_15) (fun _ h9 => h9) rfl dX11_joined_1 ?_
            refine lv_iload_n hx hb dX11_joined_4 rfl (lv_at hl 1 rfl) ?_
            refine lv_iload_n hx hb dX11_joined_5 rfl (lv_at hl 2 rfl) ?_
            refine er_V (As := [.int (nI t), .int zb]) (rest := []) hFX hKK hE hS (c_X6_stripOf_n l D κ κq st d sh vw ta sa n fs fv t zb (by omega) e_1 e_2) 2 gV_X11_189 hdV_X6_stripOf rfl rfl ⟨Nat.le_of_ble_eq_true rfl, Nat.le_of_ble_eq_true rfl⟩ rfl rfl (Nat.le_of_ble_eq_true rfl) dX11_joined_6 ⟨Nat.le_of_ble_eq_true rfl, Nat.le_of_ble_eq_true rfl⟩ hl.1 hP 1 6 rfl rfl rfl (subP0 hP [1, 2, 3] rfl) (fun _ hp_21 => ?_)
            refine W.eq (g2 := F0 m 9 ls [.null]) rfl ?_
            refine lv_astoreN (lv' := [(6, .null), (0, .ref xx), (1, .int (nI t)), (2, .int zb), (3, .int (nI t2)), (4, .int zd), (5, .int (nI t3))]) hx hb dX11_joined_9 hl (by decide) rfl (fun ls hl => ?_)
            refine lv_aload_n hx hb dX11_joined_11 rfl (lv_at hl 1 rfl) ?_
            refine va_get (D := D) (ci := 11) (v := .ref st) (C := RX11) (T := TX11) (N := 7) hx hb hts inlX11 hown hK hP 0 rfl rfl 0 (by decide) (hts _ mw_15) (fun _ h9 => h9) rfl dX11_joined_12 ?_
            refine lv_iload_n hx hb dX11_joined_15 rfl (lv_at hl 4 rfl) ?_
            refine lv_iload hx hb dX11_joined_16 (lv_at hl 5 rfl) ?_
            refine er_V (As := [.int (nI t2), .int zd]) (rest := []) hFX hKK hE hS (c_X6_stripOf_n l D κ κq st d sh vw ta sa n fs fv t2 zd (by omega) e_11 e_12) 2 gV_X11_189 hdV_X6_stripOf rfl rfl ⟨Nat.le_of_ble_eq_true rfl, Nat.le_of_ble_eq_true rfl⟩ rfl rfl (Nat.le_of_ble_eq_true rfl) dX11_joined_18 ⟨Nat.le_of_ble_eq_true rfl, Nat.le_of_ble_eq_true rfl⟩ hl.1 hP 1 6 rfl rfl rfl (subP0 hP [1, 2, 3] rfl) (fun _ hp_22 => ?_)
            refine W.eq (g2 := F0 m 21 ls [.null]) rfl ?_
            refine lv_astoreN (lv' := [(7, .null), (6, .null), (0, .ref xx), (1, .int (nI t)), (2, .int zb), (3, .int (nI t2)), (4, .int zd), (5, .int (nI t3))]) hx hb dX11_joined_21 hl (by decide) rfl (fun ls hl => ?_)
            refine lv_aloadN hx hb dX11_joined_23 (lv_at hl 1 rfl) ?_
            refine lv_ifnullN (tgt := 53) hx hb dX11_joined_25 (by decide) ?_
            refine lv_iconst (v := (-1)) hx hb dX11_joined_53 (by decide) ?_
            exact et_iret hx hb hr hlk rfl hS ((-1), n, fs, fv, fa, ga, im) rfl ⟨(show n ≤ 6 from (by first | assumption | omega | rfl | exact Or.inl (by assumption) | exact Or.inr (by assumption))), (show Tb κ im fs fv 3 from htb), (show Rn 6 3 fa from (by first | assumption | omega | rfl | exact Or.inl (by assumption) | exact Or.inr (by assumption))), (show Ss κ im ga 6 from hss), (show Sb im im from Sb.rf)⟩ (subP hP [0, 1, 2, 3, 4, 5] rfl) (subD hD [0, 1, 2, 3, 4, 5] (by decide) rfl) (Nat.le_of_ble_eq_true rfl) (Nat.le_of_ble_eq_true rfl) dX11_joined_54
          · skip
            refine lv_aload_n hx hb dX11_joined_0 rfl (lv_at hl 0 rfl) ?_
            refine va_get (D := D) (ci := 11) (v := .ref st) (C := RX11) (T := TX11) (N := 7) hx hb hts inlX11 hown hK hP 0 rfl rfl 0 (by decide) (hts _ mw_15) (fun _ h9 => h9) rfl dX11_joined_1 ?_
            refine lv_iload_n hx hb dX11_joined_4 rfl (lv_at hl 1 rfl) ?_
            refine lv_iload_n hx hb dX11_joined_5 rfl (lv_at hl 2 rfl) ?_
            refine er_V (As := [.int (nI t), .int zb]) (rest := []) hFX hKK hE hS (c_X6_stripOf_n l D κ κq st d sh vw ta sa n fs fv t zb (by omega) e_1 e_2) 2 gV_X11_189 hdV_X6_stripOf rfl rfl ⟨Nat.le_of_ble_eq_true rfl, Nat.le_of_ble_eq_true rfl⟩ rfl rfl (Nat.le_of_ble_eq_true rfl) dX11_joined_6 ⟨Nat.le_of_ble_eq_true rfl, Nat.le_of_ble_eq_true rfl⟩ hl.1 hP 1 6 rfl rfl rfl (subP0 hP [1, 2, 3] rfl) (fun _ hp_23 => ?_)
            refine W.eq (g2 := F0 m 9 ls [.null]) rfl ?_
            refine lv_astoreN (lv' := [(6, .null), (0, .ref xx), (1, .int (nI t)), (2, .int zb), (3, .int (nI t2)), (4, .int zd), (5, .int ze)]) hx hb dX11_joined_9 hl (by decide) rfl (fun ls hl => ?_)
            refine lv_aload_n hx hb dX11_joined_11 rfl (lv_at hl 1 rfl) ?_
            refine va_get (D := D) (ci := 11) (v := .ref st) (C := RX11) (T := TX11) (N := 7) hx hb hts inlX11 hown hK hP 0 rfl rfl 0 (by decide) (hts _ mw_15) (fun _ h9 => h9) rfl dX11_joined_12 ?_
            refine lv_iload_n hx hb dX11_joined_15 rfl (lv_at hl 4 rfl) ?_
            refine lv_iload hx hb dX11_joined_16 (lv_at hl 5 rfl) ?_
            refine er_V (As := [.int (nI t2), .int zd]) (rest := []) hFX hKK hE hS (c_X6_stripOf_n l D κ κq st d sh vw ta sa n fs fv t2 zd (by omega) e_11 e_12) 2 gV_X11_189 hdV_X6_stripOf rfl rfl ⟨Nat.le_of_ble_eq_true rfl, Nat.le_of_ble_eq_true rfl⟩ rfl rfl (Nat.le_of_ble_eq_true rfl) dX11_joined_18 ⟨Nat.le_of_ble_eq_true rfl, Nat.le_of_ble_eq_true rfl⟩ hl.1 hP 1 6 rfl rfl rfl (subP0 hP [1, 2, 3] rfl) (fun _ hp_24 => ?_)
            refine W.eq (g2 := F0 m 21 ls [.null]) rfl ?_
            refine lv_astoreN (lv' := [(7, .null), (6, .null), (0, .ref xx), (1, .int (nI t)), (2, .int zb), (3, .int (nI t2)), (4, .int zd), (5, .int ze)]) hx hb dX11_joined_21 hl (by decide) rfl (fun ls hl => ?_)
            refine lv_aloadN hx hb dX11_joined_23 (lv_at hl 1 rfl) ?_
            refine lv_ifnullN (tgt := 53) hx hb dX11_joined_25 (by decide) ?_
            refine lv_iconst (v := (-1)) hx hb dX11_joined_53 (by decide) ?_
            exact et_iret hx hb hr hlk rfl hS ((-1), n, fs, fv, fa, ga, im) rfl ⟨(show n ≤ 6 from (by first | assumption | omega | rfl | exact Or.inl (by assumption) | exact Or.inr (by assumption))), (show Tb κ im fs fv 3 from htb), (show Rn 6 3 fa from (by first | assumption | omega | rfl | exact Or.inl (by assumption) | exact Or.inr (by assumption))), (show Ss κ im ga 6 from hss), (show Sb im im from Sb.rf)⟩ (subP hP [0, 1, 2, 3, 4, 5] rfl) (subD hD [0, 1, 2, 3, 4, 5] (by decide) rfl) (Nat.le_of_ble_eq_true rfl) (Nat.le_of_ble_eq_true rfl) dX11_joined_54
        · have hle_a_13 := h_18.le
          rcases pl_cases ze with ⟨t3, ht_t3, rfl⟩ | hnp_ze
          · skip
            refine lv_aload_n hx hb dX11_joined_0 rfl (lv_at hl 0 rfl) ?_
            refine va_get (D := D) (ci := 11) (v := .ref st) (C := RX11) (T := TX11) (N := 7) hx hb hts inlX11 hown hK hP 0 rfl rfl 0 (by decide) (hts _ mw_15) (fun _ h9 => h9) rfl dX11_joined_1 ?_
            refine lv_iload_n hx hb dX11_joined_4 rfl (lv_at hl 1 rfl) ?_
            refine lv_iload_n hx hb dX11_joined_5 rfl (lv_at hl 2 rfl) ?_
            refine er_V (As := [.int (nI t), .int zb]) (rest := []) hFX hKK hE hS (c_X6_stripOf_n l D κ κq st d sh vw ta sa n fs fv t zb (by omega) e_1 e_2) 2 gV_X11_189 hdV_X6_stripOf rfl rfl ⟨Nat.le_of_ble_eq_true rfl, Nat.le_of_ble_eq_true rfl⟩ rfl rfl (Nat.le_of_ble_eq_true rfl) dX11_joined_6 ⟨Nat.le_of_ble_eq_true rfl, Nat.le_of_ble_eq_true rfl⟩ hl.1 hP 1 6 rfl rfl rfl (subP0 hP [1, 2, 3] rfl) (fun _ hp_25 => ?_)
            refine W.eq (g2 := F0 m 9 ls [.null]) rfl ?_
            refine lv_astoreN (lv' := [(6, .null), (0, .ref xx), (1, .int (nI t)), (2, .int zb), (3, .int (nI t2)), (4, .int zd), (5, .int (nI t3))]) hx hb dX11_joined_9 hl (by decide) rfl (fun ls hl => ?_)
            refine lv_aload_n hx hb dX11_joined_11 rfl (lv_at hl 1 rfl) ?_
            refine va_get (D := D) (ci := 11) (v := .ref st) (C := RX11) (T := TX11) (N := 7) hx hb hts inlX11 hown hK hP 0 rfl rfl 0 (by decide) (hts _ mw_15) (fun _ h9 => h9) rfl dX11_joined_12 ?_
            refine lv_iload_n hx hb dX11_joined_15 rfl (lv_at hl 4 rfl) ?_
            refine lv_iload hx hb dX11_joined_16 (lv_at hl 5 rfl) ?_
            refine et_VT (CR := [(xx, .inr (11, [.ref st, .ref tp, .ref ft, .ref rd, .ref wr, .ref st2, .int zi])), (ta, .inl (κ 0, 6, .inl fa)), (sa, .inl (κ 4, 6, .inr (.inr (.inr (.inr ga)))))]) (As := [.int (nI t2), .int zd]) (rest := []) hFX hKK hE hP hD hS hA (c_X6_stripOf_s l D κ κq im st d sh vw ta sa n fs fv t2 a_13 R_14 w_15 v_17 d_16 zd (by omega) e_11 e_12 h_18 h_19) 2 gV_X11_189 hdV_X6_stripOf ⟨Nat.le_of_ble_eq_true rfl, Nat.le_of_ble_eq_true rfl⟩ rfl rfl (Nat.le_of_ble_eq_true rfl) dX11_joined_18 ⟨Nat.le_of_ble_eq_true rfl, Nat.le_of_ble_eq_true rfl⟩ hl.1 [1, 2, 3] [0, 4, 5] rfl rfl (by decide) (by decide) (by decide) hP 1 6 rfl rfl rfl (fun u_28 H locs hp_29 hP hD hS => ?_)
            refine W.widen (k := 1) (n := 4) (Nat.le_refl _) (Nat.le_refl _) ?_
            obtain ⟨r__26, im2__27⟩ := u_28
            replace hP : va_P D vwCl ([(xx, .inr (11, [.ref st, .ref tp, .ref ft, .ref rd, .ref wr, .ref st2, .int zi])), (st, .inr (6, [.ref d, .ref sh, .ref vw, .ref ta, .ref sa, .int (nI n)])), (sh, .inl (κ 4, 3, .inr (.inr (.inr (.inr fs))))), (vw, .inl (κ 5, 3, .inr (.inr (.inr (.inr fv))))), (ta, .inl (κ 0, 6, .inl fa)), (sa, .inl (κ 4, 6, .inr (.inr (.inr (.inr ga)))))] ++ im2__27) H := subP (C := [(xx, .inr (11, [.ref st, .ref tp, .ref ft, .ref rd, .ref wr, .ref st2, .int zi])), (ta, .inl (κ 0, 6, .inl fa)), (sa, .inl (κ 4, 6, .inr (.inr (.inr (.inr ga))))), (st, .inr (6, [.ref d, .ref sh, .ref vw, .ref ta, .ref sa, .int (nI n)])), (sh, .inl (κ 4, 3, .inr (.inr (.inr (.inr fs))))), (vw, .inl (κ 5, 3, .inr (.inr (.inr (.inr fv)))))]) hP [0, 3, 4, 5, 1, 2] rfl
            replace hD : va_D A ([(xx, .inr (11, [.ref st, .ref tp, .ref ft, .ref rd, .ref wr, .ref st2, .int zi])), (st, .inr (6, [.ref d, .ref sh, .ref vw, .ref ta, .ref sa, .int (nI n)])), (sh, .inl (κ 4, 3, .inr (.inr (.inr (.inr fs))))), (vw, .inl (κ 5, 3, .inr (.inr (.inr (.inr fv))))), (ta, .inl (κ 0, 6, .inl fa)), (sa, .inl (κ 4, 6, .inr (.inr (.inr (.inr ga)))))] ++ im2__27) := subD (C := [(xx, .inr (11, [.ref st, .ref tp, .ref ft, .ref rd, .ref wr, .ref st2, .int zi])), (ta, .inl (κ 0, 6, .inl fa)), (sa, .inl (κ 4, 6, .inr (.inr (.inr (.inr ga))))), (st, .inr (6, [.ref d, .ref sh, .ref vw, .ref ta, .ref sa, .int (nI n)])), (sh, .inl (κ 4, 3, .inr (.inr (.inr (.inr fs))))), (vw, .inl (κ 5, 3, .inr (.inr (.inr (.inr fv)))))]) hD [0, 3, 4, 5, 1, 2] (by decide) rfl
            replace hp_29 : Sb im im2__27 ∧ ((r__26 = none) ∨ (∃ (q : Nat), ∃ (co : Nat), ∃ (ra : Nat), ∃ (mq : Nat), ∃ (ty : Nat), r__26 = some q ∧ Sp κ im2__27 q a_13 R_14 w_15 co ra mq ty)) := hp_29
            obtain ⟨h_30, ha_31⟩ := hp_29
            replace htb := htb.up h_30
            replace hss := hss.up h_30
            replace h_18 := h_18.up h_30
            replace h_19 := h_19.up h_30
            rcases ha_31 with rfl | ⟨q__32, co__33, ra__34, mq__35, ty__36, rfl, a_37⟩
            · refine W.eq (g2 := F0 m 21 ls [.null]) rfl ?_
              refine lv_astoreN (lv' := [(7, .null), (6, .null), (0, .ref xx), (1, .int (nI t)), (2, .int zb), (3, .int (nI t2)), (4, .int zd), (5, .int (nI t3))]) hx hb dX11_joined_21 hl (by decide) rfl (fun ls hl => ?_)
              refine lv_aloadN hx hb dX11_joined_23 (lv_at hl 1 rfl) ?_
              refine lv_ifnullN (tgt := 53) hx hb dX11_joined_25 (by decide) ?_
              refine lv_iconst (v := (-1)) hx hb dX11_joined_53 (by decide) ?_
              exact et_iret hx hb hr hlk rfl hS ((-1), n, fs, fv, fa, ga, im2__27) rfl ⟨(show n ≤ 6 from (by first | assumption | omega | rfl | exact Or.inl (by assumption) | exact Or.inr (by assumption))), (show Tb κ im2__27 fs fv 3 from htb), (show Rn 6 3 fa from (by first | assumption | omega | rfl | exact Or.inl (by assumption) | exact Or.inr (by assumption))), (show Ss κ im2__27 ga 6 from hss), (show Sb im im2__27 from h_30)⟩ (subP hP [0, 1, 2, 3, 4, 5] rfl) (subD hD [0, 1, 2, 3, 4, 5] (by decide) rfl) (Nat.le_of_ble_eq_true rfl) (Nat.le_of_ble_eq_true rfl) dX11_joined_54
            · refine W.eq (g2 := F0 m 21 ls [.ref q__32]) rfl ?_
              refine lv_astore (lv' := [(7, .ref q__32), (6, .null), (0, .ref xx), (1, .int (nI t)), (2, .int zb), (3, .int (nI t2)), (4, .int zd), (5, .int (nI t3))]) hx hb dX11_joined_21 hl (by decide) rfl (fun ls hl => ?_)
              refine lv_aloadN hx hb dX11_joined_23 (lv_at hl 1 rfl) ?_
              refine lv_ifnullN (tgt := 53) hx hb dX11_joined_25 (by decide) ?_
              refine lv_iconst (v := (-1)) hx hb dX11_joined_53 (by decide) ?_
              exact et_iret hx hb hr hlk rfl hS ((-1), n, fs, fv, fa, ga, im2__27) rfl ⟨(show n ≤ 6 from (by first | assumption | omega | rfl | exact Or.inl (by assumption) | exact Or.inr (by assumption))), (show Tb κ im2__27 fs fv 3 from htb), (show Rn 6 3 fa from (by first | assumption | omega | rfl | exact Or.inl (by assumption) | exact Or.inr (by assumption))), (show Ss κ im2__27 ga 6 from hss), (show Sb im im2__27 from h_30)⟩ (subP hP [0, 1, 2, 3, 4, 5] rfl) (subD hD [0, 1, 2, 3, 4, 5] (by decide) rfl) (Nat.le_of_ble_eq_true rfl) (Nat.le_of_ble_eq_true rfl) dX11_joined_54
          · skip
            refine lv_aload_n hx hb dX11_joined_0 rfl (lv_at hl 0 rfl) ?_
            refine va_get (D := D) (ci := 11) (v := .ref st) (C := RX11) (T := TX11) (N := 7) hx hb hts inlX11 hown hK hP 0 rfl rfl 0 (by decide) (hts _ mw_15) (fun _ h9 => h9) rfl dX11_joined_1 ?_
            refine lv_iload_n hx hb dX11_joined_4 rfl (lv_at hl 1 rfl) ?_
            refine lv_iload_n hx hb dX11_joined_5 rfl (lv_at hl 2 rfl) ?_
            refine er_V (As := [.int (nI t), .int zb]) (rest := []) hFX hKK hE hS (c_X6_stripOf_n l D κ κq st d sh vw ta sa n fs fv t zb (by omega) e_1 e_2) 2 gV_X11_189 hdV_X6_stripOf rfl rfl ⟨Nat.le_of_ble_eq_true rfl, Nat.le_of_ble_eq_true rfl⟩ rfl rfl (Nat.le_of_ble_eq_true rfl) dX11_joined_6 ⟨Nat.le_of_ble_eq_true rfl, Nat.le_of_ble_eq_true rfl⟩ hl.1 hP 1 6 rfl rfl rfl (subP0 hP [1, 2, 3] rfl) (fun _ hp_38 => ?_)
            refine W.eq (g2 := F0 m 9 ls [.null]) rfl ?_
            refine lv_astoreN (lv' := [(6, .null), (0, .ref xx), (1, .int (nI t)), (2, .int zb), (3, .int (nI t2)), (4, .int zd), (5, .int ze)]) hx hb dX11_joined_9 hl (by decide) rfl (fun ls hl => ?_)
            refine lv_aload_n hx hb dX11_joined_11 rfl (lv_at hl 1 rfl) ?_
            refine va_get (D := D) (ci := 11) (v := .ref st) (C := RX11) (T := TX11) (N := 7) hx hb hts inlX11 hown hK hP 0 rfl rfl 0 (by decide) (hts _ mw_15) (fun _ h9 => h9) rfl dX11_joined_12 ?_
            refine lv_iload_n hx hb dX11_joined_15 rfl (lv_at hl 4 rfl) ?_
            refine lv_iload hx hb dX11_joined_16 (lv_at hl 5 rfl) ?_
            refine et_VT (CR := [(xx, .inr (11, [.ref st, .ref tp, .ref ft, .ref rd, .ref wr, .ref st2, .int zi])), (ta, .inl (κ 0, 6, .inl fa)), (sa, .inl (κ 4, 6, .inr (.inr (.inr (.inr ga)))))]) (As := [.int (nI t2), .int zd]) (rest := []) hFX hKK hE hP hD hS hA (c_X6_stripOf_s l D κ κq im st d sh vw ta sa n fs fv t2 a_13 R_14 w_15 v_17 d_16 zd (by omega) e_11 e_12 h_18 h_19) 2 gV_X11_189 hdV_X6_stripOf ⟨Nat.le_of_ble_eq_true rfl, Nat.le_of_ble_eq_true rfl⟩ rfl rfl (Nat.le_of_ble_eq_true rfl) dX11_joined_18 ⟨Nat.le_of_ble_eq_true rfl, Nat.le_of_ble_eq_true rfl⟩ hl.1 [1, 2, 3] [0, 4, 5] rfl rfl (by decide) (by decide) (by decide) hP 1 6 rfl rfl rfl (fun u_41 H locs hp_42 hP hD hS => ?_)
            refine W.widen (k := 1) (n := 4) (Nat.le_refl _) (Nat.le_refl _) ?_
            obtain ⟨r__39, im2__40⟩ := u_41
            replace hP : va_P D vwCl ([(xx, .inr (11, [.ref st, .ref tp, .ref ft, .ref rd, .ref wr, .ref st2, .int zi])), (st, .inr (6, [.ref d, .ref sh, .ref vw, .ref ta, .ref sa, .int (nI n)])), (sh, .inl (κ 4, 3, .inr (.inr (.inr (.inr fs))))), (vw, .inl (κ 5, 3, .inr (.inr (.inr (.inr fv))))), (ta, .inl (κ 0, 6, .inl fa)), (sa, .inl (κ 4, 6, .inr (.inr (.inr (.inr ga)))))] ++ im2__40) H := subP (C := [(xx, .inr (11, [.ref st, .ref tp, .ref ft, .ref rd, .ref wr, .ref st2, .int zi])), (ta, .inl (κ 0, 6, .inl fa)), (sa, .inl (κ 4, 6, .inr (.inr (.inr (.inr ga))))), (st, .inr (6, [.ref d, .ref sh, .ref vw, .ref ta, .ref sa, .int (nI n)])), (sh, .inl (κ 4, 3, .inr (.inr (.inr (.inr fs))))), (vw, .inl (κ 5, 3, .inr (.inr (.inr (.inr fv)))))]) hP [0, 3, 4, 5, 1, 2] rfl
            replace hD : va_D A ([(xx, .inr (11, [.ref st, .ref tp, .ref ft, .ref rd, .ref wr, .ref st2, .int zi])), (st, .inr (6, [.ref d, .ref sh, .ref vw, .ref ta, .ref sa, .int (nI n)])), (sh, .inl (κ 4, 3, .inr (.inr (.inr (.inr fs))))), (vw, .inl (κ 5, 3, .inr (.inr (.inr (.inr fv))))), (ta, .inl (κ 0, 6, .inl fa)), (sa, .inl (κ 4, 6, .inr (.inr (.inr (.inr ga)))))] ++ im2__40) := subD (C := [(xx, .inr (11, [.ref st, .ref tp, .ref ft, .ref rd, .ref wr, .ref st2, .int zi])), (ta, .inl (κ 0, 6, .inl fa)), (sa, .inl (κ 4, 6, .inr (.inr (.inr (.inr ga))))), (st, .inr (6, [.ref d, .ref sh, .ref vw, .ref ta, .ref sa, .int (nI n)])), (sh, .inl (κ 4, 3, .inr (.inr (.inr (.inr fs))))), (vw, .inl (κ 5, 3, .inr (.inr (.inr (.inr fv)))))]) hD [0, 3, 4, 5, 1, 2] (by decide) rfl
            replace hp_42 : Sb im im2__40 ∧ ((r__39 = none) ∨ (∃ (q : Nat), ∃ (co : Nat), ∃ (ra : Nat), ∃ (mq : Nat), ∃ (ty : Nat), r__39 = some q ∧ Sp κ im2__40 q a_13 R_14 w_15 co ra mq ty)) := hp_42
            obtain ⟨h_43, ha_44⟩ := hp_42
            replace htb := htb.up h_43
            replace hss := hss.up h_43
            replace h_18 := h_18.up h_43
            replace h_19 := h_19.up h_43
            rcases ha_44 with rfl | ⟨q__45, co__46, ra__47, mq__48, ty__49, rfl, a_50⟩
            · refine W.eq (g2 := F0 m 21 ls [.null]) rfl ?_
              refine lv_astoreN (lv' := [(7, .null), (6, .null), (0, .ref xx), (1, .int (nI t)), (2, .int zb), (3, .int (nI t2)), (4, .int zd), (5, .int ze)]) hx hb dX11_joined_21 hl (by decide) rfl (fun ls hl => ?_)
              refine lv_aloadN hx hb dX11_joined_23 (lv_at hl 1 rfl) ?_
              refine lv_ifnullN (tgt := 53) hx hb dX11_joined_25 (by decide) ?_
              refine lv_iconst (v := (-1)) hx hb dX11_joined_53 (by decide) ?_
              exact et_iret hx hb hr hlk rfl hS ((-1), n, fs, fv, fa, ga, im2__40) rfl ⟨(show n ≤ 6 from (by first | assumption | omega | rfl | exact Or.inl (by assumption) | exact Or.inr (by assumption))), (show Tb κ im2__40 fs fv 3 from htb), (show Rn 6 3 fa from (by first | assumption | omega | rfl | exact Or.inl (by assumption) | exact Or.inr (by assumption))), (show Ss κ im2__40 ga 6 from hss), (show Sb im im2__40 from h_43)⟩ (subP hP [0, 1, 2, 3, 4, 5] rfl) (subD hD [0, 1, 2, 3, 4, 5] (by decide) rfl) (Nat.le_of_ble_eq_true rfl) (Nat.le_of_ble_eq_true rfl) dX11_joined_54
            · refine W.eq (g2 := F0 m 21 ls [.ref q__45]) rfl ?_
              refine lv_astore (lv' := [(7, .ref q__45), (6, .null), (0, .ref xx), (1, .int (nI t)), (2, .int zb), (3, .int (nI t2)), (4, .int zd), (5, .int ze)]) hx hb dX11_joined_21 hl (by decide) rfl (fun ls hl => ?_)
              refine lv_aloadN hx hb dX11_joined_23 (lv_at hl 1 rfl) ?_
              refine lv_ifnullN (tgt := 53) hx hb dX11_joined_25 (by decide) ?_
              refine lv_iconst (v := (-1)) hx hb dX11_joined_53 (by decide) ?_
              exact et_iret hx hb hr hlk rfl hS ((-1), n, fs, fv, fa, ga, im2__40) rfl ⟨(show n ≤ 6 from (by first | assumption | omega | rfl | exact Or.inl (by assumption) | exact Or.inr (by assumption))), (show Tb κ im2__40 fs fv 3 from htb), (show Rn 6 3 fa from (by first | assumption | omega | rfl | exact Or.inl (by assumption) | exact Or.inr (by assumption))), (show Ss κ im2__40 ga 6 from hss), (show Sb im im2__40 from h_43)⟩ (subP hP [0, 1, 2, 3, 4, 5] rfl) (subD hD [0, 1, 2, 3, 4, 5] (by decide) rfl) (Nat.le_of_ble_eq_true rfl) (Nat.le_of_ble_eq_true rfl) dX11_joined_54
      · skip
        rcases pl_cases ze with ⟨t3, ht_t3, rfl⟩ | hnp_ze
        · skip
          refine lv_aload_n hx hb dX11_joined_0 rfl (lv_at hl 0 rfl) ?_
          refine va_get (D := D) (ci := 11) (v := .ref st) (C := RX11) (T := TX11) (N := 7) hx hb hts inlX11 hown hK hP 0 rfl rfl 0 (by decide) (hts _ mw_15) (fun _ h9 => h9) rfl dX11_joined_1 ?_
          refine lv_iload_n hx hb dX11_joined_4 rfl (lv_at hl 1 rfl) ?_
          refine lv_iload_n hx hb dX11_joined_5 rfl (lv_at hl 2 rfl) ?_
          refine er_V (As := [.int (nI t), .int zb]) (rest := []) hFX hKK hE hS (c_X6_stripOf_n l D κ κq st d sh vw ta sa n fs fv t zb (by omega) e_1 e_2) 2 gV_X11_189 hdV_X6_stripOf rfl rfl ⟨Nat.le_of_ble_eq_true rfl, Nat.le_of_ble_eq_true rfl⟩ rfl rfl (Nat.le_of_ble_eq_true rfl) dX11_joined_6 ⟨Nat.le_of_ble_eq_true rfl, Nat.le_of_ble_eq_true rfl⟩ hl.1 hP 1 6 rfl rfl rfl (subP0 hP [1, 2, 3] rfl) (fun _ hp_51 => ?_)
          refine W.eq (g2 := F0 m 9 ls [.null]) rfl ?_
          refine lv_astoreN (lv' := [(6, .null), (0, .ref xx), (1, .int (nI t)), (2, .int zb), (3, .int zc), (4, .int zd), (5, .int (nI t3))]) hx hb dX11_joined_9 hl (by decide) rfl (fun ls hl => ?_)
          refine lv_aload_n hx hb dX11_joined_11 rfl (lv_at hl 1 rfl) ?_
          refine va_get (D := D) (ci := 11) (v := .ref st) (C := RX11) (T := TX11) (N := 7) hx hb hts inlX11 hown hK hP 0 rfl rfl 0 (by decide) (hts _ mw_15) (fun _ h9 => h9) rfl dX11_joined_12 ?_
          refine lv_iload_n hx hb dX11_joined_15 rfl (lv_at hl 4 rfl) ?_
          refine lv_iload hx hb dX11_joined_16 (lv_at hl 5 rfl) ?_
          refine er_V (As := [.int zc, .int zd]) (rest := []) hFX hKK hE hS (c_X6_stripOf_x l D κ κq st d sh vw ta sa n zc zd (by assumption)) 2 gV_X11_189 hdV_X6_stripOf rfl rfl ⟨Nat.le_of_ble_eq_true rfl, Nat.le_of_ble_eq_true rfl⟩ rfl rfl (Nat.le_of_ble_eq_true rfl) dX11_joined_18 ⟨Nat.le_of_ble_eq_true rfl, Nat.le_of_ble_eq_true rfl⟩ hl.1 hP 1 6 rfl rfl rfl (subP0 hP [1] rfl) (fun _ hp_52 => ?_)
          refine W.eq (g2 := F0 m 21 ls [.null]) rfl ?_
          refine lv_astoreN (lv' := [(7, .null), (6, .null), (0, .ref xx), (1, .int (nI t)), (2, .int zb), (3, .int zc), (4, .int zd), (5, .int (nI t3))]) hx hb dX11_joined_21 hl (by decide) rfl (fun ls hl => ?_)
          refine lv_aloadN hx hb dX11_joined_23 (lv_at hl 1 rfl) ?_
          refine lv_ifnullN (tgt := 53) hx hb dX11_joined_25 (by decide) ?_
          refine lv_iconst (v := (-1)) hx hb dX11_joined_53 (by decide) ?_
          exact et_iret hx hb hr hlk rfl hS ((-1), n, fs, fv, fa, ga, im) rfl ⟨(show n ≤ 6 from (by first | assumption | omega | rfl | exact Or.inl (by assumption) | exact Or.inr (by assumption))), (show Tb κ im fs fv 3 from htb), (show Rn 6 3 fa from (by first | assumption | omega | rfl | exact Or.inl (by assumption) | exact Or.inr (by assumption))), (show Ss κ im ga 6 from hss), (show Sb im im from Sb.rf)⟩ (subP hP [0, 1, 2, 3, 4, 5] rfl) (subD hD [0, 1, 2, 3, 4, 5] (by decide) rfl) (Nat.le_of_ble_eq_true rfl) (Nat.le_of_ble_eq_true rfl) dX11_joined_54
        · skip
          refine lv_aload_n hx hb dX11_joined_0 rfl (lv_at hl 0 rfl) ?_
          refine va_get (D := D) (ci := 11) (v := .ref st) (C := RX11) (T := TX11) (N := 7) hx hb hts inlX11 hown hK hP 0 rfl rfl 0 (by decide) (hts _ mw_15) (fun _ h9 => h9) rfl dX11_joined_1 ?_
          refine lv_iload_n hx hb dX11_joined_4 rfl (lv_at hl 1 rfl) ?_
          refine lv_iload_n hx hb dX11_joined_5 rfl (lv_at hl 2 rfl) ?_
          refine er_V (As := [.int (nI t), .int zb]) (rest := []) hFX hKK hE hS (c_X6_stripOf_n l D κ κq st d sh vw ta sa n fs fv t zb (by omega) e_1 e_2) 2 gV_X11_189 hdV_X6_stripOf rfl rfl ⟨Nat.le_of_ble_eq_true rfl, Nat.le_of_ble_eq_true rfl⟩ rfl rfl (Nat.le_of_ble_eq_true rfl) dX11_joined_6 ⟨Nat.le_of_ble_eq_true rfl, Nat.le_of_ble_eq_true rfl⟩ hl.1 hP 1 6 rfl rfl rfl (subP0 hP [1, 2, 3] rfl) (fun _ hp_53 => ?_)
          refine W.eq (g2 := F0 m 9 ls [.null]) rfl ?_
          refine lv_astoreN (lv' := [(6, .null), (0, .ref xx), (1, .int (nI t)), (2, .int zb), (3, .int zc), (4, .int zd), (5, .int ze)]) hx hb dX11_joined_9 hl (by decide) rfl (fun ls hl => ?_)
          refine lv_aload_n hx hb dX11_joined_11 rfl (lv_at hl 1 rfl) ?_
          refine va_get (D := D) (ci := 11) (v := .ref st) (C := RX11) (T := TX11) (N := 7) hx hb hts inlX11 hown hK hP 0 rfl rfl 0 (by decide) (hts _ mw_15) (fun _ h9 => h9) rfl dX11_joined_12 ?_
          refine lv_iload_n hx hb dX11_joined_15 rfl (lv_at hl 4 rfl) ?_
          refine lv_iload hx hb dX11_joined_16 (lv_at hl 5 rfl) ?_
          refine er_V (As := [.int zc, .int zd]) (rest := []) hFX hKK hE hS (c_X6_stripOf_x l D κ κq st d sh vw ta sa n zc zd (by assumption)) 2 gV_X11_189 hdV_X6_stripOf rfl rfl ⟨Nat.le_of_ble_eq_true rfl, Nat.le_of_ble_eq_true rfl⟩ rfl rfl (Nat.le_of_ble_eq_true rfl) dX11_joined_18 ⟨Nat.le_of_ble_eq_true rfl, Nat.le_of_ble_eq_true rfl⟩ hl.1 hP 1 6 rfl rfl rfl (subP0 hP [1] rfl) (fun _ hp_54 => ?_)
          refine W.eq (g2 := F0 m 21 ls [.null]) rfl ?_
          refine lv_astoreN (lv' := [(7, .null), (6, .null), (0, .ref xx), (1, .int (nI t)), (2, .int zb), (3, .int zc), (4, .int zd), (5, .int ze)]) hx hb dX11_joined_21 hl (by decide) rfl (fun ls hl => ?_)
          refine lv_aloadN hx hb dX11_joined_23 (lv_at hl 1 rfl) ?_
          refine lv_ifnullN (tgt := 53) hx hb dX11_joined_25 (by decide) ?_
          refine lv_iconst (v := (-1)) hx hb dX11_joined_53 (by decide) ?_
          exact et_iret hx hb hr hlk rfl hS ((-1), n, fs, fv, fa, ga, im) rfl ⟨(show n ≤ 6 from (by first | assumption | omega | rfl | exact Or.inl (by assumption) | exact Or.inr (by assumption))), (show Tb κ im fs fv 3 from htb), (show Rn 6 3 fa from (by first | assumption | omega | rfl | exact Or.inl (by assumption) | exact Or.inr (by assumption))), (show Ss κ im ga 6 from hss), (show Sb im im from Sb.rf)⟩ (subP hP [0, 1, 2, 3, 4, 5] rfl) (subD hD [0, 1, 2, 3, 4, 5] (by decide) rfl) (Nat.le_of_ble_eq_true rfl) (Nat.le_of_ble_eq_true rfl) dX11_joined_54
    · have hle_a_3 := h_8.le
      rcases pl_cases zc with ⟨t2, ht_t2, rfl⟩ | hnp_zc
      · skip
        rcases htb t2 (by omega) with ⟨e_55, e_56⟩ | ⟨a_57, R_58, w_59, d_60, v_61, e_55, e_56, h_62, h_63, hd_64⟩
        · skip
          rcases pl_cases ze with ⟨t3, ht_t3, rfl⟩ | hnp_ze
          · skip
            refine lv_aload_n hx hb dX11_joined_0 rfl (lv_at hl 0 rfl) ?_
            refine va_get (D := D) (ci := 11) (v := .ref st) (C := RX11) (T := TX11) (N := 7) hx hb hts inlX11 hown hK hP 0 rfl rfl 0 (by decide) (hts _ mw_15) (fun _ h9 => h9) rfl dX11_joined_1 ?_
            refine lv_iload_n hx hb dX11_joined_4 rfl (lv_at hl 1 rfl) ?_
            refine lv_iload_n hx hb dX11_joined_5 rfl (lv_at hl 2 rfl) ?_
            refine et_VT (CR := [(xx, .inr (11, [.ref st, .ref tp, .ref ft, .ref rd, .ref wr, .ref st2, .int zi])), (ta, .inl (κ 0, 6, .inl fa)), (sa, .inl (κ 4, 6, .inr (.inr (.inr (.inr ga)))))]) (As := [.int (nI t), .int zb]) (rest := []) hFX hKK hE hP hD hS hA (c_X6_stripOf_s l D κ κq im st d sh vw ta sa n fs fv t a_3 R_4 w_5 v_7 d_6 zb (by omega) e_1 e_2 h_8 h_9) 2 gV_X11_189 hdV_X6_stripOf ⟨Nat.le_of_ble_eq_true rfl, Nat.le_of_ble_eq_true rfl⟩ rfl rfl (Nat.le_of_ble_eq_true rfl) dX11_joined_6 ⟨Nat.le_of_ble_eq_true rfl, Nat.le_of_ble_eq_true rfl⟩ hl.1 [1, 2, 3] [0, 4, 5] rfl rfl (by decide) (by decide) (by decide) hP 1 6 rfl rfl rfl (fun u_67 H locs hp_68 hP hD hS => ?_)
            refine W.widen (k := 1) (n := 4) (Nat.le_refl _) (Nat.le_refl _) ?_
            obtain ⟨r__65, im2__66⟩ := u_67
            replace hP : va_P D vwCl ([(xx, .inr (11, [.ref st, .ref tp, .ref ft, .ref rd, .ref wr, .ref st2, .int zi])), (st, .inr (6, [.ref d, .ref sh, .ref vw, .ref ta, .ref sa, .int (nI n)])), (sh, .inl (κ 4, 3, .inr (.inr (.inr (.inr fs))))), (vw, .inl (κ 5, 3, .inr (.inr (.inr (.inr fv))))), (ta, .inl (κ 0, 6, .inl fa)), (sa, .inl (κ 4, 6, .inr (.inr (.inr (.inr ga)))))] ++ im2__66) H := subP (C := [(xx, .inr (11, [.ref st, .ref tp, .ref ft, .ref rd, .ref wr, .ref st2, .int zi])), (ta, .inl (κ 0, 6, .inl fa)), (sa, .inl (κ 4, 6, .inr (.inr (.inr (.inr ga))))), (st, .inr (6, [.ref d, .ref sh, .ref vw, .ref ta, .ref sa, .int (nI n)])), (sh, .inl (κ 4, 3, .inr (.inr (.inr (.inr fs))))), (vw, .inl (κ 5, 3, .inr (.inr (.inr (.inr fv)))))]) hP [0, 3, 4, 5, 1, 2] rfl
            replace hD : va_D A ([(xx, .inr (11, [.ref st, .ref tp, .ref ft, .ref rd, .ref wr, .ref st2, .int zi])), (st, .inr (6, [.ref d, .ref sh, .ref vw, .ref ta, .ref sa, .int (nI n)])), (sh, .inl (κ 4, 3, .inr (.inr (.inr (.inr fs))))), (vw, .inl (κ 5, 3, .inr (.inr (.inr (.inr fv))))), (ta, .inl (κ 0, 6, .inl fa)), (sa, .inl (κ 4, 6, .inr (.inr (.inr (.inr ga)))))] ++ im2__66) := subD (C := [(xx, .inr (11, [.ref st, .ref tp, .ref ft, .ref rd, .ref wr, .ref st2, .int zi])), (ta, .inl (κ 0, 6, .inl fa)), (sa, .inl (κ 4, 6, .inr (.inr (.inr (.inr ga))))), (st, .inr (6, [.ref d, .ref sh, .ref vw, .ref ta, .ref sa, .int (nI n)])), (sh, .inl (κ 4, 3, .inr (.inr (.inr (.inr fs))))), (vw, .inl (κ 5, 3, .inr (.inr (.inr (.inr fv)))))]) hD [0, 3, 4, 5, 1, 2] (by decide) rfl
            replace hp_68 : Sb im im2__66 ∧ ((r__65 = none) ∨ (∃ (q : Nat), ∃ (co : Nat), ∃ (ra : Nat), ∃ (mq : Nat), ∃ (ty : Nat), r__65 = some q ∧ Sp κ im2__66 q a_3 R_4 w_5 co ra mq ty)) := hp_68
            obtain ⟨h_69, ha_70⟩ := hp_68
            replace htb := htb.up h_69
            replace hss := hss.up h_69
            replace h_8 := h_8.up h_69
            replace h_9 := h_9.up h_69
            rcases ha_70 with rfl | ⟨q__71, co__72, ra__73, mq__74, ty__75, rfl, a_76⟩
            · refine W.eq (g2 := F0 m 9 ls [.null]) rfl ?_
              refine lv_astoreN (lv' := [(6, .null), (0, .ref xx), (1, .int (nI t)), (2, .int zb), (3, .int (nI t2)), (4, .int zd), (5, .int (nI t3))]) hx hb dX11_joined_9 hl (by decide) rfl (fun ls hl => ?_)
              refine lv_aload_n hx hb dX11_joined_11 rfl (lv_at hl 1 rfl) ?_
              refine va_get (D := D) (ci := 11) (v := .ref st) (C := RX11) (T := TX11) (N := 7) hx hb hts inlX11 hown hK hP 0 rfl rfl 0 (by decide) (hts _ mw_15) (fun _ h9 => h9) rfl dX11_joined_12 ?_
              refine lv_iload_n hx hb dX11_joined_15 rfl (lv_at hl 4 rfl) ?_
              refine lv_iload hx hb dX11_joined_16 (lv_at hl 5 rfl) ?_
              refine er_V (As := [.int (nI t2), .int zd]) (rest := []) hFX hKK hE hS (c_X6_stripOf_n l D κ κq st d sh vw ta sa n fs fv t2 zd (by omega) e_55 e_56) 2 gV_X11_189 hdV_X6_stripOf rfl rfl ⟨Nat.le_of_ble_eq_true rfl, Nat.le_of_ble_eq_true rfl⟩ rfl rfl (Nat.le_of_ble_eq_true rfl) dX11_joined_18 ⟨Nat.le_of_ble_eq_true rfl, Nat.le_of_ble_eq_true rfl⟩ hl.1 hP 1 6 rfl rfl rfl (subP0 hP [1, 2, 3] rfl) (fun _ hp_77 => ?_)
              refine W.eq (g2 := F0 m 21 ls [.null]) rfl ?_
              refine lv_astoreN (lv' := [(7, .null), (6, .null), (0, .ref xx), (1, .int (nI t)), (2, .int zb), (3, .int (nI t2)), (4, .int zd), (5, .int (nI t3))]) hx hb dX11_joined_21 hl (by decide) rfl (fun ls hl => ?_)
              refine lv_aloadN hx hb dX11_joined_23 (lv_at hl 1 rfl) ?_
              refine lv_ifnullN (tgt := 53) hx hb dX11_joined_25 (by decide) ?_
              refine lv_iconst (v := (-1)) hx hb dX11_joined_53 (by decide) ?_
              exact et_iret hx hb hr hlk rfl hS ((-1), n, fs, fv, fa, ga, im2__66) rfl ⟨(show n ≤ 6 from (by first | assumption | omega | rfl | exact Or.inl (by assumption) | exact Or.inr (by assumption))), (show Tb κ im2__66 fs fv 3 from htb), (show Rn 6 3 fa from (by first | assumption | omega | rfl | exact Or.inl (by assumption) | exact Or.inr (by assumption))), (show Ss κ im2__66 ga 6 from hss), (show Sb im im2__66 from h_69)⟩ (subP hP [0, 1, 2, 3, 4, 5] rfl) (subD hD [0, 1, 2, 3, 4, 5] (by decide) rfl) (Nat.le_of_ble_eq_true rfl) (Nat.le_of_ble_eq_true rfl) dX11_joined_54
            · refine W.eq (g2 := F0 m 9 ls [.ref q__71]) rfl ?_
              refine lv_astore (lv' := [(6, .ref q__71), (0, .ref xx), (1, .int (nI t)), (2, .int zb), (3, .int (nI t2)), (4, .int zd), (5, .int (nI t3))]) hx hb dX11_joined_9 hl (by decide) rfl (fun ls hl => ?_)
              refine lv_aload_n hx hb dX11_joined_11 rfl (lv_at hl 1 rfl) ?_
              refine va_get (D := D) (ci := 11) (v := .ref st) (C := RX11) (T := TX11) (N := 7) hx hb hts inlX11 hown hK hP 0 rfl rfl 0 (by decide) (hts _ mw_15) (fun _ h9 => h9) rfl dX11_joined_12 ?_
              refine lv_iload_n hx hb dX11_joined_15 rfl (lv_at hl 4 rfl) ?_
              refine lv_iload hx hb dX11_joined_16 (lv_at hl 5 rfl) ?_
              refine er_V (As := [.int (nI t2), .int zd]) (rest := []) hFX hKK hE hS (c_X6_stripOf_n l D κ κq st d sh vw ta sa n fs fv t2 zd (by omega) e_55 e_56) 2 gV_X11_189 hdV_X6_stripOf rfl rfl ⟨Nat.le_of_ble_eq_true rfl, Nat.le_of_ble_eq_true rfl⟩ rfl rfl (Nat.le_of_ble_eq_true rfl) dX11_joined_18 ⟨Nat.le_of_ble_eq_true rfl, Nat.le_of_ble_eq_true rfl⟩ hl.1 hP 1 6 rfl rfl rfl (subP0 hP [1, 2, 3] rfl) (fun _ hp_78 => ?_)
              refine W.eq (g2 := F0 m 21 ls [.null]) rfl ?_
              refine lv_astoreN (lv' := [(7, .null), (6, .ref q__71), (0, .ref xx), (1, .int (nI t)), (2, .int zb), (3, .int (nI t2)), (4, .int zd), (5, .int (nI t3))]) hx hb dX11_joined_21 hl (by decide) rfl (fun ls hl => ?_)
              refine lv_aload hx hb dX11_joined_23 (lv_at hl 1 rfl) ?_
              refine lv_ifnull hx hb dX11_joined_25 ?_
              refine lv_aloadN hx hb dX11_joined_28 (lv_at hl 0 rfl) ?_
              refine lv_ifnullN (tgt := 53) hx hb dX11_joined_30 (by decide) ?_
              refine lv_iconst (v := (-1)) hx hb dX11_joined_53 (by decide) ?_
              exact et_iret hx hb hr hlk rfl hS ((-1), n, fs, fv, fa, ga, im2__66) rfl ⟨(show n ≤ 6 from (by first | assumption | omega | rfl | exact Or.inl (by assumption) | exact Or.inr (by assumption))), (show Tb κ im2__66 fs fv 3 from htb), (show Rn 6 3 fa from (by first | assumption | omega | rfl | exact Or.inl (by assumption) | exact Or.inr (by assumption))), (show Ss κ im2__66 ga 6 from hss), (show Sb im im2__66 from h_69)⟩ (subP hP [0, 1, 2, 3, 4, 5] rfl) (subD hD [0, 1, 2, 3, 4, 5] (by decide) rfl) (Nat.le_of_ble_eq_true rfl) (Nat.le_of_ble_eq_true rfl) dX11_joined_54
          · skip
            refine lv_aload_n hx hb dX11_joined_0 rfl (lv_at hl 0 rfl) ?_
            refine va_get (D := D) (ci := 11) (v := .ref st) (C := RX11) (T := TX11) (N := 7) hx hb hts inlX11 hown hK hP 0 rfl rfl 0 (by decide) (hts _ mw_15) (fun _ h9 => h9) rfl dX11_joined_1 ?_
            refine lv_iload_n hx hb dX11_joined_4 rfl (lv_at hl 1 rfl) ?_
            refine lv_iload_n hx hb dX11_joined_5 rfl (lv_at hl 2 rfl) ?_
            refine et_VT (CR := [(xx, .inr (11, [.ref st, .ref tp, .ref ft, .ref rd, .ref wr, .ref st2, .int zi])), (ta, .inl (κ 0, 6, .inl fa)), (sa, .inl (κ 4, 6, .inr (.inr (.inr (.inr ga)))))]) (As := [.int (nI t), .int zb]) (rest := []) hFX hKK hE hP hD hS hA (c_X6_stripOf_s l D κ κq im st d sh vw ta sa n fs fv t a_3 R_4 w_5 v_7 d_6 zb (by omega) e_1 e_2 h_8 h_9) 2 gV_X11_189 hdV_X6_stripOf ⟨Nat.le_of_ble_eq_true rfl, Nat.le_of_ble_eq_true rfl⟩ rfl rfl (Nat.le_of_ble_eq_true rfl) dX11_joined_6 ⟨Nat.le_of_ble_eq_true rfl, Nat.le_of_ble_eq_true rfl⟩ hl.1 [1, 2, 3] [0, 4, 5] rfl rfl (by decide) (by decide) (by decide) hP 1 6 rfl rfl rfl (fun u_81 H locs hp_82 hP hD hS => ?_)
            refine W.widen (k := 1) (n := 4) (Nat.le_refl _) (Nat.le_refl _) ?_
            obtain ⟨r__79, im2__80⟩ := u_81
            replace hP : va_P D vwCl ([(xx, .inr (11, [.ref st, .ref tp, .ref ft, .ref rd, .ref wr, .ref st2, .int zi])), (st, .inr (6, [.ref d, .ref sh, .ref vw, .ref ta, .ref sa, .int (nI n)])), (sh, .inl (κ 4, 3, .inr (.inr (.inr (.inr fs))))), (vw, .inl (κ 5, 3, .inr (.inr (.inr (.inr fv))))), (ta, .inl (κ 0, 6, .inl fa)), (sa, .inl (κ 4, 6, .inr (.inr (.inr (.inr ga)))))] ++ im2__80) H := subP (C := [(xx, .inr (11, [.ref st, .ref tp, .ref ft, .ref rd, .ref wr, .ref st2, .int zi])), (ta, .inl (κ 0, 6, .inl fa)), (sa, .inl (κ 4, 6, .inr (.inr (.inr (.inr ga))))), (st, .inr (6, [.ref d, .ref sh, .ref vw, .ref ta, .ref sa, .int (nI n)])), (sh, .inl (κ 4, 3, .inr (.inr (.inr (.inr fs))))), (vw, .inl (κ 5, 3, .inr (.inr (.inr (.inr fv)))))]) hP [0, 3, 4, 5, 1, 2] rfl
            replace hD : va_D A ([(xx, .inr (11, [.ref st, .ref tp, .ref ft, .ref rd, .ref wr, .ref st2, .int zi])), (st, .inr (6, [.ref d, .ref sh, .ref vw, .ref ta, .ref sa, .int (nI n)])), (sh, .inl (κ 4, 3, .inr (.inr (.inr (.inr fs))))), (vw, .inl (κ 5, 3, .inr (.inr (.inr (.inr fv))))), (ta, .inl (κ 0, 6, .inl fa)), (sa, .inl (κ 4, 6, .inr (.inr (.inr (.inr ga)))))] ++ im2__80) := subD (C := [(xx, .inr (11, [.ref st, .ref tp, .ref ft, .ref rd, .ref wr, .ref st2, .int zi])), (ta, .inl (κ 0, 6, .inl fa)), (sa, .inl (κ 4, 6, .inr (.inr (.inr (.inr ga))))), (st, .inr (6, [.ref d, .ref sh, .ref vw, .ref ta, .ref sa, .int (nI n)])), (sh, .inl (κ 4, 3, .inr (.inr (.inr (.inr fs))))), (vw, .inl (κ 5, 3, .inr (.inr (.inr (.inr fv)))))]) hD [0, 3, 4, 5, 1, 2] (by decide) rfl
            replace hp_82 : Sb im im2__80 ∧ ((r__79 = none) ∨ (∃ (q : Nat), ∃ (co : Nat), ∃ (ra : Nat), ∃ (mq : Nat), ∃ (ty : Nat), r__79 = some q ∧ Sp κ im2__80 q a_3 R_4 w_5 co ra mq ty)) := hp_82
            obtain ⟨h_83, ha_84⟩ := hp_82
            replace htb := htb.up h_83
            replace hss := hss.up h_83
            replace h_8 := h_8.up h_83
            replace h_9 := h_9.up h_83
            rcases ha_84 with rfl | ⟨q__85, co__86, ra__87, mq__88, ty__89, rfl, a_90⟩
            · refine W.eq (g2 := F0 m 9 ls [.null]) rfl ?_
              refine lv_astoreN (lv' := [(6, .null), (0, .ref xx), (1, .int (nI t)), (2, .int zb), (3, .int (nI t2)), (4, .int zd), (5, .int ze)]) hx hb dX11_joined_9 hl (by decide) rfl (fun ls hl => ?_)
              refine lv_aload_n hx hb dX11_joined_11 rfl (lv_at hl 1 rfl) ?_
              refine va_get (D := D) (ci := 11) (v := .ref st) (C := RX11) (T := TX11) (N := 7) hx hb hts inlX11 hown hK hP 0 rfl rfl 0 (by decide) (hts _ mw_15) (fun _ h9 => h9) rfl dX11_joined_12 ?_
              refine lv_iload_n hx hb dX11_joined_15 rfl (lv_at hl 4 rfl) ?_
              refine lv_iload hx hb dX11_joined_16 (lv_at hl 5 rfl) ?_
              refine er_V (As := [.int (nI t2), .int zd]) (rest := []) hFX hKK hE hS (c_X6_stripOf_n l D κ κq st d sh vw ta sa n fs fv t2 zd (by omega) e_55 e_56) 2 gV_X11_189 hdV_X6_stripOf rfl rfl ⟨Nat.le_of_ble_eq_true rfl, Nat.le_of_ble_eq_true rfl⟩ rfl rfl (Nat.le_of_ble_eq_true rfl) dX11_joined_18 ⟨Nat.le_of_ble_eq_true rfl, Nat.le_of_ble_eq_true rfl⟩ hl.1 hP 1 6 rfl rfl rfl (subP0 hP [1, 2, 3] rfl) (fun _ hp_91 => ?_)
              refine W.eq (g2 := F0 m 21 ls [.null]) rfl ?_
              refine lv_astoreN (lv' := [(7, .null), (6, .null), (0, .ref xx), (1, .int (nI t)), (2, .int zb), (3, .int (nI t2)), (4, .int zd), (5, .int ze)]) hx hb dX11_joined_21 hl (by decide) rfl (fun ls hl => ?_)
              refine lv_aloadN hx hb dX11_joined_23 (lv_at hl 1 rfl) ?_
              refine lv_ifnullN (tgt := 53) hx hb dX11_joined_25 (by decide) ?_
              refine lv_iconst (v := (-1)) hx hb dX11_joined_53 (by decide) ?_
              exact et_iret hx hb hr hlk rfl hS ((-1), n, fs, fv, fa, ga, im2__80) rfl ⟨(show n ≤ 6 from (by first | assumption | omega | rfl | exact Or.inl (by assumption) | exact Or.inr (by assumption))), (show Tb κ im2__80 fs fv 3 from htb), (show Rn 6 3 fa from (by first | assumption | omega | rfl | exact Or.inl (by assumption) | exact Or.inr (by assumption))), (show Ss κ im2__80 ga 6 from hss), (show Sb im im2__80 from h_83)⟩ (subP hP [0, 1, 2, 3, 4, 5] rfl) (subD hD [0, 1, 2, 3, 4, 5] (by decide) rfl) (Nat.le_of_ble_eq_true rfl) (Nat.le_of_ble_eq_true rfl) dX11_joined_54
            · refine W.eq (g2 := F0 m 9 ls [.ref q__85]) rfl ?_
              refine lv_astore (lv' := [(6, .ref q__85), (0, .ref xx), (1, .int (nI t)), (2, .int zb), (3, .int (nI t2)), (4, .int zd), (5, .int ze)]) hx hb dX11_joined_9 hl (by decide) rfl (fun ls hl => ?_)
              refine lv_aload_n hx hb dX11_joined_11 rfl (lv_at hl 1 rfl) ?_
              refine va_get (D := D) (ci := 11) (v := .ref st) (C := RX11) (T := TX11) (N := 7) hx hb hts inlX11 hown hK hP 0 rfl rfl 0 (by decide) (hts _ mw_15) (fun _ h9 => h9) rfl dX11_joined_12 ?_
              refine lv_iload_n hx hb dX11_joined_15 rfl (lv_at hl 4 rfl) ?_
              refine lv_iload hx hb dX11_joined_16 (lv_at hl 5 rfl) ?_
              refine er_V (As := [.int (nI t2), .int zd]) (rest := []) hFX hKK hE hS (c_X6_stripOf_n l D κ κq st d sh vw ta sa n fs fv t2 zd (by omega) e_55 e_56) 2 gV_X11_189 hdV_X6_stripOf rfl rfl ⟨Nat.le_of_ble_eq_true rfl, Nat.le_of_ble_eq_true rfl⟩ rfl rfl (Nat.le_of_ble_eq_true rfl) dX11_joined_18 ⟨Nat.le_of_ble_eq_true rfl, Nat.le_of_ble_eq_true rfl⟩ hl.1 hP 1 6 rfl rfl rfl (subP0 hP [1, 2, 3] rfl) (fun _ hp_92 => ?_)
              refine W.eq (g2 := F0 m 21 ls [.null]) rfl ?_
              refine lv_astoreN (lv' := [(7, .null), (6, .ref q__85), (0, .ref xx), (1, .int (nI t)), (2, .int zb), (3, .int (nI t2)), (4, .int zd), (5, .int ze)]) hx hb dX11_joined_21 hl (by decide) rfl (fun ls hl => ?_)
              refine lv_aload hx hb dX11_joined_23 (lv_at hl 1 rfl) ?_
              refine lv_ifnull hx hb dX11_joined_25 ?_
              refine lv_aloadN hx hb dX11_joined_28 (lv_at hl 0 rfl) ?_
              refine lv_ifnullN (tgt := 53) hx hb dX11_joined_30 (by decide) ?_
              refine lv_iconst (v := (-1)) hx hb dX11_joined_53 (by decide) ?_
              exact et_iret hx hb hr hlk rfl hS ((-1), n, fs, fv, fa, ga, im2__80) rfl ⟨(show n ≤ 6 from (by first | assumption | omega | rfl | exact Or.inl (by assumption) | exact Or.inr (by assumption))), (show Tb κ im2__80 fs fv 3 from htb), (show Rn 6 3 fa from (by first | assumption | omega | rfl | exact Or.inl (by assumption) | exact Or.inr (by assumption))), (show Ss κ im2__80 ga 6 from hss), (show Sb im im2__80 from h_83)⟩ (subP hP [0, 1, 2, 3, 4, 5] rfl) (subD hD [0, 1, 2, 3, 4, 5] (by decide) rfl) (Nat.le_of_ble_eq_true rfl) (Nat.le_of_ble_eq_true rfl) dX11_joined_54
        · have hle_a_57 := h_62.le
          rcases pl_cases ze with ⟨t3, ht_t3, rfl⟩ | hnp_ze
          · skip
            refine lv_aload_n hx hb dX11_joined_0 rfl (lv_at hl 0 rfl) ?_
            refine va_get (D := D) (ci := 11) (v := .ref st) (C := RX11) (T := TX11) (N := 7) hx hb hts inlX11 hown hK hP 0 rfl rfl 0 (by decide) (hts _ mw_15) (fun _ h9 => h9) rfl dX11_joined_1 ?_
            refine lv_iload_n hx hb dX11_joined_4 rfl (lv_at hl 1 rfl) ?_
            refine lv_iload_n hx hb dX11_joined_5 rfl (lv_at hl 2 rfl) ?_
            refine et_VT (CR := [(xx, .inr (11, [.ref st, .ref tp, .ref ft, .ref rd, .ref wr, .ref st2, .int zi])), (ta, .inl (κ 0, 6, .inl fa)), (sa, .inl (κ 4, 6, .inr (.inr (.inr (.inr ga)))))]) (As := [.int (nI t), .int zb]) (rest := []) hFX hKK hE hP hD hS hA (c_X6_stripOf_s l D κ κq im st d sh vw ta sa n fs fv t a_3 R_4 w_5 v_7 d_6 zb (by omega) e_1 e_2 h_8 h_9) 2 gV_X11_189 hdV_X6_stripOf ⟨Nat.le_of_ble_eq_true rfl, Nat.le_of_ble_eq_true rfl⟩ rfl rfl (Nat.le_of_ble_eq_true rfl) dX11_joined_6 ⟨Nat.le_of_ble_eq_true rfl, Nat.le_of_ble_eq_true rfl⟩ hl.1 [1, 2, 3] [0, 4, 5] rfl rfl (by decide) (by decide) (by decide) hP 1 6 rfl rfl rfl (fun u_95 H locs hp_96 hP hD hS => ?_)
            refine W.widen (k := 1) (n := 4) (Nat.le_refl _) (Nat.le_refl _) ?_
            obtain ⟨r__93, im2__94⟩ := u_95
            replace hP : va_P D vwCl ([(xx, .inr (11, [.ref st, .ref tp, .ref ft, .ref rd, .ref wr, .ref st2, .int zi])), (st, .inr (6, [.ref d, .ref sh, .ref vw, .ref ta, .ref sa, .int (nI n)])), (sh, .inl (κ 4, 3, .inr (.inr (.inr (.inr fs))))), (vw, .inl (κ 5, 3, .inr (.inr (.inr (.inr fv))))), (ta, .inl (κ 0, 6, .inl fa)), (sa, .inl (κ 4, 6, .inr (.inr (.inr (.inr ga)))))] ++ im2__94) H := subP (C := [(xx, .inr (11, [.ref st, .ref tp, .ref ft, .ref rd, .ref wr, .ref st2, .int zi])), (ta, .inl (κ 0, 6, .inl fa)), (sa, .inl (κ 4, 6, .inr (.inr (.inr (.inr ga))))), (st, .inr (6, [.ref d, .ref sh, .ref vw, .ref ta, .ref sa, .int (nI n)])), (sh, .inl (κ 4, 3, .inr (.inr (.inr (.inr fs))))), (vw, .inl (κ 5, 3, .inr (.inr (.inr (.inr fv)))))]) hP [0, 3, 4, 5, 1, 2] rfl
            replace hD : va_D A ([(xx, .inr (11, [.ref st, .ref tp, .ref ft, .ref rd, .ref wr, .ref st2, .int zi])), (st, .inr (6, [.ref d, .ref sh, .ref vw, .ref ta, .ref sa, .int (nI n)])), (sh, .inl (κ 4, 3, .inr (.inr (.inr (.inr fs))))), (vw, .inl (κ 5, 3, .inr (.inr (.inr (.inr fv))))), (ta, .inl (κ 0, 6, .inl fa)), (sa, .inl (κ 4, 6, .inr (.inr (.inr (.inr ga)))))] ++ im2__94) := subD (C := [(xx, .inr (11, [.ref st, .ref tp, .ref ft, .ref rd, .ref wr, .ref st2, .int zi])), (ta, .inl (κ 0, 6, .inl fa)), (sa, .inl (κ 4, 6, .inr (.inr (.inr (.inr ga))))), (st, .inr (6, [.ref d, .ref sh, .ref vw, .ref ta, .ref sa, .int (nI n)])), (sh, .inl (κ 4, 3, .inr (.inr (.inr (.inr fs))))), (vw, .inl (κ 5, 3, .inr (.inr (.inr (.inr fv)))))]) hD [0, 3, 4, 5, 1, 2] (by decide) rfl
            replace hp_96 : Sb im im2__94 ∧ ((r__93 = none) ∨ (∃ (q : Nat), ∃ (co : Nat), ∃ (ra : Nat), ∃ (mq : Nat), ∃ (ty : Nat), r__93 = some q ∧ Sp κ im2__94 q a_3 R_4 w_5 co ra mq ty)) := hp_96
            obtain ⟨h_97, ha_98⟩ := hp_96
            replace htb := htb.up h_97
            replace hss := hss.up h_97
            replace h_8 := h_8.up h_97
            replace h_9 := h_9.up h_97
            replace h_62 := h_62.up h_97
            replace h_63 := h_63.up h_97
            rcases ha_98 with rfl | ⟨q__99, co__100, ra__101, mq__102, ty__103, rfl, a_104⟩
            · refine W.eq (g2 := F0 m 9 ls [.null]) rfl ?_
              refine lv_astoreN (lv' := [(6, .null), (0, .ref xx), (1, .int (nI t)), (2, .int zb), (3, .int (nI t2)), (4, .int zd), (5, .int (nI t3))]) hx hb dX11_joined_9 hl (by decide) rfl (fun ls hl => ?_)
              refine lv_aload_n hx hb dX11_joined_11 rfl (lv_at hl 1 rfl) ?_
              refine va_get (D := D) (ci := 11) (v := .ref st) (C := RX11) (T := TX11) (N := 7) hx hb hts inlX11 hown hK hP 0 rfl rfl 0 (by decide) (hts _ mw_15) (fun _ h9 => h9) rfl dX11_joined_12 ?_
              refine lv_iload_n hx hb dX11_joined_15 rfl (lv_at hl 4 rfl) ?_
              refine lv_iload hx hb dX11_joined_16 (lv_at hl 5 rfl) ?_
              refine et_VT (CR := [(xx, .inr (11, [.ref st, .ref tp, .ref ft, .ref rd, .ref wr, .ref st2, .int zi])), (ta, .inl (κ 0, 6, .inl fa)), (sa, .inl (κ 4, 6, .inr (.inr (.inr (.inr ga)))))]) (As := [.int (nI t2), .int zd]) (rest := []) hFX hKK hE hP hD hS hA (c_X6_stripOf_s l D κ κq im2__94 st d sh vw ta sa n fs fv t2 a_57 R_58 w_59 v_61 d_60 zd (by omega) e_55 e_56 h_62 h_63) 2 gV_X11_189 hdV_X6_stripOf ⟨Nat.le_of_ble_eq_true rfl, Nat.le_of_ble_eq_true rfl⟩ rfl rfl (Nat.le_of_ble_eq_true rfl) dX11_joined_18 ⟨Nat.le_of_ble_eq_true rfl, Nat.le_of_ble_eq_true rfl⟩ hl.1 [1, 2, 3] [0, 4, 5] rfl rfl (by decide) (by decide) (by decide) hP 1 6 rfl rfl rfl (fun u_107 H locs hp_108 hP hD hS => ?_)
              refine W.widen (k := 2) (n := 8) (Nat.le_refl _) (Nat.le_refl _) ?_
              obtain ⟨r__105, im2__106⟩ := u_107
              replace hP : va_P D vwCl ([(xx, .inr (11, [.ref st, .ref tp, .ref ft, .ref rd, .ref wr, .ref st2, .int zi])), (st, .inr (6, [.ref d, .ref sh, .ref vw, .ref ta, .ref sa, .int (nI n)])), (sh, .inl (κ 4, 3, .inr (.inr (.inr (.inr fs))))), (vw, .inl (κ 5, 3, .inr (.inr (.inr (.inr fv))))), (ta, .inl (κ 0, 6, .inl fa)), (sa, .inl (κ 4, 6, .inr (.inr (.inr (.inr ga)))))] ++ im2__106) H := subP (C := [(xx, .inr (11, [.ref st, .ref tp, .ref ft, .ref rd, .ref wr, .ref st2, .int zi])), (ta, .inl (κ 0, 6, .inl fa)), (sa, .inl (κ 4, 6, .inr (.inr (.inr (.inr ga))))), (st, .inr (6, [.ref d, .ref sh, .ref vw, .ref ta, .ref sa, .int (nI n)])), (sh, .inl (κ 4, 3, .inr (.inr (.inr (.inr fs))))), (vw, .inl (κ 5, 3, .inr (.inr (.inr (.inr fv)))))]) hP [0, 3, 4, 5, 1, 2] rfl
              replace hD : va_D A ([(xx, .inr (11, [.ref st, .ref tp, .ref ft, .ref rd, .ref wr, .ref st2, .int zi])), (st, .inr (6, [.ref d, .ref sh, .ref vw, .ref ta, .ref sa, .int (nI n)])), (sh, .inl (κ 4, 3, .inr (.inr (.inr (.inr fs))))), (vw, .inl (κ 5, 3, .inr (.inr (.inr (.inr fv))))), (ta, .inl (κ 0, 6, .inl fa)), (sa, .inl (κ 4, 6, .inr (.inr (.inr (.inr ga)))))] ++ im2__106) := subD (C := [(xx, .inr (11, [.ref st, .ref tp, .ref ft, .ref rd, .ref wr, .ref st2, .int zi])), (ta, .inl (κ 0, 6, .inl fa)), (sa, .inl (κ 4, 6, .inr (.inr (.inr (.inr ga))))), (st, .inr (6, [.ref d, .ref sh, .ref vw, .ref ta, .ref sa, .int (nI n)])), (sh, .inl (κ 4, 3, .inr (.inr (.inr (.inr fs))))), (vw, .inl (κ 5, 3, .inr (.inr (.inr (.inr fv)))))]) hD [0, 3, 4, 5, 1, 2] (by decide) rfl
              replace hp_108 : Sb im2__94 im2__106 ∧ ((r__105 = none) ∨ (∃ (q : Nat), ∃ (co : Nat), ∃ (ra : Nat), ∃ (mq : Nat), ∃ (ty : Nat), r__105 = some q ∧ Sp κ im2__106 q a_57 R_58 w_59 co ra mq ty)) := hp_108
              obtain ⟨h_109, ha_110⟩ := hp_108
              replace htb := htb.up h_109
              replace hss := hss.up h_109
              replace h_8 := h_8.up h_109
              replace h_9 := h_9.up h_109
              replace h_62 := h_62.up h_109
              replace h_63 := h_63.up h_109
              rcases ha_110 with rfl | ⟨q__111, co__112, ra__113, mq__114, ty__115, rfl, a_116⟩
              · refine W.eq (g2 := F0 m 21 ls [.null]) rfl ?_
                refine lv_astoreN (lv' := [(7, .null), (6, .null), (0, .ref xx), (1, .int (nI t)), (2, .int zb), (3, .int (nI t2)), (4, .int zd), (5, .int (nI t3))]) hx hb dX11_joined_21 hl (by decide) rfl (fun ls hl => ?_)
                refine lv_aloadN hx hb dX11_joined_23 (lv_at hl 1 rfl) ?_
                refine lv_ifnullN (tgt := 53) hx hb dX11_joined_25 (by decide) ?_
                refine lv_iconst (v := (-1)) hx hb dX11_joined_53 (by decide) ?_
                exact et_iret hx hb hr hlk rfl hS ((-1), n, fs, fv, fa, ga, im2__106) rfl ⟨(show n ≤ 6 from (by first | assumption | omega | rfl | exact Or.inl (by assumption) | exact Or.inr (by assumption))), (show Tb κ im2__106 fs fv 3 from htb), (show Rn 6 3 fa from (by first | assumption | omega | rfl | exact Or.inl (by assumption) | exact Or.inr (by assumption))), (show Ss κ im2__106 ga 6 from hss), (show Sb im im2__106 from (Sb.tr h_97 h_109))⟩ (subP hP [0, 1, 2, 3, 4, 5] rfl) (subD hD [0, 1, 2, 3, 4, 5] (by decide) rfl) (Nat.le_of_ble_eq_true rfl) (Nat.le_of_ble_eq_true rfl) dX11_joined_54
              · refine W.eq (g2 := F0 m 21 ls [.ref q__111]) rfl ?_
                refine lv_astore (lv' := [(7, .ref q__111), (6, .null), (0, .ref xx), (1, .int (nI t)), (2, .int zb), (3, .int (nI t2)), (4, .int zd), (5, .int (nI t3))]) hx hb dX11_joined_21 hl (by decide) rfl (fun ls hl => ?_)
                refine lv_aloadN hx hb dX11_joined_23 (lv_at hl 1 rfl) ?_
                refine lv_ifnullN (tgt := 53) hx hb dX11_joined_25 (by decide) ?_
                refine lv_iconst (v := (-1)) hx hb dX11_joined_53 (by decide) ?_
                exact et_iret hx hb hr hlk rfl hS ((-1), n, fs, fv, fa, ga, im2__106) rfl ⟨(show n ≤ 6 from (by first | assumption | omega | rfl | exact Or.inl (by assumption) | exact Or.inr (by assumption))), (show Tb κ im2__106 fs fv 3 from htb), (show Rn 6 3 fa from (by first | assumption | omega | rfl | exact Or.inl (by assumption) | exact Or.inr (by assumption))), (show Ss κ im2__106 ga 6 from hss), (show Sb im im2__106 from (Sb.tr h_97 h_109))⟩ (subP hP [0, 1, 2, 3, 4, 5] rfl) (subD hD [0, 1, 2, 3, 4, 5] (by decide) rfl) (Nat.le_of_ble_eq_true rfl) (Nat.le_of_ble_eq_true rfl) dX11_joined_54
            · refine W.eq (g2 := F0 m 9 ls [.ref q__99]) rfl ?_
              refine lv_astore (lv' := [(6, .ref q__99), (0, .ref xx), (1, .int (nI t)), (2, .int zb), (3, .int (nI t2)), (4, .int zd), (5, .int (nI t3))]) hx hb dX11_joined_9 hl (by decide) rfl (fun ls hl => ?_)
              refine lv_aload_n hx hb dX11_joined_11 rfl (lv_at hl 1 rfl) ?_
              refine va_get (D := D) (ci := 11) (v := .ref st) (C := RX11) (T := TX11) (N := 7) hx hb hts inlX11 hown hK hP 0 rfl rfl 0 (by decide) (hts _ mw_15) (fun _ h9 => h9) rfl dX11_joined_12 ?_
              refine lv_iload_n hx hb dX11_joined_15 rfl (lv_at hl 4 rfl) ?_
              refine lv_iload hx hb dX11_joined_16 (lv_at hl 5 rfl) ?_
              refine et_VT (CR := [(xx, .inr (11, [.ref st, .ref tp, .ref ft, .ref rd, .ref wr, .ref st2, .int zi])), (ta, .inl (κ 0, 6, .inl fa)), (sa, .inl (κ 4, 6, .inr (.inr (.inr (.inr ga)))))]) (As := [.int (nI t2), .int zd]) (rest := []) hFX hKK hE hP hD hS hA (c_X6_stripOf_s l D κ κq im2__94 st d sh vw ta sa n fs fv t2 a_57 R_58 w_59 v_61 d_60 zd (by omega) e_55 e_56 h_62 h_63) 2 gV_X11_189 hdV_X6_stripOf ⟨Nat.le_of_ble_eq_true rfl, Nat.le_of_ble_eq_true rfl⟩ rfl rfl (Nat.le_of_ble_eq_true rfl) dX11_joined_18 ⟨Nat.le_of_ble_eq_true rfl, Nat.le_of_ble_eq_true rfl⟩ hl.1 [1, 2, 3] [0, 4, 5] rfl rfl (by decide) (by decide) (by decide) hP 1 6 rfl rfl rfl (fun u_119 H locs hp_120 hP hD hS => ?_)
              refine W.widen (k := 2) (n := 8) (Nat.le_refl _) (Nat.le_refl _) ?_
              obtain ⟨r__117, im2__118⟩ := u_119
              replace hP : va_P D vwCl ([(xx, .inr (11, [.ref st, .ref tp, .ref ft, .ref rd, .ref wr, .ref st2, .int zi])), (st, .inr (6, [.ref d, .ref sh, .ref vw, .ref ta, .ref sa, .int (nI n)])), (sh, .inl (κ 4, 3, .inr (.inr (.inr (.inr fs))))), (vw, .inl (κ 5, 3, .inr (.inr (.inr (.inr fv))))), (ta, .inl (κ 0, 6, .inl fa)), (sa, .inl (κ 4, 6, .inr (.inr (.inr (.inr ga)))))] ++ im2__118) H := subP (C := [(xx, .inr (11, [.ref st, .ref tp, .ref ft, .ref rd, .ref wr, .ref st2, .int zi])), (ta, .inl (κ 0, 6, .inl fa)), (sa, .inl (κ 4, 6, .inr (.inr (.inr (.inr ga))))), (st, .inr (6, [.ref d, .ref sh, .ref vw, .ref ta, .ref sa, .int (nI n)])), (sh, .inl (κ 4, 3, .inr (.inr (.inr (.inr fs))))), (vw, .inl (κ 5, 3, .inr (.inr (.inr (.inr fv)))))]) hP [0, 3, 4, 5, 1, 2] rfl
              replace hD : va_D A ([(xx, .inr (11, [.ref st, .ref tp, .ref ft, .ref rd, .ref wr, .ref st2, .int zi])), (st, .inr (6, [.ref d, .ref sh, .ref vw, .ref ta, .ref sa, .int (nI n)])), (sh, .inl (κ 4, 3, .inr (.inr (.inr (.inr fs))))), (vw, .inl (κ 5, 3, .inr (.inr (.inr (.inr fv))))), (ta, .inl (κ 0, 6, .inl fa)), (sa, .inl (κ 4, 6, .inr (.inr (.inr (.inr ga)))))] ++ im2__118) := subD (C := [(xx, .inr (11, [.ref st, .ref tp, .ref ft, .ref rd, .ref wr, .ref st2, .int zi])), (ta, .inl (κ 0, 6, .inl fa)), (sa, .inl (κ 4, 6, .inr (.inr (.inr (.inr ga))))), (st, .inr (6, [.ref d, .ref sh, .ref vw, .ref ta, .ref sa, .int (nI n)])), (sh, .inl (κ 4, 3, .inr (.inr (.inr (.inr fs))))), (vw, .inl (κ 5, 3, .inr (.inr (.inr (.inr fv)))))]) hD [0, 3, 4, 5, 1, 2] (by decide) rfl
              replace hp_120 : Sb im2__94 im2__118 ∧ ((r__117 = none) ∨ (∃ (q : Nat), ∃ (co : Nat), ∃ (ra : Nat), ∃ (mq : Nat), ∃ (ty : Nat), r__117 = some q ∧ Sp κ im2__118 q a_57 R_58 w_59 co ra mq ty)) := hp_120
              obtain ⟨h_121, ha_122⟩ := hp_120
              replace htb := htb.up h_121
              replace hss := hss.up h_121
              replace h_8 := h_8.up h_121
              replace h_9 := h_9.up h_121
              replace h_62 := h_62.up h_121
              replace h_63 := h_63.up h_121
              replace a_104 := a_104.up h_121
              rcases ha_122 with rfl | ⟨q__123, co__124, ra__125, mq__126, ty__127, rfl, a_128⟩
              · refine W.eq (g2 := F0 m 21 ls [.null]) rfl ?_
                refine lv_astoreN (lv' := [(7, .null), (6, .ref q__99), (0, .ref xx), (1, .int (nI t)), (2, .int zb), (3, .int (nI t2)), (4, .int zd), (5, .int (nI t3))]) hx hb dX11_joined_21 hl (by decide) rfl (fun ls hl => ?_)
                refine lv_aload hx hb dX11_joined_23 (lv_at hl 1 rfl) ?_
                refine lv_ifnull hx hb dX11_joined_25 ?_
                refine lv_aloadN hx hb dX11_joined_28 (lv_at hl 0 rfl) ?_
                refine lv_ifnullN (tgt := 53) hx hb dX11_joined_30 (by decide) ?_
                refine lv_iconst (v := (-1)) hx hb dX11_joined_53 (by decide) ?_
                exact et_iret hx hb hr hlk rfl hS ((-1), n, fs, fv, fa, ga, im2__118) rfl ⟨(show n ≤ 6 from (by first | assumption | omega | rfl | exact Or.inl (by assumption) | exact Or.inr (by assumption))), (show Tb κ im2__118 fs fv 3 from htb), (show Rn 6 3 fa from (by first | assumption | omega | rfl | exact Or.inl (by assumption) | exact Or.inr (by assumption))), (show Ss κ im2__118 ga 6 from hss), (show Sb im im2__118 from (Sb.tr h_97 h_121))⟩ (subP hP [0, 1, 2, 3, 4, 5] rfl) (subD hD [0, 1, 2, 3, 4, 5] (by decide) rfl) (Nat.le_of_ble_eq_true rfl) (Nat.le_of_ble_eq_true rfl) dX11_joined_54
              · refine W.eq (g2 := F0 m 21 ls [.ref q__123]) rfl ?_
                refine lv_astore (lv' := [(7, .ref q__123), (6, .ref q__99), (0, .ref xx), (1, .int (nI t)), (2, .int zb), (3, .int (nI t2)), (4, .int zd), (5, .int (nI t3))]) hx hb dX11_joined_21 hl (by decide) rfl (fun ls hl => ?_)
                refine lv_aload hx hb dX11_joined_23 (lv_at hl 1 rfl) ?_
                refine lv_ifnull hx hb dX11_joined_25 ?_
                refine lv_aload hx hb dX11_joined_28 (lv_at hl 0 rfl) ?_
                refine lv_ifnull hx hb dX11_joined_30 ?_
                refine lv_iload hx hb dX11_joined_33 (lv_at hl 7 rfl) ?_
                refine er_S (As := [.int (nI t3)]) (rest := []) hFX hKK hE hS (c_X6_isPlace_t l D κ κq t3 (by omega)) 1 gS_X11_75 hdS_X6_isPlace rfl rfl ⟨Nat.le_of_ble_eq_true rfl, Nat.le_of_ble_eq_true rfl⟩ rfl rfl (Nat.le_of_ble_eq_true rfl) dX11_joined_35 ⟨Nat.le_of_ble_eq_true rfl, Nat.le_of_ble_eq_true rfl⟩ hl.1 (subP0 hP [] rfl) (fun _ hp_129 => ?_)
                refine W.eq (g2 := F0 m 38 ls [.int 1]) rfl ?_
                refine lv_if_eq (tgt := 53) hx hb dX11_joined_38 (by decide) (fun c_130 => absurd c_130 (by decide)) (fun c_130 => ?_)
                refine lv_iload hx hb dX11_joined_41 (lv_at hl 7 rfl) ?_
                refine lv_iload_n hx hb dX11_joined_43 rfl (lv_at hl 3 rfl) ?_
                refine lv_icmp_eq (tgt := 53) hx hb dX11_joined_44 (by decide) (fun c_131 => ?_) (fun c_131 => ?_)
                · have nc_131 := cv_eq (a := t3) (b := t) (by omega) (by omega) c_131
                  refine lv_iconst (v := (-1)) hx hb dX11_joined_53 (by decide) ?_
                  exact et_iret hx hb hr hlk rfl hS ((-1), n, fs, fv, fa, ga, im2__118) rfl ⟨(show n ≤ 6 from (by first | assumption | omega | rfl | exact Or.inl (by assumption) | exact Or.inr (by assumption))), (show Tb κ im2__118 fs fv 3 from htb), (show Rn 6 3 fa from (by first | assumption | omega | rfl | exact Or.inl (by assumption) | exact Or.inr (by assumption))), (show Ss κ im2__118 ga 6 from hss), (show Sb im im2__118 from (Sb.tr h_97 h_121))⟩ (subP hP [0, 1, 2, 3, 4, 5] rfl) (subD hD [0, 1, 2, 3, 4, 5] (by decide) rfl) (Nat.le_of_ble_eq_true rfl) (Nat.le_of_ble_eq_true rfl) dX11_joined_54
                · have nc_131 := cv_ne (a := t3) (b := t) (by omega) (by omega) c_131
                  refine lv_iload hx hb dX11_joined_47 (lv_at hl 7 rfl) ?_
                  refine lv_iload_n hx hb dX11_joined_49 rfl (lv_at hl 5 rfl) ?_
                  refine lv_icmp_ne (tgt := 55) hx hb dX11_joined_50 (by decide) (fun c_132 => ?_) (fun c_132 => ?_)
                  · have nc_132 := cv_ne (a := t3) (b := t2) (by omega) (by omega) c_132
                    refine va_new (ci := 3) (fs := [.null, .null, .int 0]) (C := RX3) (T := TX3) (N := 3) hx hb hts inlX3 tyX3 tyX3_ok hown (hts _ mw_785) (hts _ mw_786) (hts _ mw_787) hK hP hD hS hA rfl (fun j hj => by rcases (show j = 0 ∨ j = 1 ∨ j = 2 by omega) with rfl | rfl | rfl <;> rfl) (Nat.le_of_ble_eq_true rfl) (Nat.le_of_ble_eq_true rfl) dX11_joined_55 (fun q_133 H hP hD hS => ?_)
                    replace hP : va_P D vwCl ([(xx, .inr (11, [.ref st, .ref tp, .ref ft, .ref rd, .ref wr, .ref st2, .int zi])), (st, .inr (6, [.ref d, .ref sh, .ref vw, .ref ta, .ref sa, .int (nI n)])), (sh, .inl (κ 4, 3, .inr (.inr (.inr (.inr fs))))), (vw, .inl (κ 5, 3, .inr (.inr (.inr (.inr fv))))), (ta, .inl (κ 0, 6, .inl fa)), (sa, .inl (κ 4, 6, .inr (.inr (.inr (.inr ga))))), (q_133, .inr (3, [.null, .null, .int 0]))] ++ im2__118) H := mvP hP
                    replace hD : va_D A ([(xx, .inr (11, [.ref st, .ref tp, .ref ft, .ref rd, .ref wr, .ref st2, .int zi])), (st, .inr (6, [.ref d, .ref sh, .ref vw, .ref ta, .ref sa, .int (nI n)])), (sh, .inl (κ 4, 3, .inr (.inr (.inr (.inr fs))))), (vw, .inl (κ 5, 3, .inr (.inr (.inr (.inr fv))))), (ta, .inl (κ 0, 6, .inl fa)), (sa, .inl (κ 4, 6, .inr (.inr (.inr (.inr ga))))), (q_133, .inr (3, [.null, .null, .int 0]))] ++ im2__118) := mvD hD
                    refine lv_dup hx hb dX11_joined_58 rfl ?_
                    refine lv_aload hx hb dX11_joined_59 (lv_at hl 1 rfl) ?_
                    refine lv_aload hx hb dX11_joined_61 (lv_at hl 0 rfl) ?_
                    refine et_IT (CR := [(xx, .inr (11, [.ref st, .ref tp, .ref ft, .ref rd, .ref wr, .ref st2, .int zi])), (st, .inr (6, [.ref d, .ref sh, .ref vw, .ref ta, .ref sa, .int (nI n)])), (sh, .inl (κ 4, 3, .inr (.inr (.inr (.inr fs))))), (vw, .inl (κ 5, 3, .inr (.inr (.inr (.inr fv))))), (ta, .inl (κ 0, 6, .inl fa)), (sa, .inl (κ 4, 6, .inr (.inr (.inr (.inr ga)))))]) (As := [.ref q__99, .ref q__123]) (rest := [.ref q_133]) hFX hKK hE hP hD hS hA (c_X3_init l D κ κq im2__118 q_133 q__99 a_3 R_4 w_5 co__100 ra__101 mq__102 ty__103 q__123 a_57 R_58 w_59 co__124 ra__125 mq__126 ty__127 a_104 a_128) 2 mw_819 mw_820 mw_787 mw_821 hdI_X3_init ⟨Nat.le_of_ble_eq_true rfl, Nat.le_of_ble_eq_true rfl⟩ rfl rfl (Nat.le_of_ble_eq_true rfl) dX11_joined_63 ⟨Nat.le_of_ble_eq_true rfl, Nat.le_of_ble_eq_true rfl⟩ hl.1 [6] [0, 1, 2, 3, 4, 5] rfl rfl (by decide) (by decide) (by decide) (fun zt__134 H locs hp_135 hP hD hS => ?_)
                    refine W.widen (k := 3) (n := 11) (Nat.le_refl _) (Nat.le_refl _) ?_
                    replace hP : va_P D vwCl ([(xx, .inr (11, [.ref st, .ref tp, .ref ft, .ref rd, .ref wr, .ref st2, .int zi])), (st, .inr (6, [.ref d, .ref sh, .ref vw, .ref ta, .ref sa, .int (nI n)])), (sh, .inl (κ 4, 3, .inr (.inr (.inr (.inr fs))))), (vw, .inl (κ 5, 3, .inr (.inr (.inr (.inr fv))))), (ta, .inl (κ 0, 6, .inl fa)), (sa, .inl (κ 4, 6, .inr (.inr (.inr (.inr ga))))), (q_133, .inr (3, [.ref q__99, .ref q__123, .int zt__134]))] ++ im2__118) H := subP (C := [(xx, .inr (11, [.ref st, .ref tp, .ref ft, .ref rd, .ref wr, .ref st2, .int zi])), (st, .inr (6, [.ref d, .ref sh, .ref vw, .ref ta, .ref sa, .int (nI n)])), (sh, .inl (κ 4, 3, .inr (.inr (.inr (.inr fs))))), (vw, .inl (κ 5, 3, .inr (.inr (.inr (.inr fv))))), (ta, .inl (κ 0, 6, .inl fa)), (sa, .inl (κ 4, 6, .inr (.inr (.inr (.inr ga))))), (q_133, .inr (3, [.ref q__99, .ref q__123, .int zt__134]))]) hP [0, 1, 2, 3, 4, 5, 6] rfl
                    replace hD : va_D A ([(xx, .inr (11, [.ref st, .ref tp, .ref ft, .ref rd, .ref wr, .ref st2, .int zi])), (st, .inr (6, [.ref d, .ref sh, .ref vw, .ref ta, .ref sa, .int (nI n)])), (sh, .inl (κ 4, 3, .inr (.inr (.inr (.inr fs))))), (vw, .inl (κ 5, 3, .inr (.inr (.inr (.inr fv))))), (ta, .inl (κ 0, 6, .inl fa)), (sa, .inl (κ 4, 6, .inr (.inr (.inr (.inr ga))))), (q_133, .inr (3, [.ref q__99, .ref q__123, .int zt__134]))] ++ im2__118) := subD (C := [(xx, .inr (11, [.ref st, .ref tp, .ref ft, .ref rd, .ref wr, .ref st2, .int zi])), (st, .inr (6, [.ref d, .ref sh, .ref vw, .ref ta, .ref sa, .int (nI n)])), (sh, .inl (κ 4, 3, .inr (.inr (.inr (.inr fs))))), (vw, .inl (κ 5, 3, .inr (.inr (.inr (.inr fv))))), (ta, .inl (κ 0, 6, .inl fa)), (sa, .inl (κ 4, 6, .inr (.inr (.inr (.inr ga))))), (q_133, .inr (3, [.ref q__99, .ref q__123, .int zt__134]))]) hD [0, 1, 2, 3, 4, 5, 6] (by decide) rfl
                    replace hp_135 : To zt__134 := hp_135
                    have h_136 := hp_135
                    clear hp_135
                    refine W.eq (g2 := F0 m 66 ls [.ref q_133]) rfl ?_
                    refine et_VT (CR := [(xx, .inr (11, [.ref st, .ref tp, .ref ft, .ref rd, .ref wr, .ref st2, .int zi])), (st, .inr (6, [.ref d, .ref sh, .ref vw, .ref ta, .ref sa, .int (nI n)])), (sh, .inl (κ 4, 3, .inr (.inr (.inr (.inr fs))))), (vw, .inl (κ 5, 3, .inr (.inr (.inr (.inr fv))))), (ta, .inl (κ 0, 6, .inl fa)), (sa, .inl (κ 4, 6, .inr (.inr (.inr (.inr ga)))))]) (As := []) (rest := []) hFX hKK hE hP hD hS hA (c_X3_newSheet l D κ κq im2__118 q_133 q__99 a_3 R_4 w_5 co__100 ra__101 mq__102 ty__103 q__123 a_57 R_58 w_59 co__124 ra__125 mq__126 ty__127 zt__134 a_104 a_128 (by assumption)) 0 gV_X11_198 hdV_X3_newSheet ⟨Nat.le_of_ble_eq_true rfl, Nat.le_of_ble_eq_true rfl⟩ rfl rfl (Nat.le_of_ble_eq_true rfl) dX11_joined_66 ⟨Nat.le_of_ble_eq_true rfl, Nat.le_of_ble_eq_true rfl⟩ hl.1 [6] [0, 1, 2, 3, 4, 5] rfl rfl (by decide) (by decide) (by decide) hP 6 3 rfl rfl rfl (fun u_139 H locs hp_140 hP hD hS => ?_)
                    refine W.widen (k := 24) (n := 571) (Nat.le_refl _) (Nat.le_refl _) ?_
                    obtain ⟨r__137, im2__138⟩ := u_139
                    replace hP : va_P D vwCl ([(xx, .inr (11, [.ref st, .ref tp, .ref ft, .ref rd, .ref wr, .ref st2, .int zi])), (st, .inr (6, [.ref d, .ref sh, .ref vw, .ref ta, .ref sa, .int (nI n)])), (sh, .inl (κ 4, 3, .inr (.inr (.inr (.inr fs))))), (vw, .inl (κ 5, 3, .inr (.inr (.inr (.inr fv))))), (ta, .inl (κ 0, 6, .inl fa)), (sa, .inl (κ 4, 6, .inr (.inr (.inr (.inr ga))))), (q_133, .inr (3, [.ref q__99, .ref q__123, .int zt__134]))] ++ im2__138) H := subP (C := [(xx, .inr (11, [.ref st, .ref tp, .ref ft, .ref rd, .ref wr, .ref st2, .int zi])), (st, .inr (6, [.ref d, .ref sh, .ref vw, .ref ta, .ref sa, .int (nI n)])), (sh, .inl (κ 4, 3, .inr (.inr (.inr (.inr fs))))), (vw, .inl (κ 5, 3, .inr (.inr (.inr (.inr fv))))), (ta, .inl (κ 0, 6, .inl fa)), (sa, .inl (κ 4, 6, .inr (.inr (.inr (.inr ga))))), (q_133, .inr (3, [.ref q__99, .ref q__123, .int zt__134]))]) hP [0, 1, 2, 3, 4, 5, 6] rfl
                    replace hD : va_D A ([(xx, .inr (11, [.ref st, .ref tp, .ref ft, .ref rd, .ref wr, .ref st2, .int zi])), (st, .inr (6, [.ref d, .ref sh, .ref vw, .ref ta, .ref sa, .int (nI n)])), (sh, .inl (κ 4, 3, .inr (.inr (.inr (.inr fs))))), (vw, .inl (κ 5, 3, .inr (.inr (.inr (.inr fv))))), (ta, .inl (κ 0, 6, .inl fa)), (sa, .inl (κ 4, 6, .inr (.inr (.inr (.inr ga))))), (q_133, .inr (3, [.ref q__99, .ref q__123, .int zt__134]))] ++ im2__138) := subD (C := [(xx, .inr (11, [.ref st, .ref tp, .ref ft, .ref rd, .ref wr, .ref st2, .int zi])), (st, .inr (6, [.ref d, .ref sh, .ref vw, .ref ta, .ref sa, .int (nI n)])), (sh, .inl (κ 4, 3, .inr (.inr (.inr (.inr fs))))), (vw, .inl (κ 5, 3, .inr (.inr (.inr (.inr fv))))), (ta, .inl (κ 0, 6, .inl fa)), (sa, .inl (κ 4, 6, .inr (.inr (.inr (.inr ga))))), (q_133, .inr (3, [.ref q__99, .ref q__123, .int zt__134]))]) hD [0, 1, 2, 3, 4, 5, 6] (by decide) rfl
                    replace hp_140 : Sb im2__118 im2__138 ∧ ((r__137 = none) ∨ (∃ (q : Nat), ∃ (R9 : Nat), ∃ (w9 : Nat), r__137 = some q ∧ Sh κ im2__138 q R9 w9)) := hp_140
                    obtain ⟨h_141, ha_142⟩ := hp_140
                    replace htb := htb.up h_141
                    replace hss := hss.up h_141
                    replace h_8 := h_8.up h_141
                    replace h_9 := h_9.up h_141
                    replace h_62 := h_62.up h_141
                    replace h_63 := h_63.up h_141
                    replace a_104 := a_104.up h_141
                    replace a_128 := a_128.up h_141
                    rcases ha_142 with rfl | ⟨q__143, R9__144, w9__145, rfl, a_146⟩
                    · refine W.eq (g2 := F0 m 69 ls [.null]) rfl ?_
                      refine lv_astoreN (lv' := [(8, .null), (7, .ref q__123), (6, .ref q__99), (0, .ref xx), (1, .int (nI t)), (2, .int zb), (3, .int (nI t2)), (4, .int zd), (5, .int (nI t3))]) hx hb dX11_joined_69 hl (by decide) rfl (fun ls hl => ?_)
                      refine lv_aloadN hx hb dX11_joined_71 (lv_at hl 0 rfl) ?_
                      refine lv_ifnonnullN hx hb dX11_joined_73 ?_
                      refine lv_iconst (v := (-1)) hx hb dX11_joined_76 (by decide) ?_
                      replace hP : va_P D vwCl ([(xx, .inr (11, [.ref st, .ref tp, .ref ft, .ref rd, .ref wr, .ref st2, .int zi])), (st, .inr (6, [.ref d, .ref sh, .ref vw, .ref ta, .ref sa, .int (nI n)])), (sh, .inl (κ 4, 3, .inr (.inr (.inr (.inr fs))))), (vw, .inl (κ 5, 3, .inr (.inr (.inr (.inr fv))))), (ta, .inl (κ 0, 6, .inl fa)), (sa, .inl (κ 4, 6, .inr (.inr (.inr (.inr ga))))), (q_133, .inr (3, [.ref q__99, .ref q__123, .int zt__134]))] ++ im2__138) _ := subP hP [0, 1, 2, 3, 4, 5, 6] rfl
                      replace hD : va_D A ([(xx, .inr (11, [.ref st, .ref tp, .ref ft, .ref rd, .ref wr, .ref st2, .int zi])), (st, .inr (6, [.ref d, .ref sh, .ref vw, .ref ta, .ref sa, .int (nI n)])), (sh, .inl (κ 4, 3, .inr (.inr (.inr (.inr fs))))), (vw, .inl (κ 5, 3, .inr (.inr (.inr (.inr fv))))), (ta, .inl (κ 0, 6, .inl fa)), (sa, .inl (κ 4, 6, .inr (.inr (.inr (.inr ga))))), (q_133, .inr (3, [.ref q__99, .ref q__123, .int zt__134]))] ++ im2__138) := subD hD [0, 1, 2, 3, 4, 5, 6] (by decide) rfl
                      obtain ⟨im_147, he_148⟩ : ∃ x9 : va_W, x9 = ([(q_133, .inr (3, [.ref q__99, .ref q__123, .int zt__134]))] ++ im2__138) := ⟨_, rfl⟩
                      have hs_149 : Sb im2__138 im_147 := by rw [he_148]; exact Sb.app
                      have hm_q_133 : (q_133, .inr (3, [.ref q__99, .ref q__123, .int zt__134])) ∈ im_147 := by rw [he_148]; exact List.mem_of_getElem? (i := 0) rfl
                      replace hP : va_P D vwCl ([(xx, .inr (11, [.ref st, .ref tp, .ref ft, .ref rd, .ref wr, .ref st2, .int zi])), (st, .inr (6, [.ref d, .ref sh, .ref vw, .ref ta, .ref sa, .int (nI n)])), (sh, .inl (κ 4, 3, .inr (.inr (.inr (.inr fs))))), (vw, .inl (κ 5, 3, .inr (.inr (.inr (.inr fv))))), (ta, .inl (κ 0, 6, .inl fa)), (sa, .inl (κ 4, 6, .inr (.inr (.inr (.inr ga)))))] ++ ([(q_133, .inr (3, [.ref q__99, .ref q__123, .int zt__134]))] ++ im2__138)) _ := hP
                      replace hD : va_D A ([(xx, .inr (11, [.ref st, .ref tp, .ref ft, .ref rd, .ref wr, .ref st2, .int zi])), (st, .inr (6, [.ref d, .ref sh, .ref vw, .ref ta, .ref sa, .int (nI n)])), (sh, .inl (κ 4, 3, .inr (.inr (.inr (.inr fs))))), (vw, .inl (κ 5, 3, .inr (.inr (.inr (.inr fv))))), (ta, .inl (κ 0, 6, .inl fa)), (sa, .inl (κ 4, 6, .inr (.inr (.inr (.inr ga)))))] ++ ([(q_133, .inr (3, [.ref q__99, .ref q__123, .int zt__134]))] ++ im2__138)) := hD
                      rw [← he_148] at hP hD
                      clear he_148
                      replace htb := htb.up hs_149
                      replace hss := hss.up hs_149
                      replace h_8 := h_8.up hs_149
                      replace h_9 := h_9.up hs_149
                      replace h_62 := h_62.up hs_149
                      replace h_63 := h_63.up hs_149
                      replace a_104 := a_104.up hs_149
                      replace a_128 := a_128.up hs_149
                      exact et_iret hx hb hr hlk rfl hS ((-1), n, fs, fv, fa, ga, im_147) rfl ⟨(show n ≤ 6 from (by first | assumption | omega | rfl | exact Or.inl (by assumption) | exact Or.inr (by assumption))), (show Tb κ im_147 fs fv 3 from htb), (show Rn 6 3 fa from (by first | assumption | omega | rfl | exact Or.inl (by assumption) | exact Or.inr (by assumption))), (show Ss κ im_147 ga 6 from hss), (show Sb im im_147 from (Sb.tr (Sb.tr (Sb.tr h_97 h_121) h_141) hs_149))⟩ (subP hP [0, 1, 2, 3, 4, 5] rfl) (subD hD [0, 1, 2, 3, 4, 5] (by decide) rfl) (Nat.le_of_ble_eq_true rfl) (Nat.le_of_ble_eq_true rfl) dX11_joined_77
                    · refine W.eq (g2 := F0 m 69 ls [.ref q__143]) rfl ?_
                      refine lv_astore (lv' := [(8, .ref q__143), (7, .ref q__123), (6, .ref q__99), (0, .ref xx), (1, .int (nI t)), (2, .int zb), (3, .int (nI t2)), (4, .int zd), (5, .int (nI t3))]) hx hb dX11_joined_69 hl (by decide) rfl (fun ls hl => ?_)
                      refine lv_aload hx hb dX11_joined_71 (lv_at hl 0 rfl) ?_
                      refine lv_ifnonnull (tgt := 78) hx hb dX11_joined_73 (by decide) ?_
                      refine lv_aload_n hx hb dX11_joined_78 rfl (lv_at hl 3 rfl) ?_
                      refine va_get (D := D) (ci := 11) (v := .ref st) (C := RX11) (T := TX11) (N := 7) hx hb hts inlX11 hown hK hP 0 rfl rfl 0 (by decide) (hts _ mw_15) (fun _ h9 => h9) rfl dX11_joined_79 ?_
                      refine lv_iload hx hb dX11_joined_82 (lv_at hl 8 rfl) ?_
                      refine lv_aload hx hb dX11_joined_84 (lv_at hl 0 rfl) ?_
                      refine et_VT (CR := [(xx, .inr (11, [.ref st, .ref tp, .ref ft, .ref rd, .ref wr, .ref st2, .int zi])), (q_133, .inr (3, [.ref q__99, .ref q__123, .int zt__134]))]) (As := [.int (nI t3), .ref q__143]) (rest := []) hFX hKK hE hP hD hS hA (c_X6_act l D κ κq im2__138 st d sh vw ta sa n fs fv fa ga t3 q__143 R9__144 w9__145 (by omega) htb hrn hss (by omega) a_146) 2 gV_X11_86 hdV_X6_act ⟨Nat.le_of_ble_eq_true rfl, Nat.le_of_ble_eq_true rfl⟩ rfl rfl (Nat.le_of_ble_eq_true rfl) dX11_joined_86 ⟨Nat.le_of_ble_eq_true rfl, Nat.le_of_ble_eq_true rfl⟩ hl.1 [1, 2, 3, 4, 5] [0, 6] rfl rfl (by decide) (by decide) (by decide) hP 1 6 rfl rfl rfl (fun u_155 H locs hp_156 hP hD hS => ?_)
                      refine W.widen (k := 24) (n := 571) (Nat.le_refl _) (Nat.le_refl _) ?_
                      obtain ⟨y__150, gs__151, gv__152, fb__153, gb__154⟩ := u_155
                      replace hP : va_P D vwCl ([(xx, .inr (11, [.ref st, .ref tp, .ref ft, .ref rd, .ref wr, .ref st2, .int zi])), (st, .inr (6, [.ref d, .ref sh, .ref vw, .ref ta, .ref sa, .int (nI y__150)])), (sh, .inl (κ 4, 3, .inr (.inr (.inr (.inr gs__151))))), (vw, .inl (κ 5, 3, .inr (.inr (.inr (.inr gv__152))))), (ta, .inl (κ 0, 6, .inl fb__153)), (sa, .inl (κ 4, 6, .inr (.inr (.inr (.inr gb__154))))), (q_133, .inr (3, [.ref q__99, .ref q__123, .int zt__134]))] ++ im2__138) H := subP (C := [(xx, .inr (11, [.ref st, .ref tp, .ref ft, .ref rd, .ref wr, .ref st2, .int zi])), (q_133, .inr (3, [.ref q__99, .ref q__123, .int zt__134])), (st, .inr (6, [.ref d, .ref sh, .ref vw, .ref ta, .ref sa, .int (nI y__150)])), (sh, .inl (κ 4, 3, .inr (.inr (.inr (.inr gs__151))))), (vw, .inl (κ 5, 3, .inr (.inr (.inr (.inr gv__152))))), (ta, .inl (κ 0, 6, .inl fb__153)), (sa, .inl (κ 4, 6, .inr (.inr (.inr (.inr gb__154)))))]) hP [0, 2, 3, 4, 5, 6, 1] rfl
                      replace hD : va_D A ([(xx, .inr (11, [.ref st, .ref tp, .ref ft, .ref rd, .ref wr, .ref st2, .int zi])), (st, .inr (6, [.ref d, .ref sh, .ref vw, .ref ta, .ref sa, .int (nI y__150)])), (sh, .inl (κ 4, 3, .inr (.inr (.inr (.inr gs__151))))), (vw, .inl (κ 5, 3, .inr (.inr (.inr (.inr gv__152))))), (ta, .inl (κ 0, 6, .inl fb__153)), (sa, .inl (κ 4, 6, .inr (.inr (.inr (.inr gb__154))))), (q_133, .inr (3, [.ref q__99, .ref q__123, .int zt__134]))] ++ im2__138) := subD (C := [(xx, .inr (11, [.ref st, .ref tp, .ref ft, .ref rd, .ref wr, .ref st2, .int zi])), (q_133, .inr (3, [.ref q__99, .ref q__123, .int zt__134])), (st, .inr (6, [.ref d, .ref sh, .ref vw, .ref ta, .ref sa, .int (nI y__150)])), (sh, .inl (κ 4, 3, .inr (.inr (.inr (.inr gs__151))))), (vw, .inl (κ 5, 3, .inr (.inr (.inr (.inr gv__152))))), (ta, .inl (κ 0, 6, .inl fb__153)), (sa, .inl (κ 4, 6, .inr (.inr (.inr (.inr gb__154)))))]) hD [0, 2, 3, 4, 5, 6, 1] (by decide) rfl
                      replace hp_156 : y__150 ≤ 6 ∧ Tb κ im2__138 gs__151 gv__152 3 ∧ Rn 6 3 fb__153 ∧ Ss κ im2__138 gb__154 6 := hp_156
                      obtain ⟨h_157, h_158, h_159, h_160⟩ := hp_156
                      refine W.eq (g2 := F0 m 89 ls []) rfl ?_
                      refine lv_aload hx hb dX11_joined_89 (lv_at hl 0 rfl) ?_
                      obtain ⟨hb_161, c_162, x_163, v_164, g_165, h_166, hm_167, hm_168, hm_169, lo_170, lc_171, vw_172⟩ := id a_146
                      obtain ⟨hb_161_1, hb_161_2, hb_161_3⟩ := hb_161
                      have hrw_hb_161 := rw_le hb_161_1 hb_161_3
                      refine va_get (D := D) (ci := 5) (v := .int (nI R9__144)) (C := RX5) (T := TX5) (N := 4) hx hb hts inlX5 hown hK (oneP (C := [(xx, .inr (11, [.ref st, .ref tp, .ref ft, .ref rd, .ref wr, .ref st2, .int zi])), (st, .inr (6, [.ref d, .ref sh, .ref vw, .ref ta, .ref sa, .int (nI y__150)])), (sh, .inl (κ 4, 3, .inr (.inr (.inr (.inr gs__151))))), (vw, .inl (κ 5, 3, .inr (.inr (.inr (.inr gv__152))))), (ta, .inl (κ 0, 6, .inl fb__153)), (sa, .inl (κ 4, 6, .inr (.inr (.inr (.inr gb__154))))), (q_133, .inr (3, [.ref q__99, .ref q__123, .int zt__134]))]) hP hm_167) 0 rfl rfl 2 (by decide) (hts _ mw_253) (fun _ h9 => h9) rfl dX11_joined_91 ?_
                      replace hP : va_P D vwCl ([(xx, .inr (11, [.ref st, .ref tp, .ref ft, .ref rd, .ref wr, .ref st2, .int zi])), (st, .inr (6, [.ref d, .ref sh, .ref vw, .ref ta, .ref sa, .int (nI y__150)])), (sh, .inl (κ 4, 3, .inr (.inr (.inr (.inr gs__151))))), (vw, .inl (κ 5, 3, .inr (.inr (.inr (.inr gv__152))))), (ta, .inl (κ 0, 6, .inl fb__153)), (sa, .inl (κ 4, 6, .inr (.inr (.inr (.inr gb__154))))), (q_133, .inr (3, [.ref q__99, .ref q__123, .int zt__134]))] ++ im2__138) _ := subP hP [0, 1, 2, 3, 4, 5, 6] rfl
                      replace hD : va_D A ([(xx, .inr (11, [.ref st, .ref tp, .ref ft, .ref rd, .ref wr, .ref st2, .int zi])), (st, .inr (6, [.ref d, .ref sh, .ref vw, .ref ta, .ref sa, .int (nI y__150)])), (sh, .inl (κ 4, 3, .inr (.inr (.inr (.inr gs__151))))), (vw, .inl (κ 5, 3, .inr (.inr (.inr (.inr gv__152))))), (ta, .inl (κ 0, 6, .inl fb__153)), (sa, .inl (κ 4, 6, .inr (.inr (.inr (.inr gb__154))))), (q_133, .inr (3, [.ref q__99, .ref q__123, .int zt__134]))] ++ im2__138) := subD hD [0, 1, 2, 3, 4, 5, 6] (by decide) rfl
                      obtain ⟨im_173, he_174⟩ : ∃ x9 : va_W, x9 = ([(q_133, .inr (3, [.ref q__99, .ref q__123, .int zt__134]))] ++ im2__138) := ⟨_, rfl⟩
                      have hs_175 : Sb im2__138 im_173 := by rw [he_174]; exact Sb.app
                      have hm_q_133 : (q_133, .inr (3, [.ref q__99, .ref q__123, .int zt__134])) ∈ im_173 := by rw [he_174]; exact List.mem_of_getElem? (i := 0) rfl
                      replace hP : va_P D vwCl ([(xx, .inr (11, [.ref st, .ref tp, .ref ft, .ref rd, .ref wr, .ref st2, .int zi])), (st, .inr (6, [.ref d, .ref sh, .ref vw, .ref ta, .ref sa, .int (nI y__150)])), (sh, .inl (κ 4, 3, .inr (.inr (.inr (.inr gs__151))))), (vw, .inl (κ 5, 3, .inr (.inr (.inr (.inr gv__152))))), (ta, .inl (κ 0, 6, .inl fb__153)), (sa, .inl (κ 4, 6, .inr (.inr (.inr (.inr gb__154)))))] ++ ([(q_133, .inr (3, [.ref q__99, .ref q__123, .int zt__134]))] ++ im2__138)) _ := hP
                      replace hD : va_D A ([(xx, .inr (11, [.ref st, .ref tp, .ref ft, .ref rd, .ref wr, .ref st2, .int zi])), (st, .inr (6, [.ref d, .ref sh, .ref vw, .ref ta, .ref sa, .int (nI y__150)])), (sh, .inl (κ 4, 3, .inr (.inr (.inr (.inr gs__151))))), (vw, .inl (κ 5, 3, .inr (.inr (.inr (.inr gv__152))))), (ta, .inl (κ 0, 6, .inl fb__153)), (sa, .inl (κ 4, 6, .inr (.inr (.inr (.inr gb__154)))))] ++ ([(q_133, .inr (3, [.ref q__99, .ref q__123, .int zt__134]))] ++ im2__138)) := hD
                      rw [← he_174] at hP hD
                      clear he_174
                      replace htb := htb.up hs_175
                      replace hss := hss.up hs_175
                      replace h_8 := h_8.up hs_175
                      replace h_9 := h_9.up hs_175
                      replace h_62 := h_62.up hs_175
                      replace h_63 := h_63.up hs_175
                      replace a_104 := a_104.up hs_175
                      replace a_128 := a_128.up hs_175
                      replace a_146 := a_146.up hs_175
                      replace h_158 := h_158.up hs_175
                      replace h_160 := h_160.up hs_175
                      replace lo_170 := lo_170.up hs_175
                      replace lc_171 := lc_171.up hs_175
                      replace vw_172 := vw_172.up hs_175
                      replace hm_167 := hs_175 _ hm_167
                      replace hm_168 := hs_175 _ hm_168
                      replace hm_169 := hs_175 _ hm_169
                      exact et_iret hx hb hr hlk rfl hS (nI R9__144, y__150, gs__151, gv__152, fb__153, gb__154, im_173) rfl ⟨(show y__150 ≤ 6 from (by first | assumption | omega | rfl | exact Or.inl (by assumption) | exact Or.inr (by assumption))), (show Tb κ im_173 gs__151 gv__152 3 from h_158), (show Rn 6 3 fb__153 from (by first | assumption | omega | rfl | exact Or.inl (by assumption) | exact Or.inr (by assumption))), (show Ss κ im_173 gb__154 6 from h_160), (show Sb im im_173 from (Sb.tr (Sb.tr (Sb.tr h_97 h_121) h_141) hs_175))⟩ (subP hP [0, 1, 2, 3, 4, 5] rfl) (subD hD [0, 1, 2, 3, 4, 5] (by decide) rfl) (Nat.le_of_ble_eq_true rfl) (Nat.le_of_ble_eq_true rfl) dX11_joined_94
                  · have nc_132 := cv_eq (a := t3) (b := t2) (by omega) (by omega) c_132
                    refine lv_iconst (v := (-1)) hx hb dX11_joined_53 (by decide) ?_
                    exact et_iret hx hb hr hlk rfl hS ((-1), n, fs, fv, fa, ga, im2__118) rfl ⟨(show n ≤ 6 from (by first | assumption | omega | rfl | exact Or.inl (by assumption) | exact Or.inr (by assumption))), (show Tb κ im2__118 fs fv 3 from htb), (show Rn 6 3 fa from (by first | assumption | omega | rfl | exact Or.inl (by assumption) | exact Or.inr (by assumption))), (show Ss κ im2__118 ga 6 from hss), (show Sb im im2__118 from (Sb.tr h_97 h_121))⟩ (subP hP [0, 1, 2, 3, 4, 5] rfl) (subD hD [0, 1, 2, 3, 4, 5] (by decide) rfl) (Nat.le_of_ble_eq_true rfl) (Nat.le_of_ble_eq_true rfl) dX11_joined_54
          · skip
            refine lv_aload_n hx hb dX11_joined_0 rfl (lv_at hl 0 rfl) ?_
            refine va_get (D := D) (ci := 11) (v := .ref st) (C := RX11) (T := TX11) (N := 7) hx hb hts inlX11 hown hK hP 0 rfl rfl 0 (by decide) (hts _ mw_15) (fun _ h9 => h9) rfl dX11_joined_1 ?_
            refine lv_iload_n hx hb dX11_joined_4 rfl (lv_at hl 1 rfl) ?_
            refine lv_iload_n hx hb dX11_joined_5 rfl (lv_at hl 2 rfl) ?_
            refine et_VT (CR := [(xx, .inr (11, [.ref st, .ref tp, .ref ft, .ref rd, .ref wr, .ref st2, .int zi])), (ta, .inl (κ 0, 6, .inl fa)), (sa, .inl (κ 4, 6, .inr (.inr (.inr (.inr ga)))))]) (As := [.int (nI t), .int zb]) (rest := []) hFX hKK hE hP hD hS hA (c_X6_stripOf_s l D κ κq im st d sh vw ta sa n fs fv t a_3 R_4 w_5 v_7 d_6 zb (by omega) e_1 e_2 h_8 h_9) 2 gV_X11_189 hdV_X6_stripOf ⟨Nat.le_of_ble_eq_true rfl, Nat.le_of_ble_eq_true rfl⟩ rfl rfl (Nat.le_of_ble_eq_true rfl) dX11_joined_6 ⟨Nat.le_of_ble_eq_true rfl, Nat.le_of_ble_eq_true rfl⟩ hl.1 [1, 2, 3] [0, 4, 5] rfl rfl (by decide) (by decide) (by decide) hP 1 6 rfl rfl rfl (fun u_178 H locs hp_179 hP hD hS => ?_)
            refine W.widen (k := 1) (n := 4) (Nat.le_refl _) (Nat.le_refl _) ?_
            obtain ⟨r__176, im2__177⟩ := u_178
            replace hP : va_P D vwCl ([(xx, .inr (11, [.ref st, .ref tp, .ref ft, .ref rd, .ref wr, .ref st2, .int zi])), (st, .inr (6, [.ref d, .ref sh, .ref vw, .ref ta, .ref sa, .int (nI n)])), (sh, .inl (κ 4, 3, .inr (.inr (.inr (.inr fs))))), (vw, .inl (κ 5, 3, .inr (.inr (.inr (.inr fv))))), (ta, .inl (κ 0, 6, .inl fa)), (sa, .inl (κ 4, 6, .inr (.inr (.inr (.inr ga)))))] ++ im2__177) H := subP (C := [(xx, .inr (11, [.ref st, .ref tp, .ref ft, .ref rd, .ref wr, .ref st2, .int zi])), (ta, .inl (κ 0, 6, .inl fa)), (sa, .inl (κ 4, 6, .inr (.inr (.inr (.inr ga))))), (st, .inr (6, [.ref d, .ref sh, .ref vw, .ref ta, .ref sa, .int (nI n)])), (sh, .inl (κ 4, 3, .inr (.inr (.inr (.inr fs))))), (vw, .inl (κ 5, 3, .inr (.inr (.inr (.inr fv)))))]) hP [0, 3, 4, 5, 1, 2] rfl
            replace hD : va_D A ([(xx, .inr (11, [.ref st, .ref tp, .ref ft, .ref rd, .ref wr, .ref st2, .int zi])), (st, .inr (6, [.ref d, .ref sh, .ref vw, .ref ta, .ref sa, .int (nI n)])), (sh, .inl (κ 4, 3, .inr (.inr (.inr (.inr fs))))), (vw, .inl (κ 5, 3, .inr (.inr (.inr (.inr fv))))), (ta, .inl (κ 0, 6, .inl fa)), (sa, .inl (κ 4, 6, .inr (.inr (.inr (.inr ga)))))] ++ im2__177) := subD (C := [(xx, .inr (11, [.ref st, .ref tp, .ref ft, .ref rd, .ref wr, .ref st2, .int zi])), (ta, .inl (κ 0, 6, .inl fa)), (sa, .inl (κ 4, 6, .inr (.inr (.inr (.inr ga))))), (st, .inr (6, [.ref d, .ref sh, .ref vw, .ref ta, .ref sa, .int (nI n)])), (sh, .inl (κ 4, 3, .inr (.inr (.inr (.inr fs))))), (vw, .inl (κ 5, 3, .inr (.inr (.inr (.inr fv)))))]) hD [0, 3, 4, 5, 1, 2] (by decide) rfl
            replace hp_179 : Sb im im2__177 ∧ ((r__176 = none) ∨ (∃ (q : Nat), ∃ (co : Nat), ∃ (ra : Nat), ∃ (mq : Nat), ∃ (ty : Nat), r__176 = some q ∧ Sp κ im2__177 q a_3 R_4 w_5 co ra mq ty)) := hp_179
            obtain ⟨h_180, ha_181⟩ := hp_179
            replace htb := htb.up h_180
            replace hss := hss.up h_180
            replace h_8 := h_8.up h_180
            replace h_9 := h_9.up h_180
            replace h_62 := h_62.up h_180
            replace h_63 := h_63.up h_180
            rcases ha_181 with rfl | ⟨q__182, co__183, ra__184, mq__185, ty__186, rfl, a_187⟩
            · refine W.eq (g2 := F0 m 9 ls [.null]) rfl ?_
              refine lv_astoreN (lv' := [(6, .null), (0, .ref xx), (1, .int (nI t)), (2, .int zb), (3, .int (nI t2)), (4, .int zd), (5, .int ze)]) hx hb dX11_joined_9 hl (by decide) rfl (fun ls hl => ?_)
              refine lv_aload_n hx hb dX11_joined_11 rfl (lv_at hl 1 rfl) ?_
              refine va_get (D := D) (ci := 11) (v := .ref st) (C := RX11) (T := TX11) (N := 7) hx hb hts inlX11 hown hK hP 0 rfl rfl 0 (by decide) (hts _ mw_15) (fun _ h9 => h9) rfl dX11_joined_12 ?_
              refine lv_iload_n hx hb dX11_joined_15 rfl (lv_at hl 4 rfl) ?_
              refine lv_iload hx hb dX11_joined_16 (lv_at hl 5 rfl) ?_
              refine et_VT (CR := [(xx, .inr (11, [.ref st, .ref tp, .ref ft, .ref rd, .ref wr, .ref st2, .int zi])), (ta, .inl (κ 0, 6, .inl fa)), (sa, .inl (κ 4, 6, .inr (.inr (.inr (.inr ga)))))]) (As := [.int (nI t2), .int zd]) (rest := []) hFX hKK hE hP hD hS hA (c_X6_stripOf_s l D κ κq im2__177 st d sh vw ta sa n fs fv t2 a_57 R_58 w_59 v_61 d_60 zd (by omega) e_55 e_56 h_62 h_63) 2 gV_X11_189 hdV_X6_stripOf ⟨Nat.le_of_ble_eq_true rfl, Nat.le_of_ble_eq_true rfl⟩ rfl rfl (Nat.le_of_ble_eq_true rfl) dX11_joined_18 ⟨Nat.le_of_ble_eq_true rfl, Nat.le_of_ble_eq_true rfl⟩ hl.1 [1, 2, 3] [0, 4, 5] rfl rfl (by decide) (by decide) (by decide) hP 1 6 rfl rfl rfl (fun u_190 H locs hp_191 hP hD hS => ?_)
              refine W.widen (k := 2) (n := 8) (Nat.le_refl _) (Nat.le_refl _) ?_
              obtain ⟨r__188, im2__189⟩ := u_190
              replace hP : va_P D vwCl ([(xx, .inr (11, [.ref st, .ref tp, .ref ft, .ref rd, .ref wr, .ref st2, .int zi])), (st, .inr (6, [.ref d, .ref sh, .ref vw, .ref ta, .ref sa, .int (nI n)])), (sh, .inl (κ 4, 3, .inr (.inr (.inr (.inr fs))))), (vw, .inl (κ 5, 3, .inr (.inr (.inr (.inr fv))))), (ta, .inl (κ 0, 6, .inl fa)), (sa, .inl (κ 4, 6, .inr (.inr (.inr (.inr ga)))))] ++ im2__189) H := subP (C := [(xx, .inr (11, [.ref st, .ref tp, .ref ft, .ref rd, .ref wr, .ref st2, .int zi])), (ta, .inl (κ 0, 6, .inl fa)), (sa, .inl (κ 4, 6, .inr (.inr (.inr (.inr ga))))), (st, .inr (6, [.ref d, .ref sh, .ref vw, .ref ta, .ref sa, .int (nI n)])), (sh, .inl (κ 4, 3, .inr (.inr (.inr (.inr fs))))), (vw, .inl (κ 5, 3, .inr (.inr (.inr (.inr fv)))))]) hP [0, 3, 4, 5, 1, 2] rfl
              replace hD : va_D A ([(xx, .inr (11, [.ref st, .ref tp, .ref ft, .ref rd, .ref wr, .ref st2, .int zi])), (st, .inr (6, [.ref d, .ref sh, .ref vw, .ref ta, .ref sa, .int (nI n)])), (sh, .inl (κ 4, 3, .inr (.inr (.inr (.inr fs))))), (vw, .inl (κ 5, 3, .inr (.inr (.inr (.inr fv))))), (ta, .inl (κ 0, 6, .inl fa)), (sa, .inl (κ 4, 6, .inr (.inr (.inr (.inr ga)))))] ++ im2__189) := subD (C := [(xx, .inr (11, [.ref st, .ref tp, .ref ft, .ref rd, .ref wr, .ref st2, .int zi])), (ta, .inl (κ 0, 6, .inl fa)), (sa, .inl (κ 4, 6, .inr (.inr (.inr (.inr ga))))), (st, .inr (6, [.ref d, .ref sh, .ref vw, .ref ta, .ref sa, .int (nI n)])), (sh, .inl (κ 4, 3, .inr (.inr (.inr (.inr fs))))), (vw, .inl (κ 5, 3, .inr (.inr (.inr (.inr fv)))))]) hD [0, 3, 4, 5, 1, 2] (by decide) rfl
              replace hp_191 : Sb im2__177 im2__189 ∧ ((r__188 = none) ∨ (∃ (q : Nat), ∃ (co : Nat), ∃ (ra : Nat), ∃ (mq : Nat), ∃ (ty : Nat), r__188 = some q ∧ Sp κ im2__189 q a_57 R_58 w_59 co ra mq ty)) := hp_191
              obtain ⟨h_192, ha_193⟩ := hp_191
              replace htb := htb.up h_192
              replace hss := hss.up h_192
              replace h_8 := h_8.up h_192
              replace h_9 := h_9.up h_192
              replace h_62 := h_62.up h_192
              replace h_63 := h_63.up h_192
              rcases ha_193 with rfl | ⟨q__194, co__195, ra__196, mq__197, ty__198, rfl, a_199⟩
              · refine W.eq (g2 := F0 m 21 ls [.null]) rfl ?_
                refine lv_astoreN (lv' := [(7, .null), (6, .null), (0, .ref xx), (1, .int (nI t)), (2, .int zb), (3, .int (nI t2)), (4, .int zd), (5, .int ze)]) hx hb dX11_joined_21 hl (by decide) rfl (fun ls hl => ?_)
                refine lv_aloadN hx hb dX11_joined_23 (lv_at hl 1 rfl) ?_
                refine lv_ifnullN (tgt := 53) hx hb dX11_joined_25 (by decide) ?_
                refine lv_iconst (v := (-1)) hx hb dX11_joined_53 (by decide) ?_
                exact et_iret hx hb hr hlk rfl hS ((-1), n, fs, fv, fa, ga, im2__189) rfl ⟨(show n ≤ 6 from (by first | assumption | omega | rfl | exact Or.inl (by assumption) | exact Or.inr (by assumption))), (show Tb κ im2__189 fs fv 3 from htb), (show Rn 6 3 fa from (by first | assumption | omega | rfl | exact Or.inl (by assumption) | exact Or.inr (by assumption))), (show Ss κ im2__189 ga 6 from hss), (show Sb im im2__189 from (Sb.tr h_180 h_192))⟩ (subP hP [0, 1, 2, 3, 4, 5] rfl) (subD hD [0, 1, 2, 3, 4, 5] (by decide) rfl) (Nat.le_of_ble_eq_true rfl) (Nat.le_of_ble_eq_true rfl) dX11_joined_54
              · refine W.eq (g2 := F0 m 21 ls [.ref q__194]) rfl ?_
                refine lv_astore (lv' := [(7, .ref q__194), (6, .null), (0, .ref xx), (1, .int (nI t)), (2, .int zb), (3, .int (nI t2)), (4, .int zd), (5, .int ze)]) hx hb dX11_joined_21 hl (by decide) rfl (fun ls hl => ?_)
                refine lv_aloadN hx hb dX11_joined_23 (lv_at hl 1 rfl) ?_
                refine lv_ifnullN (tgt := 53) hx hb dX11_joined_25 (by decide) ?_
                refine lv_iconst (v := (-1)) hx hb dX11_joined_53 (by decide) ?_
                exact et_iret hx hb hr hlk rfl hS ((-1), n, fs, fv, fa, ga, im2__189) rfl ⟨(show n ≤ 6 from (by first | assumption | omega | rfl | exact Or.inl (by assumption) | exact Or.inr (by assumption))), (show Tb κ im2__189 fs fv 3 from htb), (show Rn 6 3 fa from (by first | assumption | omega | rfl | exact Or.inl (by assumption) | exact Or.inr (by assumption))), (show Ss κ im2__189 ga 6 from hss), (show Sb im im2__189 from (Sb.tr h_180 h_192))⟩ (subP hP [0, 1, 2, 3, 4, 5] rfl) (subD hD [0, 1, 2, 3, 4, 5] (by decide) rfl) (Nat.le_of_ble_eq_true rfl) (Nat.le_of_ble_eq_true rfl) dX11_joined_54
            · refine W.eq (g2 := F0 m 9 ls [.ref q__182]) rfl ?_
              refine lv_astore (lv' := [(6, .ref q__182), (0, .ref xx), (1, .int (nI t)), (2, .int zb), (3, .int (nI t2)), (4, .int zd), (5, .int ze)]) hx hb dX11_joined_9 hl (by decide) rfl (fun ls hl => ?_)
              refine lv_aload_n hx hb dX11_joined_11 rfl (lv_at hl 1 rfl) ?_
              refine va_get (D := D) (ci := 11) (v := .ref st) (C := RX11) (T := TX11) (N := 7) hx hb hts inlX11 hown hK hP 0 rfl rfl 0 (by decide) (hts _ mw_15) (fun _ h9 => h9) rfl dX11_joined_12 ?_
              refine lv_iload_n hx hb dX11_joined_15 rfl (lv_at hl 4 rfl) ?_
              refine lv_iload hx hb dX11_joined_16 (lv_at hl 5 rfl) ?_
              refine et_VT (CR := [(xx, .inr (11, [.ref st, .ref tp, .ref ft, .ref rd, .ref wr, .ref st2, .int zi])), (ta, .inl (κ 0, 6, .inl fa)), (sa, .inl (κ 4, 6, .inr (.inr (.inr (.inr ga)))))]) (As := [.int (nI t2), .int zd]) (rest := []) hFX hKK hE hP hD hS hA (c_X6_stripOf_s l D κ κq im2__177 st d sh vw ta sa n fs fv t2 a_57 R_58 w_59 v_61 d_60 zd (by omega) e_55 e_56 h_62 h_63) 2 gV_X11_189 hdV_X6_stripOf ⟨Nat.le_of_ble_eq_true rfl, Nat.le_of_ble_eq_true rfl⟩ rfl rfl (Nat.le_of_ble_eq_true rfl) dX11_joined_18 ⟨Nat.le_of_ble_eq_true rfl, Nat.le_of_ble_eq_true rfl⟩ hl.1 [1, 2, 3] [0, 4, 5] rfl rfl (by decide) (by decide) (by decide) hP 1 6 rfl rfl rfl (fun u_202 H locs hp_203 hP hD hS => ?_)
              refine W.widen (k := 2) (n := 8) (Nat.le_refl _) (Nat.le_refl _) ?_
              obtain ⟨r__200, im2__201⟩ := u_202
              replace hP : va_P D vwCl ([(xx, .inr (11, [.ref st, .ref tp, .ref ft, .ref rd, .ref wr, .ref st2, .int zi])), (st, .inr (6, [.ref d, .ref sh, .ref vw, .ref ta, .ref sa, .int (nI n)])), (sh, .inl (κ 4, 3, .inr (.inr (.inr (.inr fs))))), (vw, .inl (κ 5, 3, .inr (.inr (.inr (.inr fv))))), (ta, .inl (κ 0, 6, .inl fa)), (sa, .inl (κ 4, 6, .inr (.inr (.inr (.inr ga)))))] ++ im2__201) H := subP (C := [(xx, .inr (11, [.ref st, .ref tp, .ref ft, .ref rd, .ref wr, .ref st2, .int zi])), (ta, .inl (κ 0, 6, .inl fa)), (sa, .inl (κ 4, 6, .inr (.inr (.inr (.inr ga))))), (st, .inr (6, [.ref d, .ref sh, .ref vw, .ref ta, .ref sa, .int (nI n)])), (sh, .inl (κ 4, 3, .inr (.inr (.inr (.inr fs))))), (vw, .inl (κ 5, 3, .inr (.inr (.inr (.inr fv)))))]) hP [0, 3, 4, 5, 1, 2] rfl
              replace hD : va_D A ([(xx, .inr (11, [.ref st, .ref tp, .ref ft, .ref rd, .ref wr, .ref st2, .int zi])), (st, .inr (6, [.ref d, .ref sh, .ref vw, .ref ta, .ref sa, .int (nI n)])), (sh, .inl (κ 4, 3, .inr (.inr (.inr (.inr fs))))), (vw, .inl (κ 5, 3, .inr (.inr (.inr (.inr fv))))), (ta, .inl (κ 0, 6, .inl fa)), (sa, .inl (κ 4, 6, .inr (.inr (.inr (.inr ga)))))] ++ im2__201) := subD (C := [(xx, .inr (11, [.ref st, .ref tp, .ref ft, .ref rd, .ref wr, .ref st2, .int zi])), (ta, .inl (κ 0, 6, .inl fa)), (sa, .inl (κ 4, 6, .inr (.inr (.inr (.inr ga))))), (st, .inr (6, [.ref d, .ref sh, .ref vw, .ref ta, .ref sa, .int (nI n)])), (sh, .inl (κ 4, 3, .inr (.inr (.inr (.inr fs))))), (vw, .inl (κ 5, 3, .inr (.inr (.inr (.inr fv)))))]) hD [0, 3, 4, 5, 1, 2] (by decide) rfl
              replace hp_203 : Sb im2__177 im2__201 ∧ ((r__200 = none) ∨ (∃ (q : Nat), ∃ (co : Nat), ∃ (ra : Nat), ∃ (mq : Nat), ∃ (ty : Nat), r__200 = some q ∧ Sp κ im2__201 q a_57 R_58 w_59 co ra mq ty)) := hp_203
              obtain ⟨h_204, ha_205⟩ := hp_203
              replace htb := htb.up h_204
              replace hss := hss.up h_204
              replace h_8 := h_8.up h_204
              replace h_9 := h_9.up h_204
              replace h_62 := h_62.up h_204
              replace h_63 := h_63.up h_204
              replace a_187 := a_187.up h_204
              rcases ha_205 with rfl | ⟨q__206, co__207, ra__208, mq__209, ty__210, rfl, a_211⟩
              · refine W.eq (g2 := F0 m 21 ls [.null]) rfl ?_
                refine lv_astoreN (lv' := [(7, .null), (6, .ref q__182), (0, .ref xx), (1, .int (nI t)), (2, .int zb), (3, .int (nI t2)), (4, .int zd), (5, .int ze)]) hx hb dX11_joined_21 hl (by decide) rfl (fun ls hl => ?_)
                refine lv_aload hx hb dX11_joined_23 (lv_at hl 1 rfl) ?_
                refine lv_ifnull hx hb dX11_joined_25 ?_
                refine lv_aloadN hx hb dX11_joined_28 (lv_at hl 0 rfl) ?_
                refine lv_ifnullN (tgt := 53) hx hb dX11_joined_30 (by decide) ?_
                refine lv_iconst (v := (-1)) hx hb dX11_joined_53 (by decide) ?_
                exact et_iret hx hb hr hlk rfl hS ((-1), n, fs, fv, fa, ga, im2__201) rfl ⟨(show n ≤ 6 from (by first | assumption | omega | rfl | exact Or.inl (by assumption) | exact Or.inr (by assumption))), (show Tb κ im2__201 fs fv 3 from htb), (show Rn 6 3 fa from (by first | assumption | omega | rfl | exact Or.inl (by assumption) | exact Or.inr (by assumption))), (show Ss κ im2__201 ga 6 from hss), (show Sb im im2__201 from (Sb.tr h_180 h_204))⟩ (subP hP [0, 1, 2, 3, 4, 5] rfl) (subD hD [0, 1, 2, 3, 4, 5] (by decide) rfl) (Nat.le_of_ble_eq_true rfl) (Nat.le_of_ble_eq_true rfl) dX11_joined_54
              · refine W.eq (g2 := F0 m 21 ls [.ref q__206]) rfl ?_
                refine lv_astore (lv' := [(7, .ref q__206), (6, .ref q__182), (0, .ref xx), (1, .int (nI t)), (2, .int zb), (3, .int (nI t2)), (4, .int zd), (5, .int ze)]) hx hb dX11_joined_21 hl (by decide) rfl (fun ls hl => ?_)
                refine lv_aload hx hb dX11_joined_23 (lv_at hl 1 rfl) ?_
                refine lv_ifnull hx hb dX11_joined_25 ?_
                refine lv_aload hx hb dX11_joined_28 (lv_at hl 0 rfl) ?_
                refine lv_ifnull hx hb dX11_joined_30 ?_
                refine lv_iload hx hb dX11_joined_33 (lv_at hl 7 rfl) ?_
                refine er_S (As := [.int ze]) (rest := []) hFX hKK hE hS (c_X6_isPlace_x l D κ κq ze (by assumption)) 1 gS_X11_75 hdS_X6_isPlace rfl rfl ⟨Nat.le_of_ble_eq_true rfl, Nat.le_of_ble_eq_true rfl⟩ rfl rfl (Nat.le_of_ble_eq_true rfl) dX11_joined_35 ⟨Nat.le_of_ble_eq_true rfl, Nat.le_of_ble_eq_true rfl⟩ hl.1 (subP0 hP [] rfl) (fun _ hp_212 => ?_)
                refine W.eq (g2 := F0 m 38 ls [.int 0]) rfl ?_
                refine lv_if_eq (tgt := 53) hx hb dX11_joined_38 (by decide) (fun c_213 => ?_) (fun c_213 => absurd (by decide) c_213)
                refine lv_iconst (v := (-1)) hx hb dX11_joined_53 (by decide) ?_
                exact et_iret hx hb hr hlk rfl hS ((-1), n, fs, fv, fa, ga, im2__201) rfl ⟨(show n ≤ 6 from (by first | assumption | omega | rfl | exact Or.inl (by assumption) | exact Or.inr (by assumption))), (show Tb κ im2__201 fs fv 3 from htb), (show Rn 6 3 fa from (by first | assumption | omega | rfl | exact Or.inl (by assumption) | exact Or.inr (by assumption))), (show Ss κ im2__201 ga 6 from hss), (show Sb im im2__201 from (Sb.tr h_180 h_204))⟩ (subP hP [0, 1, 2, 3, 4, 5] rfl) (subD hD [0, 1, 2, 3, 4, 5] (by decide) rfl) (Nat.le_of_ble_eq_true rfl) (Nat.le_of_ble_eq_true rfl) dX11_joined_54
      · skip
        rcases pl_cases ze with ⟨t3, ht_t3, rfl⟩ | hnp_ze
        · skip
          refine lv_aload_n hx hb dX11_joined_0 rfl (lv_at hl 0 rfl) ?_
          refine va_get (D := D) (ci := 11) (v := .ref st) (C := RX11) (T := TX11) (N := 7) hx hb hts inlX11 hown hK hP 0 rfl rfl 0 (by decide) (hts _ mw_15) (fun _ h9 => h9) rfl dX11_joined_1 ?_
          refine lv_iload_n hx hb dX11_joined_4 rfl (lv_at hl 1 rfl) ?_
          refine lv_iload_n hx hb dX11_joined_5 rfl (lv_at hl 2 rfl) ?_
          refine et_VT (CR := [(xx, .inr (11, [.ref st, .ref tp, .ref ft, .ref rd, .ref wr, .ref st2, .int zi])), (ta, .inl (κ 0, 6, .inl fa)), (sa, .inl (κ 4, 6, .inr (.inr (.inr (.inr ga)))))]) (As := [.int (nI t), .int zb]) (rest := []) hFX hKK hE hP hD hS hA (c_X6_stripOf_s l D κ κq im st d sh vw ta sa n fs fv t a_3 R_4 w_5 v_7 d_6 zb (by omega) e_1 e_2 h_8 h_9) 2 gV_X11_189 hdV_X6_stripOf ⟨Nat.le_of_ble_eq_true rfl, Nat.le_of_ble_eq_true rfl⟩ rfl rfl (Nat.le_of_ble_eq_true rfl) dX11_joined_6 ⟨Nat.le_of_ble_eq_true rfl, Nat.le_of_ble_eq_true rfl⟩ hl.1 [1, 2, 3] [0, 4, 5] rfl rfl (by decide) (by decide) (by decide) hP 1 6 rfl rfl rfl (fun u_216 H locs hp_217 hP hD hS => ?_)
          refine W.widen (k := 1) (n := 4) (Nat.le_refl _) (Nat.le_refl _) ?_
          obtain ⟨r__214, im2__215⟩ := u_216
          replace hP : va_P D vwCl ([(xx, .inr (11, [.ref st, .ref tp, .ref ft, .ref rd, .ref wr, .ref st2, .int zi])), (st, .inr (6, [.ref d, .ref sh, .ref vw, .ref ta, .ref sa, .int (nI n)])), (sh, .inl (κ 4, 3, .inr (.inr (.inr (.inr fs))))), (vw, .inl (κ 5, 3, .inr (.inr (.inr (.inr fv))))), (ta, .inl (κ 0, 6, .inl fa)), (sa, .inl (κ 4, 6, .inr (.inr (.inr (.inr ga)))))] ++ im2__215) H := subP (C := [(xx, .inr (11, [.ref st, .ref tp, .ref ft, .ref rd, .ref wr, .ref st2, .int zi])), (ta, .inl (κ 0, 6, .inl fa)), (sa, .inl (κ 4, 6, .inr (.inr (.inr (.inr ga))))), (st, .inr (6, [.ref d, .ref sh, .ref vw, .ref ta, .ref sa, .int (nI n)])), (sh, .inl (κ 4, 3, .inr (.inr (.inr (.inr fs))))), (vw, .inl (κ 5, 3, .inr (.inr (.inr (.inr fv)))))]) hP [0, 3, 4, 5, 1, 2] rfl
          replace hD : va_D A ([(xx, .inr (11, [.ref st, .ref tp, .ref ft, .ref rd, .ref wr, .ref st2, .int zi])), (st, .inr (6, [.ref d, .ref sh, .ref vw, .ref ta, .ref sa, .int (nI n)])), (sh, .inl (κ 4, 3, .inr (.inr (.inr (.inr fs))))), (vw, .inl (κ 5, 3, .inr (.inr (.inr (.inr fv))))), (ta, .inl (κ 0, 6, .inl fa)), (sa, .inl (κ 4, 6, .inr (.inr (.inr (.inr ga)))))] ++ im2__215) := subD (C := [(xx, .inr (11, [.ref st, .ref tp, .ref ft, .ref rd, .ref wr, .ref st2, .int zi])), (ta, .inl (κ 0, 6, .inl fa)), (sa, .inl (κ 4, 6, .inr (.inr (.inr (.inr ga))))), (st, .inr (6, [.ref d, .ref sh, .ref vw, .ref ta, .ref sa, .int (nI n)])), (sh, .inl (κ 4, 3, .inr (.inr (.inr (.inr fs))))), (vw, .inl (κ 5, 3, .inr (.inr (.inr (.inr fv)))))]) hD [0, 3, 4, 5, 1, 2] (by decide) rfl
          replace hp_217 : Sb im im2__215 ∧ ((r__214 = none) ∨ (∃ (q : Nat), ∃ (co : Nat), ∃ (ra : Nat), ∃ (mq : Nat), ∃ (ty : Nat), r__214 = some q ∧ Sp κ im2__215 q a_3 R_4 w_5 co ra mq ty)) := hp_217
          obtain ⟨h_218, ha_219⟩ := hp_217
          replace htb := htb.up h_218
          replace hss := hss.up h_218
          replace h_8 := h_8.up h_218
          replace h_9 := h_9.up h_218
          rcases ha_219 with rfl | ⟨q__220, co__221, ra__222, mq__223, ty__224, rfl, a_225⟩
          · refine W.eq (g2 := F0 m 9 ls [.null]) rfl ?_
            refine lv_astoreN (lv' := [(6, .null), (0, .ref xx), (1, .int (nI t)), (2, .int zb), (3, .int zc), (4, .int zd), (5, .int (nI t3))]) hx hb dX11_joined_9 hl (by decide) rfl (fun ls hl => ?_)
            refine lv_aload_n hx hb dX11_joined_11 rfl (lv_at hl 1 rfl) ?_
            refine va_get (D := D) (ci := 11) (v := .ref st) (C := RX11) (T := TX11) (N := 7) hx hb hts inlX11 hown hK hP 0 rfl rfl 0 (by decide) (hts _ mw_15) (fun _ h9 => h9) rfl dX11_joined_12 ?_
            refine lv_iload_n hx hb dX11_joined_15 rfl (lv_at hl 4 rfl) ?_
            refine lv_iload hx hb dX11_joined_16 (lv_at hl 5 rfl) ?_
            refine er_V (As := [.int zc, .int zd]) (rest := []) hFX hKK hE hS (c_X6_stripOf_x l D κ κq st d sh vw ta sa n zc zd (by assumption)) 2 gV_X11_189 hdV_X6_stripOf rfl rfl ⟨Nat.le_of_ble_eq_true rfl, Nat.le_of_ble_eq_true rfl⟩ rfl rfl (Nat.le_of_ble_eq_true rfl) dX11_joined_18 ⟨Nat.le_of_ble_eq_true rfl, Nat.le_of_ble_eq_true rfl⟩ hl.1 hP 1 6 rfl rfl rfl (subP0 hP [1] rfl) (fun _ hp_226 => ?_)
            refine W.eq (g2 := F0 m 21 ls [.null]) rfl ?_
            refine lv_astoreN (lv' := [(7, .null), (6, .null), (0, .ref xx), (1, .int (nI t)), (2, .int zb), (3, .int zc), (4, .int zd), (5, .int (nI t3))]) hx hb dX11_joined_21 hl (by decide) rfl (fun ls hl => ?_)
            refine lv_aloadN hx hb dX11_joined_23 (lv_at hl 1 rfl) ?_
            refine lv_ifnullN (tgt := 53) hx hb dX11_joined_25 (by decide) ?_
            refine lv_iconst (v := (-1)) hx hb dX11_joined_53 (by decide) ?_
            exact et_iret hx hb hr hlk rfl hS ((-1), n, fs, fv, fa, ga, im2__215) rfl ⟨(show n ≤ 6 from (by first | assumption | omega | rfl | exact Or.inl (by assumption) | exact Or.inr (by assumption))), (show Tb κ im2__215 fs fv 3 from htb), (show Rn 6 3 fa from (by first | assumption | omega | rfl | exact Or.inl (by assumption) | exact Or.inr (by assumption))), (show Ss κ im2__215 ga 6 from hss), (show Sb im im2__215 from h_218)⟩ (subP hP [0, 1, 2, 3, 4, 5] rfl) (subD hD [0, 1, 2, 3, 4, 5] (by decide) rfl) (Nat.le_of_ble_eq_true rfl) (Nat.le_of_ble_eq_true rfl) dX11_joined_54
          · refine W.eq (g2 := F0 m 9 ls [.ref q__220]) rfl ?_
            refine lv_astore (lv' := [(6, .ref q__220), (0, .ref xx), (1, .int (nI t)), (2, .int zb), (3, .int zc), (4, .int zd), (5, .int (nI t3))]) hx hb dX11_joined_9 hl (by decide) rfl (fun ls hl => ?_)
            refine lv_aload_n hx hb dX11_joined_11 rfl (lv_at hl 1 rfl) ?_
            refine va_get (D := D) (ci := 11) (v := .ref st) (C := RX11) (T := TX11) (N := 7) hx hb hts inlX11 hown hK hP 0 rfl rfl 0 (by decide) (hts _ mw_15) (fun _ h9 => h9) rfl dX11_joined_12 ?_
            refine lv_iload_n hx hb dX11_joined_15 rfl (lv_at hl 4 rfl) ?_
            refine lv_iload hx hb dX11_joined_16 (lv_at hl 5 rfl) ?_
            refine er_V (As := [.int zc, .int zd]) (rest := []) hFX hKK hE hS (c_X6_stripOf_x l D κ κq st d sh vw ta sa n zc zd (by assumption)) 2 gV_X11_189 hdV_X6_stripOf rfl rfl ⟨Nat.le_of_ble_eq_true rfl, Nat.le_of_ble_eq_true rfl⟩ rfl rfl (Nat.le_of_ble_eq_true rfl) dX11_joined_18 ⟨Nat.le_of_ble_eq_true rfl, Nat.le_of_ble_eq_true rfl⟩ hl.1 hP 1 6 rfl rfl rfl (subP0 hP [1] rfl) (fun _ hp_227 => ?_)
            refine W.eq (g2 := F0 m 21 ls [.null]) rfl ?_
            refine lv_astoreN (lv' := [(7, .null), (6, .ref q__220), (0, .ref xx), (1, .int (nI t)), (2, .int zb), (3, .int zc), (4, .int zd), (5, .int (nI t3))]) hx hb dX11_joined_21 hl (by decide) rfl (fun ls hl => ?_)
            refine lv_aload hx hb dX11_joined_23 (lv_at hl 1 rfl) ?_
            refine lv_ifnull hx hb dX11_joined_25 ?_
            refine lv_aloadN hx hb dX11_joined_28 (lv_at hl 0 rfl) ?_
            refine lv_ifnullN (tgt := 53) hx hb dX11_joined_30 (by decide) ?_
            refine lv_iconst (v := (-1)) hx hb dX11_joined_53 (by decide) ?_
            exact et_iret hx hb hr hlk rfl hS ((-1), n, fs, fv, fa, ga, im2__215) rfl ⟨(show n ≤ 6 from (by first | assumption | omega | rfl | exact Or.inl (by assumption) | exact Or.inr (by assumption))), (show Tb κ im2__215 fs fv 3 from htb), (show Rn 6 3 fa from (by first | assumption | omega | rfl | exact Or.inl (by assumption) | exact Or.inr (by assumption))), (show Ss κ im2__215 ga 6 from hss), (show Sb im im2__215 from h_218)⟩ (subP hP [0, 1, 2, 3, 4, 5] rfl) (subD hD [0, 1, 2, 3, 4, 5] (by decide) rfl) (Nat.le_of_ble_eq_true rfl) (Nat.le_of_ble_eq_true rfl) dX11_joined_54
        · skip
          refine lv_aload_n hx hb dX11_joined_0 rfl (lv_at hl 0 rfl) ?_
          refine va_get (D := D) (ci := 11) (v := .ref st) (C := RX11) (T := TX11) (N := 7) hx hb hts inlX11 hown hK hP 0 rfl rfl 0 (by decide) (hts _ mw_15) (fun _ h9 => h9) rfl dX11_joined_1 ?_
          refine lv_iload_n hx hb dX11_joined_4 rfl (lv_at hl 1 rfl) ?_
          refine lv_iload_n hx hb dX11_joined_5 rfl (lv_at hl 2 rfl) ?_
          refine et_VT (CR := [(xx, .inr (11, [.ref st, .ref tp, .ref ft, .ref rd, .ref wr, .ref st2, .int zi])), (ta, .inl (κ 0, 6, .inl fa)), (sa, .inl (κ 4, 6, .inr (.inr (.inr (.inr ga)))))]) (As := [.int (nI t), .int zb]) (rest := []) hFX hKK hE hP hD hS hA (c_X6_stripOf_s l D κ κq im st d sh vw ta sa n fs fv t a_3 R_4 w_5 v_7 d_6 zb (by omega) e_1 e_2 h_8 h_9) 2 gV_X11_189 hdV_X6_stripOf ⟨Nat.le_of_ble_eq_true rfl, Nat.le_of_ble_eq_true rfl⟩ rfl rfl (Nat.le_of_ble_eq_true rfl) dX11_joined_6 ⟨Nat.le_of_ble_eq_true rfl, Nat.le_of_ble_eq_true rfl⟩ hl.1 [1, 2, 3] [0, 4, 5] rfl rfl (by decide) (by decide) (by decide) hP 1 6 rfl rfl rfl (fun u_230 H locs hp_231 hP hD hS => ?_)
          refine W.widen (k := 1) (n := 4) (Nat.le_refl _) (Nat.le_refl _) ?_
          obtain ⟨r__228, im2__229⟩ := u_230
          replace hP : va_P D vwCl ([(xx, .inr (11, [.ref st, .ref tp, .ref ft, .ref rd, .ref wr, .ref st2, .int zi])), (st, .inr (6, [.ref d, .ref sh, .ref vw, .ref ta, .ref sa, .int (nI n)])), (sh, .inl (κ 4, 3, .inr (.inr (.inr (.inr fs))))), (vw, .inl (κ 5, 3, .inr (.inr (.inr (.inr fv))))), (ta, .inl (κ 0, 6, .inl fa)), (sa, .inl (κ 4, 6, .inr (.inr (.inr (.inr ga)))))] ++ im2__229) H := subP (C := [(xx, .inr (11, [.ref st, .ref tp, .ref ft, .ref rd, .ref wr, .ref st2, .int zi])), (ta, .inl (κ 0, 6, .inl fa)), (sa, .inl (κ 4, 6, .inr (.inr (.inr (.inr ga))))), (st, .inr (6, [.ref d, .ref sh, .ref vw, .ref ta, .ref sa, .int (nI n)])), (sh, .inl (κ 4, 3, .inr (.inr (.inr (.inr fs))))), (vw, .inl (κ 5, 3, .inr (.inr (.inr (.inr fv)))))]) hP [0, 3, 4, 5, 1, 2] rfl
          replace hD : va_D A ([(xx, .inr (11, [.ref st, .ref tp, .ref ft, .ref rd, .ref wr, .ref st2, .int zi])), (st, .inr (6, [.ref d, .ref sh, .ref vw, .ref ta, .ref sa, .int (nI n)])), (sh, .inl (κ 4, 3, .inr (.inr (.inr (.inr fs))))), (vw, .inl (κ 5, 3, .inr (.inr (.inr (.inr fv))))), (ta, .inl (κ 0, 6, .inl fa)), (sa, .inl (κ 4, 6, .inr (.inr (.inr (.inr ga)))))] ++ im2__229) := subD (C := [(xx, .inr (11, [.ref st, .ref tp, .ref ft, .ref rd, .ref wr, .ref st2, .int zi])), (ta, .inl (κ 0, 6, .inl fa)), (sa, .inl (κ 4, 6, .inr (.inr (.inr (.inr ga))))), (st, .inr (6, [.ref d, .ref sh, .ref vw, .ref ta, .ref sa, .int (nI n)])), (sh, .inl (κ 4, 3, .inr (.inr (.inr (.inr fs))))), (vw, .inl (κ 5, 3, .inr (.inr (.inr (.inr fv)))))]) hD [0, 3, 4, 5, 1, 2] (by decide) rfl
          replace hp_231 : Sb im im2__229 ∧ ((r__228 = none) ∨ (∃ (q : Nat), ∃ (co : Nat), ∃ (ra : Nat), ∃ (mq : Nat), ∃ (ty : Nat), r__228 = some q ∧ Sp κ im2__229 q a_3 R_4 w_5 co ra mq ty)) := hp_231
          obtain ⟨h_232, ha_233⟩ := hp_231
          replace htb := htb.up h_232
          replace hss := hss.up h_232
          replace h_8 := h_8.up h_232
          replace h_9 := h_9.up h_232
          rcases ha_233 with rfl | ⟨q__234, co__235, ra__236, mq__237, ty__238, rfl, a_239⟩
          · refine W.eq (g2 := F0 m 9 ls [.null]) rfl ?_
            refine lv_astoreN (lv' := [(6, .null), (0, .ref xx), (1, .int (nI t)), (2, .int zb), (3, .int zc), (4, .int zd), (5, .int ze)]) hx hb dX11_joined_9 hl (by decide) rfl (fun ls hl => ?_)
            refine lv_aload_n hx hb dX11_joined_11 rfl (lv_at hl 1 rfl) ?_
            refine va_get (D := D) (ci := 11) (v := .ref st) (C := RX11) (T := TX11) (N := 7) hx hb hts inlX11 hown hK hP 0 rfl rfl 0 (by decide) (hts _ mw_15) (fun _ h9 => h9) rfl dX11_joined_12 ?_
            refine lv_iload_n hx hb dX11_joined_15 rfl (lv_at hl 4 rfl) ?_
            refine lv_iload hx hb dX11_joined_16 (lv_at hl 5 rfl) ?_
            refine er_V (As := [.int zc, .int zd]) (rest := []) hFX hKK hE hS (c_X6_stripOf_x l D κ κq st d sh vw ta sa n zc zd (by assumption)) 2 gV_X11_189 hdV_X6_stripOf rfl rfl ⟨Nat.le_of_ble_eq_true rfl, Nat.le_of_ble_eq_true rfl⟩ rfl rfl (Nat.le_of_ble_eq_true rfl) dX11_joined_18 ⟨Nat.le_of_ble_eq_true rfl, Nat.le_of_ble_eq_true rfl⟩ hl.1 hP 1 6 rfl rfl rfl (subP0 hP [1] rfl) (fun _ hp_240 => ?_)
            refine W.eq (g2 := F0 m 21 ls [.null]) rfl ?_
            refine lv_astoreN (lv' := [(7, .null), (6, .null), (0, .ref xx), (1, .int (nI t)), (2, .int zb), (3, .int zc), (4, .int zd), (5, .int ze)]) hx hb dX11_joined_21 hl (by decide) rfl (fun ls hl => ?_)
            refine lv_aloadN hx hb dX11_joined_23 (lv_at hl 1 rfl) ?_
            refine lv_ifnullN (tgt := 53) hx hb dX11_joined_25 (by decide) ?_
            refine lv_iconst (v := (-1)) hx hb dX11_joined_53 (by decide) ?_
            exact et_iret hx hb hr hlk rfl hS ((-1), n, fs, fv, fa, ga, im2__229) rfl ⟨(show n ≤ 6 from (by first | assumption | omega | rfl | exact Or.inl (by assumption) | exact Or.inr (by assumption))), (show Tb κ im2__229 fs fv 3 from htb), (show Rn 6 3 fa from (by first | assumption | omega | rfl | exact Or.inl (by assumption) | exact Or.inr (by assumption))), (show Ss κ im2__229 ga 6 from hss), (show Sb im im2__229 from h_232)⟩ (subP hP [0, 1, 2, 3, 4, 5] rfl) (subD hD [0, 1, 2, 3, 4, 5] (by decide) rfl) (Nat.le_of_ble_eq_true rfl) (Nat.le_of_ble_eq_true rfl) dX11_joined_54
          · refine W.eq (g2 := F0 m 9 ls [.ref q__234]) rfl ?_
            refine lv_astore (lv' := [(6, .ref q__234), (0, .ref xx), (1, .int (nI t)), (2, .int zb), (3, .int zc), (4, .int zd), (5, .int ze)]) hx hb dX11_joined_9 hl (by decide) rfl (fun ls hl => ?_)
            refine lv_aload_n hx hb dX11_joined_11 rfl (lv_at hl 1 rfl) ?_
            refine va_get (D := D) (ci := 11) (v := .ref st) (C := RX11) (T := TX11) (N := 7) hx hb hts inlX11 hown hK hP 0 rfl rfl 0 (by decide) (hts _ mw_15) (fun _ h9 => h9) rfl dX11_joined_12 ?_
            refine lv_iload_n hx hb dX11_joined_15 rfl (lv_at hl 4 rfl) ?_
            refine lv_iload hx hb dX11_joined_16 (lv_at hl 5 rfl) ?_
            refine er_V (As := [.int zc, .int zd]) (rest := []) hFX hKK hE hS (c_X6_stripOf_x l D κ κq st d sh vw ta sa n zc zd (by assumption)) 2 gV_X11_189 hdV_X6_stripOf rfl rfl ⟨Nat.le_of_ble_eq_true rfl, Nat.le_of_ble_eq_true rfl⟩ rfl rfl (Nat.le_of_ble_eq_true rfl) dX11_joined_18 ⟨Nat.le_of_ble_eq_true rfl, Nat.le_of_ble_eq_true rfl⟩ hl.1 hP 1 6 rfl rfl rfl (subP0 hP [1] rfl) (fun _ hp_241 => ?_)
            refine W.eq (g2 := F0 m 21 ls [.null]) rfl ?_
            refine lv_astoreN (lv' := [(7, .null), (6, .ref q__234), (0, .ref xx), (1, .int (nI t)), (2, .int zb), (3, .int zc), (4, .int zd), (5, .int ze)]) hx hb dX11_joined_21 hl (by decide) rfl (fun ls hl => ?_)
            refine lv_aload hx hb dX11_joined_23 (lv_at hl 1 rfl) ?_
            refine lv_ifnull hx hb dX11_joined_25 ?_
            refine lv_aloadN hx hb dX11_joined_28 (lv_at hl 0 rfl) ?_
            refine lv_ifnullN (tgt := 53) hx hb dX11_joined_30 (by decide) ?_
            refine lv_iconst (v := (-1)) hx hb dX11_joined_53 (by decide) ?_
            exact et_iret hx hb hr hlk rfl hS ((-1), n, fs, fv, fa, ga, im2__229) rfl ⟨(show n ≤ 6 from (by first | assumption | omega | rfl | exact Or.inl (by assumption) | exact Or.inr (by assumption))), (show Tb κ im2__229 fs fv 3 from htb), (show Rn 6 3 fa from (by first | assumption | omega | rfl | exact Or.inl (by assumption) | exact Or.inr (by assumption))), (show Ss κ im2__229 ga 6 from hss), (show Sb im im2__229 from h_232)⟩ (subP hP [0, 1, 2, 3, 4, 5] rfl) (subD hD [0, 1, 2, 3, 4, 5] (by decide) rfl) (Nat.le_of_ble_eq_true rfl) (Nat.le_of_ble_eq_true rfl) dX11_joined_54
  · skip
    rcases pl_cases zc with ⟨t2, ht_t2, rfl⟩ | hnp_zc
    · skip
      rcases htb t2 (by omega) with ⟨e_242, e_243⟩ | ⟨a_244, R_245, w_246, d_247, v_248, e_242, e_243, h_249, h_250, hd_251⟩
      · skip
        rcases pl_cases ze with ⟨t3, ht_t3, rfl⟩ | hnp_ze
        · skip
          refine lv_aload_n hx hb dX11_joined_0 rfl (lv_at hl 0 rfl) ?_
          refine va_get (D := D) (ci := 11) (v := .ref st) (C := RX11) (T := TX11) (N := 7) hx hb hts inlX11 hown hK hP 0 rfl rfl 0 (by decide) (hts _ mw_15) (fun _ h9 => h9) rfl dX11_joined_1 ?_
          refine lv_iload_n hx hb dX11_joined_4 rfl (lv_at hl 1 rfl) ?_
          refine lv_iload_n hx hb dX11_joined_5 rfl (lv_at hl 2 rfl) ?_
          refine er_V (As := [.int za, .int zb]) (rest := []) hFX hKK hE hS (c_X6_stripOf_x l D κ κq st d sh vw ta sa n za zb (by assumption)) 2 gV_X11_189 hdV_X6_stripOf rfl rfl ⟨Nat.le_of_ble_eq_true rfl, Nat.le_of_ble_eq_true rfl⟩ rfl rfl (Nat.le_of_ble_eq_true rfl) dX11_joined_6 ⟨Nat.le_of_ble_eq_true rfl, Nat.le_of_ble_eq_true rfl⟩ hl.1 hP 1 6 rfl rfl rfl (subP0 hP [1] rfl) (fun _ hp_252 => ?_)
          refine W.eq (g2 := F0 m 9 ls [.null]) rfl ?_
          refine lv_astoreN (lv' := [(6, .null), (0, .ref xx), (1, .int za), (2, .int zb), (3, .int (nI t2)), (4, .int zd), (5, .int (nI t3))]) hx hb dX11_joined_9 hl (by decide) rfl (fun ls hl => ?_)
          refine lv_aload_n hx hb dX11_joined_11 rfl (lv_at hl 1 rfl) ?_
          refine va_get (D := D) (ci := 11) (v := .ref st) (C := RX11) (T := TX11) (N := 7) hx hb hts inlX11 hown hK hP 0 rfl rfl 0 (by decide) (hts _ mw_15) (fun _ h9 => h9) rfl dX11_joined_12 ?_
          refine lv_iload_n hx hb dX11_joined_15 rfl (lv_at hl 4 rfl) ?_
          refine lv_iload hx hb dX11_joined_16 (lv_at hl 5 rfl) ?_
          refine er_V (As := [.int (nI t2), .int zd]) (rest := []) hFX hKK hE hS (c_X6_stripOf_n l D κ κq st d sh vw ta sa n fs fv t2 zd (by omega) e_242 e_243) 2 gV_X11_189 hdV_X6_stripOf rfl rfl ⟨Nat.le_of_ble_eq_true rfl, Nat.le_of_ble_eq_true rfl⟩ rfl rfl (Nat.le_of_ble_eq_true rfl) dX11_joined_18 ⟨Nat.le_of_ble_eq_true rfl, Nat.le_of_ble_eq_true rfl⟩ hl.1 hP 1 6 rfl rfl rfl (subP0 hP [1, 2, 3] rfl) (fun _ hp_253 => ?_)
          refine W.eq (g2 := F0 m 21 ls [.null]) rfl ?_
          refine lv_astoreN (lv' := [(7, .null), (6, .null), (0, .ref xx), (1, .int za), (2, .int zb), (3, .int (nI t2)), (4, .int zd), (5, .int (nI t3))]) hx hb dX11_joined_21 hl (by decide) rfl (fun ls hl => ?_)
          refine lv_aloadN hx hb dX11_joined_23 (lv_at hl 1 rfl) ?_
          refine lv_ifnullN (tgt := 53) hx hb dX11_joined_25 (by decide) ?_
          refine lv_iconst (v := (-1)) hx hb dX11_joined_53 (by decide) ?_
          exact et_iret hx hb hr hlk rfl hS ((-1), n, fs, fv, fa, ga, im) rfl ⟨(show n ≤ 6 from (by first | assumption | omega | rfl | exact Or.inl (by assumption) | exact Or.inr (by assumption))), (show Tb κ im fs fv 3 from htb), (show Rn 6 3 fa from (by first | assumption | omega | rfl | exact Or.inl (by assumption) | exact Or.inr (by assumption))), (show Ss κ im ga 6 from hss), (show Sb im im from Sb.rf)⟩ (subP hP [0, 1, 2, 3, 4, 5] rfl) (subD hD [0, 1, 2, 3, 4, 5] (by decide) rfl) (Nat.le_of_ble_eq_true rfl) (Nat.le_of_ble_eq_true rfl) dX11_joined_54
        · skip
          refine lv_aload_n hx hb dX11_joined_0 rfl (lv_at hl 0 rfl) ?_
          refine va_get (D := D) (ci := 11) (v := .ref st) (C := RX11) (T := TX11) (N := 7) hx hb hts inlX11 hown hK hP 0 rfl rfl 0 (by decide) (hts _ mw_15) (fun _ h9 => h9) rfl dX11_joined_1 ?_
          refine lv_iload_n hx hb dX11_joined_4 rfl (lv_at hl 1 rfl) ?_
          refine lv_iload_n hx hb dX11_joined_5 rfl (lv_at hl 2 rfl) ?_
          refine er_V (As := [.int za, .int zb]) (rest := []) hFX hKK hE hS (c_X6_stripOf_x l D κ κq st d sh vw ta sa n za zb (by assumption)) 2 gV_X11_189 hdV_X6_stripOf rfl rfl ⟨Nat.le_of_ble_eq_true rfl, Nat.le_of_ble_eq_true rfl⟩ rfl rfl (Nat.le_of_ble_eq_true rfl) dX11_joined_6 ⟨Nat.le_of_ble_eq_true rfl, Nat.le_of_ble_eq_true rfl⟩ hl.1 hP 1 6 rfl rfl rfl (subP0 hP [1] rfl) (fun _ hp_254 => ?_)
          refine W.eq (g2 := F0 m 9 ls [.null]) rfl ?_
          refine lv_astoreN (lv' := [(6, .null), (0, .ref xx), (1, .int za), (2, .int zb), (3, .int (nI t2)), (4, .int zd), (5, .int ze)]) hx hb dX11_joined_9 hl (by decide) rfl (fun ls hl => ?_)
          refine lv_aload_n hx hb dX11_joined_11 rfl (lv_at hl 1 rfl) ?_
          refine va_get (D := D) (ci := 11) (v := .ref st) (C := RX11) (T := TX11) (N := 7) hx hb hts inlX11 hown hK hP 0 rfl rfl 0 (by decide) (hts _ mw_15) (fun _ h9 => h9) rfl dX11_joined_12 ?_
          refine lv_iload_n hx hb dX11_joined_15 rfl (lv_at hl 4 rfl) ?_
          refine lv_iload hx hb dX11_joined_16 (lv_at hl 5 rfl) ?_
          refine er_V (As := [.int (nI t2), .int zd]) (rest := []) hFX hKK hE hS (c_X6_stripOf_n l D κ κq st d sh vw ta sa n fs fv t2 zd (by omega) e_242 e_243) 2 gV_X11_189 hdV_X6_stripOf rfl rfl ⟨Nat.le_of_ble_eq_true rfl, Nat.le_of_ble_eq_true rfl⟩ rfl rfl (Nat.le_of_ble_eq_true rfl) dX11_joined_18 ⟨Nat.le_of_ble_eq_true rfl, Nat.le_of_ble_eq_true rfl⟩ hl.1 hP 1 6 rfl rfl rfl (subP0 hP [1, 2, 3] rfl) (fun _ hp_255 => ?_)
          refine W.eq (g2 := F0 m 21 ls [.null]) rfl ?_
          refine lv_astoreN (lv' := [(7, .null), (6, .null), (0, .ref xx), (1, .int za), (2, .int zb), (3, .int (nI t2)), (4, .int zd), (5, .int ze)]) hx hb dX11_joined_21 hl (by decide) rfl (fun ls hl => ?_)
          refine lv_aloadN hx hb dX11_joined_23 (lv_at hl 1 rfl) ?_
          refine lv_ifnullN (tgt := 53) hx hb dX11_joined_25 (by decide) ?_
          refine lv_iconst (v := (-1)) hx hb dX11_joined_53 (by decide) ?_
          exact et_iret hx hb hr hlk rfl hS ((-1), n, fs, fv, fa, ga, im) rfl ⟨(show n ≤ 6 from (by first | assumption | omega | rfl | exact Or.inl (by assumption) | exact Or.inr (by assumption))), (show Tb κ im fs fv 3 from htb), (show Rn 6 3 fa from (by first | assumption | omega | rfl | exact Or.inl (by assumption) | exact Or.inr (by assumption))), (show Ss κ im ga 6 from hss), (show Sb im im from Sb.rf)⟩ (subP hP [0, 1, 2, 3, 4, 5] rfl) (subD hD [0, 1, 2, 3, 4, 5] (by decide) rfl) (Nat.le_of_ble_eq_true rfl) (Nat.le_of_ble_eq_true rfl) dX11_joined_54
      · have hle_a_244 := h_249.le
        rcases pl_cases ze with ⟨t3, ht_t3, rfl⟩ | hnp_ze
        · skip
          refine lv_aload_n hx hb dX11_joined_0 rfl (lv_at hl 0 rfl) ?_
          refine va_get (D := D) (ci := 11) (v := .ref st) (C := RX11) (T := TX11) (N := 7) hx hb hts inlX11 hown hK hP 0 rfl rfl 0 (by decide) (hts _ mw_15) (fun _ h9 => h9) rfl dX11_joined_1 ?_
          refine lv_iload_n hx hb dX11_joined_4 rfl (lv_at hl 1 rfl) ?_
          refine lv_iload_n hx hb dX11_joined_5 rfl (lv_at hl 2 rfl) ?_
          refine er_V (As := [.int za, .int zb]) (rest := []) hFX hKK hE hS (c_X6_stripOf_x l D κ κq st d sh vw ta sa n za zb (by assumption)) 2 gV_X11_189 hdV_X6_stripOf rfl rfl ⟨Nat.le_of_ble_eq_true rfl, Nat.le_of_ble_eq_true rfl⟩ rfl rfl (Nat.le_of_ble_eq_true rfl) dX11_joined_6 ⟨Nat.le_of_ble_eq_true rfl, Nat.le_of_ble_eq_true rfl⟩ hl.1 hP 1 6 rfl rfl rfl (subP0 hP [1] rfl) (fun _ hp_256 => ?_)
          refine W.eq (g2 := F0 m 9 ls [.null]) rfl ?_
          refine lv_astoreN (lv' := [(6, .null), (0, .ref xx), (1, .int za), (2, .int zb), (3, .int (nI t2)), (4, .int zd), (5, .int (nI t3))]) hx hb dX11_joined_9 hl (by decide) rfl (fun ls hl => ?_)
          refine lv_aload_n hx hb dX11_joined_11 rfl (lv_at hl 1 rfl) ?_
          refine va_get (D := D) (ci := 11) (v := .ref st) (C := RX11) (T := TX11) (N := 7) hx hb hts inlX11 hown hK hP 0 rfl rfl 0 (by decide) (hts _ mw_15) (fun _ h9 => h9) rfl dX11_joined_12 ?_
          refine lv_iload_n hx hb dX11_joined_15 rfl (lv_at hl 4 rfl) ?_
          refine lv_iload hx hb dX11_joined_16 (lv_at hl 5 rfl) ?_
          refine et_VT (CR := [(xx, .inr (11, [.ref st, .ref tp, .ref ft, .ref rd, .ref wr, .ref st2, .int zi])), (ta, .inl (κ 0, 6, .inl fa)), (sa, .inl (κ 4, 6, .inr (.inr (.inr (.inr ga)))))]) (As := [.int (nI t2), .int zd]) (rest := []) hFX hKK hE hP hD hS hA (c_X6_stripOf_s l D κ κq im st d sh vw ta sa n fs fv t2 a_244 R_245 w_246 v_248 d_247 zd (by omega) e_242 e_243 h_249 h_250) 2 gV_X11_189 hdV_X6_stripOf ⟨Nat.le_of_ble_eq_true rfl, Nat.le_of_ble_eq_true rfl⟩ rfl rfl (Nat.le_of_ble_eq_true rfl) dX11_joined_18 ⟨Nat.le_of_ble_eq_true rfl, Nat.le_of_ble_eq_true rfl⟩ hl.1 [1, 2, 3] [0, 4, 5] rfl rfl (by decide) (by decide) (by decide) hP 1 6 rfl rfl rfl (fun u_259 H locs hp_260 hP hD hS => ?_)
          refine W.widen (k := 1) (n := 4) (Nat.le_refl _) (Nat.le_refl _) ?_
          obtain ⟨r__257, im2__258⟩ := u_259
          replace hP : va_P D vwCl ([(xx, .inr (11, [.ref st, .ref tp, .ref ft, .ref rd, .ref wr, .ref st2, .int zi])), (st, .inr (6, [.ref d, .ref sh, .ref vw, .ref ta, .ref sa, .int (nI n)])), (sh, .inl (κ 4, 3, .inr (.inr (.inr (.inr fs))))), (vw, .inl (κ 5, 3, .inr (.inr (.inr (.inr fv))))), (ta, .inl (κ 0, 6, .inl fa)), (sa, .inl (κ 4, 6, .inr (.inr (.inr (.inr ga)))))] ++ im2__258) H := subP (C := [(xx, .inr (11, [.ref st, .ref tp, .ref ft, .ref rd, .ref wr, .ref st2, .int zi])), (ta, .inl (κ 0, 6, .inl fa)), (sa, .inl (κ 4, 6, .inr (.inr (.inr (.inr ga))))), (st, .inr (6, [.ref d, .ref sh, .ref vw, .ref ta, .ref sa, .int (nI n)])), (sh, .inl (κ 4, 3, .inr (.inr (.inr (.inr fs))))), (vw, .inl (κ 5, 3, .inr (.inr (.inr (.inr fv)))))]) hP [0, 3, 4, 5, 1, 2] rfl
          replace hD : va_D A ([(xx, .inr (11, [.ref st, .ref tp, .ref ft, .ref rd, .ref wr, .ref st2, .int zi])), (st, .inr (6, [.ref d, .ref sh, .ref vw, .ref ta, .ref sa, .int (nI n)])), (sh, .inl (κ 4, 3, .inr (.inr (.inr (.inr fs))))), (vw, .inl (κ 5, 3, .inr (.inr (.inr (.inr fv))))), (ta, .inl (κ 0, 6, .inl fa)), (sa, .inl (κ 4, 6, .inr (.inr (.inr (.inr ga)))))] ++ im2__258) := subD (C := [(xx, .inr (11, [.ref st, .ref tp, .ref ft, .ref rd, .ref wr, .ref st2, .int zi])), (ta, .inl (κ 0, 6, .inl fa)), (sa, .inl (κ 4, 6, .inr (.inr (.inr (.inr ga))))), (st, .inr (6, [.ref d, .ref sh, .ref vw, .ref ta, .ref sa, .int (nI n)])), (sh, .inl (κ 4, 3, .inr (.inr (.inr (.inr fs))))), (vw, .inl (κ 5, 3, .inr (.inr (.inr (.inr fv)))))]) hD [0, 3, 4, 5, 1, 2] (by decide) rfl
          replace hp_260 : Sb im im2__258 ∧ ((r__257 = none) ∨ (∃ (q : Nat), ∃ (co : Nat), ∃ (ra : Nat), ∃ (mq : Nat), ∃ (ty : Nat), r__257 = some q ∧ Sp κ im2__258 q a_244 R_245 w_246 co ra mq ty)) := hp_260
          obtain ⟨h_261, ha_262⟩ := hp_260
          replace htb := htb.up h_261
          replace hss := hss.up h_261
          replace h_249 := h_249.up h_261
          replace h_250 := h_250.up h_261
          rcases ha_262 with rfl | ⟨q__263, co__264, ra__265, mq__266, ty__267, rfl, a_268⟩
          · refine W.eq (g2 := F0 m 21 ls [.null]) rfl ?_
            refine lv_astoreN (lv' := [(7, .null), (6, .null), (0, .ref xx), (1, .int za), (2, .int zb), (3, .int (nI t2)), (4, .int zd), (5, .int (nI t3))]) hx hb dX11_joined_21 hl (by decide) rfl (fun ls hl => ?_)
            refine lv_aloadN hx hb dX11_joined_23 (lv_at hl 1 rfl) ?_
            refine lv_ifnullN (tgt := 53) hx hb dX11_joined_25 (by decide) ?_
            refine lv_iconst (v := (-1)) hx hb dX11_joined_53 (by decide) ?_
            exact et_iret hx hb hr hlk rfl hS ((-1), n, fs, fv, fa, ga, im2__258) rfl ⟨(show n ≤ 6 from (by first | assumption | omega | rfl | exact Or.inl (by assumption) | exact Or.inr (by assumption))), (show Tb κ im2__258 fs fv 3 from htb), (show Rn 6 3 fa from (by first | assumption | omega | rfl | exact Or.inl (by assumption) | exact Or.inr (by assumption))), (show Ss κ im2__258 ga 6 from hss), (show Sb im im2__258 from h_261)⟩ (subP hP [0, 1, 2, 3, 4, 5] rfl) (subD hD [0, 1, 2, 3, 4, 5] (by decide) rfl) (Nat.le_of_ble_eq_true rfl) (Nat.le_of_ble_eq_true rfl) dX11_joined_54
          · refine W.eq (g2 := F0 m 21 ls [.ref q__263]) rfl ?_
            refine lv_astore (lv' := [(7, .ref q__263), (6, .null), (0, .ref xx), (1, .int za), (2, .int zb), (3, .int (nI t2)), (4, .int zd), (5, .int (nI t3))]) hx hb dX11_joined_21 hl (by decide) rfl (fun ls hl => ?_)
            refine lv_aloadN hx hb dX11_joined_23 (lv_at hl 1 rfl) ?_
            refine lv_ifnullN (tgt := 53) hx hb dX11_joined_25 (by decide) ?_
            refine lv_iconst (v := (-1)) hx hb dX11_joined_53 (by decide) ?_
            exact et_iret hx hb hr hlk rfl hS ((-1), n, fs, fv, fa, ga, im2__258) rfl ⟨(show n ≤ 6 from (by first | assumption | omega | rfl | exact Or.inl (by assumption) | exact Or.inr (by assumption))), (show Tb κ im2__258 fs fv 3 from htb), (show Rn 6 3 fa from (by first | assumption | omega | rfl | exact Or.inl (by assumption) | exact Or.inr (by assumption))), (show Ss κ im2__258 ga 6 from hss), (show Sb im im2__258 from h_261)⟩ (subP hP [0, 1, 2, 3, 4, 5] rfl) (subD hD [0, 1, 2, 3, 4, 5] (by decide) rfl) (Nat.le_of_ble_eq_true rfl) (Nat.le_of_ble_eq_true rfl) dX11_joined_54
        · skip
          refine lv_aload_n hx hb dX11_joined_0 rfl (lv_at hl 0 rfl) ?_
          refine va_get (D := D) (ci := 11) (v := .ref st) (C := RX11) (T := TX11) (N := 7) hx hb hts inlX11 hown hK hP 0 rfl rfl 0 (by decide) (hts _ mw_15) (fun _ h9 => h9) rfl dX11_joined_1 ?_
          refine lv_iload_n hx hb dX11_joined_4 rfl (lv_at hl 1 rfl) ?_
          refine lv_iload_n hx hb dX11_joined_5 rfl (lv_at hl 2 rfl) ?_
          refine er_V (As := [.int za, .int zb]) (rest := []) hFX hKK hE hS (c_X6_stripOf_x l D κ κq st d sh vw ta sa n za zb (by assumption)) 2 gV_X11_189 hdV_X6_stripOf rfl rfl ⟨Nat.le_of_ble_eq_true rfl, Nat.le_of_ble_eq_true rfl⟩ rfl rfl (Nat.le_of_ble_eq_true rfl) dX11_joined_6 ⟨Nat.le_of_ble_eq_true rfl, Nat.le_of_ble_eq_true rfl⟩ hl.1 hP 1 6 rfl rfl rfl (subP0 hP [1] rfl) (fun _ hp_269 => ?_)
          refine W.eq (g2 := F0 m 9 ls [.null]) rfl ?_
          refine lv_astoreN (lv' := [(6, .null), (0, .ref xx), (1, .int za), (2, .int zb), (3, .int (nI t2)), (4, .int zd), (5, .int ze)]) hx hb dX11_joined_9 hl (by decide) rfl (fun ls hl => ?_)
          refine lv_aload_n hx hb dX11_joined_11 rfl (lv_at hl 1 rfl) ?_
          refine va_get (D := D) (ci := 11) (v := .ref st) (C := RX11) (T := TX11) (N := 7) hx hb hts inlX11 hown hK hP 0 rfl rfl 0 (by decide) (hts _ mw_15) (fun _ h9 => h9) rfl dX11_joined_12 ?_
          refine lv_iload_n hx hb dX11_joined_15 rfl (lv_at hl 4 rfl) ?_
          refine lv_iload hx hb dX11_joined_16 (lv_at hl 5 rfl) ?_
          refine et_VT (CR := [(xx, .inr (11, [.ref st, .ref tp, .ref ft, .ref rd, .ref wr, .ref st2, .int zi])), (ta, .inl (κ 0, 6, .inl fa)), (sa, .inl (κ 4, 6, .inr (.inr (.inr (.inr ga)))))]) (As := [.int (nI t2), .int zd]) (rest := []) hFX hKK hE hP hD hS hA (c_X6_stripOf_s l D κ κq im st d sh vw ta sa n fs fv t2 a_244 R_245 w_246 v_248 d_247 zd (by omega) e_242 e_243 h_249 h_250) 2 gV_X11_189 hdV_X6_stripOf ⟨Nat.le_of_ble_eq_true rfl, Nat.le_of_ble_eq_true rfl⟩ rfl rfl (Nat.le_of_ble_eq_true rfl) dX11_joined_18 ⟨Nat.le_of_ble_eq_true rfl, Nat.le_of_ble_eq_true rfl⟩ hl.1 [1, 2, 3] [0, 4, 5] rfl rfl (by decide) (by decide) (by decide) hP 1 6 rfl rfl rfl (fun u_272 H locs hp_273 hP hD hS => ?_)
          refine W.widen (k := 1) (n := 4) (Nat.le_refl _) (Nat.le_refl _) ?_
          obtain ⟨r__270, im2__271⟩ := u_272
          replace hP : va_P D vwCl ([(xx, .inr (11, [.ref st, .ref tp, .ref ft, .ref rd, .ref wr, .ref st2, .int zi])), (st, .inr (6, [.ref d, .ref sh, .ref vw, .ref ta, .ref sa, .int (nI n)])), (sh, .inl (κ 4, 3, .inr (.inr (.inr (.inr fs))))), (vw, .inl (κ 5, 3, .inr (.inr (.inr (.inr fv))))), (ta, .inl (κ 0, 6, .inl fa)), (sa, .inl (κ 4, 6, .inr (.inr (.inr (.inr ga)))))] ++ im2__271) H := subP (C := [(xx, .inr (11, [.ref st, .ref tp, .ref ft, .ref rd, .ref wr, .ref st2, .int zi])), (ta, .inl (κ 0, 6, .inl fa)), (sa, .inl (κ 4, 6, .inr (.inr (.inr (.inr ga))))), (st, .inr (6, [.ref d, .ref sh, .ref vw, .ref ta, .ref sa, .int (nI n)])), (sh, .inl (κ 4, 3, .inr (.inr (.inr (.inr fs))))), (vw, .inl (κ 5, 3, .inr (.inr (.inr (.inr fv)))))]) hP [0, 3, 4, 5, 1, 2] rfl
          replace hD : va_D A ([(xx, .inr (11, [.ref st, .ref tp, .ref ft, .ref rd, .ref wr, .ref st2, .int zi])), (st, .inr (6, [.ref d, .ref sh, .ref vw, .ref ta, .ref sa, .int (nI n)])), (sh, .inl (κ 4, 3, .inr (.inr (.inr (.inr fs))))), (vw, .inl (κ 5, 3, .inr (.inr (.inr (.inr fv))))), (ta, .inl (κ 0, 6, .inl fa)), (sa, .inl (κ 4, 6, .inr (.inr (.inr (.inr ga)))))] ++ im2__271) := subD (C := [(xx, .inr (11, [.ref st, .ref tp, .ref ft, .ref rd, .ref wr, .ref st2, .int zi])), (ta, .inl (κ 0, 6, .inl fa)), (sa, .inl (κ 4, 6, .inr (.inr (.inr (.inr ga))))), (st, .inr (6, [.ref d, .ref sh, .ref vw, .ref ta, .ref sa, .int (nI n)])), (sh, .inl (κ 4, 3, .inr (.inr (.inr (.inr fs))))), (vw, .inl (κ 5, 3, .inr (.inr (.inr (.inr fv)))))]) hD [0, 3, 4, 5, 1, 2] (by decide) rfl
          replace hp_273 : Sb im im2__271 ∧ ((r__270 = none) ∨ (∃ (q : Nat), ∃ (co : Nat), ∃ (ra : Nat), ∃ (mq : Nat), ∃ (ty : Nat), r__270 = some q ∧ Sp κ im2__271 q a_244 R_245 w_246 co ra mq ty)) := hp_273
          obtain ⟨h_274, ha_275⟩ := hp_273
          replace htb := htb.up h_274
          replace hss := hss.up h_274
          replace h_249 := h_249.up h_274
          replace h_250 := h_250.up h_274
          rcases ha_275 with rfl | ⟨q__276, co__277, ra__278, mq__279, ty__280, rfl, a_281⟩
          · refine W.eq (g2 := F0 m 21 ls [.null]) rfl ?_
            refine lv_astoreN (lv' := [(7, .null), (6, .null), (0, .ref xx), (1, .int za), (2, .int zb), (3, .int (nI t2)), (4, .int zd), (5, .int ze)]) hx hb dX11_joined_21 hl (by decide) rfl (fun ls hl => ?_)
            refine lv_aloadN hx hb dX11_joined_23 (lv_at hl 1 rfl) ?_
            refine lv_ifnullN (tgt := 53) hx hb dX11_joined_25 (by decide) ?_
            refine lv_iconst (v := (-1)) hx hb dX11_joined_53 (by decide) ?_
            exact et_iret hx hb hr hlk rfl hS ((-1), n, fs, fv, fa, ga, im2__271) rfl ⟨(show n ≤ 6 from (by first | assumption | omega | rfl | exact Or.inl (by assumption) | exact Or.inr (by assumption))), (show Tb κ im2__271 fs fv 3 from htb), (show Rn 6 3 fa from (by first | assumption | omega | rfl | exact Or.inl (by assumption) | exact Or.inr (by assumption))), (show Ss κ im2__271 ga 6 from hss), (show Sb im im2__271 from h_274)⟩ (subP hP [0, 1, 2, 3, 4, 5] rfl) (subD hD [0, 1, 2, 3, 4, 5] (by decide) rfl) (Nat.le_of_ble_eq_true rfl) (Nat.le_of_ble_eq_true rfl) dX11_joined_54
          · refine W.eq (g2 := F0 m 21 ls [.ref q__276]) rfl ?_
            refine lv_astore (lv' := [(7, .ref q__276), (6, .null), (0, .ref xx), (1, .int za), (2, .int zb), (3, .int (nI t2)), (4, .int zd), (5, .int ze)]) hx hb dX11_joined_21 hl (by decide) rfl (fun ls hl => ?_)
            refine lv_aloadN hx hb dX11_joined_23 (lv_at hl 1 rfl) ?_
            refine lv_ifnullN (tgt := 53) hx hb dX11_joined_25 (by decide) ?_
            refine lv_iconst (v := (-1)) hx hb dX11_joined_53 (by decide) ?_
            exact et_iret hx hb hr hlk rfl hS ((-1), n, fs, fv, fa, ga, im2__271) rfl ⟨(show n ≤ 6 from (by first | assumption | omega | rfl | exact Or.inl (by assumption) | exact Or.inr (by assumption))), (show Tb κ im2__271 fs fv 3 from htb), (show Rn 6 3 fa from (by first | assumption | omega | rfl | exact Or.inl (by assumption) | exact Or.inr (by assumption))), (show Ss κ im2__271 ga 6 from hss), (show Sb im im2__271 from h_274)⟩ (subP hP [0, 1, 2, 3, 4, 5] rfl) (subD hD [0, 1, 2, 3, 4, 5] (by decide) rfl) (Nat.le_of_ble_eq_true rfl) (Nat.le_of_ble_eq_true rfl) dX11_joined_54
    · skip
      rcases pl_cases ze with ⟨t3, ht_t3, rfl⟩ | hnp_ze
      · skip
        refine lv_aload_n hx hb dX11_joined_0 rfl (lv_at hl 0 rfl) ?_
        refine va_get (D := D) (ci := 11) (v := .ref st) (C := RX11) (T := TX11) (N := 7) hx hb hts inlX11 hown hK hP 0 rfl rfl 0 (by decide) (hts _ mw_15) (fun _ h9 => h9) rfl dX11_joined_1 ?_
        refine lv_iload_n hx hb dX11_joined_4 rfl (lv_at hl 1 rfl) ?_
        refine lv_iload_n hx hb dX11_joined_5 rfl (lv_at hl 2 rfl) ?_
        refine er_V (As := [.int za, .int zb]) (rest := []) hFX hKK hE hS (c_X6_stripOf_x l D κ κq st d sh vw ta sa n za zb (by assumption)) 2 gV_X11_189 hdV_X6_stripOf rfl rfl ⟨Nat.le_of_ble_eq_true rfl, Nat.le_of_ble_eq_true rfl⟩ rfl rfl (Nat.le_of_ble_eq_true rfl) dX11_joined_6 ⟨Nat.le_of_ble_eq_true rfl, Nat.le_of_ble_eq_true rfl⟩ hl.1 hP 1 6 rfl rfl rfl (subP0 hP [1] rfl) (fun _ hp_282 => ?_)
        refine W.eq (g2 := F0 m 9 ls [.null]) rfl ?_
        refine lv_astoreN (lv' := [(6, .null), (0, .ref xx), (1, .int za), (2, .int zb), (3, .int zc), (4, .int zd), (5, .int (nI t3))]) hx hb dX11_joined_9 hl (by decide) rfl (fun ls hl => ?_)
        refine lv_aload_n hx hb dX11_joined_11 rfl (lv_at hl 1 rfl) ?_
        refine va_get (D := D) (ci := 11) (v := .ref st) (C := RX11) (T := TX11) (N := 7) hx hb hts inlX11 hown hK hP 0 rfl rfl 0 (by decide) (hts _ mw_15) (fun _ h9 => h9) rfl dX11_joined_12 ?_
        refine lv_iload_n hx hb dX11_joined_15 rfl (lv_at hl 4 rfl) ?_
        refine lv_iload hx hb dX11_joined_16 (lv_at hl 5 rfl) ?_
        refine er_V (As := [.int zc, .int zd]) (rest := []) hFX hKK hE hS (c_X6_stripOf_x l D κ κq st d sh vw ta sa n zc zd (by assumption)) 2 gV_X11_189 hdV_X6_stripOf rfl rfl ⟨Nat.le_of_ble_eq_true rfl, Nat.le_of_ble_eq_true rfl⟩ rfl rfl (Nat.le_of_ble_eq_true rfl) dX11_joined_18 ⟨Nat.le_of_ble_eq_true rfl, Nat.le_of_ble_eq_true rfl⟩ hl.1 hP 1 6 rfl rfl rfl (subP0 hP [1] rfl) (fun _ hp_283 => ?_)
        refine W.eq (g2 := F0 m 21 ls [.null]) rfl ?_
        refine lv_astoreN (lv' := [(7, .null), (6, .null), (0, .ref xx), (1, .int za), (2, .int zb), (3, .int zc), (4, .int zd), (5, .int (nI t3))]) hx hb dX11_joined_21 hl (by decide) rfl (fun ls hl => ?_)
        refine lv_aloadN hx hb dX11_joined_23 (lv_at hl 1 rfl) ?_
        refine lv_ifnullN (tgt := 53) hx hb dX11_joined_25 (by decide) ?_
        refine lv_iconst (v := (-1)) hx hb dX11_joined_53 (by decide) ?_
        exact et_iret hx hb hr hlk rfl hS ((-1), n, fs, fv, fa, ga, im) rfl ⟨(show n ≤ 6 from (by first | assumption | omega | rfl | exact Or.inl (by assumption) | exact Or.inr (by assumption))), (show Tb κ im fs fv 3 from htb), (show Rn 6 3 fa from (by first | assumption | omega | rfl | exact Or.inl (by assumption) | exact Or.inr (by assumption))), (show Ss κ im ga 6 from hss), (show Sb im im from Sb.rf)⟩ (subP hP [0, 1, 2, 3, 4, 5] rfl) (subD hD [0, 1, 2, 3, 4, 5] (by decide) rfl) (Nat.le_of_ble_eq_true rfl) (Nat.le_of_ble_eq_true rfl) dX11_joined_54
      · skip
        refine lv_aload_n hx hb dX11_joined_0 rfl (lv_at hl 0 rfl) ?_
        refine va_get (D := D) (ci := 11) (v := .ref st) (C := RX11) (T := TX11) (N := 7) hx hb hts inlX11 hown hK hP 0 rfl rfl 0 (by decide) (hts _ mw_15) (fun _ h9 => h9) rfl dX11_joined_1 ?_
        refine lv_iload_n hx hb dX11_joined_4 rfl (lv_at hl 1 rfl) ?_
        refine lv_iload_n hx hb dX11_joined_5 rfl (lv_at hl 2 rfl) ?_
        refine er_V (As := [.int za, .int zb]) (rest := []) hFX hKK hE hS (c_X6_stripOf_x l D κ κq st d sh vw ta sa n za zb (by assumption)) 2 gV_X11_189 hdV_X6_stripOf rfl rfl ⟨Nat.le_of_ble_eq_true rfl, Nat.le_of_ble_eq_true rfl⟩ rfl rfl (Nat.le_of_ble_eq_true rfl) dX11_joined_6 ⟨Nat.le_of_ble_eq_true rfl, Nat.le_of_ble_eq_true rfl⟩ hl.1 hP 1 6 rfl rfl rfl (subP0 hP [1] rfl) (fun _ hp_284 => ?_)
        refine W.eq (g2 := F0 m 9 ls [.null]) rfl ?_
        refine lv_astoreN (lv' := [(6, .null), (0, .ref xx), (1, .int za), (2, .int zb), (3, .int zc), (4, .int zd), (5, .int ze)]) hx hb dX11_joined_9 hl (by decide) rfl (fun ls hl => ?_)
        refine lv_aload_n hx hb dX11_joined_11 rfl (lv_at hl 1 rfl) ?_
        refine va_get (D := D) (ci := 11) (v := .ref st) (C := RX11) (T := TX11) (N := 7) hx hb hts inlX11 hown hK hP 0 rfl rfl 0 (by decide) (hts _ mw_15) (fun _ h9 => h9) rfl dX11_joined_12 ?_
        refine lv_iload_n hx hb dX11_joined_15 rfl (lv_at hl 4 rfl) ?_
        refine lv_iload hx hb dX11_joined_16 (lv_at hl 5 rfl) ?_
        refine er_V (As := [.int zc, .int zd]) (rest := []) hFX hKK hE hS (c_X6_stripOf_x l D κ κq st d sh vw ta sa n zc zd (by assumption)) 2 gV_X11_189 hdV_X6_stripOf rfl rfl ⟨Nat.le_of_ble_eq_true rfl, Nat.le_of_ble_eq_true rfl⟩ rfl rfl (Nat.le_of_ble_eq_true rfl) dX11_joined_18 ⟨Nat.le_of_ble_eq_true rfl, Nat.le_of_ble_eq_true rfl⟩ hl.1 hP 1 6 rfl rfl rfl (subP0 hP [1] rfl) (fun _ hp_285 => ?_)
        refine W.eq (g2 := F0 m 21 ls [.null]) rfl ?_
        refine lv_astoreN (lv' := [(7, .null), (6, .null), (0, .ref xx), (1, .int za), (2, .int zb), (3, .int zc), (4, .int zd), (5, .int ze)]) hx hb dX11_joined_21 hl (by decide) rfl (fun ls hl => ?_)
        refine lv_aloadN hx hb dX11_joined_23 (lv_at hl 1 rfl) ?_
        refine lv_ifnullN (tgt := 53) hx hb dX11_joined_25 (by decide) ?_
        refine lv_iconst (v := (-1)) hx hb dX11_joined_53 (by decide) ?_
        exact et_iret hx hb hr hlk rfl hS ((-1), n, fs, fv, fa, ga, im) rfl ⟨(show n ≤ 6 from (by first | assumption | omega | rfl | exact Or.inl (by assumption) | exact Or.inr (by assumption))), (show Tb κ im fs fv 3 from htb), (show Rn 6 3 fa from (by first | assumption | omega | rfl | exact Or.inl (by assumption) | exact Or.inr (by assumption))), (show Ss κ im ga 6 from hss), (show Sb im im from Sb.rf)⟩ (subP hP [0, 1, 2, 3, 4, 5] rfl) (subD hD [0, 1, 2, 3, 4, 5] (by decide) rfl) (Nat.le_of_ble_eq_true rfl) (Nat.le_of_ble_eq_true rfl) dX11_joined_54
set_option maxHeartbeats 4000000 in
set_option maxRecDepth 100000 in
theorem c_X11_undo (l : Launch) (D : va_G) (κ : Nat → ClassId) (κq : Nat → Nat) (im : va_W) (xx : Nat) (tp : Nat) (ft : Nat) (rd : Nat) (wr : Nat) (st2 : Nat) (zi : Int32) (st : Nat) (d : Nat) (sh : Nat) (vw : Nat) (ta : Nat) (sa : Nat) (n : Nat) (fs : Nat → Option Nat) (fv : Nat → Option Nat) (fa : Nat → Int32) (ga : Nat → Option Nat) (hn6 : n ≤ 6) (htb : Tb κ im fs fv 3) (hrn : Rn 6 3 fa) (hss : Ss κ im ga 6) : Et l yX11_undo (wl yX11_undo cX11_undo 1 (some .int)) { frames := 2, cells := 0, slots := 0, locals := 43 } D κ κq [.ref xx] ([(xx, .inr (11, [.ref st, .ref tp, .ref ft, .ref rd, .ref wr, .ref st2, .int zi])), (st, .inr (6, [.ref d, .ref sh, .ref vw, .ref ta, .ref sa, .int (nI n)])), (sh, .inl (κ 4, 3, .inr (.inr (.inr (.inr fs))))), (vw, .inl (κ 5, 3, .inr (.inr (.inr (.inr fv))))), (ta, .inl (κ 0, 6, .inl fa)), (sa, .inl (κ 4, 6, .inr (.inr (.inr (.inr ga)))))] ++ im) (fun u9 : Int32 × Nat × (Nat → Option Nat) × (Nat → Option Nat) × (Nat → Int32) × (Nat → Option Nat) => some (.int u9.1)) (fun u9 : Int32 × Nat × (Nat → Option Nat) × (Nat → Option Nat) × (Nat → Int32) × (Nat → Option Nat) => u9.2.1 ≤ 6 ∧ Tb κ im u9.2.2.1 u9.2.2.2.1 3 ∧ Rn 6 3 u9.2.2.2.2.1 ∧ Ss κ im u9.2.2.2.2.2 6) (fun u9 : Int32 × Nat × (Nat → Option Nat) × (Nat → Option Nat) × (Nat → Int32) × (Nat → Option Nat) => ([(xx, .inr (11, [.ref st, .ref tp, .ref ft, .ref rd, .ref wr, .ref st2, .int zi])), (st, .inr (6, [.ref d, .ref sh, .ref vw, .ref ta, .ref sa, .int (nI u9.2.1)])), (sh, .inl (κ 4, 3, .inr (.inr (.inr (.inr u9.2.2.1))))), (vw, .inl (κ 5, 3, .inr (.inr (.inr (.inr u9.2.2.2.1))))), (ta, .inl (κ 0, 6, .inl u9.2.2.2.2.1)), (sa, .inl (κ 4, 6, .inr (.inr (.inr (.inr u9.2.2.2.2.2)))))] ++ im)) := by
  refine et_of (by decide +kernel) (Nat.le_of_ble_eq_true rfl) ?_
  intro p e s m args below meth c A ls hx hb hr hml hts hown hlk hin hKK hK hA hP hD hS hE hl
  have hS : va_S A s.heap s.heap [] := hS
  have hP : va_P D vwCl ([(xx, .inr (11, [.ref st, .ref tp, .ref ft, .ref rd, .ref wr, .ref st2, .int zi])), (st, .inr (6, [.ref d, .ref sh, .ref vw, .ref ta, .ref sa, .int (nI n)])), (sh, .inl (κ 4, 3, .inr (.inr (.inr (.inr fs))))), (vw, .inl (κ 5, 3, .inr (.inr (.inr (.inr fv))))), (ta, .inl (κ 0, 6, .inl fa)), (sa, .inl (κ 4, 6, .inr (.inr (.inr (.inr ga)))))] ++ im) s.heap := hP
  have hD : va_D A ([(xx, .inr (11, [.ref st, .ref tp, .ref ft, .ref rd, .ref wr, .ref st2, .int zi])), (st, .inr (6, [.ref d, .ref sh, .ref vw, .ref ta, .ref sa, .int (nI n)])), (sh, .inl (κ 4, 3, .inr (.inr (.inr (.inr fs))))), (vw, .inl (κ 5, 3, .inr (.inr (.inr (.inr fv))))), (ta, .inl (κ 0, 6, .inl fa)), (sa, .inl (κ 4, 6, .inr (.inr (.inr (.inr ga)))))] ++ im) := hD
  have hFX : FX p s m args c cX11_undo 1 RX11 := ⟨hx, hb, hml, hown, hts⟩
  have hl : lv_has ls 1 [(0, .ref xx)] := hl
  refine lv_aload_n hx hb dX11_undo_0 rfl (lv_at hl 0 rfl) ?_
  refine va_get (D := D) (ci := 11) (v := .ref st) (C := RX11) (T := TX11) (N := 7) hx hb hts inlX11 hown hK hP 0 rfl rfl 0 (by decide) (hts _ mw_15) (fun _ h9 => h9) rfl dX11_undo_1 ?_
  refine va_get (D := D) (ci := 6) (v := .int (nI n)) (C := RX6) (T := TX6) (N := 6) hx hb hts inlX6 hown hK hP 1 rfl rfl 5 (by decide) (hts _ mw_969) (fun _ h9 => h9) rfl dX11_undo_4 ?_
  refine lv_if_ne (tgt := 12) hx hb dX11_undo_7 (by decide) (fun c_1 => ?_) (fun c_1 => ?_)
  · have nc_1 := cv_ne (a := n) (b := 0) (by omega) (by omega) c_1
    refine lv_aload_n hx hb dX11_undo_12 rfl (lv_at hl 0 rfl) ?_
    refine va_get (D := D) (ci := 11) (v := .ref st) (C := RX11) (T := TX11) (N := 7) hx hb hts inlX11 hown hK hP 0 rfl rfl 0 (by decide) (hts _ mw_15) (fun _ h9 => h9) rfl dX11_undo_13 ?_
    refine et_VT (CR := [(xx, .inr (11, [.ref st, .ref tp, .ref ft, .ref rd, .ref wr, .ref st2, .int zi]))]) (As := []) (rest := []) hFX hKK hE hP hD hS hA (c_X6_undoAct l D κ κq im st d sh vw ta sa n fs fv fa ga (by omega) htb hrn hss) 0 gV_X11_202 hdV_X6_undoAct ⟨Nat.le_of_ble_eq_true rfl, Nat.le_of_ble_eq_true rfl⟩ rfl rfl (Nat.le_of_ble_eq_true rfl) dX11_undo_16 ⟨Nat.le_of_ble_eq_true rfl, Nat.le_of_ble_eq_true rfl⟩ hl.1 [1, 2, 3, 4, 5] [0] rfl rfl (by decide) (by decide) (by decide) hP 1 6 rfl rfl rfl (fun u_7 H locs hp_8 hP hD hS => ?_)
    refine W.widen (k := 0) (n := 0) (Nat.le_refl _) (Nat.le_refl _) ?_
    obtain ⟨y__2, gs__3, gv__4, fb__5, gb__6⟩ := u_7
    replace hP : va_P D vwCl ([(xx, .inr (11, [.ref st, .ref tp, .ref ft, .ref rd, .ref wr, .ref st2, .int zi])), (st, .inr (6, [.ref d, .ref sh, .ref vw, .ref ta, .ref sa, .int (nI y__2)])), (sh, .inl (κ 4, 3, .inr (.inr (.inr (.inr gs__3))))), (vw, .inl (κ 5, 3, .inr (.inr (.inr (.inr gv__4))))), (ta, .inl (κ 0, 6, .inl fb__5)), (sa, .inl (κ 4, 6, .inr (.inr (.inr (.inr gb__6)))))] ++ im) H := subP (C := [(xx, .inr (11, [.ref st, .ref tp, .ref ft, .ref rd, .ref wr, .ref st2, .int zi])), (st, .inr (6, [.ref d, .ref sh, .ref vw, .ref ta, .ref sa, .int (nI y__2)])), (sh, .inl (κ 4, 3, .inr (.inr (.inr (.inr gs__3))))), (vw, .inl (κ 5, 3, .inr (.inr (.inr (.inr gv__4))))), (ta, .inl (κ 0, 6, .inl fb__5)), (sa, .inl (κ 4, 6, .inr (.inr (.inr (.inr gb__6)))))]) hP [0, 1, 2, 3, 4, 5] rfl
    replace hD : va_D A ([(xx, .inr (11, [.ref st, .ref tp, .ref ft, .ref rd, .ref wr, .ref st2, .int zi])), (st, .inr (6, [.ref d, .ref sh, .ref vw, .ref ta, .ref sa, .int (nI y__2)])), (sh, .inl (κ 4, 3, .inr (.inr (.inr (.inr gs__3))))), (vw, .inl (κ 5, 3, .inr (.inr (.inr (.inr gv__4))))), (ta, .inl (κ 0, 6, .inl fb__5)), (sa, .inl (κ 4, 6, .inr (.inr (.inr (.inr gb__6)))))] ++ im) := subD (C := [(xx, .inr (11, [.ref st, .ref tp, .ref ft, .ref rd, .ref wr, .ref st2, .int zi])), (st, .inr (6, [.ref d, .ref sh, .ref vw, .ref ta, .ref sa, .int (nI y__2)])), (sh, .inl (κ 4, 3, .inr (.inr (.inr (.inr gs__3))))), (vw, .inl (κ 5, 3, .inr (.inr (.inr (.inr gv__4))))), (ta, .inl (κ 0, 6, .inl fb__5)), (sa, .inl (κ 4, 6, .inr (.inr (.inr (.inr gb__6)))))]) hD [0, 1, 2, 3, 4, 5] (by decide) rfl
    replace hp_8 : y__2 ≤ 6 ∧ Tb κ im gs__3 gv__4 3 ∧ Rn 6 3 fb__5 ∧ Ss κ im gb__6 6 := hp_8
    obtain ⟨h_9, h_10, h_11, h_12⟩ := hp_8
    refine W.eq (g2 := F0 m 19 ls []) rfl ?_
    refine lv_aload_n hx hb dX11_undo_19 rfl (lv_at hl 0 rfl) ?_
    refine va_get (D := D) (ci := 11) (v := .ref st) (C := RX11) (T := TX11) (N := 7) hx hb hts inlX11 hown hK hP 0 rfl rfl 0 (by decide) (hts _ mw_15) (fun _ h9 => h9) rfl dX11_undo_20 ?_
    refine va_get (D := D) (ci := 6) (v := .int (nI y__2)) (C := RX6) (T := TX6) (N := 6) hx hb hts inlX6 hown hK hP 1 rfl rfl 5 (by decide) (hts _ mw_969) (fun _ h9 => h9) rfl dX11_undo_23 ?_
    exact et_iret hx hb hr hlk rfl hS (nI y__2, y__2, gs__3, gv__4, fb__5, gb__6) rfl ⟨(show y__2 ≤ 6 from (by first | assumption | omega | rfl | exact Or.inl (by assumption) | exact Or.inr (by assumption))), (show Tb κ im gs__3 gv__4 3 from h_10), (show Rn 6 3 fb__5 from (by first | assumption | omega | rfl | exact Or.inl (by assumption) | exact Or.inr (by assumption))), (show Ss κ im gb__6 6 from h_12)⟩ (subP hP [0, 1, 2, 3, 4, 5] rfl) (subD hD [0, 1, 2, 3, 4, 5] (by decide) rfl) (Nat.le_of_ble_eq_true rfl) (Nat.le_of_ble_eq_true rfl) dX11_undo_26
  · have nc_1 := cv_eq (a := n) (b := 0) (by omega) (by omega) c_1
    refine lv_iconst (v := (-1)) hx hb dX11_undo_10 (by decide) ?_
    exact et_iret hx hb hr hlk rfl hS ((-1), n, fs, fv, fa, ga) rfl ⟨(show n ≤ 6 from (by first | assumption | omega | rfl | exact Or.inl (by assumption) | exact Or.inr (by assumption))), (show Tb κ im fs fv 3 from htb), (show Rn 6 3 fa from (by first | assumption | omega | rfl | exact Or.inl (by assumption) | exact Or.inr (by assumption))), (show Ss κ im ga 6 from hss)⟩ (subP hP [0, 1, 2, 3, 4, 5] rfl) (subD hD [0, 1, 2, 3, 4, 5] (by decide) rfl) (Nat.le_of_ble_eq_true rfl) (Nat.le_of_ble_eq_true rfl) dX11_undo_11
set_option maxHeartbeats 4000000 in
set_option maxRecDepth 100000 in
theorem c_X11_narrow (l : Launch) (D : va_G) (κ : Nat → ClassId) (κq : Nat → Nat) (im : va_W) (xx : Nat) (tp : Nat) (ft : Nat) (rd : Nat) (wr : Nat) (st2 : Nat) (zi : Int32) (st : Nat) (d : Nat) (sh : Nat) (vw : Nat) (ta : Nat) (sa : Nat) (n : Nat) (fs : Nat → Option Nat) (fv : Nat → Option Nat) (tb : Nat) (L : Nat) (tf : Nat → Int32) (za : Int32) (zb : Int32) (zc : Int32) (htb : Tb κ im fs fv 3) (hL : L ≤ 800) : Et l yX11_narrow (wl yX11_narrow cX11_narrow 7 (some .int)) { frames := 8, cells := 8, slots := 200, locals := 169 } D κ κq [.ref xx, .int za, .int zb, .int zc] ([(xx, .inr (11, [.ref st, .ref tp, .ref ft, .ref rd, .ref wr, .ref st2, .int zi])), (st, .inr (6, [.ref d, .ref sh, .ref vw, .ref ta, .ref sa, .int (nI n)])), (sh, .inl (κ 4, 3, .inr (.inr (.inr (.inr fs))))), (vw, .inl (κ 5, 3, .inr (.inr (.inr (.inr fv))))), (tp, .inr (8, [.ref tb, .int (nI L)])), (tb, .inl (κ 0, 800, .inl tf))] ++ im) (fun u9 : Int32 × (Nat → Option Nat) × va_W => some (.int u9.1)) (fun u9 : Int32 × (Nat → Option Nat) × va_W => Tb κ u9.2.2 fs u9.2.1 3 ∧ Sb im u9.2.2) (fun u9 : Int32 × (Nat → Option Nat) × va_W => ([(xx, .inr (11, [.ref st, .ref tp, .ref ft, .ref rd, .ref wr, .ref st2, .int zi])), (st, .inr (6, [.ref d, .ref sh, .ref vw, .ref ta, .ref sa, .int (nI n)])), (sh, .inl (κ 4, 3, .inr (.inr (.inr (.inr fs))))), (vw, .inl (κ 5, 3, .inr (.inr (.inr (.inr u9.2.1))))), (tp, .inr (8, [.ref tb, .int 0])), (tb, .inl (κ 0, 800, .inl tf))] ++ u9.2.2)) := by
  refine et_of (by decide +kernel) (Nat.le_of_ble_eq_true rfl) ?_
  intro p e s m args below meth c A ls hx hb hr hml hts hown hlk hin hKK hK hA hP hD hS hE hl
  have hS : va_S A s.heap s.heap [] := hS
  have hP : va_P D vwCl ([(xx, .inr (11, [.ref st, .ref tp, .ref ft, .ref rd, .ref wr, .ref st2, .int zi])), (st, .inr (6, [.ref d, .ref sh, .ref vw, .ref ta, .ref sa, .int (nI n)])), (sh, .inl (κ 4, 3, .inr (.inr (.inr (.inr fs))))), (vw, .inl (κ 5, 3, .inr (.inr (.inr (.inr fv))))), (tp, .inr (8, [.ref tb, .int (nI L)])), (tb, .inl (κ 0, 800, .inl tf))] ++ im) s.heap := hP
  have hD : va_D A ([(xx, .inr (11, [.ref st, .ref tp, .ref ft, .ref rd, .ref wr, .ref st2, .int zi])), (st, .inr (6, [.ref d, .ref sh, .ref vw, .ref ta, .ref sa, .int (nI n)])), (sh, .inl (κ 4, 3, .inr (.inr (.inr (.inr fs))))), (vw, .inl (κ 5, 3, .inr (.inr (.inr (.inr fv))))), (tp, .inr (8, [.ref tb, .int (nI L)])), (tb, .inl (κ 0, 800, .inl tf))] ++ im) := hD
  have hFX : FX p s m args c cX11_narrow 7 RX11 := ⟨hx, hb, hml, hown, hts⟩
  have hl : lv_has ls 7 [(0, .ref xx), (1, .int za), (2, .int zb), (3, .int zc)] := hl
  rcases pl_cases za with ⟨t, ht_t, rfl⟩ | hnp_za
  · skip
    rcases htb t (by omega) with ⟨e_1, e_2⟩ | ⟨a_3, R_4, w_5, d_6, v_7, e_1, e_2, h_8, h_9, hd_10⟩
    · skip
      refine lv_aload_n hx hb dX11_narrow_0 rfl (lv_at hl 0 rfl) ?_
      refine va_get (D := D) (ci := 11) (v := .ref tp) (C := RX11) (T := TX11) (N := 7) hx hb hts inlX11 hown hK hP 0 rfl rfl 1 (by decide) (hts _ mw_19) (fun _ h9 => h9) rfl dX11_narrow_1 ?_
      refine va_get (D := D) (ci := 8) (v := .int (nI L)) (C := RX8) (T := TX8) (N := 2) hx hb hts inlX8 hown hK hP 4 rfl rfl 1 (by decide) (hts _ mw_223) (fun _ h9 => h9) rfl dX11_narrow_4 ?_
      refine lv_if_le (tgt := 14) hx hb dX11_narrow_7 (by decide) (fun c_11 => ?_) (fun c_11 => ?_)
      · have nc_11 := cv_le (a := L) (b := 0) (by omega) (by omega) c_11
        refine lv_iconst (v := 0) hx hb dX11_narrow_14 (by decide) ?_
        refine lv_istore (lv' := [(4, .int 0), (0, .ref xx), (1, .int (nI t)), (2, .int zb), (3, .int zc)]) hx hb dX11_narrow_15 hl (by decide) rfl (fun ls hl => ?_)
        refine lv_aload_n hx hb dX11_narrow_17 rfl (lv_at hl 1 rfl) ?_
        refine va_get (D := D) (ci := 11) (v := .ref tp) (C := RX11) (T := TX11) (N := 7) hx hb hts inlX11 hown hK hP 0 rfl rfl 1 (by decide) (hts _ mw_19) (fun _ h9 => h9) rfl dX11_narrow_18 ?_
        refine et_VT (CR := [(xx, .inr (11, [.ref st, .ref tp, .ref ft, .ref rd, .ref wr, .ref st2, .int zi])), (st, .inr (6, [.ref d, .ref sh, .ref vw, .ref ta, .ref sa, .int (nI n)])), (sh, .inl (κ 4, 3, .inr (.inr (.inr (.inr fs))))), (vw, .inl (κ 5, 3, .inr (.inr (.inr (.inr fv)))))]) (As := []) (rest := []) hFX hKK hE hP hD hS hA (c_X8_takeCell l D κ κq im tp tb L tf (by omega)) 0 gV_X11_110 hdV_X8_takeCell ⟨Nat.le_of_ble_eq_true rfl, Nat.le_of_ble_eq_true rfl⟩ rfl rfl (Nat.le_of_ble_eq_true rfl) dX11_narrow_21 ⟨Nat.le_of_ble_eq_true rfl, Nat.le_of_ble_eq_true rfl⟩ hl.1 [4, 5] [0, 1, 2, 3] rfl rfl (by decide) (by decide) (by decide) hP 4 8 rfl rfl rfl (fun u_14 H locs hp_15 hP hD hS => ?_)
        refine W.widen (k := 2) (n := 23) (Nat.le_refl _) (Nat.le_refl _) ?_
        obtain ⟨r__12, im2__13⟩ := u_14
        replace hP : va_P D vwCl ([(xx, .inr (11, [.ref st, .ref tp, .ref ft, .ref rd, .ref wr, .ref st2, .int zi])), (st, .inr (6, [.ref d, .ref sh, .ref vw, .ref ta, .ref sa, .int (nI n)])), (sh, .inl (κ 4, 3, .inr (.inr (.inr (.inr fs))))), (vw, .inl (κ 5, 3, .inr (.inr (.inr (.inr fv))))), (tp, .inr (8, [.ref tb, .int 0])), (tb, .inl (κ 0, 800, .inl tf))] ++ im2__13) H := subP (C := [(xx, .inr (11, [.ref st, .ref tp, .ref ft, .ref rd, .ref wr, .ref st2, .int zi])), (st, .inr (6, [.ref d, .ref sh, .ref vw, .ref ta, .ref sa, .int (nI n)])), (sh, .inl (κ 4, 3, .inr (.inr (.inr (.inr fs))))), (vw, .inl (κ 5, 3, .inr (.inr (.inr (.inr fv))))), (tp, .inr (8, [.ref tb, .int 0])), (tb, .inl (κ 0, 800, .inl tf))]) hP [0, 1, 2, 3, 4, 5] rfl
        replace hD : va_D A ([(xx, .inr (11, [.ref st, .ref tp, .ref ft, .ref rd, .ref wr, .ref st2, .int zi])), (st, .inr (6, [.ref d, .ref sh, .ref vw, .ref ta, .ref sa, .int (nI n)])), (sh, .inl (κ 4, 3, .inr (.inr (.inr (.inr fs))))), (vw, .inl (κ 5, 3, .inr (.inr (.inr (.inr fv))))), (tp, .inr (8, [.ref tb, .int 0])), (tb, .inl (κ 0, 800, .inl tf))] ++ im2__13) := subD (C := [(xx, .inr (11, [.ref st, .ref tp, .ref ft, .ref rd, .ref wr, .ref st2, .int zi])), (st, .inr (6, [.ref d, .ref sh, .ref vw, .ref ta, .ref sa, .int (nI n)])), (sh, .inl (κ 4, 3, .inr (.inr (.inr (.inr fs))))), (vw, .inl (κ 5, 3, .inr (.inr (.inr (.inr fv))))), (tp, .inr (8, [.ref tb, .int 0])), (tb, .inl (κ 0, 800, .inl tf))]) hD [0, 1, 2, 3, 4, 5] (by decide) rfl
        replace hp_15 : Sb im im2__13 ∧ ((r__12 = none) ∨ (∃ (q : Nat), ∃ (k : Nat), ∃ (n : Nat), r__12 = some q ∧ Cl κ im2__13 q k n)) := hp_15
        obtain ⟨h_16, ha_17⟩ := hp_15
        replace htb := htb.up h_16
        rcases ha_17 with rfl | ⟨q__18, k__19, n__20, rfl, a_21⟩
        · refine W.eq (g2 := F0 m 24 ls [.null]) rfl ?_
          refine lv_astoreN (lv' := [(5, .null), (4, .int 0), (0, .ref xx), (1, .int (nI t)), (2, .int zb), (3, .int zc)]) hx hb dX11_narrow_24 hl (by decide) rfl (fun ls hl => ?_)
          refine lv_aload_n hx hb dX11_narrow_26 rfl (lv_at hl 2 rfl) ?_
          refine va_get (D := D) (ci := 11) (v := .ref st) (C := RX11) (T := TX11) (N := 7) hx hb hts inlX11 hown hK hP 0 rfl rfl 0 (by decide) (hts _ mw_15) (fun _ h9 => h9) rfl dX11_narrow_27 ?_
          refine lv_iload_n hx hb dX11_narrow_30 rfl (lv_at hl 3 rfl) ?_
          refine lv_iload_n hx hb dX11_narrow_31 rfl (lv_at hl 4 rfl) ?_
          refine er_V (As := [.int (nI t), .int zb]) (rest := []) hFX hKK hE hS (c_X6_stripOf_n l D κ κq st d sh vw ta sa n fs fv t zb (by omega) e_1 e_2) 2 gV_X11_189 hdV_X6_stripOf rfl rfl ⟨Nat.le_of_ble_eq_true rfl, Nat.le_of_ble_eq_true rfl⟩ rfl rfl (Nat.le_of_ble_eq_true rfl) dX11_narrow_32 ⟨Nat.le_of_ble_eq_true rfl, Nat.le_of_ble_eq_true rfl⟩ hl.1 hP 1 6 rfl rfl rfl (subP0 hP [1, 2, 3] rfl) (fun _ hp_22 => ?_)
          refine W.eq (g2 := F0 m 35 ls [.null]) rfl ?_
          refine lv_astoreN (lv' := [(6, .null), (5, .null), (4, .int 0), (0, .ref xx), (1, .int (nI t)), (2, .int zb), (3, .int zc)]) hx hb dX11_narrow_35 hl (by decide) rfl (fun ls hl => ?_)
          refine lv_aloadN hx hb dX11_narrow_37 (lv_at hl 0 rfl) ?_
          refine lv_ifnullN (tgt := 63) hx hb dX11_narrow_39 (by decide) ?_
          refine lv_iconst (v := (-1)) hx hb dX11_narrow_63 (by decide) ?_
          exact et_iret hx hb hr hlk rfl hS ((-1), fv, im2__13) rfl ⟨(show Tb κ im2__13 fs fv 3 from htb), (show Sb im im2__13 from h_16)⟩ (subP hP [0, 1, 2, 3, 4, 5] rfl) (subD hD [0, 1, 2, 3, 4, 5] (by decide) rfl) (Nat.le_of_ble_eq_true rfl) (Nat.le_of_ble_eq_true rfl) dX11_narrow_64
        · refine W.eq (g2 := F0 m 24 ls [.ref q__18]) rfl ?_
          refine lv_astore (lv' := [(5, .ref q__18), (4, .int 0), (0, .ref xx), (1, .int (nI t)), (2, .int zb), (3, .int zc)]) hx hb dX11_narrow_24 hl (by decide) rfl (fun ls hl => ?_)
          refine lv_aload_n hx hb dX11_narrow_26 rfl (lv_at hl 2 rfl) ?_
          refine va_get (D := D) (ci := 11) (v := .ref st) (C := RX11) (T := TX11) (N := 7) hx hb hts inlX11 hown hK hP 0 rfl rfl 0 (by decide) (hts _ mw_15) (fun _ h9 => h9) rfl dX11_narrow_27 ?_
          refine lv_iload_n hx hb dX11_narrow_30 rfl (lv_at hl 3 rfl) ?_
          refine lv_iload_n hx hb dX11_narrow_31 rfl (lv_at hl 4 rfl) ?_
          refine er_V (As := [.int (nI t), .int zb]) (rest := []) hFX hKK hE hS (c_X6_stripOf_n l D κ κq st d sh vw ta sa n fs fv t zb (by omega) e_1 e_2) 2 gV_X11_189 hdV_X6_stripOf rfl rfl ⟨Nat.le_of_ble_eq_true rfl, Nat.le_of_ble_eq_true rfl⟩ rfl rfl (Nat.le_of_ble_eq_true rfl) dX11_narrow_32 ⟨Nat.le_of_ble_eq_true rfl, Nat.le_of_ble_eq_true rfl⟩ hl.1 hP 1 6 rfl rfl rfl (subP0 hP [1, 2, 3] rfl) (fun _ hp_23 => ?_)
          refine W.eq (g2 := F0 m 35 ls [.null]) rfl ?_
          refine lv_astoreN (lv' := [(6, .null), (5, .ref q__18), (4, .int 0), (0, .ref xx), (1, .int (nI t)), (2, .int zb), (3, .int zc)]) hx hb dX11_narrow_35 hl (by decide) rfl (fun ls hl => ?_)
          refine lv_aloadN hx hb dX11_narrow_37 (lv_at hl 0 rfl) ?_
          refine lv_ifnullN (tgt := 63) hx hb dX11_narrow_39 (by decide) ?_
          refine lv_iconst (v := (-1)) hx hb dX11_narrow_63 (by decide) ?_
          exact et_iret hx hb hr hlk rfl hS ((-1), fv, im2__13) rfl ⟨(show Tb κ im2__13 fs fv 3 from htb), (show Sb im im2__13 from h_16)⟩ (subP hP [0, 1, 2, 3, 4, 5] rfl) (subD hD [0, 1, 2, 3, 4, 5] (by decide) rfl) (Nat.le_of_ble_eq_true rfl) (Nat.le_of_ble_eq_true rfl) dX11_narrow_64
      · have nc_11 := cv_nle (a := L) (b := 0) (by omega) (by omega) c_11
        refine lv_iconst (v := 1) hx hb dX11_narrow_10 (by decide) ?_
        refine lv_goto (tgt := 15) hx hb dX11_narrow_11 (by decide) ?_
        refine lv_istore (lv' := [(4, .int 1), (0, .ref xx), (1, .int (nI t)), (2, .int zb), (3, .int zc)]) hx hb dX11_narrow_15 hl (by decide) rfl (fun ls hl => ?_)
        refine lv_aload_n hx hb dX11_narrow_17 rfl (lv_at hl 1 rfl) ?_
        refine va_get (D := D) (ci := 11) (v := .ref tp) (C := RX11) (T := TX11) (N := 7) hx hb hts inlX11 hown hK hP 0 rfl rfl 1 (by decide) (hts _ mw_19) (fun _ h9 => h9) rfl dX11_narrow_18 ?_
        refine et_VT (CR := [(xx, .inr (11, [.ref st, .ref tp, .ref ft, .ref rd, .ref wr, .ref st2, .int zi])), (st, .inr (6, [.ref d, .ref sh, .ref vw, .ref ta, .ref sa, .int (nI n)])), (sh, .inl (κ 4, 3, .inr (.inr (.inr (.inr fs))))), (vw, .inl (κ 5, 3, .inr (.inr (.inr (.inr fv)))))]) (As := []) (rest := []) hFX hKK hE hP hD hS hA (c_X8_takeCell l D κ κq im tp tb L tf (by omega)) 0 gV_X11_110 hdV_X8_takeCell ⟨Nat.le_of_ble_eq_true rfl, Nat.le_of_ble_eq_true rfl⟩ rfl rfl (Nat.le_of_ble_eq_true rfl) dX11_narrow_21 ⟨Nat.le_of_ble_eq_true rfl, Nat.le_of_ble_eq_true rfl⟩ hl.1 [4, 5] [0, 1, 2, 3] rfl rfl (by decide) (by decide) (by decide) hP 4 8 rfl rfl rfl (fun u_26 H locs hp_27 hP hD hS => ?_)
        refine W.widen (k := 2) (n := 23) (Nat.le_refl _) (Nat.le_refl _) ?_
        obtain ⟨r__24, im2__25⟩ := u_26
        replace hP : va_P D vwCl ([(xx, .inr (11, [.ref st, .ref tp, .ref ft, .ref rd, .ref wr, .ref st2, .int zi])), (st, .inr (6, [.ref d, .ref sh, .ref vw, .ref ta, .ref sa, .int (nI n)])), (sh, .inl (κ 4, 3, .inr (.inr (.inr (.inr fs))))), (vw, .inl (κ 5, 3, .inr (.inr (.inr (.inr fv))))), (tp, .inr (8, [.ref tb, .int 0])), (tb, .inl (κ 0, 800, .inl tf))] ++ im2__25) H := subP (C := [(xx, .inr (11, [.ref st, .ref tp, .ref ft, .ref rd, .ref wr, .ref st2, .int zi])), (st, .inr (6, [.ref d, .ref sh, .ref vw, .ref ta, .ref sa, .int (nI n)])), (sh, .inl (κ 4, 3, .inr (.inr (.inr (.inr fs))))), (vw, .inl (κ 5, 3, .inr (.inr (.inr (.inr fv))))), (tp, .inr (8, [.ref tb, .int 0])), (tb, .inl (κ 0, 800, .inl tf))]) hP [0, 1, 2, 3, 4, 5] rfl
        replace hD : va_D A ([(xx, .inr (11, [.ref st, .ref tp, .ref ft, .ref rd, .ref wr, .ref st2, .int zi])), (st, .inr (6, [.ref d, .ref sh, .ref vw, .ref ta, .ref sa, .int (nI n)])), (sh, .inl (κ 4, 3, .inr (.inr (.inr (.inr fs))))), (vw, .inl (κ 5, 3, .inr (.inr (.inr (.inr fv))))), (tp, .inr (8, [.ref tb, .int 0])), (tb, .inl (κ 0, 800, .inl tf))] ++ im2__25) := subD (C := [(xx, .inr (11, [.ref st, .ref tp, .ref ft, .ref rd, .ref wr, .ref st2, .int zi])), (st, .inr (6, [.ref d, .ref sh, .ref vw, .ref ta, .ref sa, .int (nI n)])), (sh, .inl (κ 4, 3, .inr (.inr (.inr (.inr fs))))), (vw, .inl (κ 5, 3, .inr (.inr (.inr (.inr fv))))), (tp, .inr (8, [.ref tb, .int 0])), (tb, .inl (κ 0, 800, .inl tf))]) hD [0, 1, 2, 3, 4, 5] (by decide) rfl
        replace hp_27 : Sb im im2__25 ∧ ((r__24 = none) ∨ (∃ (q : Nat), ∃ (k : Nat), ∃ (n : Nat), r__24 = some q ∧ Cl κ im2__25 q k n)) := hp_27
        obtain ⟨h_28, ha_29⟩ := hp_27
        replace htb := htb.up h_28
        rcases ha_29 with rfl | ⟨q__30, k__31, n__32, rfl, a_33⟩
        · refine W.eq (g2 := F0 m 24 ls [.null]) rfl ?_
          refine lv_astoreN (lv' := [(5, .null), (4, .int 1), (0, .ref xx), (1, .int (nI t)), (2, .int zb), (3, .int zc)]) hx hb dX11_narrow_24 hl (by decide) rfl (fun ls hl => ?_)
          refine lv_aload_n hx hb dX11_narrow_26 rfl (lv_at hl 2 rfl) ?_
          refine va_get (D := D) (ci := 11) (v := .ref st) (C := RX11) (T := TX11) (N := 7) hx hb hts inlX11 hown hK hP 0 rfl rfl 0 (by decide) (hts _ mw_15) (fun _ h9 => h9) rfl dX11_narrow_27 ?_
          refine lv_iload_n hx hb dX11_narrow_30 rfl (lv_at hl 3 rfl) ?_
          refine lv_iload_n hx hb dX11_narrow_31 rfl (lv_at hl 4 rfl) ?_
          refine er_V (As := [.int (nI t), .int zb]) (rest := []) hFX hKK hE hS (c_X6_stripOf_n l D κ κq st d sh vw ta sa n fs fv t zb (by omega) e_1 e_2) 2 gV_X11_189 hdV_X6_stripOf rfl rfl ⟨Nat.le_of_ble_eq_true rfl, Nat.le_of_ble_eq_true rfl⟩ rfl rfl (Nat.le_of_ble_eq_true rfl) dX11_narrow_32 ⟨Nat.le_of_ble_eq_true rfl, Nat.le_of_ble_eq_true rfl⟩ hl.1 hP 1 6 rfl rfl rfl (subP0 hP [1, 2, 3] rfl) (fun _ hp_34 => ?_)
          refine W.eq (g2 := F0 m 35 ls [.null]) rfl ?_
          refine lv_astoreN (lv' := [(6, .null), (5, .null), (4, .int 1), (0, .ref xx), (1, .int (nI t)), (2, .int zb), (3, .int zc)]) hx hb dX11_narrow_35 hl (by decide) rfl (fun ls hl => ?_)
          refine lv_aloadN hx hb dX11_narrow_37 (lv_at hl 0 rfl) ?_
          refine lv_ifnullN (tgt := 63) hx hb dX11_narrow_39 (by decide) ?_
          refine lv_iconst (v := (-1)) hx hb dX11_narrow_63 (by decide) ?_
          exact et_iret hx hb hr hlk rfl hS ((-1), fv, im2__25) rfl ⟨(show Tb κ im2__25 fs fv 3 from htb), (show Sb im im2__25 from h_28)⟩ (subP hP [0, 1, 2, 3, 4, 5] rfl) (subD hD [0, 1, 2, 3, 4, 5] (by decide) rfl) (Nat.le_of_ble_eq_true rfl) (Nat.le_of_ble_eq_true rfl) dX11_narrow_64
        · refine W.eq (g2 := F0 m 24 ls [.ref q__30]) rfl ?_
          refine lv_astore (lv' := [(5, .ref q__30), (4, .int 1), (0, .ref xx), (1, .int (nI t)), (2, .int zb), (3, .int zc)]) hx hb dX11_narrow_24 hl (by decide) rfl (fun ls hl => ?_)
          refine lv_aload_n hx hb dX11_narrow_26 rfl (lv_at hl 2 rfl) ?_
          refine va_get (D := D) (ci := 11) (v := .ref st) (C := RX11) (T := TX11) (N := 7) hx hb hts inlX11 hown hK hP 0 rfl rfl 0 (by decide) (hts _ mw_15) (fun _ h9 => h9) rfl dX11_narrow_27 ?_
          refine lv_iload_n hx hb dX11_narrow_30 rfl (lv_at hl 3 rfl) ?_
          refine lv_iload_n hx hb dX11_narrow_31 rfl (lv_at hl 4 rfl) ?_
          refine er_V (As := [.int (nI t), .int zb]) (rest := []) hFX hKK hE hS (c_X6_stripOf_n l D κ κq st d sh vw ta sa n fs fv t zb (by omega) e_1 e_2) 2 gV_X11_189 hdV_X6_stripOf rfl rfl ⟨Nat.le_of_ble_eq_true rfl, Nat.le_of_ble_eq_true rfl⟩ rfl rfl (Nat.le_of_ble_eq_true rfl) dX11_narrow_32 ⟨Nat.le_of_ble_eq_true rfl, Nat.le_of_ble_eq_true rfl⟩ hl.1 hP 1 6 rfl rfl rfl (subP0 hP [1, 2, 3] rfl) (fun _ hp_35 => ?_)
          refine W.eq (g2 := F0 m 35 ls [.null]) rfl ?_
          refine lv_astoreN (lv' := [(6, .null), (5, .ref q__30), (4, .int 1), (0, .ref xx), (1, .int (nI t)), (2, .int zb), (3, .int zc)]) hx hb dX11_narrow_35 hl (by decide) rfl (fun ls hl => ?_)
          refine lv_aloadN hx hb dX11_narrow_37 (lv_at hl 0 rfl) ?_
          refine lv_ifnullN (tgt := 63) hx hb dX11_narrow_39 (by decide) ?_
          refine lv_iconst (v := (-1)) hx hb dX11_narrow_63 (by decide) ?_
          exact et_iret hx hb hr hlk rfl hS ((-1), fv, im2__25) rfl ⟨(show Tb κ im2__25 fs fv 3 from htb), (show Sb im im2__25 from h_28)⟩ (subP hP [0, 1, 2, 3, 4, 5] rfl) (subD hD [0, 1, 2, 3, 4, 5] (by decide) rfl) (Nat.le_of_ble_eq_true rfl) (Nat.le_of_ble_eq_true rfl) dX11_narrow_64
    · have hle_a_3 := h_8.le
      refine lv_aload_n hx hb dX11_narrow_0 rfl (lv_at hl 0 rfl) ?_
      refine va_get (D := D) (ci := 11) (v := .ref tp) (C := RX11) (T := TX11) (N := 7) hx hb hts inlX11 hown hK hP 0 rfl rfl 1 (by decide) (hts _ mw_19) (fun _ h9 => h9) rfl dX11_narrow_1 ?_
      refine va_get (D := D) (ci := 8) (v := .int (nI L)) (C := RX8) (T := TX8) (N := 2) hx hb hts inlX8 hown hK hP 4 rfl rfl 1 (by decide) (hts _ mw_223) (fun _ h9 => h9) rfl dX11_narrow_4 ?_
      refine lv_if_le (tgt := 14) hx hb dX11_narrow_7 (by decide) (fun c_36 => ?_) (fun c_36 => ?_)
      · have nc_36 := cv_le (a := L) (b := 0) (by omega) (by omega) c_36
        refine lv_iconst (v := 0) hx hb dX11_narrow_14 (by decide) ?_
        refine lv_istore (lv' := [(4, .int 0), (0, .ref xx), (1, .int (nI t)), (2, .int zb), (3, .int zc)]) hx hb dX11_narrow_15 hl (by decide) rfl (fun ls hl => ?_)
        refine lv_aload_n hx hb dX11_narrow_17 rfl (lv_at hl 1 rfl) ?_
        refine va_get (D := D) (ci := 11) (v := .ref tp) (C := RX11) (T := TX11) (N := 7) hx hb hts inlX11 hown hK hP 0 rfl rfl 1 (by decide) (hts _ mw_19) (fun _ h9 => h9) rfl dX11_narrow_18 ?_
        refine et_VT (CR := [(xx, .inr (11, [.ref st, .ref tp, .ref ft, .ref rd, .ref wr, .ref st2, .int zi])), (st, .inr (6, [.ref d, .ref sh, .ref vw, .ref ta, .ref sa, .int (nI n)])), (sh, .inl (κ 4, 3, .inr (.inr (.inr (.inr fs))))), (vw, .inl (κ 5, 3, .inr (.inr (.inr (.inr fv)))))]) (As := []) (rest := []) hFX hKK hE hP hD hS hA (c_X8_takeCell l D κ κq im tp tb L tf (by omega)) 0 gV_X11_110 hdV_X8_takeCell ⟨Nat.le_of_ble_eq_true rfl, Nat.le_of_ble_eq_true rfl⟩ rfl rfl (Nat.le_of_ble_eq_true rfl) dX11_narrow_21 ⟨Nat.le_of_ble_eq_true rfl, Nat.le_of_ble_eq_true rfl⟩ hl.1 [4, 5] [0, 1, 2, 3] rfl rfl (by decide) (by decide) (by decide) hP 4 8 rfl rfl rfl (fun u_39 H locs hp_40 hP hD hS => ?_)
        refine W.widen (k := 2) (n := 23) (Nat.le_refl _) (Nat.le_refl _) ?_
        obtain ⟨r__37, im2__38⟩ := u_39
        replace hP : va_P D vwCl ([(xx, .inr (11, [.ref st, .ref tp, .ref ft, .ref rd, .ref wr, .ref st2, .int zi])), (st, .inr (6, [.ref d, .ref sh, .ref vw, .ref ta, .ref sa, .int (nI n)])), (sh, .inl (κ 4, 3, .inr (.inr (.inr (.inr fs))))), (vw, .inl (κ 5, 3, .inr (.inr (.inr (.inr fv))))), (tp, .inr (8, [.ref tb, .int 0])), (tb, .inl (κ 0, 800, .inl tf))] ++ im2__38) H := subP (C := [(xx, .inr (11, [.ref st, .ref tp, .ref ft, .ref rd, .ref wr, .ref st2, .int zi])), (st, .inr (6, [.ref d, .ref sh, .ref vw, .ref ta, .ref sa, .int (nI n)])), (sh, .inl (κ 4, 3, .inr (.inr (.inr (.inr fs))))), (vw, .inl (κ 5, 3, .inr (.inr (.inr (.inr fv))))), (tp, .inr (8, [.ref tb, .int 0])), (tb, .inl (κ 0, 800, .inl tf))]) hP [0, 1, 2, 3, 4, 5] rfl
        replace hD : va_D A ([(xx, .inr (11, [.ref st, .ref tp, .ref ft, .ref rd, .ref wr, .ref st2, .int zi])), (st, .inr (6, [.ref d, .ref sh, .ref vw, .ref ta, .ref sa, .int (nI n)])), (sh, .inl (κ 4, 3, .inr (.inr (.inr (.inr fs))))), (vw, .inl (κ 5, 3, .inr (.inr (.inr (.inr fv))))), (tp, .inr (8, [.ref tb, .int 0])), (tb, .inl (κ 0, 800, .inl tf))] ++ im2__38) := subD (C := [(xx, .inr (11, [.ref st, .ref tp, .ref ft, .ref rd, .ref wr, .ref st2, .int zi])), (st, .inr (6, [.ref d, .ref sh, .ref vw, .ref ta, .ref sa, .int (nI n)])), (sh, .inl (κ 4, 3, .inr (.inr (.inr (.inr fs))))), (vw, .inl (κ 5, 3, .inr (.inr (.inr (.inr fv))))), (tp, .inr (8, [.ref tb, .int 0])), (tb, .inl (κ 0, 800, .inl tf))]) hD [0, 1, 2, 3, 4, 5] (by decide) rfl
        replace hp_40 : Sb im im2__38 ∧ ((r__37 = none) ∨ (∃ (q : Nat), ∃ (k : Nat), ∃ (n : Nat), r__37 = some q ∧ Cl κ im2__38 q k n)) := hp_40
        obtain ⟨h_41, ha_42⟩ := hp_40
        replace htb := htb.up h_41
        replace h_8 := h_8.up h_41
        replace h_9 := h_9.up h_41
        rcases ha_42 with rfl | ⟨q__43, k__44, n__45, rfl, a_46⟩
        · refine W.eq (g2 := F0 m 24 ls [.null]) rfl ?_
          refine lv_astoreN (lv' := [(5, .null), (4, .int 0), (0, .ref xx), (1, .int (nI t)), (2, .int zb), (3, .int zc)]) hx hb dX11_narrow_24 hl (by decide) rfl (fun ls hl => ?_)
          refine lv_aload_n hx hb dX11_narrow_26 rfl (lv_at hl 2 rfl) ?_
          refine va_get (D := D) (ci := 11) (v := .ref st) (C := RX11) (T := TX11) (N := 7) hx hb hts inlX11 hown hK hP 0 rfl rfl 0 (by decide) (hts _ mw_15) (fun _ h9 => h9) rfl dX11_narrow_27 ?_
          refine lv_iload_n hx hb dX11_narrow_30 rfl (lv_at hl 3 rfl) ?_
          refine lv_iload_n hx hb dX11_narrow_31 rfl (lv_at hl 4 rfl) ?_
          refine et_VT (CR := [(xx, .inr (11, [.ref st, .ref tp, .ref ft, .ref rd, .ref wr, .ref st2, .int zi])), (tp, .inr (8, [.ref tb, .int 0])), (tb, .inl (κ 0, 800, .inl tf))]) (As := [.int (nI t), .int zb]) (rest := []) hFX hKK hE hP hD hS hA (c_X6_stripOf_s l D κ κq im2__38 st d sh vw ta sa n fs fv t a_3 R_4 w_5 v_7 d_6 zb (by omega) e_1 e_2 h_8 h_9) 2 gV_X11_189 hdV_X6_stripOf ⟨Nat.le_of_ble_eq_true rfl, Nat.le_of_ble_eq_true rfl⟩ rfl rfl (Nat.le_of_ble_eq_true rfl) dX11_narrow_32 ⟨Nat.le_of_ble_eq_true rfl, Nat.le_of_ble_eq_true rfl⟩ hl.1 [1, 2, 3] [0, 4, 5] rfl rfl (by decide) (by decide) (by decide) hP 1 6 rfl rfl rfl (fun u_49 H locs hp_50 hP hD hS => ?_)
          refine W.widen (k := 3) (n := 27) (Nat.le_refl _) (Nat.le_refl _) ?_
          obtain ⟨r__47, im2__48⟩ := u_49
          replace hP : va_P D vwCl ([(xx, .inr (11, [.ref st, .ref tp, .ref ft, .ref rd, .ref wr, .ref st2, .int zi])), (st, .inr (6, [.ref d, .ref sh, .ref vw, .ref ta, .ref sa, .int (nI n)])), (sh, .inl (κ 4, 3, .inr (.inr (.inr (.inr fs))))), (vw, .inl (κ 5, 3, .inr (.inr (.inr (.inr fv))))), (tp, .inr (8, [.ref tb, .int 0])), (tb, .inl (κ 0, 800, .inl tf))] ++ im2__48) H := subP (C := [(xx, .inr (11, [.ref st, .ref tp, .ref ft, .ref rd, .ref wr, .ref st2, .int zi])), (tp, .inr (8, [.ref tb, .int 0])), (tb, .inl (κ 0, 800, .inl tf)), (st, .inr (6, [.ref d, .ref sh, .ref vw, .ref ta, .ref sa, .int (nI n)])), (sh, .inl (κ 4, 3, .inr (.inr (.inr (.inr fs))))), (vw, .inl (κ 5, 3, .inr (.inr (.inr (.inr fv)))))]) hP [0, 3, 4, 5, 1, 2] rfl
          replace hD : va_D A ([(xx, .inr (11, [.ref st, .ref tp, .ref ft, .ref rd, .ref wr, .ref st2, .int zi])), (st, .inr (6, [.ref d, .ref sh, .ref vw, .ref ta, .ref sa, .int (nI n)])), (sh, .inl (κ 4, 3, .inr (.inr (.inr (.inr fs))))), (vw, .inl (κ 5, 3, .inr (.inr (.inr (.inr fv))))), (tp, .inr (8, [.ref tb, .int 0])), (tb, .inl (κ 0, 800, .inl tf))] ++ im2__48) := subD (C := [(xx, .inr (11, [.ref st, .ref tp, .ref ft, .ref rd, .ref wr, .ref st2, .int zi])), (tp, .inr (8, [.ref tb, .int 0])), (tb, .inl (κ 0, 800, .inl tf)), (st, .inr (6, [.ref d, .ref sh, .ref vw, .ref ta, .ref sa, .int (nI n)])), (sh, .inl (κ 4, 3, .inr (.inr (.inr (.inr fs))))), (vw, .inl (κ 5, 3, .inr (.inr (.inr (.inr fv)))))]) hD [0, 3, 4, 5, 1, 2] (by decide) rfl
          replace hp_50 : Sb im2__38 im2__48 ∧ ((r__47 = none) ∨ (∃ (q : Nat), ∃ (co : Nat), ∃ (ra : Nat), ∃ (mq : Nat), ∃ (ty : Nat), r__47 = some q ∧ Sp κ im2__48 q a_3 R_4 w_5 co ra mq ty)) := hp_50
          obtain ⟨h_51, ha_52⟩ := hp_50
          replace htb := htb.up h_51
          replace h_8 := h_8.up h_51
          replace h_9 := h_9.up h_51
          rcases ha_52 with rfl | ⟨q__53, co__54, ra__55, mq__56, ty__57, rfl, a_58⟩
          · refine W.eq (g2 := F0 m 35 ls [.null]) rfl ?_
            refine lv_astoreN (lv' := [(6, .null), (5, .null), (4, .int 0), (0, .ref xx), (1, .int (nI t)), (2, .int zb), (3, .int zc)]) hx hb dX11_narrow_35 hl (by decide) rfl (fun ls hl => ?_)
            refine lv_aloadN hx hb dX11_narrow_37 (lv_at hl 0 rfl) ?_
            refine lv_ifnullN (tgt := 63) hx hb dX11_narrow_39 (by decide) ?_
            refine lv_iconst (v := (-1)) hx hb dX11_narrow_63 (by decide) ?_
            exact et_iret hx hb hr hlk rfl hS ((-1), fv, im2__48) rfl ⟨(show Tb κ im2__48 fs fv 3 from htb), (show Sb im im2__48 from (Sb.tr h_41 h_51))⟩ (subP hP [0, 1, 2, 3, 4, 5] rfl) (subD hD [0, 1, 2, 3, 4, 5] (by decide) rfl) (Nat.le_of_ble_eq_true rfl) (Nat.le_of_ble_eq_true rfl) dX11_narrow_64
          · refine W.eq (g2 := F0 m 35 ls [.ref q__53]) rfl ?_
            refine lv_astore (lv' := [(6, .ref q__53), (5, .null), (4, .int 0), (0, .ref xx), (1, .int (nI t)), (2, .int zb), (3, .int zc)]) hx hb dX11_narrow_35 hl (by decide) rfl (fun ls hl => ?_)
            refine lv_aload hx hb dX11_narrow_37 (lv_at hl 0 rfl) ?_
            refine lv_ifnull hx hb dX11_narrow_39 ?_
            refine lv_aload_n hx hb dX11_narrow_42 rfl (lv_at hl 3 rfl) ?_
            refine va_get (D := D) (ci := 11) (v := .ref st) (C := RX11) (T := TX11) (N := 7) hx hb hts inlX11 hown hK hP 0 rfl rfl 0 (by decide) (hts _ mw_15) (fun _ h9 => h9) rfl dX11_narrow_43 ?_
            refine lv_iload_n hx hb dX11_narrow_46 rfl (lv_at hl 4 rfl) ?_
            refine er_V (As := [.int (nI t)]) (rest := []) hFX hKK hE hS (c_X6_canStack_s l D κ κq im2__48 st d sh vw ta sa n fv t v_7 d_6 R_4 (by omega) e_2 h_9 (by omega)) 1 gV_X11_205 hdV_X6_canStack rfl rfl ⟨Nat.le_of_ble_eq_true rfl, Nat.le_of_ble_eq_true rfl⟩ rfl rfl (Nat.le_of_ble_eq_true rfl) dX11_narrow_47 ⟨Nat.le_of_ble_eq_true rfl, Nat.le_of_ble_eq_true rfl⟩ hl.1 hP 1 6 rfl rfl rfl (subP hP [1, 3] rfl) (fun r__59 hp_60 => ?_)
            replace hp_60 : ((r__59 = 1 ∧ d_6 ≤ 5) ∨ (r__59 = 0)) := hp_60
            have ha_61 := hp_60
            clear hp_60
            rcases ha_61 with ⟨rfl, a_62⟩ | rfl
            · refine W.eq (g2 := F0 m 50 ls [.int 1]) rfl ?_
              refine lv_if_eq (tgt := 63) hx hb dX11_narrow_50 (by decide) (fun c_63 => absurd c_63 (by decide)) (fun c_63 => ?_)
              refine lv_iload_n hx hb dX11_narrow_53 rfl (lv_at hl 6 rfl) ?_
              refine lv_if_lt (tgt := 63) hx hb dX11_narrow_54 (by decide) (fun c_64 => ?_) (fun c_64 => ?_)
              · refine lv_iconst (v := (-1)) hx hb dX11_narrow_63 (by decide) ?_
                exact et_iret hx hb hr hlk rfl hS ((-1), fv, im2__48) rfl ⟨(show Tb κ im2__48 fs fv 3 from htb), (show Sb im im2__48 from (Sb.tr h_41 h_51))⟩ (subP hP [0, 1, 2, 3, 4, 5] rfl) (subD hD [0, 1, 2, 3, 4, 5] (by decide) rfl) (Nat.le_of_ble_eq_true rfl) (Nat.le_of_ble_eq_true rfl) dX11_narrow_64
              · refine lv_iload_n hx hb dX11_narrow_57 rfl (lv_at hl 6 rfl) ?_
                refine lv_bipush (v := 7) hx hb dX11_narrow_58 (by decide) ?_
                refine lv_icmp_le (tgt := 65) hx hb dX11_narrow_60 (by decide) (fun c_65 => ?_) (fun c_65 => ?_)
                · refine lv_iload_n hx hb dX11_narrow_65 rfl (lv_at hl 6 rfl) ?_
                  refine lv_bipush (v := 6) hx hb dX11_narrow_66 (by decide) ?_
                  refine lv_icmp_ne (tgt := 78) hx hb dX11_narrow_68 (by decide) (fun c_66 => ?_) (fun c_66 => ?_)
                  · refine lv_iload_n hx hb dX11_narrow_78 rfl (lv_at hl 6 rfl) ?_
                    refine lv_bipush (v := 6) hx hb dX11_narrow_79 (by decide) ?_
                    refine lv_icmp_ge (tgt := 112) hx hb dX11_narrow_81 (by decide) (fun c_67 => ?_) (fun c_67 => ?_)
                    · refine lv_aload_n hx hb dX11_narrow_112 rfl (lv_at hl 3 rfl) ?_
                      refine va_get (D := D) (ci := 11) (v := .ref st) (C := RX11) (T := TX11) (N := 7) hx hb hts inlX11 hown hK hP 0 rfl rfl 0 (by decide) (hts _ mw_15) (fun _ h9 => h9) rfl dX11_narrow_113 ?_
                      refine lv_iload_n hx hb dX11_narrow_116 rfl (lv_at hl 4 rfl) ?_
                      refine lv_aload hx hb dX11_narrow_117 (lv_at hl 0 rfl) ?_
                      refine lv_iload_n hx hb dX11_narrow_119 rfl (lv_at hl 6 rfl) ?_
                      refine lv_aloadN hx hb dX11_narrow_120 (lv_at hl 1 rfl) ?_
                      obtain ⟨h_73, h_74, hm_75, h_76, h_77⟩ := id a_58
                      refine et_VT (CR := [(xx, .inr (11, [.ref st, .ref tp, .ref ft, .ref rd, .ref wr, .ref st2, .int zi])), (st, .inr (6, [.ref d, .ref sh, .ref vw, .ref ta, .ref sa, .int (nI n)])), (sh, .inl (κ 4, 3, .inr (.inr (.inr (.inr fs))))), (vw, .inl (κ 5, 3, .inr (.inr (.inr (.inr fv))))), (tp, .inr (8, [.ref tb, .int 0])), (tb, .inl (κ 0, 800, .inl tf))]) (As := [.int zc, .null]) (rest := [.int (nI t), .ref st]) hFX hKK hE hP hD hS hA (c_X7_narrowed_n l D κ κq im2__48 q__53 a_3 R_4 w_5 co__54 ra__55 mq__56 ty__57 zc a_58) 2 gV_X11_219 hdV_X7_narrowed ⟨Nat.le_of_ble_eq_true rfl, Nat.le_of_ble_eq_true rfl⟩ rfl rfl (Nat.le_of_ble_eq_true rfl) dX11_narrow_122 ⟨Nat.le_of_ble_eq_true rfl, Nat.le_of_ble_eq_true rfl⟩ hl.1 [] [0, 1, 2, 3, 4, 5] rfl rfl (by decide) (by decide) (by decide) (oneP (C := [(xx, .inr (11, [.ref st, .ref tp, .ref ft, .ref rd, .ref wr, .ref st2, .int zi])), (st, .inr (6, [.ref d, .ref sh, .ref vw, .ref ta, .ref sa, .int (nI n)])), (sh, .inl (κ 4, 3, .inr (.inr (.inr (.inr fs))))), (vw, .inl (κ 5, 3, .inr (.inr (.inr (.inr fv))))), (tp, .inr (8, [.ref tb, .int 0])), (tb, .inl (κ 0, 800, .inl tf))]) hP hm_75) 0 7 rfl rfl rfl (fun u_71 H locs hp_72 hP hD hS => ?_)
                      refine W.widen (k := 5) (n := 107) (Nat.le_refl _) (Nat.le_refl _) ?_
                      obtain ⟨p__68, n__69, im2__70⟩ := u_71
                      replace hP : va_P D vwCl ([(xx, .inr (11, [.ref st, .ref tp, .ref ft, .ref rd, .ref wr, .ref st2, .int zi])), (st, .inr (6, [.ref d, .ref sh, .ref vw, .ref ta, .ref sa, .int (nI n)])), (sh, .inl (κ 4, 3, .inr (.inr (.inr (.inr fs))))), (vw, .inl (κ 5, 3, .inr (.inr (.inr (.inr fv))))), (tp, .inr (8, [.ref tb, .int 0])), (tb, .inl (κ 0, 800, .inl tf))] ++ im2__70) H := subP (C := [(xx, .inr (11, [.ref st, .ref tp, .ref ft, .ref rd, .ref wr, .ref st2, .int zi])), (st, .inr (6, [.ref d, .ref sh, .ref vw, .ref ta, .ref sa, .int (nI n)])), (sh, .inl (κ 4, 3, .inr (.inr (.inr (.inr fs))))), (vw, .inl (κ 5, 3, .inr (.inr (.inr (.inr fv))))), (tp, .inr (8, [.ref tb, .int 0])), (tb, .inl (κ 0, 800, .inl tf))]) hP [0, 1, 2, 3, 4, 5] rfl
                      replace hD : va_D A ([(xx, .inr (11, [.ref st, .ref tp, .ref ft, .ref rd, .ref wr, .ref st2, .int zi])), (st, .inr (6, [.ref d, .ref sh, .ref vw, .ref ta, .ref sa, .int (nI n)])), (sh, .inl (κ 4, 3, .inr (.inr (.inr (.inr fs))))), (vw, .inl (κ 5, 3, .inr (.inr (.inr (.inr fv))))), (tp, .inr (8, [.ref tb, .int 0])), (tb, .inl (κ 0, 800, .inl tf))] ++ im2__70) := subD (C := [(xx, .inr (11, [.ref st, .ref tp, .ref ft, .ref rd, .ref wr, .ref st2, .int zi])), (st, .inr (6, [.ref d, .ref sh, .ref vw, .ref ta, .ref sa, .int (nI n)])), (sh, .inl (κ 4, 3, .inr (.inr (.inr (.inr fs))))), (vw, .inl (κ 5, 3, .inr (.inr (.inr (.inr fv))))), (tp, .inr (8, [.ref tb, .int 0])), (tb, .inl (κ 0, 800, .inl tf))]) hD [0, 1, 2, 3, 4, 5] (by decide) rfl
                      replace hp_72 : Sb im2__48 im2__70 ∧ Ix κ im2__70 p__68 n__69 R_4 := hp_72
                      obtain ⟨h_78, h_79⟩ := hp_72
                      replace htb := htb.up h_78
                      replace h_8 := h_8.up h_78
                      replace h_9 := h_9.up h_78
                      replace a_58 := a_58.up h_78
                      replace h_76 := h_76.up h_78
                      replace h_77 := h_77.up h_78
                      replace hm_75 := h_78 _ hm_75
                      refine W.eq (g2 := F0 m 125 ls [.ref p__68, .int (nI t), .ref st]) rfl ?_
                      refine et_VT (CR := [(xx, .inr (11, [.ref st, .ref tp, .ref ft, .ref rd, .ref wr, .ref st2, .int zi])), (sh, .inl (κ 4, 3, .inr (.inr (.inr (.inr fs))))), (tp, .inr (8, [.ref tb, .int 0])), (tb, .inl (κ 0, 800, .inl tf))]) (As := [.int (nI t), .ref p__68]) (rest := []) hFX hKK hE hP hD hS hA (c_X6_stack l D κ κq im2__70 st d sh vw ta sa n fs fv t a_3 R_4 w_5 v_7 d_6 p__68 n__69 (by omega) htb e_1 e_2 h_76 h_9 (by omega) h_79) 2 gV_X11_223 hdV_X6_stack ⟨Nat.le_of_ble_eq_true rfl, Nat.le_of_ble_eq_true rfl⟩ rfl rfl (Nat.le_of_ble_eq_true rfl) dX11_narrow_125 ⟨Nat.le_of_ble_eq_true rfl, Nat.le_of_ble_eq_true rfl⟩ hl.1 [1, 3] [0, 2, 4, 5] rfl rfl (by decide) (by decide) (by decide) hP 1 6 rfl rfl rfl (fun u_82 H locs hp_83 hP hD hS => ?_)
                      refine W.widen (k := 6) (n := 110) (Nat.le_refl _) (Nat.le_refl _) ?_
                      obtain ⟨gv__80, im2__81⟩ := u_82
                      replace hP : va_P D vwCl ([(xx, .inr (11, [.ref st, .ref tp, .ref ft, .ref rd, .ref wr, .ref st2, .int zi])), (st, .inr (6, [.ref d, .ref sh, .ref vw, .ref ta, .ref sa, .int (nI n)])), (sh, .inl (κ 4, 3, .inr (.inr (.inr (.inr fs))))), (vw, .inl (κ 5, 3, .inr (.inr (.inr (.inr gv__80))))), (tp, .inr (8, [.ref tb, .int 0])), (tb, .inl (κ 0, 800, .inl tf))] ++ im2__81) H := subP (C := [(xx, .inr (11, [.ref st, .ref tp, .ref ft, .ref rd, .ref wr, .ref st2, .int zi])), (sh, .inl (κ 4, 3, .inr (.inr (.inr (.inr fs))))), (tp, .inr (8, [.ref tb, .int 0])), (tb, .inl (κ 0, 800, .inl tf)), (st, .inr (6, [.ref d, .ref sh, .ref vw, .ref ta, .ref sa, .int (nI n)])), (vw, .inl (κ 5, 3, .inr (.inr (.inr (.inr gv__80)))))]) hP [0, 4, 1, 5, 2, 3] rfl
                      replace hD : va_D A ([(xx, .inr (11, [.ref st, .ref tp, .ref ft, .ref rd, .ref wr, .ref st2, .int zi])), (st, .inr (6, [.ref d, .ref sh, .ref vw, .ref ta, .ref sa, .int (nI n)])), (sh, .inl (κ 4, 3, .inr (.inr (.inr (.inr fs))))), (vw, .inl (κ 5, 3, .inr (.inr (.inr (.inr gv__80))))), (tp, .inr (8, [.ref tb, .int 0])), (tb, .inl (κ 0, 800, .inl tf))] ++ im2__81) := subD (C := [(xx, .inr (11, [.ref st, .ref tp, .ref ft, .ref rd, .ref wr, .ref st2, .int zi])), (sh, .inl (κ 4, 3, .inr (.inr (.inr (.inr fs))))), (tp, .inr (8, [.ref tb, .int 0])), (tb, .inl (κ 0, 800, .inl tf)), (st, .inr (6, [.ref d, .ref sh, .ref vw, .ref ta, .ref sa, .int (nI n)])), (vw, .inl (κ 5, 3, .inr (.inr (.inr (.inr gv__80)))))]) hD [0, 4, 1, 5, 2, 3] (by decide) rfl
                      replace hp_83 : Sb im2__70 im2__81 ∧ Tb κ im2__81 fs gv__80 3 := hp_83
                      obtain ⟨h_84, h_85⟩ := hp_83
                      replace htb := htb.up h_84
                      replace h_8 := h_8.up h_84
                      replace h_9 := h_9.up h_84
                      replace a_58 := a_58.up h_84
                      replace h_76 := h_76.up h_84
                      replace h_77 := h_77.up h_84
                      replace h_79 := h_79.up h_84
                      replace hm_75 := h_84 _ hm_75
                      refine W.eq (g2 := F0 m 128 ls [.int (nI n__69)]) rfl ?_
                      exact et_iret hx hb hr hlk rfl hS (nI n__69, gv__80, im2__81) rfl ⟨(show Tb κ im2__81 fs gv__80 3 from h_85), (show Sb im im2__81 from (Sb.tr (Sb.tr (Sb.tr h_41 h_51) h_78) h_84))⟩ (subP hP [0, 1, 2, 3, 4, 5] rfl) (subD hD [0, 1, 2, 3, 4, 5] (by decide) rfl) (Nat.le_of_ble_eq_true rfl) (Nat.le_of_ble_eq_true rfl) dX11_narrow_128
                    · refine lv_iload hx hb dX11_narrow_84 (lv_at hl 2 rfl) ?_
                      refine lv_if_eq (tgt := 110) hx hb dX11_narrow_86 (by decide) (fun c_86 => ?_) (fun c_86 => absurd (by decide) c_86)
                      refine lv_iconst (v := (-1)) hx hb dX11_narrow_110 (by decide) ?_
                      exact et_iret hx hb hr hlk rfl hS ((-1), fv, im2__48) rfl ⟨(show Tb κ im2__48 fs fv 3 from htb), (show Sb im im2__48 from (Sb.tr h_41 h_51))⟩ (subP hP [0, 1, 2, 3, 4, 5] rfl) (subD hD [0, 1, 2, 3, 4, 5] (by decide) rfl) (Nat.le_of_ble_eq_true rfl) (Nat.le_of_ble_eq_true rfl) dX11_narrow_111
                  · refine lv_iload hx hb dX11_narrow_71 (lv_at hl 2 rfl) ?_
                    refine lv_if_ne (tgt := 78) hx hb dX11_narrow_73 (by decide) (fun c_87 => absurd c_87 (by decide)) (fun c_87 => ?_)
                    refine lv_iconst (v := (-1)) hx hb dX11_narrow_76 (by decide) ?_
                    exact et_iret hx hb hr hlk rfl hS ((-1), fv, im2__48) rfl ⟨(show Tb κ im2__48 fs fv 3 from htb), (show Sb im im2__48 from (Sb.tr h_41 h_51))⟩ (subP hP [0, 1, 2, 3, 4, 5] rfl) (subD hD [0, 1, 2, 3, 4, 5] (by decide) rfl) (Nat.le_of_ble_eq_true rfl) (Nat.le_of_ble_eq_true rfl) dX11_narrow_77
                · refine lv_iconst (v := (-1)) hx hb dX11_narrow_63 (by decide) ?_
                  exact et_iret hx hb hr hlk rfl hS ((-1), fv, im2__48) rfl ⟨(show Tb κ im2__48 fs fv 3 from htb), (show Sb im im2__48 from (Sb.tr h_41 h_51))⟩ (subP hP [0, 1, 2, 3, 4, 5] rfl) (subD hD [0, 1, 2, 3, 4, 5] (by decide) rfl) (Nat.le_of_ble_eq_true rfl) (Nat.le_of_ble_eq_true rfl) dX11_narrow_64
            · refine W.eq (g2 := F0 m 50 ls [.int 0]) rfl ?_
              refine lv_if_eq (tgt := 63) hx hb dX11_narrow_50 (by decide) (fun c_88 => ?_) (fun c_88 => absurd (by decide) c_88)
              refine lv_iconst (v := (-1)) hx hb dX11_narrow_63 (by decide) ?_
              exact et_iret hx hb hr hlk rfl hS ((-1), fv, im2__48) rfl ⟨(show Tb κ im2__48 fs fv 3 from htb), (show Sb im im2__48 from (Sb.tr h_41 h_51))⟩ (subP hP [0, 1, 2, 3, 4, 5] rfl) (subD hD [0, 1, 2, 3, 4, 5] (by decide) rfl) (Nat.le_of_ble_eq_true rfl) (Nat.le_of_ble_eq_true rfl) dX11_narrow_64
        · refine W.eq (g2 := F0 m 24 ls [.ref q__43]) rfl ?_
          refine lv_astore (lv' := [(5, .ref q__43), (4, .int 0), (0, .ref xx), (1, .int (nI t)), (2, .int zb), (3, .int zc)]) hx hb dX11_narrow_24 hl (by decide) rfl (fun ls hl => ?_)
          refine lv_aload_n hx hb dX11_narrow_26 rfl (lv_at hl 2 rfl) ?_
          refine va_get (D := D) (ci := 11) (v := .ref st) (C := RX11) (T := TX11) (N := 7) hx hb hts inlX11 hown hK hP 0 rfl rfl 0 (by decide) (hts _ mw_15) (fun _ h9 => h9) rfl dX11_narrow_27 ?_
          refine lv_iload_n hx hb dX11_narrow_30 rfl (lv_at hl 3 rfl) ?_
          refine lv_iload_n hx hb dX11_narrow_31 rfl (lv_at hl 4 rfl) ?_
          refine et_VT (CR := [(xx, .inr (11, [.ref st, .ref tp, .ref ft, .ref rd, .ref wr, .ref st2, .int zi])), (tp, .inr (8, [.ref tb, .int 0])), (tb, .inl (κ 0, 800, .inl tf))]) (As := [.int (nI t), .int zb]) (rest := []) hFX hKK hE hP hD hS hA (c_X6_stripOf_s l D κ κq im2__38 st d sh vw ta sa n fs fv t a_3 R_4 w_5 v_7 d_6 zb (by omega) e_1 e_2 h_8 h_9) 2 gV_X11_189 hdV_X6_stripOf ⟨Nat.le_of_ble_eq_true rfl, Nat.le_of_ble_eq_true rfl⟩ rfl rfl (Nat.le_of_ble_eq_true rfl) dX11_narrow_32 ⟨Nat.le_of_ble_eq_true rfl, Nat.le_of_ble_eq_true rfl⟩ hl.1 [1, 2, 3] [0, 4, 5] rfl rfl (by decide) (by decide) (by decide) hP 1 6 rfl rfl rfl (fun u_91 H locs hp_92 hP hD hS => ?_)
          refine W.widen (k := 3) (n := 27) (Nat.le_refl _) (Nat.le_refl _) ?_
          obtain ⟨r__89, im2__90⟩ := u_91
          replace hP : va_P D vwCl ([(xx, .inr (11, [.ref st, .ref tp, .ref ft, .ref rd, .ref wr, .ref st2, .int zi])), (st, .inr (6, [.ref d, .ref sh, .ref vw, .ref ta, .ref sa, .int (nI n)])), (sh, .inl (κ 4, 3, .inr (.inr (.inr (.inr fs))))), (vw, .inl (κ 5, 3, .inr (.inr (.inr (.inr fv))))), (tp, .inr (8, [.ref tb, .int 0])), (tb, .inl (κ 0, 800, .inl tf))] ++ im2__90) H := subP (C := [(xx, .inr (11, [.ref st, .ref tp, .ref ft, .ref rd, .ref wr, .ref st2, .int zi])), (tp, .inr (8, [.ref tb, .int 0])), (tb, .inl (κ 0, 800, .inl tf)), (st, .inr (6, [.ref d, .ref sh, .ref vw, .ref ta, .ref sa, .int (nI n)])), (sh, .inl (κ 4, 3, .inr (.inr (.inr (.inr fs))))), (vw, .inl (κ 5, 3, .inr (.inr (.inr (.inr fv)))))]) hP [0, 3, 4, 5, 1, 2] rfl
          replace hD : va_D A ([(xx, .inr (11, [.ref st, .ref tp, .ref ft, .ref rd, .ref wr, .ref st2, .int zi])), (st, .inr (6, [.ref d, .ref sh, .ref vw, .ref ta, .ref sa, .int (nI n)])), (sh, .inl (κ 4, 3, .inr (.inr (.inr (.inr fs))))), (vw, .inl (κ 5, 3, .inr (.inr (.inr (.inr fv))))), (tp, .inr (8, [.ref tb, .int 0])), (tb, .inl (κ 0, 800, .inl tf))] ++ im2__90) := subD (C := [(xx, .inr (11, [.ref st, .ref tp, .ref ft, .ref rd, .ref wr, .ref st2, .int zi])), (tp, .inr (8, [.ref tb, .int 0])), (tb, .inl (κ 0, 800, .inl tf)), (st, .inr (6, [.ref d, .ref sh, .ref vw, .ref ta, .ref sa, .int (nI n)])), (sh, .inl (κ 4, 3, .inr (.inr (.inr (.inr fs))))), (vw, .inl (κ 5, 3, .inr (.inr (.inr (.inr fv)))))]) hD [0, 3, 4, 5, 1, 2] (by decide) rfl
          replace hp_92 : Sb im2__38 im2__90 ∧ ((r__89 = none) ∨ (∃ (q : Nat), ∃ (co : Nat), ∃ (ra : Nat), ∃ (mq : Nat), ∃ (ty : Nat), r__89 = some q ∧ Sp κ im2__90 q a_3 R_4 w_5 co ra mq ty)) := hp_92
          obtain ⟨h_93, ha_94⟩ := hp_92
          replace htb := htb.up h_93
          replace h_8 := h_8.up h_93
          replace h_9 := h_9.up h_93
          replace a_46 := a_46.up h_93
          rcases ha_94 with rfl | ⟨q__95, co__96, ra__97, mq__98, ty__99, rfl, a_100⟩
          · refine W.eq (g2 := F0 m 35 ls [.null]) rfl ?_
            refine lv_astoreN (lv' := [(6, .null), (5, .ref q__43), (4, .int 0), (0, .ref xx), (1, .int (nI t)), (2, .int zb), (3, .int zc)]) hx hb dX11_narrow_35 hl (by decide) rfl (fun ls hl => ?_)
            refine lv_aloadN hx hb dX11_narrow_37 (lv_at hl 0 rfl) ?_
            refine lv_ifnullN (tgt := 63) hx hb dX11_narrow_39 (by decide) ?_
            refine lv_iconst (v := (-1)) hx hb dX11_narrow_63 (by decide) ?_
            exact et_iret hx hb hr hlk rfl hS ((-1), fv, im2__90) rfl ⟨(show Tb κ im2__90 fs fv 3 from htb), (show Sb im im2__90 from (Sb.tr h_41 h_93))⟩ (subP hP [0, 1, 2, 3, 4, 5] rfl) (subD hD [0, 1, 2, 3, 4, 5] (by decide) rfl) (Nat.le_of_ble_eq_true rfl) (Nat.le_of_ble_eq_true rfl) dX11_narrow_64
          · refine W.eq (g2 := F0 m 35 ls [.ref q__95]) rfl ?_
            refine lv_astore (lv' := [(6, .ref q__95), (5, .ref q__43), (4, .int 0), (0, .ref xx), (1, .int (nI t)), (2, .int zb), (3, .int zc)]) hx hb dX11_narrow_35 hl (by decide) rfl (fun ls hl => ?_)
            refine lv_aload hx hb dX11_narrow_37 (lv_at hl 0 rfl) ?_
            refine lv_ifnull hx hb dX11_narrow_39 ?_
            refine lv_aload_n hx hb dX11_narrow_42 rfl (lv_at hl 3 rfl) ?_
            refine va_get (D := D) (ci := 11) (v := .ref st) (C := RX11) (T := TX11) (N := 7) hx hb hts inlX11 hown hK hP 0 rfl rfl 0 (by decide) (hts _ mw_15) (fun _ h9 => h9) rfl dX11_narrow_43 ?_
            refine lv_iload_n hx hb dX11_narrow_46 rfl (lv_at hl 4 rfl) ?_
            refine er_V (As := [.int (nI t)]) (rest := []) hFX hKK hE hS (c_X6_canStack_s l D κ κq im2__90 st d sh vw ta sa n fv t v_7 d_6 R_4 (by omega) e_2 h_9 (by omega)) 1 gV_X11_205 hdV_X6_canStack rfl rfl ⟨Nat.le_of_ble_eq_true rfl, Nat.le_of_ble_eq_true rfl⟩ rfl rfl (Nat.le_of_ble_eq_true rfl) dX11_narrow_47 ⟨Nat.le_of_ble_eq_true rfl, Nat.le_of_ble_eq_true rfl⟩ hl.1 hP 1 6 rfl rfl rfl (subP hP [1, 3] rfl) (fun r__101 hp_102 => ?_)
            replace hp_102 : ((r__101 = 1 ∧ d_6 ≤ 5) ∨ (r__101 = 0)) := hp_102
            have ha_103 := hp_102
            clear hp_102
            rcases ha_103 with ⟨rfl, a_104⟩ | rfl
            · refine W.eq (g2 := F0 m 50 ls [.int 1]) rfl ?_
              refine lv_if_eq (tgt := 63) hx hb dX11_narrow_50 (by decide) (fun c_105 => absurd c_105 (by decide)) (fun c_105 => ?_)
              refine lv_iload_n hx hb dX11_narrow_53 rfl (lv_at hl 6 rfl) ?_
              refine lv_if_lt (tgt := 63) hx hb dX11_narrow_54 (by decide) (fun c_106 => ?_) (fun c_106 => ?_)
              · refine lv_iconst (v := (-1)) hx hb dX11_narrow_63 (by decide) ?_
                exact et_iret hx hb hr hlk rfl hS ((-1), fv, im2__90) rfl ⟨(show Tb κ im2__90 fs fv 3 from htb), (show Sb im im2__90 from (Sb.tr h_41 h_93))⟩ (subP hP [0, 1, 2, 3, 4, 5] rfl) (subD hD [0, 1, 2, 3, 4, 5] (by decide) rfl) (Nat.le_of_ble_eq_true rfl) (Nat.le_of_ble_eq_true rfl) dX11_narrow_64
              · refine lv_iload_n hx hb dX11_narrow_57 rfl (lv_at hl 6 rfl) ?_
                refine lv_bipush (v := 7) hx hb dX11_narrow_58 (by decide) ?_
                refine lv_icmp_le (tgt := 65) hx hb dX11_narrow_60 (by decide) (fun c_107 => ?_) (fun c_107 => ?_)
                · refine lv_iload_n hx hb dX11_narrow_65 rfl (lv_at hl 6 rfl) ?_
                  refine lv_bipush (v := 6) hx hb dX11_narrow_66 (by decide) ?_
                  refine lv_icmp_ne (tgt := 78) hx hb dX11_narrow_68 (by decide) (fun c_108 => ?_) (fun c_108 => ?_)
                  · refine lv_iload_n hx hb dX11_narrow_78 rfl (lv_at hl 6 rfl) ?_
                    refine lv_bipush (v := 6) hx hb dX11_narrow_79 (by decide) ?_
                    refine lv_icmp_ge (tgt := 112) hx hb dX11_narrow_81 (by decide) (fun c_109 => ?_) (fun c_109 => ?_)
                    · refine lv_aload_n hx hb dX11_narrow_112 rfl (lv_at hl 3 rfl) ?_
                      refine va_get (D := D) (ci := 11) (v := .ref st) (C := RX11) (T := TX11) (N := 7) hx hb hts inlX11 hown hK hP 0 rfl rfl 0 (by decide) (hts _ mw_15) (fun _ h9 => h9) rfl dX11_narrow_113 ?_
                      refine lv_iload_n hx hb dX11_narrow_116 rfl (lv_at hl 4 rfl) ?_
                      refine lv_aload hx hb dX11_narrow_117 (lv_at hl 0 rfl) ?_
                      refine lv_iload_n hx hb dX11_narrow_119 rfl (lv_at hl 6 rfl) ?_
                      refine lv_aload hx hb dX11_narrow_120 (lv_at hl 1 rfl) ?_
                      obtain ⟨h_115, h_116, hm_117, h_118, h_119⟩ := id a_100
                      refine et_VT (CR := [(xx, .inr (11, [.ref st, .ref tp, .ref ft, .ref rd, .ref wr, .ref st2, .int zi])), (st, .inr (6, [.ref d, .ref sh, .ref vw, .ref ta, .ref sa, .int (nI n)])), (sh, .inl (κ 4, 3, .inr (.inr (.inr (.inr fs))))), (vw, .inl (κ 5, 3, .inr (.inr (.inr (.inr fv))))), (tp, .inr (8, [.ref tb, .int 0])), (tb, .inl (κ 0, 800, .inl tf))]) (As := [.int zc, .ref q__43]) (rest := [.int (nI t), .ref st]) hFX hKK hE hP hD hS hA (c_X7_narrowed_r l D κ κq im2__90 q__95 a_3 R_4 w_5 co__96 ra__97 mq__98 ty__99 zc q__43 k__44 n__45 a_100 a_46) 2 gV_X11_219 hdV_X7_narrowed ⟨Nat.le_of_ble_eq_true rfl, Nat.le_of_ble_eq_true rfl⟩ rfl rfl (Nat.le_of_ble_eq_true rfl) dX11_narrow_122 ⟨Nat.le_of_ble_eq_true rfl, Nat.le_of_ble_eq_true rfl⟩ hl.1 [] [0, 1, 2, 3, 4, 5] rfl rfl (by decide) (by decide) (by decide) (oneP (C := [(xx, .inr (11, [.ref st, .ref tp, .ref ft, .ref rd, .ref wr, .ref st2, .int zi])), (st, .inr (6, [.ref d, .ref sh, .ref vw, .ref ta, .ref sa, .int (nI n)])), (sh, .inl (κ 4, 3, .inr (.inr (.inr (.inr fs))))), (vw, .inl (κ 5, 3, .inr (.inr (.inr (.inr fv))))), (tp, .inr (8, [.ref tb, .int 0])), (tb, .inl (κ 0, 800, .inl tf))]) hP hm_117) 0 7 rfl rfl rfl (fun u_113 H locs hp_114 hP hD hS => ?_)
                      refine W.widen (k := 5) (n := 107) (Nat.le_refl _) (Nat.le_refl _) ?_
                      obtain ⟨p__110, n__111, im2__112⟩ := u_113
                      replace hP : va_P D vwCl ([(xx, .inr (11, [.ref st, .ref tp, .ref ft, .ref rd, .ref wr, .ref st2, .int zi])), (st, .inr (6, [.ref d, .ref sh, .ref vw, .ref ta, .ref sa, .int (nI n)])), (sh, .inl (κ 4, 3, .inr (.inr (.inr (.inr fs))))), (vw, .inl (κ 5, 3, .inr (.inr (.inr (.inr fv))))), (tp, .inr (8, [.ref tb, .int 0])), (tb, .inl (κ 0, 800, .inl tf))] ++ im2__112) H := subP (C := [(xx, .inr (11, [.ref st, .ref tp, .ref ft, .ref rd, .ref wr, .ref st2, .int zi])), (st, .inr (6, [.ref d, .ref sh, .ref vw, .ref ta, .ref sa, .int (nI n)])), (sh, .inl (κ 4, 3, .inr (.inr (.inr (.inr fs))))), (vw, .inl (κ 5, 3, .inr (.inr (.inr (.inr fv))))), (tp, .inr (8, [.ref tb, .int 0])), (tb, .inl (κ 0, 800, .inl tf))]) hP [0, 1, 2, 3, 4, 5] rfl
                      replace hD : va_D A ([(xx, .inr (11, [.ref st, .ref tp, .ref ft, .ref rd, .ref wr, .ref st2, .int zi])), (st, .inr (6, [.ref d, .ref sh, .ref vw, .ref ta, .ref sa, .int (nI n)])), (sh, .inl (κ 4, 3, .inr (.inr (.inr (.inr fs))))), (vw, .inl (κ 5, 3, .inr (.inr (.inr (.inr fv))))), (tp, .inr (8, [.ref tb, .int 0])), (tb, .inl (κ 0, 800, .inl tf))] ++ im2__112) := subD (C := [(xx, .inr (11, [.ref st, .ref tp, .ref ft, .ref rd, .ref wr, .ref st2, .int zi])), (st, .inr (6, [.ref d, .ref sh, .ref vw, .ref ta, .ref sa, .int (nI n)])), (sh, .inl (κ 4, 3, .inr (.inr (.inr (.inr fs))))), (vw, .inl (κ 5, 3, .inr (.inr (.inr (.inr fv))))), (tp, .inr (8, [.ref tb, .int 0])), (tb, .inl (κ 0, 800, .inl tf))]) hD [0, 1, 2, 3, 4, 5] (by decide) rfl
                      replace hp_114 : Sb im2__90 im2__112 ∧ Ix κ im2__112 p__110 n__111 R_4 := hp_114
                      obtain ⟨h_120, h_121⟩ := hp_114
                      replace htb := htb.up h_120
                      replace h_8 := h_8.up h_120
                      replace h_9 := h_9.up h_120
                      replace a_46 := a_46.up h_120
                      replace a_100 := a_100.up h_120
                      replace h_118 := h_118.up h_120
                      replace h_119 := h_119.up h_120
                      replace hm_117 := h_120 _ hm_117
                      refine W.eq (g2 := F0 m 125 ls [.ref p__110, .int (nI t), .ref st]) rfl ?_
                      refine et_VT (CR := [(xx, .inr (11, [.ref st, .ref tp, .ref ft, .ref rd, .ref wr, .ref st2, .int zi])), (sh, .inl (κ 4, 3, .inr (.inr (.inr (.inr fs))))), (tp, .inr (8, [.ref tb, .int 0])), (tb, .inl (κ 0, 800, .inl tf))]) (As := [.int (nI t), .ref p__110]) (rest := []) hFX hKK hE hP hD hS hA (c_X6_stack l D κ κq im2__112 st d sh vw ta sa n fs fv t a_3 R_4 w_5 v_7 d_6 p__110 n__111 (by omega) htb e_1 e_2 h_118 h_9 (by omega) h_121) 2 gV_X11_223 hdV_X6_stack ⟨Nat.le_of_ble_eq_true rfl, Nat.le_of_ble_eq_true rfl⟩ rfl rfl (Nat.le_of_ble_eq_true rfl) dX11_narrow_125 ⟨Nat.le_of_ble_eq_true rfl, Nat.le_of_ble_eq_true rfl⟩ hl.1 [1, 3] [0, 2, 4, 5] rfl rfl (by decide) (by decide) (by decide) hP 1 6 rfl rfl rfl (fun u_124 H locs hp_125 hP hD hS => ?_)
                      refine W.widen (k := 6) (n := 110) (Nat.le_refl _) (Nat.le_refl _) ?_
                      obtain ⟨gv__122, im2__123⟩ := u_124
                      replace hP : va_P D vwCl ([(xx, .inr (11, [.ref st, .ref tp, .ref ft, .ref rd, .ref wr, .ref st2, .int zi])), (st, .inr (6, [.ref d, .ref sh, .ref vw, .ref ta, .ref sa, .int (nI n)])), (sh, .inl (κ 4, 3, .inr (.inr (.inr (.inr fs))))), (vw, .inl (κ 5, 3, .inr (.inr (.inr (.inr gv__122))))), (tp, .inr (8, [.ref tb, .int 0])), (tb, .inl (κ 0, 800, .inl tf))] ++ im2__123) H := subP (C := [(xx, .inr (11, [.ref st, .ref tp, .ref ft, .ref rd, .ref wr, .ref st2, .int zi])), (sh, .inl (κ 4, 3, .inr (.inr (.inr (.inr fs))))), (tp, .inr (8, [.ref tb, .int 0])), (tb, .inl (κ 0, 800, .inl tf)), (st, .inr (6, [.ref d, .ref sh, .ref vw, .ref ta, .ref sa, .int (nI n)])), (vw, .inl (κ 5, 3, .inr (.inr (.inr (.inr gv__122)))))]) hP [0, 4, 1, 5, 2, 3] rfl
                      replace hD : va_D A ([(xx, .inr (11, [.ref st, .ref tp, .ref ft, .ref rd, .ref wr, .ref st2, .int zi])), (st, .inr (6, [.ref d, .ref sh, .ref vw, .ref ta, .ref sa, .int (nI n)])), (sh, .inl (κ 4, 3, .inr (.inr (.inr (.inr fs))))), (vw, .inl (κ 5, 3, .inr (.inr (.inr (.inr gv__122))))), (tp, .inr (8, [.ref tb, .int 0])), (tb, .inl (κ 0, 800, .inl tf))] ++ im2__123) := subD (C := [(xx, .inr (11, [.ref st, .ref tp, .ref ft, .ref rd, .ref wr, .ref st2, .int zi])), (sh, .inl (κ 4, 3, .inr (.inr (.inr (.inr fs))))), (tp, .inr (8, [.ref tb, .int 0])), (tb, .inl (κ 0, 800, .inl tf)), (st, .inr (6, [.ref d, .ref sh, .ref vw, .ref ta, .ref sa, .int (nI n)])), (vw, .inl (κ 5, 3, .inr (.inr (.inr (.inr gv__122)))))]) hD [0, 4, 1, 5, 2, 3] (by decide) rfl
                      replace hp_125 : Sb im2__112 im2__123 ∧ Tb κ im2__123 fs gv__122 3 := hp_125
                      obtain ⟨h_126, h_127⟩ := hp_125
                      replace htb := htb.up h_126
                      replace h_8 := h_8.up h_126
                      replace h_9 := h_9.up h_126
                      replace a_46 := a_46.up h_126
                      replace a_100 := a_100.up h_126
                      replace h_118 := h_118.up h_126
                      replace h_119 := h_119.up h_126
                      replace h_121 := h_121.up h_126
                      replace hm_117 := h_126 _ hm_117
                      refine W.eq (g2 := F0 m 128 ls [.int (nI n__111)]) rfl ?_
                      exact et_iret hx hb hr hlk rfl hS (nI n__111, gv__122, im2__123) rfl ⟨(show Tb κ im2__123 fs gv__122 3 from h_127), (show Sb im im2__123 from (Sb.tr (Sb.tr (Sb.tr h_41 h_93) h_120) h_126))⟩ (subP hP [0, 1, 2, 3, 4, 5] rfl) (subD hD [0, 1, 2, 3, 4, 5] (by decide) rfl) (Nat.le_of_ble_eq_true rfl) (Nat.le_of_ble_eq_true rfl) dX11_narrow_128
                    · refine lv_iload hx hb dX11_narrow_84 (lv_at hl 2 rfl) ?_
                      refine lv_if_eq (tgt := 110) hx hb dX11_narrow_86 (by decide) (fun c_128 => ?_) (fun c_128 => absurd (by decide) c_128)
                      refine lv_iconst (v := (-1)) hx hb dX11_narrow_110 (by decide) ?_
                      exact et_iret hx hb hr hlk rfl hS ((-1), fv, im2__90) rfl ⟨(show Tb κ im2__90 fs fv 3 from htb), (show Sb im im2__90 from (Sb.tr h_41 h_93))⟩ (subP hP [0, 1, 2, 3, 4, 5] rfl) (subD hD [0, 1, 2, 3, 4, 5] (by decide) rfl) (Nat.le_of_ble_eq_true rfl) (Nat.le_of_ble_eq_true rfl) dX11_narrow_111
                  · refine lv_iload hx hb dX11_narrow_71 (lv_at hl 2 rfl) ?_
                    refine lv_if_ne (tgt := 78) hx hb dX11_narrow_73 (by decide) (fun c_129 => absurd c_129 (by decide)) (fun c_129 => ?_)
                    refine lv_iconst (v := (-1)) hx hb dX11_narrow_76 (by decide) ?_
                    exact et_iret hx hb hr hlk rfl hS ((-1), fv, im2__90) rfl ⟨(show Tb κ im2__90 fs fv 3 from htb), (show Sb im im2__90 from (Sb.tr h_41 h_93))⟩ (subP hP [0, 1, 2, 3, 4, 5] rfl) (subD hD [0, 1, 2, 3, 4, 5] (by decide) rfl) (Nat.le_of_ble_eq_true rfl) (Nat.le_of_ble_eq_true rfl) dX11_narrow_77
                · refine lv_iconst (v := (-1)) hx hb dX11_narrow_63 (by decide) ?_
                  exact et_iret hx hb hr hlk rfl hS ((-1), fv, im2__90) rfl ⟨(show Tb κ im2__90 fs fv 3 from htb), (show Sb im im2__90 from (Sb.tr h_41 h_93))⟩ (subP hP [0, 1, 2, 3, 4, 5] rfl) (subD hD [0, 1, 2, 3, 4, 5] (by decide) rfl) (Nat.le_of_ble_eq_true rfl) (Nat.le_of_ble_eq_true rfl) dX11_narrow_64
            · refine W.eq (g2 := F0 m 50 ls [.int 0]) rfl ?_
              refine lv_if_eq (tgt := 63) hx hb dX11_narrow_50 (by decide) (fun c_130 => ?_) (fun c_130 => absurd (by decide) c_130)
              refine lv_iconst (v := (-1)) hx hb dX11_narrow_63 (by decide) ?_
              exact et_iret hx hb hr hlk rfl hS ((-1), fv, im2__90) rfl ⟨(show Tb κ im2__90 fs fv 3 from htb), (show Sb im im2__90 from (Sb.tr h_41 h_93))⟩ (subP hP [0, 1, 2, 3, 4, 5] rfl) (subD hD [0, 1, 2, 3, 4, 5] (by decide) rfl) (Nat.le_of_ble_eq_true rfl) (Nat.le_of_ble_eq_true rfl) dX11_narrow_64
      · have nc_36 := cv_nle (a := L) (b := 0) (by omega) (by omega) c_36
        refine lv_iconst (v := 1) hx hb dX11_narrow_10 (by decide) ?_
        refine lv_goto (tgt := 15) hx hb dX11_narrow_11 (by decide) ?_
        refine lv_istore (lv' := [(4, .int 1), (0, .ref xx), (1, .int (nI t)), (2, .int zb), (3, .int zc)]) hx hb dX11_narrow_15 hl (by decide) rfl (fun ls hl => ?_)
        refine lv_aload_n hx hb dX11_narrow_17 rfl (lv_at hl 1 rfl) ?_
        refine va_get (D := D) (ci := 11) (v := .ref tp) (C := RX11) (T := TX11) (N := 7) hx hb hts inlX11 hown hK hP 0 rfl rfl 1 (by decide) (hts _ mw_19) (fun _ h9 => h9) rfl dX11_narrow_18 ?_
        refine et_VT (CR := [(xx, .inr (11, [.ref st, .ref tp, .ref ft, .ref rd, .ref wr, .ref st2, .int zi])), (st, .inr (6, [.ref d, .ref sh, .ref vw, .ref ta, .ref sa, .int (nI n)])), (sh, .inl (κ 4, 3, .inr (.inr (.inr (.inr fs))))), (vw, .inl (κ 5, 3, .inr (.inr (.inr (.inr fv)))))]) (As := []) (rest := []) hFX hKK hE hP hD hS hA (c_X8_takeCell l D κ κq im tp tb L tf (by omega)) 0 gV_X11_110 hdV_X8_takeCell ⟨Nat.le_of_ble_eq_true rfl, Nat.le_of_ble_eq_true rfl⟩ rfl rfl (Nat.le_of_ble_eq_true rfl) dX11_narrow_21 ⟨Nat.le_of_ble_eq_true rfl, Nat.le_of_ble_eq_true rfl⟩ hl.1 [4, 5] [0, 1, 2, 3] rfl rfl (by decide) (by decide) (by decide) hP 4 8 rfl rfl rfl (fun u_133 H locs hp_134 hP hD hS => ?_)
        refine W.widen (k := 2) (n := 23) (Nat.le_refl _) (Nat.le_refl _) ?_
        obtain ⟨r__131, im2__132⟩ := u_133
        replace hP : va_P D vwCl ([(xx, .inr (11, [.ref st, .ref tp, .ref ft, .ref rd, .ref wr, .ref st2, .int zi])), (st, .inr (6, [.ref d, .ref sh, .ref vw, .ref ta, .ref sa, .int (nI n)])), (sh, .inl (κ 4, 3, .inr (.inr (.inr (.inr fs))))), (vw, .inl (κ 5, 3, .inr (.inr (.inr (.inr fv))))), (tp, .inr (8, [.ref tb, .int 0])), (tb, .inl (κ 0, 800, .inl tf))] ++ im2__132) H := subP (C := [(xx, .inr (11, [.ref st, .ref tp, .ref ft, .ref rd, .ref wr, .ref st2, .int zi])), (st, .inr (6, [.ref d, .ref sh, .ref vw, .ref ta, .ref sa, .int (nI n)])), (sh, .inl (κ 4, 3, .inr (.inr (.inr (.inr fs))))), (vw, .inl (κ 5, 3, .inr (.inr (.inr (.inr fv))))), (tp, .inr (8, [.ref tb, .int 0])), (tb, .inl (κ 0, 800, .inl tf))]) hP [0, 1, 2, 3, 4, 5] rfl
        replace hD : va_D A ([(xx, .inr (11, [.ref st, .ref tp, .ref ft, .ref rd, .ref wr, .ref st2, .int zi])), (st, .inr (6, [.ref d, .ref sh, .ref vw, .ref ta, .ref sa, .int (nI n)])), (sh, .inl (κ 4, 3, .inr (.inr (.inr (.inr fs))))), (vw, .inl (κ 5, 3, .inr (.inr (.inr (.inr fv))))), (tp, .inr (8, [.ref tb, .int 0])), (tb, .inl (κ 0, 800, .inl tf))] ++ im2__132) := subD (C := [(xx, .inr (11, [.ref st, .ref tp, .ref ft, .ref rd, .ref wr, .ref st2, .int zi])), (st, .inr (6, [.ref d, .ref sh, .ref vw, .ref ta, .ref sa, .int (nI n)])), (sh, .inl (κ 4, 3, .inr (.inr (.inr (.inr fs))))), (vw, .inl (κ 5, 3, .inr (.inr (.inr (.inr fv))))), (tp, .inr (8, [.ref tb, .int 0])), (tb, .inl (κ 0, 800, .inl tf))]) hD [0, 1, 2, 3, 4, 5] (by decide) rfl
        replace hp_134 : Sb im im2__132 ∧ ((r__131 = none) ∨ (∃ (q : Nat), ∃ (k : Nat), ∃ (n : Nat), r__131 = some q ∧ Cl κ im2__132 q k n)) := hp_134
        obtain ⟨h_135, ha_136⟩ := hp_134
        replace htb := htb.up h_135
        replace h_8 := h_8.up h_135
        replace h_9 := h_9.up h_135
        rcases ha_136 with rfl | ⟨q__137, k__138, n__139, rfl, a_140⟩
        · refine W.eq (g2 := F0 m 24 ls [.null]) rfl ?_
          refine lv_astoreN (lv' := [(5, .null), (4, .int 1), (0, .ref xx), (1, .int (nI t)), (2, .int zb), (3, .int zc)]) hx hb dX11_narrow_24 hl (by decide) rfl (fun ls hl => ?_)
          refine lv_aload_n hx hb dX11_narrow_26 rfl (lv_at hl 2 rfl) ?_
          refine va_get (D := D) (ci := 11) (v := .ref st) (C := RX11) (T := TX11) (N := 7) hx hb hts inlX11 hown hK hP 0 rfl rfl 0 (by decide) (hts _ mw_15) (fun _ h9 => h9) rfl dX11_narrow_27 ?_
          refine lv_iload_n hx hb dX11_narrow_30 rfl (lv_at hl 3 rfl) ?_
          refine lv_iload_n hx hb dX11_narrow_31 rfl (lv_at hl 4 rfl) ?_
          refine et_VT (CR := [(xx, .inr (11, [.ref st, .ref tp, .ref ft, .ref rd, .ref wr, .ref st2, .int zi])), (tp, .inr (8, [.ref tb, .int 0])), (tb, .inl (κ 0, 800, .inl tf))]) (As := [.int (nI t), .int zb]) (rest := []) hFX hKK hE hP hD hS hA (c_X6_stripOf_s l D κ κq im2__132 st d sh vw ta sa n fs fv t a_3 R_4 w_5 v_7 d_6 zb (by omega) e_1 e_2 h_8 h_9) 2 gV_X11_189 hdV_X6_stripOf ⟨Nat.le_of_ble_eq_true rfl, Nat.le_of_ble_eq_true rfl⟩ rfl rfl (Nat.le_of_ble_eq_true rfl) dX11_narrow_32 ⟨Nat.le_of_ble_eq_true rfl, Nat.le_of_ble_eq_true rfl⟩ hl.1 [1, 2, 3] [0, 4, 5] rfl rfl (by decide) (by decide) (by decide) hP 1 6 rfl rfl rfl (fun u_143 H locs hp_144 hP hD hS => ?_)
          refine W.widen (k := 3) (n := 27) (Nat.le_refl _) (Nat.le_refl _) ?_
          obtain ⟨r__141, im2__142⟩ := u_143
          replace hP : va_P D vwCl ([(xx, .inr (11, [.ref st, .ref tp, .ref ft, .ref rd, .ref wr, .ref st2, .int zi])), (st, .inr (6, [.ref d, .ref sh, .ref vw, .ref ta, .ref sa, .int (nI n)])), (sh, .inl (κ 4, 3, .inr (.inr (.inr (.inr fs))))), (vw, .inl (κ 5, 3, .inr (.inr (.inr (.inr fv))))), (tp, .inr (8, [.ref tb, .int 0])), (tb, .inl (κ 0, 800, .inl tf))] ++ im2__142) H := subP (C := [(xx, .inr (11, [.ref st, .ref tp, .ref ft, .ref rd, .ref wr, .ref st2, .int zi])), (tp, .inr (8, [.ref tb, .int 0])), (tb, .inl (κ 0, 800, .inl tf)), (st, .inr (6, [.ref d, .ref sh, .ref vw, .ref ta, .ref sa, .int (nI n)])), (sh, .inl (κ 4, 3, .inr (.inr (.inr (.inr fs))))), (vw, .inl (κ 5, 3, .inr (.inr (.inr (.inr fv)))))]) hP [0, 3, 4, 5, 1, 2] rfl
          replace hD : va_D A ([(xx, .inr (11, [.ref st, .ref tp, .ref ft, .ref rd, .ref wr, .ref st2, .int zi])), (st, .inr (6, [.ref d, .ref sh, .ref vw, .ref ta, .ref sa, .int (nI n)])), (sh, .inl (κ 4, 3, .inr (.inr (.inr (.inr fs))))), (vw, .inl (κ 5, 3, .inr (.inr (.inr (.inr fv))))), (tp, .inr (8, [.ref tb, .int 0])), (tb, .inl (κ 0, 800, .inl tf))] ++ im2__142) := subD (C := [(xx, .inr (11, [.ref st, .ref tp, .ref ft, .ref rd, .ref wr, .ref st2, .int zi])), (tp, .inr (8, [.ref tb, .int 0])), (tb, .inl (κ 0, 800, .inl tf)), (st, .inr (6, [.ref d, .ref sh, .ref vw, .ref ta, .ref sa, .int (nI n)])), (sh, .inl (κ 4, 3, .inr (.inr (.inr (.inr fs))))), (vw, .inl (κ 5, 3, .inr (.inr (.inr (.inr fv)))))]) hD [0, 3, 4, 5, 1, 2] (by decide) rfl
          replace hp_144 : Sb im2__132 im2__142 ∧ ((r__141 = none) ∨ (∃ (q : Nat), ∃ (co : Nat), ∃ (ra : Nat), ∃ (mq : Nat), ∃ (ty : Nat), r__141 = some q ∧ Sp κ im2__142 q a_3 R_4 w_5 co ra mq ty)) := hp_144
          obtain ⟨h_145, ha_146⟩ := hp_144
          replace htb := htb.up h_145
          replace h_8 := h_8.up h_145
          replace h_9 := h_9.up h_145
          rcases ha_146 with rfl | ⟨q__147, co__148, ra__149, mq__150, ty__151, rfl, a_152⟩
          · refine W.eq (g2 := F0 m 35 ls [.null]) rfl ?_
            refine lv_astoreN (lv' := [(6, .null), (5, .null), (4, .int 1), (0, .ref xx), (1, .int (nI t)), (2, .int zb), (3, .int zc)]) hx hb dX11_narrow_35 hl (by decide) rfl (fun ls hl => ?_)
            refine lv_aloadN hx hb dX11_narrow_37 (lv_at hl 0 rfl) ?_
            refine lv_ifnullN (tgt := 63) hx hb dX11_narrow_39 (by decide) ?_
            refine lv_iconst (v := (-1)) hx hb dX11_narrow_63 (by decide) ?_
            exact et_iret hx hb hr hlk rfl hS ((-1), fv, im2__142) rfl ⟨(show Tb κ im2__142 fs fv 3 from htb), (show Sb im im2__142 from (Sb.tr h_135 h_145))⟩ (subP hP [0, 1, 2, 3, 4, 5] rfl) (subD hD [0, 1, 2, 3, 4, 5] (by decide) rfl) (Nat.le_of_ble_eq_true rfl) (Nat.le_of_ble_eq_true rfl) dX11_narrow_64
          · refine W.eq (g2 := F0 m 35 ls [.ref q__147]) rfl ?_
            refine lv_astore (lv' := [(6, .ref q__147), (5, .null), (4, .int 1), (0, .ref xx), (1, .int (nI t)), (2, .int zb), (3, .int zc)]) hx hb dX11_narrow_35 hl (by decide) rfl (fun ls hl => ?_)
            refine lv_aload hx hb dX11_narrow_37 (lv_at hl 0 rfl) ?_
            refine lv_ifnull hx hb dX11_narrow_39 ?_
            refine lv_aload_n hx hb dX11_narrow_42 rfl (lv_at hl 3 rfl) ?_
            refine va_get (D := D) (ci := 11) (v := .ref st) (C := RX11) (T := TX11) (N := 7) hx hb hts inlX11 hown hK hP 0 rfl rfl 0 (by decide) (hts _ mw_15) (fun _ h9 => h9) rfl dX11_narrow_43 ?_
            refine lv_iload_n hx hb dX11_narrow_46 rfl (lv_at hl 4 rfl) ?_
            refine er_V (As := [.int (nI t)]) (rest := []) hFX hKK hE hS (c_X6_canStack_s l D κ κq im2__142 st d sh vw ta sa n fv t v_7 d_6 R_4 (by omega) e_2 h_9 (by omega)) 1 gV_X11_205 hdV_X6_canStack rfl rfl ⟨Nat.le_of_ble_eq_true rfl, Nat.le_of_ble_eq_true rfl⟩ rfl rfl (Nat.le_of_ble_eq_true rfl) dX11_narrow_47 ⟨Nat.le_of_ble_eq_true rfl, Nat.le_of_ble_eq_true rfl⟩ hl.1 hP 1 6 rfl rfl rfl (subP hP [1, 3] rfl) (fun r__153 hp_154 => ?_)
            replace hp_154 : ((r__153 = 1 ∧ d_6 ≤ 5) ∨ (r__153 = 0)) := hp_154
            have ha_155 := hp_154
            clear hp_154
            rcases ha_155 with ⟨rfl, a_156⟩ | rfl
            · refine W.eq (g2 := F0 m 50 ls [.int 1]) rfl ?_
              refine lv_if_eq (tgt := 63) hx hb dX11_narrow_50 (by decide) (fun c_157 => absurd c_157 (by decide)) (fun c_157 => ?_)
              refine lv_iload_n hx hb dX11_narrow_53 rfl (lv_at hl 6 rfl) ?_
              refine lv_if_lt (tgt := 63) hx hb dX11_narrow_54 (by decide) (fun c_158 => ?_) (fun c_158 => ?_)
              · refine lv_iconst (v := (-1)) hx hb dX11_narrow_63 (by decide) ?_
                exact et_iret hx hb hr hlk rfl hS ((-1), fv, im2__142) rfl ⟨(show Tb κ im2__142 fs fv 3 from htb), (show Sb im im2__142 from (Sb.tr h_135 h_145))⟩ (subP hP [0, 1, 2, 3, 4, 5] rfl) (subD hD [0, 1, 2, 3, 4, 5] (by decide) rfl) (Nat.le_of_ble_eq_true rfl) (Nat.le_of_ble_eq_true rfl) dX11_narrow_64
              · refine lv_iload_n hx hb dX11_narrow_57 rfl (lv_at hl 6 rfl) ?_
                refine lv_bipush (v := 7) hx hb dX11_narrow_58 (by decide) ?_
                refine lv_icmp_le (tgt := 65) hx hb dX11_narrow_60 (by decide) (fun c_159 => ?_) (fun c_159 => ?_)
                · refine lv_iload_n hx hb dX11_narrow_65 rfl (lv_at hl 6 rfl) ?_
                  refine lv_bipush (v := 6) hx hb dX11_narrow_66 (by decide) ?_
                  refine lv_icmp_ne (tgt := 78) hx hb dX11_narrow_68 (by decide) (fun c_160 => ?_) (fun c_160 => ?_)
                  · refine lv_iload_n hx hb dX11_narrow_78 rfl (lv_at hl 6 rfl) ?_
                    refine lv_bipush (v := 6) hx hb dX11_narrow_79 (by decide) ?_
                    refine lv_icmp_ge (tgt := 112) hx hb dX11_narrow_81 (by decide) (fun c_161 => ?_) (fun c_161 => ?_)
                    · refine lv_aload_n hx hb dX11_narrow_112 rfl (lv_at hl 3 rfl) ?_
                      refine va_get (D := D) (ci := 11) (v := .ref st) (C := RX11) (T := TX11) (N := 7) hx hb hts inlX11 hown hK hP 0 rfl rfl 0 (by decide) (hts _ mw_15) (fun _ h9 => h9) rfl dX11_narrow_113 ?_
                      refine lv_iload_n hx hb dX11_narrow_116 rfl (lv_at hl 4 rfl) ?_
                      refine lv_aload hx hb dX11_narrow_117 (lv_at hl 0 rfl) ?_
                      refine lv_iload_n hx hb dX11_narrow_119 rfl (lv_at hl 6 rfl) ?_
                      refine lv_aloadN hx hb dX11_narrow_120 (lv_at hl 1 rfl) ?_
                      obtain ⟨h_167, h_168, hm_169, h_170, h_171⟩ := id a_152
                      refine et_VT (CR := [(xx, .inr (11, [.ref st, .ref tp, .ref ft, .ref rd, .ref wr, .ref st2, .int zi])), (st, .inr (6, [.ref d, .ref sh, .ref vw, .ref ta, .ref sa, .int (nI n)])), (sh, .inl (κ 4, 3, .inr (.inr (.inr (.inr fs))))), (vw, .inl (κ 5, 3, .inr (.inr (.inr (.inr fv))))), (tp, .inr (8, [.ref tb, .int 0])), (tb, .inl (κ 0, 800, .inl tf))]) (As := [.int zc, .null]) (rest := [.int (nI t), .ref st]) hFX hKK hE hP hD hS hA (c_X7_narrowed_n l D κ κq im2__142 q__147 a_3 R_4 w_5 co__148 ra__149 mq__150 ty__151 zc a_152) 2 gV_X11_219 hdV_X7_narrowed ⟨Nat.le_of_ble_eq_true rfl, Nat.le_of_ble_eq_true rfl⟩ rfl rfl (Nat.le_of_ble_eq_true rfl) dX11_narrow_122 ⟨Nat.le_of_ble_eq_true rfl, Nat.le_of_ble_eq_true rfl⟩ hl.1 [] [0, 1, 2, 3, 4, 5] rfl rfl (by decide) (by decide) (by decide) (oneP (C := [(xx, .inr (11, [.ref st, .ref tp, .ref ft, .ref rd, .ref wr, .ref st2, .int zi])), (st, .inr (6, [.ref d, .ref sh, .ref vw, .ref ta, .ref sa, .int (nI n)])), (sh, .inl (κ 4, 3, .inr (.inr (.inr (.inr fs))))), (vw, .inl (κ 5, 3, .inr (.inr (.inr (.inr fv))))), (tp, .inr (8, [.ref tb, .int 0])), (tb, .inl (κ 0, 800, .inl tf))]) hP hm_169) 0 7 rfl rfl rfl (fun u_165 H locs hp_166 hP hD hS => ?_)
                      refine W.widen (k := 5) (n := 107) (Nat.le_refl _) (Nat.le_refl _) ?_
                      obtain ⟨p__162, n__163, im2__164⟩ := u_165
                      replace hP : va_P D vwCl ([(xx, .inr (11, [.ref st, .ref tp, .ref ft, .ref rd, .ref wr, .ref st2, .int zi])), (st, .inr (6, [.ref d, .ref sh, .ref vw, .ref ta, .ref sa, .int (nI n)])), (sh, .inl (κ 4, 3, .inr (.inr (.inr (.inr fs))))), (vw, .inl (κ 5, 3, .inr (.inr (.inr (.inr fv))))), (tp, .inr (8, [.ref tb, .int 0])), (tb, .inl (κ 0, 800, .inl tf))] ++ im2__164) H := subP (C := [(xx, .inr (11, [.ref st, .ref tp, .ref ft, .ref rd, .ref wr, .ref st2, .int zi])), (st, .inr (6, [.ref d, .ref sh, .ref vw, .ref ta, .ref sa, .int (nI n)])), (sh, .inl (κ 4, 3, .inr (.inr (.inr (.inr fs))))), (vw, .inl (κ 5, 3, .inr (.inr (.inr (.inr fv))))), (tp, .inr (8, [.ref tb, .int 0])), (tb, .inl (κ 0, 800, .inl tf))]) hP [0, 1, 2, 3, 4, 5] rfl
                      replace hD : va_D A ([(xx, .inr (11, [.ref st, .ref tp, .ref ft, .ref rd, .ref wr, .ref st2, .int zi])), (st, .inr (6, [.ref d, .ref sh, .ref vw, .ref ta, .ref sa, .int (nI n)])), (sh, .inl (κ 4, 3, .inr (.inr (.inr (.inr fs))))), (vw, .inl (κ 5, 3, .inr (.inr (.inr (.inr fv))))), (tp, .inr (8, [.ref tb, .int 0])), (tb, .inl (κ 0, 800, .inl tf))] ++ im2__164) := subD (C := [(xx, .inr (11, [.ref st, .ref tp, .ref ft, .ref rd, .ref wr, .ref st2, .int zi])), (st, .inr (6, [.ref d, .ref sh, .ref vw, .ref ta, .ref sa, .int (nI n)])), (sh, .inl (κ 4, 3, .inr (.inr (.inr (.inr fs))))), (vw, .inl (κ 5, 3, .inr (.inr (.inr (.inr fv))))), (tp, .inr (8, [.ref tb, .int 0])), (tb, .inl (κ 0, 800, .inl tf))]) hD [0, 1, 2, 3, 4, 5] (by decide) rfl
                      replace hp_166 : Sb im2__142 im2__164 ∧ Ix κ im2__164 p__162 n__163 R_4 := hp_166
                      obtain ⟨h_172, h_173⟩ := hp_166
                      replace htb := htb.up h_172
                      replace h_8 := h_8.up h_172
                      replace h_9 := h_9.up h_172
                      replace a_152 := a_152.up h_172
                      replace h_170 := h_170.up h_172
                      replace h_171 := h_171.up h_172
                      replace hm_169 := h_172 _ hm_169
                      refine W.eq (g2 := F0 m 125 ls [.ref p__162, .int (nI t), .ref st]) rfl ?_
                      refine et_VT (CR := [(xx, .inr (11, [.ref st, .ref tp, .ref ft, .ref rd, .ref wr, .ref st2, .int zi])), (sh, .inl (κ 4, 3, .inr (.inr (.inr (.inr fs))))), (tp, .inr (8, [.ref tb, .int 0])), (tb, .inl (κ 0, 800, .inl tf))]) (As := [.int (nI t), .ref p__162]) (rest := []) hFX hKK hE hP hD hS hA (c_X6_stack l D κ κq im2__164 st d sh vw ta sa n fs fv t a_3 R_4 w_5 v_7 d_6 p__162 n__163 (by omega) htb e_1 e_2 h_170 h_9 (by omega) h_173) 2 gV_X11_223 hdV_X6_stack ⟨Nat.le_of_ble_eq_true rfl, Nat.le_of_ble_eq_true rfl⟩ rfl rfl (Nat.le_of_ble_eq_true rfl) dX11_narrow_125 ⟨Nat.le_of_ble_eq_true rfl, Nat.le_of_ble_eq_true rfl⟩ hl.1 [1, 3] [0, 2, 4, 5] rfl rfl (by decide) (by decide) (by decide) hP 1 6 rfl rfl rfl (fun u_176 H locs hp_177 hP hD hS => ?_)
                      refine W.widen (k := 6) (n := 110) (Nat.le_refl _) (Nat.le_refl _) ?_
                      obtain ⟨gv__174, im2__175⟩ := u_176
                      replace hP : va_P D vwCl ([(xx, .inr (11, [.ref st, .ref tp, .ref ft, .ref rd, .ref wr, .ref st2, .int zi])), (st, .inr (6, [.ref d, .ref sh, .ref vw, .ref ta, .ref sa, .int (nI n)])), (sh, .inl (κ 4, 3, .inr (.inr (.inr (.inr fs))))), (vw, .inl (κ 5, 3, .inr (.inr (.inr (.inr gv__174))))), (tp, .inr (8, [.ref tb, .int 0])), (tb, .inl (κ 0, 800, .inl tf))] ++ im2__175) H := subP (C := [(xx, .inr (11, [.ref st, .ref tp, .ref ft, .ref rd, .ref wr, .ref st2, .int zi])), (sh, .inl (κ 4, 3, .inr (.inr (.inr (.inr fs))))), (tp, .inr (8, [.ref tb, .int 0])), (tb, .inl (κ 0, 800, .inl tf)), (st, .inr (6, [.ref d, .ref sh, .ref vw, .ref ta, .ref sa, .int (nI n)])), (vw, .inl (κ 5, 3, .inr (.inr (.inr (.inr gv__174)))))]) hP [0, 4, 1, 5, 2, 3] rfl
                      replace hD : va_D A ([(xx, .inr (11, [.ref st, .ref tp, .ref ft, .ref rd, .ref wr, .ref st2, .int zi])), (st, .inr (6, [.ref d, .ref sh, .ref vw, .ref ta, .ref sa, .int (nI n)])), (sh, .inl (κ 4, 3, .inr (.inr (.inr (.inr fs))))), (vw, .inl (κ 5, 3, .inr (.inr (.inr (.inr gv__174))))), (tp, .inr (8, [.ref tb, .int 0])), (tb, .inl (κ 0, 800, .inl tf))] ++ im2__175) := subD (C := [(xx, .inr (11, [.ref st, .ref tp, .ref ft, .ref rd, .ref wr, .ref st2, .int zi])), (sh, .inl (κ 4, 3, .inr (.inr (.inr (.inr fs))))), (tp, .inr (8, [.ref tb, .int 0])), (tb, .inl (κ 0, 800, .inl tf)), (st, .inr (6, [.ref d, .ref sh, .ref vw, .ref ta, .ref sa, .int (nI n)])), (vw, .inl (κ 5, 3, .inr (.inr (.inr (.inr gv__174)))))]) hD [0, 4, 1, 5, 2, 3] (by decide) rfl
                      replace hp_177 : Sb im2__164 im2__175 ∧ Tb κ im2__175 fs gv__174 3 := hp_177
                      obtain ⟨h_178, h_179⟩ := hp_177
                      replace htb := htb.up h_178
                      replace h_8 := h_8.up h_178
                      replace h_9 := h_9.up h_178
                      replace a_152 := a_152.up h_178
                      replace h_170 := h_170.up h_178
                      replace h_171 := h_171.up h_178
                      replace h_173 := h_173.up h_178
                      replace hm_169 := h_178 _ hm_169
                      refine W.eq (g2 := F0 m 128 ls [.int (nI n__163)]) rfl ?_
                      exact et_iret hx hb hr hlk rfl hS (nI n__163, gv__174, im2__175) rfl ⟨(show Tb κ im2__175 fs gv__174 3 from h_179), (show Sb im im2__175 from (Sb.tr (Sb.tr (Sb.tr h_135 h_145) h_172) h_178))⟩ (subP hP [0, 1, 2, 3, 4, 5] rfl) (subD hD [0, 1, 2, 3, 4, 5] (by decide) rfl) (Nat.le_of_ble_eq_true rfl) (Nat.le_of_ble_eq_true rfl) dX11_narrow_128
                    · refine lv_iload hx hb dX11_narrow_84 (lv_at hl 2 rfl) ?_
                      refine lv_if_eq (tgt := 110) hx hb dX11_narrow_86 (by decide) (fun c_180 => absurd c_180 (by decide)) (fun c_180 => ?_)
                      refine lv_aloadN hx hb dX11_narrow_89 (lv_at hl 1 rfl) ?_
                      refine lv_ifnullN (tgt := 110) hx hb dX11_narrow_91 (by decide) ?_
                      refine lv_iconst (v := (-1)) hx hb dX11_narrow_110 (by decide) ?_
                      exact et_iret hx hb hr hlk rfl hS ((-1), fv, im2__142) rfl ⟨(show Tb κ im2__142 fs fv 3 from htb), (show Sb im im2__142 from (Sb.tr h_135 h_145))⟩ (subP hP [0, 1, 2, 3, 4, 5] rfl) (subD hD [0, 1, 2, 3, 4, 5] (by decide) rfl) (Nat.le_of_ble_eq_true rfl) (Nat.le_of_ble_eq_true rfl) dX11_narrow_111
                  · refine lv_iload hx hb dX11_narrow_71 (lv_at hl 2 rfl) ?_
                    refine lv_if_ne (tgt := 78) hx hb dX11_narrow_73 (by decide) (fun c_181 => ?_) (fun c_181 => absurd c_181 (by decide))
                    refine lv_iload_n hx hb dX11_narrow_78 rfl (lv_at hl 6 rfl) ?_
                    refine lv_bipush (v := 6) hx hb dX11_narrow_79 (by decide) ?_
                    refine lv_icmp_ge (tgt := 112) hx hb dX11_narrow_81 (by decide) (fun c_182 => ?_) (fun c_182 => ?_)
                    · refine lv_aload_n hx hb dX11_narrow_112 rfl (lv_at hl 3 rfl) ?_
                      refine va_get (D := D) (ci := 11) (v := .ref st) (C := RX11) (T := TX11) (N := 7) hx hb hts inlX11 hown hK hP 0 rfl rfl 0 (by decide) (hts _ mw_15) (fun _ h9 => h9) rfl dX11_narrow_113 ?_
                      refine lv_iload_n hx hb dX11_narrow_116 rfl (lv_at hl 4 rfl) ?_
                      refine lv_aload hx hb dX11_narrow_117 (lv_at hl 0 rfl) ?_
                      refine lv_iload_n hx hb dX11_narrow_119 rfl (lv_at hl 6 rfl) ?_
                      refine lv_aloadN hx hb dX11_narrow_120 (lv_at hl 1 rfl) ?_
                      obtain ⟨h_188, h_189, hm_190, h_191, h_192⟩ := id a_152
                      refine et_VT (CR := [(xx, .inr (11, [.ref st, .ref tp, .ref ft, .ref rd, .ref wr, .ref st2, .int zi])), (st, .inr (6, [.ref d, .ref sh, .ref vw, .ref ta, .ref sa, .int (nI n)])), (sh, .inl (κ 4, 3, .inr (.inr (.inr (.inr fs))))), (vw, .inl (κ 5, 3, .inr (.inr (.inr (.inr fv))))), (tp, .inr (8, [.ref tb, .int 0])), (tb, .inl (κ 0, 800, .inl tf))]) (As := [.int zc, .null]) (rest := [.int (nI t), .ref st]) hFX hKK hE hP hD hS hA (c_X7_narrowed_n l D κ κq im2__142 q__147 a_3 R_4 w_5 co__148 ra__149 mq__150 ty__151 zc a_152) 2 gV_X11_219 hdV_X7_narrowed ⟨Nat.le_of_ble_eq_true rfl, Nat.le_of_ble_eq_true rfl⟩ rfl rfl (Nat.le_of_ble_eq_true rfl) dX11_narrow_122 ⟨Nat.le_of_ble_eq_true rfl, Nat.le_of_ble_eq_true rfl⟩ hl.1 [] [0, 1, 2, 3, 4, 5] rfl rfl (by decide) (by decide) (by decide) (oneP (C := [(xx, .inr (11, [.ref st, .ref tp, .ref ft, .ref rd, .ref wr, .ref st2, .int zi])), (st, .inr (6, [.ref d, .ref sh, .ref vw, .ref ta, .ref sa, .int (nI n)])), (sh, .inl (κ 4, 3, .inr (.inr (.inr (.inr fs))))), (vw, .inl (κ 5, 3, .inr (.inr (.inr (.inr fv))))), (tp, .inr (8, [.ref tb, .int 0])), (tb, .inl (κ 0, 800, .inl tf))]) hP hm_190) 0 7 rfl rfl rfl (fun u_186 H locs hp_187 hP hD hS => ?_)
                      refine W.widen (k := 5) (n := 107) (Nat.le_refl _) (Nat.le_refl _) ?_
                      obtain ⟨p__183, n__184, im2__185⟩ := u_186
                      replace hP : va_P D vwCl ([(xx, .inr (11, [.ref st, .ref tp, .ref ft, .ref rd, .ref wr, .ref st2, .int zi])), (st, .inr (6, [.ref d, .ref sh, .ref vw, .ref ta, .ref sa, .int (nI n)])), (sh, .inl (κ 4, 3, .inr (.inr (.inr (.inr fs))))), (vw, .inl (κ 5, 3, .inr (.inr (.inr (.inr fv))))), (tp, .inr (8, [.ref tb, .int 0])), (tb, .inl (κ 0, 800, .inl tf))] ++ im2__185) H := subP (C := [(xx, .inr (11, [.ref st, .ref tp, .ref ft, .ref rd, .ref wr, .ref st2, .int zi])), (st, .inr (6, [.ref d, .ref sh, .ref vw, .ref ta, .ref sa, .int (nI n)])), (sh, .inl (κ 4, 3, .inr (.inr (.inr (.inr fs))))), (vw, .inl (κ 5, 3, .inr (.inr (.inr (.inr fv))))), (tp, .inr (8, [.ref tb, .int 0])), (tb, .inl (κ 0, 800, .inl tf))]) hP [0, 1, 2, 3, 4, 5] rfl
                      replace hD : va_D A ([(xx, .inr (11, [.ref st, .ref tp, .ref ft, .ref rd, .ref wr, .ref st2, .int zi])), (st, .inr (6, [.ref d, .ref sh, .ref vw, .ref ta, .ref sa, .int (nI n)])), (sh, .inl (κ 4, 3, .inr (.inr (.inr (.inr fs))))), (vw, .inl (κ 5, 3, .inr (.inr (.inr (.inr fv))))), (tp, .inr (8, [.ref tb, .int 0])), (tb, .inl (κ 0, 800, .inl tf))] ++ im2__185) := subD (C := [(xx, .inr (11, [.ref st, .ref tp, .ref ft, .ref rd, .ref wr, .ref st2, .int zi])), (st, .inr (6, [.ref d, .ref sh, .ref vw, .ref ta, .ref sa, .int (nI n)])), (sh, .inl (κ 4, 3, .inr (.inr (.inr (.inr fs))))), (vw, .inl (κ 5, 3, .inr (.inr (.inr (.inr fv))))), (tp, .inr (8, [.ref tb, .int 0])), (tb, .inl (κ 0, 800, .inl tf))]) hD [0, 1, 2, 3, 4, 5] (by decide) rfl
                      replace hp_187 : Sb im2__142 im2__185 ∧ Ix κ im2__185 p__183 n__184 R_4 := hp_187
                      obtain ⟨h_193, h_194⟩ := hp_187
                      replace htb := htb.up h_193
                      replace h_8 := h_8.up h_193
                      replace h_9 := h_9.up h_193
                      replace a_152 := a_152.up h_193
                      replace h_191 := h_191.up h_193
                      replace h_192 := h_192.up h_193
                      replace hm_190 := h_193 _ hm_190
                      refine W.eq (g2 := F0 m 125 ls [.ref p__183, .int (nI t), .ref st]) rfl ?_
                      refine et_VT (CR := [(xx, .inr (11, [.ref st, .ref tp, .ref ft, .ref rd, .ref wr, .ref st2, .int zi])), (sh, .inl (κ 4, 3, .inr (.inr (.inr (.inr fs))))), (tp, .inr (8, [.ref tb, .int 0])), (tb, .inl (κ 0, 800, .inl tf))]) (As := [.int (nI t), .ref p__183]) (rest := []) hFX hKK hE hP hD hS hA (c_X6_stack l D κ κq im2__185 st d sh vw ta sa n fs fv t a_3 R_4 w_5 v_7 d_6 p__183 n__184 (by omega) htb e_1 e_2 h_191 h_9 (by omega) h_194) 2 gV_X11_223 hdV_X6_stack ⟨Nat.le_of_ble_eq_true rfl, Nat.le_of_ble_eq_true rfl⟩ rfl rfl (Nat.le_of_ble_eq_true rfl) dX11_narrow_125 ⟨Nat.le_of_ble_eq_true rfl, Nat.le_of_ble_eq_true rfl⟩ hl.1 [1, 3] [0, 2, 4, 5] rfl rfl (by decide) (by decide) (by decide) hP 1 6 rfl rfl rfl (fun u_197 H locs hp_198 hP hD hS => ?_)
                      refine W.widen (k := 6) (n := 110) (Nat.le_refl _) (Nat.le_refl _) ?_
                      obtain ⟨gv__195, im2__196⟩ := u_197
                      replace hP : va_P D vwCl ([(xx, .inr (11, [.ref st, .ref tp, .ref ft, .ref rd, .ref wr, .ref st2, .int zi])), (st, .inr (6, [.ref d, .ref sh, .ref vw, .ref ta, .ref sa, .int (nI n)])), (sh, .inl (κ 4, 3, .inr (.inr (.inr (.inr fs))))), (vw, .inl (κ 5, 3, .inr (.inr (.inr (.inr gv__195))))), (tp, .inr (8, [.ref tb, .int 0])), (tb, .inl (κ 0, 800, .inl tf))] ++ im2__196) H := subP (C := [(xx, .inr (11, [.ref st, .ref tp, .ref ft, .ref rd, .ref wr, .ref st2, .int zi])), (sh, .inl (κ 4, 3, .inr (.inr (.inr (.inr fs))))), (tp, .inr (8, [.ref tb, .int 0])), (tb, .inl (κ 0, 800, .inl tf)), (st, .inr (6, [.ref d, .ref sh, .ref vw, .ref ta, .ref sa, .int (nI n)])), (vw, .inl (κ 5, 3, .inr (.inr (.inr (.inr gv__195)))))]) hP [0, 4, 1, 5, 2, 3] rfl
                      replace hD : va_D A ([(xx, .inr (11, [.ref st, .ref tp, .ref ft, .ref rd, .ref wr, .ref st2, .int zi])), (st, .inr (6, [.ref d, .ref sh, .ref vw, .ref ta, .ref sa, .int (nI n)])), (sh, .inl (κ 4, 3, .inr (.inr (.inr (.inr fs))))), (vw, .inl (κ 5, 3, .inr (.inr (.inr (.inr gv__195))))), (tp, .inr (8, [.ref tb, .int 0])), (tb, .inl (κ 0, 800, .inl tf))] ++ im2__196) := subD (C := [(xx, .inr (11, [.ref st, .ref tp, .ref ft, .ref rd, .ref wr, .ref st2, .int zi])), (sh, .inl (κ 4, 3, .inr (.inr (.inr (.inr fs))))), (tp, .inr (8, [.ref tb, .int 0])), (tb, .inl (κ 0, 800, .inl tf)), (st, .inr (6, [.ref d, .ref sh, .ref vw, .ref ta, .ref sa, .int (nI n)])), (vw, .inl (κ 5, 3, .inr (.inr (.inr (.inr gv__195)))))]) hD [0, 4, 1, 5, 2, 3] (by decide) rfl
                      replace hp_198 : Sb im2__185 im2__196 ∧ Tb κ im2__196 fs gv__195 3 := hp_198
                      obtain ⟨h_199, h_200⟩ := hp_198
                      replace htb := htb.up h_199
                      replace h_8 := h_8.up h_199
                      replace h_9 := h_9.up h_199
                      replace a_152 := a_152.up h_199
                      replace h_191 := h_191.up h_199
                      replace h_192 := h_192.up h_199
                      replace h_194 := h_194.up h_199
                      replace hm_190 := h_199 _ hm_190
                      refine W.eq (g2 := F0 m 128 ls [.int (nI n__184)]) rfl ?_
                      exact et_iret hx hb hr hlk rfl hS (nI n__184, gv__195, im2__196) rfl ⟨(show Tb κ im2__196 fs gv__195 3 from h_200), (show Sb im im2__196 from (Sb.tr (Sb.tr (Sb.tr h_135 h_145) h_193) h_199))⟩ (subP hP [0, 1, 2, 3, 4, 5] rfl) (subD hD [0, 1, 2, 3, 4, 5] (by decide) rfl) (Nat.le_of_ble_eq_true rfl) (Nat.le_of_ble_eq_true rfl) dX11_narrow_128
                    · refine lv_iload hx hb dX11_narrow_84 (lv_at hl 2 rfl) ?_
                      refine lv_if_eq (tgt := 110) hx hb dX11_narrow_86 (by decide) (fun c_201 => absurd c_201 (by decide)) (fun c_201 => ?_)
                      refine lv_aloadN hx hb dX11_narrow_89 (lv_at hl 1 rfl) ?_
                      refine lv_ifnullN (tgt := 110) hx hb dX11_narrow_91 (by decide) ?_
                      refine lv_iconst (v := (-1)) hx hb dX11_narrow_110 (by decide) ?_
                      exact et_iret hx hb hr hlk rfl hS ((-1), fv, im2__142) rfl ⟨(show Tb κ im2__142 fs fv 3 from htb), (show Sb im im2__142 from (Sb.tr h_135 h_145))⟩ (subP hP [0, 1, 2, 3, 4, 5] rfl) (subD hD [0, 1, 2, 3, 4, 5] (by decide) rfl) (Nat.le_of_ble_eq_true rfl) (Nat.le_of_ble_eq_true rfl) dX11_narrow_111
                · refine lv_iconst (v := (-1)) hx hb dX11_narrow_63 (by decide) ?_
                  exact et_iret hx hb hr hlk rfl hS ((-1), fv, im2__142) rfl ⟨(show Tb κ im2__142 fs fv 3 from htb), (show Sb im im2__142 from (Sb.tr h_135 h_145))⟩ (subP hP [0, 1, 2, 3, 4, 5] rfl) (subD hD [0, 1, 2, 3, 4, 5] (by decide) rfl) (Nat.le_of_ble_eq_true rfl) (Nat.le_of_ble_eq_true rfl) dX11_narrow_64
            · refine W.eq (g2 := F0 m 50 ls [.int 0]) rfl ?_
              refine lv_if_eq (tgt := 63) hx hb dX11_narrow_50 (by decide) (fun c_202 => ?_) (fun c_202 => absurd (by decide) c_202)
              refine lv_iconst (v := (-1)) hx hb dX11_narrow_63 (by decide) ?_
              exact et_iret hx hb hr hlk rfl hS ((-1), fv, im2__142) rfl ⟨(show Tb κ im2__142 fs fv 3 from htb), (show Sb im im2__142 from (Sb.tr h_135 h_145))⟩ (subP hP [0, 1, 2, 3, 4, 5] rfl) (subD hD [0, 1, 2, 3, 4, 5] (by decide) rfl) (Nat.le_of_ble_eq_true rfl) (Nat.le_of_ble_eq_true rfl) dX11_narrow_64
        · refine W.eq (g2 := F0 m 24 ls [.ref q__137]) rfl ?_
          refine lv_astore (lv' := [(5, .ref q__137), (4, .int 1), (0, .ref xx), (1, .int (nI t)), (2, .int zb), (3, .int zc)]) hx hb dX11_narrow_24 hl (by decide) rfl (fun ls hl => ?_)
          refine lv_aload_n hx hb dX11_narrow_26 rfl (lv_at hl 2 rfl) ?_
          refine va_get (D := D) (ci := 11) (v := .ref st) (C := RX11) (T := TX11) (N := 7) hx hb hts inlX11 hown hK hP 0 rfl rfl 0 (by decide) (hts _ mw_15) (fun _ h9 => h9) rfl dX11_narrow_27 ?_
          refine lv_iload_n hx hb dX11_narrow_30 rfl (lv_at hl 3 rfl) ?_
          refine lv_iload_n hx hb dX11_narrow_31 rfl (lv_at hl 4 rfl) ?_
          refine et_VT (CR := [(xx, .inr (11, [.ref st, .ref tp, .ref ft, .ref rd, .ref wr, .ref st2, .int zi])), (tp, .inr (8, [.ref tb, .int 0])), (tb, .inl (κ 0, 800, .inl tf))]) (As := [.int (nI t), .int zb]) (rest := []) hFX hKK hE hP hD hS hA (c_X6_stripOf_s l D κ κq im2__132 st d sh vw ta sa n fs fv t a_3 R_4 w_5 v_7 d_6 zb (by omega) e_1 e_2 h_8 h_9) 2 gV_X11_189 hdV_X6_stripOf ⟨Nat.le_of_ble_eq_true rfl, Nat.le_of_ble_eq_true rfl⟩ rfl rfl (Nat.le_of_ble_eq_true rfl) dX11_narrow_32 ⟨Nat.le_of_ble_eq_true rfl, Nat.le_of_ble_eq_true rfl⟩ hl.1 [1, 2, 3] [0, 4, 5] rfl rfl (by decide) (by decide) (by decide) hP 1 6 rfl rfl rfl (fun u_205 H locs hp_206 hP hD hS => ?_)
          refine W.widen (k := 3) (n := 27) (Nat.le_refl _) (Nat.le_refl _) ?_
          obtain ⟨r__203, im2__204⟩ := u_205
          replace hP : va_P D vwCl ([(xx, .inr (11, [.ref st, .ref tp, .ref ft, .ref rd, .ref wr, .ref st2, .int zi])), (st, .inr (6, [.ref d, .ref sh, .ref vw, .ref ta, .ref sa, .int (nI n)])), (sh, .inl (κ 4, 3, .inr (.inr (.inr (.inr fs))))), (vw, .inl (κ 5, 3, .inr (.inr (.inr (.inr fv))))), (tp, .inr (8, [.ref tb, .int 0])), (tb, .inl (κ 0, 800, .inl tf))] ++ im2__204) H := subP (C := [(xx, .inr (11, [.ref st, .ref tp, .ref ft, .ref rd, .ref wr, .ref st2, .int zi])), (tp, .inr (8, [.ref tb, .int 0])), (tb, .inl (κ 0, 800, .inl tf)), (st, .inr (6, [.ref d, .ref sh, .ref vw, .ref ta, .ref sa, .int (nI n)])), (sh, .inl (κ 4, 3, .inr (.inr (.inr (.inr fs))))), (vw, .inl (κ 5, 3, .inr (.inr (.inr (.inr fv)))))]) hP [0, 3, 4, 5, 1, 2] rfl
          replace hD : va_D A ([(xx, .inr (11, [.ref st, .ref tp, .ref ft, .ref rd, .ref wr, .ref st2, .int zi])), (st, .inr (6, [.ref d, .ref sh, .ref vw, .ref ta, .ref sa, .int (nI n)])), (sh, .inl (κ 4, 3, .inr (.inr (.inr (.inr fs))))), (vw, .inl (κ 5, 3, .inr (.inr (.inr (.inr fv))))), (tp, .inr (8, [.ref tb, .int 0])), (tb, .inl (κ 0, 800, .inl tf))] ++ im2__204) := subD (C := [(xx, .inr (11, [.ref st, .ref tp, .ref ft, .ref rd, .ref wr, .ref st2, .int zi])), (tp, .inr (8, [.ref tb, .int 0])), (tb, .inl (κ 0, 800, .inl tf)), (st, .inr (6, [.ref d, .ref sh, .ref vw, .ref ta, .ref sa, .int (nI n)])), (sh, .inl (κ 4, 3, .inr (.inr (.inr (.inr fs))))), (vw, .inl (κ 5, 3, .inr (.inr (.inr (.inr fv)))))]) hD [0, 3, 4, 5, 1, 2] (by decide) rfl
          replace hp_206 : Sb im2__132 im2__204 ∧ ((r__203 = none) ∨ (∃ (q : Nat), ∃ (co : Nat), ∃ (ra : Nat), ∃ (mq : Nat), ∃ (ty : Nat), r__203 = some q ∧ Sp κ im2__204 q a_3 R_4 w_5 co ra mq ty)) := hp_206
          obtain ⟨h_207, ha_208⟩ := hp_206
          replace htb := htb.up h_207
          replace h_8 := h_8.up h_207
          replace h_9 := h_9.up h_207
          replace a_140 := a_140.up h_207
          rcases ha_208 with rfl | ⟨q__209, co__210, ra__211, mq__212, ty__213, rfl, a_214⟩
          · refine W.eq (g2 := F0 m 35 ls [.null]) rfl ?_
            refine lv_astoreN (lv' := [(6, .null), (5, .ref q__137), (4, .int 1), (0, .ref xx), (1, .int (nI t)), (2, .int zb), (3, .int zc)]) hx hb dX11_narrow_35 hl (by decide) rfl (fun ls hl => ?_)
            refine lv_aloadN hx hb dX11_narrow_37 (lv_at hl 0 rfl) ?_
            refine lv_ifnullN (tgt := 63) hx hb dX11_narrow_39 (by decide) ?_
            refine lv_iconst (v := (-1)) hx hb dX11_narrow_63 (by decide) ?_
            exact et_iret hx hb hr hlk rfl hS ((-1), fv, im2__204) rfl ⟨(show Tb κ im2__204 fs fv 3 from htb), (show Sb im im2__204 from (Sb.tr h_135 h_207))⟩ (subP hP [0, 1, 2, 3, 4, 5] rfl) (subD hD [0, 1, 2, 3, 4, 5] (by decide) rfl) (Nat.le_of_ble_eq_true rfl) (Nat.le_of_ble_eq_true rfl) dX11_narrow_64
          · refine W.eq (g2 := F0 m 35 ls [.ref q__209]) rfl ?_
            refine lv_astore (lv' := [(6, .ref q__209), (5, .ref q__137), (4, .int 1), (0, .ref xx), (1, .int (nI t)), (2, .int zb), (3, .int zc)]) hx hb dX11_narrow_35 hl (by decide) rfl (fun ls hl => ?_)
            refine lv_aload hx hb dX11_narrow_37 (lv_at hl 0 rfl) ?_
            refine lv_ifnull hx hb dX11_narrow_39 ?_
            refine lv_aload_n hx hb dX11_narrow_42 rfl (lv_at hl 3 rfl) ?_
            refine va_get (D := D) (ci := 11) (v := .ref st) (C := RX11) (T := TX11) (N := 7) hx hb hts inlX11 hown hK hP 0 rfl rfl 0 (by decide) (hts _ mw_15) (fun _ h9 => h9) rfl dX11_narrow_43 ?_
            refine lv_iload_n hx hb dX11_narrow_46 rfl (lv_at hl 4 rfl) ?_
            refine er_V (As := [.int (nI t)]) (rest := []) hFX hKK hE hS (c_X6_canStack_s l D κ κq im2__204 st d sh vw ta sa n fv t v_7 d_6 R_4 (by omega) e_2 h_9 (by omega)) 1 gV_X11_205 hdV_X6_canStack rfl rfl ⟨Nat.le_of_ble_eq_true rfl, Nat.le_of_ble_eq_true rfl⟩ rfl rfl (Nat.le_of_ble_eq_true rfl) dX11_narrow_47 ⟨Nat.le_of_ble_eq_true rfl, Nat.le_of_ble_eq_true rfl⟩ hl.1 hP 1 6 rfl rfl rfl (subP hP [1, 3] rfl) (fun r__215 hp_216 => ?_)
            replace hp_216 : ((r__215 = 1 ∧ d_6 ≤ 5) ∨ (r__215 = 0)) := hp_216
            have ha_217 := hp_216
            clear hp_216
            rcases ha_217 with ⟨rfl, a_218⟩ | rfl
            · refine W.eq (g2 := F0 m 50 ls [.int 1]) rfl ?_
              refine lv_if_eq (tgt := 63) hx hb dX11_narrow_50 (by decide) (fun c_219 => absurd c_219 (by decide)) (fun c_219 => ?_)
              refine lv_iload_n hx hb dX11_narrow_53 rfl (lv_at hl 6 rfl) ?_
              refine lv_if_lt (tgt := 63) hx hb dX11_narrow_54 (by decide) (fun c_220 => ?_) (fun c_220 => ?_)
              · refine lv_iconst (v := (-1)) hx hb dX11_narrow_63 (by decide) ?_
                exact et_iret hx hb hr hlk rfl hS ((-1), fv, im2__204) rfl ⟨(show Tb κ im2__204 fs fv 3 from htb), (show Sb im im2__204 from (Sb.tr h_135 h_207))⟩ (subP hP [0, 1, 2, 3, 4, 5] rfl) (subD hD [0, 1, 2, 3, 4, 5] (by decide) rfl) (Nat.le_of_ble_eq_true rfl) (Nat.le_of_ble_eq_true rfl) dX11_narrow_64
              · refine lv_iload_n hx hb dX11_narrow_57 rfl (lv_at hl 6 rfl) ?_
                refine lv_bipush (v := 7) hx hb dX11_narrow_58 (by decide) ?_
                refine lv_icmp_le (tgt := 65) hx hb dX11_narrow_60 (by decide) (fun c_221 => ?_) (fun c_221 => ?_)
                · refine lv_iload_n hx hb dX11_narrow_65 rfl (lv_at hl 6 rfl) ?_
                  refine lv_bipush (v := 6) hx hb dX11_narrow_66 (by decide) ?_
                  refine lv_icmp_ne (tgt := 78) hx hb dX11_narrow_68 (by decide) (fun c_222 => ?_) (fun c_222 => ?_)
                  · refine lv_iload_n hx hb dX11_narrow_78 rfl (lv_at hl 6 rfl) ?_
                    refine lv_bipush (v := 6) hx hb dX11_narrow_79 (by decide) ?_
                    refine lv_icmp_ge (tgt := 112) hx hb dX11_narrow_81 (by decide) (fun c_223 => ?_) (fun c_223 => ?_)
                    · refine lv_aload_n hx hb dX11_narrow_112 rfl (lv_at hl 3 rfl) ?_
                      refine va_get (D := D) (ci := 11) (v := .ref st) (C := RX11) (T := TX11) (N := 7) hx hb hts inlX11 hown hK hP 0 rfl rfl 0 (by decide) (hts _ mw_15) (fun _ h9 => h9) rfl dX11_narrow_113 ?_
                      refine lv_iload_n hx hb dX11_narrow_116 rfl (lv_at hl 4 rfl) ?_
                      refine lv_aload hx hb dX11_narrow_117 (lv_at hl 0 rfl) ?_
                      refine lv_iload_n hx hb dX11_narrow_119 rfl (lv_at hl 6 rfl) ?_
                      refine lv_aload hx hb dX11_narrow_120 (lv_at hl 1 rfl) ?_
                      obtain ⟨h_229, h_230, hm_231, h_232, h_233⟩ := id a_214
                      refine et_VT (CR := [(xx, .inr (11, [.ref st, .ref tp, .ref ft, .ref rd, .ref wr, .ref st2, .int zi])), (st, .inr (6, [.ref d, .ref sh, .ref vw, .ref ta, .ref sa, .int (nI n)])), (sh, .inl (κ 4, 3, .inr (.inr (.inr (.inr fs))))), (vw, .inl (κ 5, 3, .inr (.inr (.inr (.inr fv))))), (tp, .inr (8, [.ref tb, .int 0])), (tb, .inl (κ 0, 800, .inl tf))]) (As := [.int zc, .ref q__137]) (rest := [.int (nI t), .ref st]) hFX hKK hE hP hD hS hA (c_X7_narrowed_r l D κ κq im2__204 q__209 a_3 R_4 w_5 co__210 ra__211 mq__212 ty__213 zc q__137 k__138 n__139 a_214 a_140) 2 gV_X11_219 hdV_X7_narrowed ⟨Nat.le_of_ble_eq_true rfl, Nat.le_of_ble_eq_true rfl⟩ rfl rfl (Nat.le_of_ble_eq_true rfl) dX11_narrow_122 ⟨Nat.le_of_ble_eq_true rfl, Nat.le_of_ble_eq_true rfl⟩ hl.1 [] [0, 1, 2, 3, 4, 5] rfl rfl (by decide) (by decide) (by decide) (oneP (C := [(xx, .inr (11, [.ref st, .ref tp, .ref ft, .ref rd, .ref wr, .ref st2, .int zi])), (st, .inr (6, [.ref d, .ref sh, .ref vw, .ref ta, .ref sa, .int (nI n)])), (sh, .inl (κ 4, 3, .inr (.inr (.inr (.inr fs))))), (vw, .inl (κ 5, 3, .inr (.inr (.inr (.inr fv))))), (tp, .inr (8, [.ref tb, .int 0])), (tb, .inl (κ 0, 800, .inl tf))]) hP hm_231) 0 7 rfl rfl rfl (fun u_227 H locs hp_228 hP hD hS => ?_)
                      refine W.widen (k := 5) (n := 107) (Nat.le_refl _) (Nat.le_refl _) ?_
                      obtain ⟨p__224, n__225, im2__226⟩ := u_227
                      replace hP : va_P D vwCl ([(xx, .inr (11, [.ref st, .ref tp, .ref ft, .ref rd, .ref wr, .ref st2, .int zi])), (st, .inr (6, [.ref d, .ref sh, .ref vw, .ref ta, .ref sa, .int (nI n)])), (sh, .inl (κ 4, 3, .inr (.inr (.inr (.inr fs))))), (vw, .inl (κ 5, 3, .inr (.inr (.inr (.inr fv))))), (tp, .inr (8, [.ref tb, .int 0])), (tb, .inl (κ 0, 800, .inl tf))] ++ im2__226) H := subP (C := [(xx, .inr (11, [.ref st, .ref tp, .ref ft, .ref rd, .ref wr, .ref st2, .int zi])), (st, .inr (6, [.ref d, .ref sh, .ref vw, .ref ta, .ref sa, .int (nI n)])), (sh, .inl (κ 4, 3, .inr (.inr (.inr (.inr fs))))), (vw, .inl (κ 5, 3, .inr (.inr (.inr (.inr fv))))), (tp, .inr (8, [.ref tb, .int 0])), (tb, .inl (κ 0, 800, .inl tf))]) hP [0, 1, 2, 3, 4, 5] rfl
                      replace hD : va_D A ([(xx, .inr (11, [.ref st, .ref tp, .ref ft, .ref rd, .ref wr, .ref st2, .int zi])), (st, .inr (6, [.ref d, .ref sh, .ref vw, .ref ta, .ref sa, .int (nI n)])), (sh, .inl (κ 4, 3, .inr (.inr (.inr (.inr fs))))), (vw, .inl (κ 5, 3, .inr (.inr (.inr (.inr fv))))), (tp, .inr (8, [.ref tb, .int 0])), (tb, .inl (κ 0, 800, .inl tf))] ++ im2__226) := subD (C := [(xx, .inr (11, [.ref st, .ref tp, .ref ft, .ref rd, .ref wr, .ref st2, .int zi])), (st, .inr (6, [.ref d, .ref sh, .ref vw, .ref ta, .ref sa, .int (nI n)])), (sh, .inl (κ 4, 3, .inr (.inr (.inr (.inr fs))))), (vw, .inl (κ 5, 3, .inr (.inr (.inr (.inr fv))))), (tp, .inr (8, [.ref tb, .int 0])), (tb, .inl (κ 0, 800, .inl tf))]) hD [0, 1, 2, 3, 4, 5] (by decide) rfl
                      replace hp_228 : Sb im2__204 im2__226 ∧ Ix κ im2__226 p__224 n__225 R_4 := hp_228
                      obtain ⟨h_234, h_235⟩ := hp_228
                      replace htb := htb.up h_234
                      replace h_8 := h_8.up h_234
                      replace h_9 := h_9.up h_234
                      replace a_140 := a_140.up h_234
                      replace a_214 := a_214.up h_234
                      replace h_232 := h_232.up h_234
                      replace h_233 := h_233.up h_234
                      replace hm_231 := h_234 _ hm_231
                      refine W.eq (g2 := F0 m 125 ls [.ref p__224, .int (nI t), .ref st]) rfl ?_
                      refine et_VT (CR := [(xx, .inr (11, [.ref st, .ref tp, .ref ft, .ref rd, .ref wr, .ref st2, .int zi])), (sh, .inl (κ 4, 3, .inr (.inr (.inr (.inr fs))))), (tp, .inr (8, [.ref tb, .int 0])), (tb, .inl (κ 0, 800, .inl tf))]) (As := [.int (nI t), .ref p__224]) (rest := []) hFX hKK hE hP hD hS hA (c_X6_stack l D κ κq im2__226 st d sh vw ta sa n fs fv t a_3 R_4 w_5 v_7 d_6 p__224 n__225 (by omega) htb e_1 e_2 h_232 h_9 (by omega) h_235) 2 gV_X11_223 hdV_X6_stack ⟨Nat.le_of_ble_eq_true rfl, Nat.le_of_ble_eq_true rfl⟩ rfl rfl (Nat.le_of_ble_eq_true rfl) dX11_narrow_125 ⟨Nat.le_of_ble_eq_true rfl, Nat.le_of_ble_eq_true rfl⟩ hl.1 [1, 3] [0, 2, 4, 5] rfl rfl (by decide) (by decide) (by decide) hP 1 6 rfl rfl rfl (fun u_238 H locs hp_239 hP hD hS => ?_)
                      refine W.widen (k := 6) (n := 110) (Nat.le_refl _) (Nat.le_refl _) ?_
                      obtain ⟨gv__236, im2__237⟩ := u_238
                      replace hP : va_P D vwCl ([(xx, .inr (11, [.ref st, .ref tp, .ref ft, .ref rd, .ref wr, .ref st2, .int zi])), (st, .inr (6, [.ref d, .ref sh, .ref vw, .ref ta, .ref sa, .int (nI n)])), (sh, .inl (κ 4, 3, .inr (.inr (.inr (.inr fs))))), (vw, .inl (κ 5, 3, .inr (.inr (.inr (.inr gv__236))))), (tp, .inr (8, [.ref tb, .int 0])), (tb, .inl (κ 0, 800, .inl tf))] ++ im2__237) H := subP (C := [(xx, .inr (11, [.ref st, .ref tp, .ref ft, .ref rd, .ref wr, .ref st2, .int zi])), (sh, .inl (κ 4, 3, .inr (.inr (.inr (.inr fs))))), (tp, .inr (8, [.ref tb, .int 0])), (tb, .inl (κ 0, 800, .inl tf)), (st, .inr (6, [.ref d, .ref sh, .ref vw, .ref ta, .ref sa, .int (nI n)])), (vw, .inl (κ 5, 3, .inr (.inr (.inr (.inr gv__236)))))]) hP [0, 4, 1, 5, 2, 3] rfl
                      replace hD : va_D A ([(xx, .inr (11, [.ref st, .ref tp, .ref ft, .ref rd, .ref wr, .ref st2, .int zi])), (st, .inr (6, [.ref d, .ref sh, .ref vw, .ref ta, .ref sa, .int (nI n)])), (sh, .inl (κ 4, 3, .inr (.inr (.inr (.inr fs))))), (vw, .inl (κ 5, 3, .inr (.inr (.inr (.inr gv__236))))), (tp, .inr (8, [.ref tb, .int 0])), (tb, .inl (κ 0, 800, .inl tf))] ++ im2__237) := subD (C := [(xx, .inr (11, [.ref st, .ref tp, .ref ft, .ref rd, .ref wr, .ref st2, .int zi])), (sh, .inl (κ 4, 3, .inr (.inr (.inr (.inr fs))))), (tp, .inr (8, [.ref tb, .int 0])), (tb, .inl (κ 0, 800, .inl tf)), (st, .inr (6, [.ref d, .ref sh, .ref vw, .ref ta, .ref sa, .int (nI n)])), (vw, .inl (κ 5, 3, .inr (.inr (.inr (.inr gv__236)))))]) hD [0, 4, 1, 5, 2, 3] (by decide) rfl
                      replace hp_239 : Sb im2__226 im2__237 ∧ Tb κ im2__237 fs gv__236 3 := hp_239
                      obtain ⟨h_240, h_241⟩ := hp_239
                      replace htb := htb.up h_240
                      replace h_8 := h_8.up h_240
                      replace h_9 := h_9.up h_240
                      replace a_140 := a_140.up h_240
                      replace a_214 := a_214.up h_240
                      replace h_232 := h_232.up h_240
                      replace h_233 := h_233.up h_240
                      replace h_235 := h_235.up h_240
                      replace hm_231 := h_240 _ hm_231
                      refine W.eq (g2 := F0 m 128 ls [.int (nI n__225)]) rfl ?_
                      exact et_iret hx hb hr hlk rfl hS (nI n__225, gv__236, im2__237) rfl ⟨(show Tb κ im2__237 fs gv__236 3 from h_241), (show Sb im im2__237 from (Sb.tr (Sb.tr (Sb.tr h_135 h_207) h_234) h_240))⟩ (subP hP [0, 1, 2, 3, 4, 5] rfl) (subD hD [0, 1, 2, 3, 4, 5] (by decide) rfl) (Nat.le_of_ble_eq_true rfl) (Nat.le_of_ble_eq_true rfl) dX11_narrow_128
                    · refine lv_iload hx hb dX11_narrow_84 (lv_at hl 2 rfl) ?_
                      refine lv_if_eq (tgt := 110) hx hb dX11_narrow_86 (by decide) (fun c_242 => absurd c_242 (by decide)) (fun c_242 => ?_)
                      refine lv_aload hx hb dX11_narrow_89 (lv_at hl 1 rfl) ?_
                      refine lv_ifnull hx hb dX11_narrow_91 ?_
                      refine lv_aload hx hb dX11_narrow_94 (lv_at hl 0 rfl) ?_
                      obtain ⟨h_243, h_244, hm_245, h_246, h_247⟩ := id a_214
                      refine va_get (D := D) (ci := 7) (v := .int (nI ty__213)) (C := RX7) (T := TX7) (N := 4) hx hb hts inlX7 hown hK (oneP (C := [(xx, .inr (11, [.ref st, .ref tp, .ref ft, .ref rd, .ref wr, .ref st2, .int zi])), (st, .inr (6, [.ref d, .ref sh, .ref vw, .ref ta, .ref sa, .int (nI n)])), (sh, .inl (κ 4, 3, .inr (.inr (.inr (.inr fs))))), (vw, .inl (κ 5, 3, .inr (.inr (.inr (.inr fv))))), (tp, .inr (8, [.ref tb, .int 0])), (tb, .inl (κ 0, 800, .inl tf))]) hP hm_245) 0 rfl rfl 3 (by decide) (hts _ mw_982) (fun _ h9 => h9) rfl dX11_narrow_96 ?_
                      refine lv_aload hx hb dX11_narrow_99 (lv_at hl 1 rfl) ?_
                      obtain ⟨hk_248, b_249, x_250, hm_251, hb_252⟩ := id a_140
                      have hn_b_249 := hb_252.1
                      refine va_get (D := D) (ci := 0) (v := .int (nI k__138)) (C := RX0) (T := TX0) (N := 3) hx hb hts inlX0 hown hK (oneP (C := [(xx, .inr (11, [.ref st, .ref tp, .ref ft, .ref rd, .ref wr, .ref st2, .int zi])), (st, .inr (6, [.ref d, .ref sh, .ref vw, .ref ta, .ref sa, .int (nI n)])), (sh, .inl (κ 4, 3, .inr (.inr (.inr (.inr fs))))), (vw, .inl (κ 5, 3, .inr (.inr (.inr (.inr fv))))), (tp, .inr (8, [.ref tb, .int 0])), (tb, .inl (κ 0, 800, .inl tf))]) hP hm_251) 0 rfl rfl 1 (by decide) (hts _ mw_983) (fun _ h9 => h9) rfl dX11_narrow_101 ?_
                      refine er_S (As := [.int (nI ty__213), .int (nI k__138)]) (rest := []) hFX hKK hE hS (c_X11_holds l D κ κq ty__213 k__138 (by omega) (by omega)) 2 gS_X11_216 hdS_X11_holds rfl rfl ⟨Nat.le_of_ble_eq_true rfl, Nat.le_of_ble_eq_true rfl⟩ rfl rfl (Nat.le_of_ble_eq_true rfl) dX11_narrow_104 ⟨Nat.le_of_ble_eq_true rfl, Nat.le_of_ble_eq_true rfl⟩ hl.1 (subP0 hP [] rfl) (fun r__253 hp_254 => ?_)
                      replace hp_254 : ((r__253 = 1) ∨ (r__253 = 0)) := hp_254
                      have ha_255 := hp_254
                      clear hp_254
                      rcases ha_255 with rfl | rfl
                      · refine W.eq (g2 := F0 m 107 ls [.int 1]) rfl ?_
                        refine lv_if_ne (tgt := 112) hx hb dX11_narrow_107 (by decide) (fun c_256 => ?_) (fun c_256 => absurd c_256 (by decide))
                        refine lv_aload_n hx hb dX11_narrow_112 rfl (lv_at hl 3 rfl) ?_
                        refine va_get (D := D) (ci := 11) (v := .ref st) (C := RX11) (T := TX11) (N := 7) hx hb hts inlX11 hown hK hP 0 rfl rfl 0 (by decide) (hts _ mw_15) (fun _ h9 => h9) rfl dX11_narrow_113 ?_
                        refine lv_iload_n hx hb dX11_narrow_116 rfl (lv_at hl 4 rfl) ?_
                        refine lv_aload hx hb dX11_narrow_117 (lv_at hl 0 rfl) ?_
                        refine lv_iload_n hx hb dX11_narrow_119 rfl (lv_at hl 6 rfl) ?_
                        refine lv_aload hx hb dX11_narrow_120 (lv_at hl 1 rfl) ?_
                        refine et_VT (CR := [(xx, .inr (11, [.ref st, .ref tp, .ref ft, .ref rd, .ref wr, .ref st2, .int zi])), (st, .inr (6, [.ref d, .ref sh, .ref vw, .ref ta, .ref sa, .int (nI n)])), (sh, .inl (κ 4, 3, .inr (.inr (.inr (.inr fs))))), (vw, .inl (κ 5, 3, .inr (.inr (.inr (.inr fv))))), (tp, .inr (8, [.ref tb, .int 0])), (tb, .inl (κ 0, 800, .inl tf))]) (As := [.int zc, .ref q__137]) (rest := [.int (nI t), .ref st]) hFX hKK hE hP hD hS hA (c_X7_narrowed_r l D κ κq im2__204 q__209 a_3 R_4 w_5 co__210 ra__211 mq__212 ty__213 zc q__137 k__138 n__139 a_214 a_140) 2 gV_X11_219 hdV_X7_narrowed ⟨Nat.le_of_ble_eq_true rfl, Nat.le_of_ble_eq_true rfl⟩ rfl rfl (Nat.le_of_ble_eq_true rfl) dX11_narrow_122 ⟨Nat.le_of_ble_eq_true rfl, Nat.le_of_ble_eq_true rfl⟩ hl.1 [] [0, 1, 2, 3, 4, 5] rfl rfl (by decide) (by decide) (by decide) (oneP (C := [(xx, .inr (11, [.ref st, .ref tp, .ref ft, .ref rd, .ref wr, .ref st2, .int zi])), (st, .inr (6, [.ref d, .ref sh, .ref vw, .ref ta, .ref sa, .int (nI n)])), (sh, .inl (κ 4, 3, .inr (.inr (.inr (.inr fs))))), (vw, .inl (κ 5, 3, .inr (.inr (.inr (.inr fv))))), (tp, .inr (8, [.ref tb, .int 0])), (tb, .inl (κ 0, 800, .inl tf))]) hP hm_245) 0 7 rfl rfl rfl (fun u_260 H locs hp_261 hP hD hS => ?_)
                        refine W.widen (k := 5) (n := 107) (Nat.le_refl _) (Nat.le_refl _) ?_
                        obtain ⟨p__257, n__258, im2__259⟩ := u_260
                        replace hP : va_P D vwCl ([(xx, .inr (11, [.ref st, .ref tp, .ref ft, .ref rd, .ref wr, .ref st2, .int zi])), (st, .inr (6, [.ref d, .ref sh, .ref vw, .ref ta, .ref sa, .int (nI n)])), (sh, .inl (κ 4, 3, .inr (.inr (.inr (.inr fs))))), (vw, .inl (κ 5, 3, .inr (.inr (.inr (.inr fv))))), (tp, .inr (8, [.ref tb, .int 0])), (tb, .inl (κ 0, 800, .inl tf))] ++ im2__259) H := subP (C := [(xx, .inr (11, [.ref st, .ref tp, .ref ft, .ref rd, .ref wr, .ref st2, .int zi])), (st, .inr (6, [.ref d, .ref sh, .ref vw, .ref ta, .ref sa, .int (nI n)])), (sh, .inl (κ 4, 3, .inr (.inr (.inr (.inr fs))))), (vw, .inl (κ 5, 3, .inr (.inr (.inr (.inr fv))))), (tp, .inr (8, [.ref tb, .int 0])), (tb, .inl (κ 0, 800, .inl tf))]) hP [0, 1, 2, 3, 4, 5] rfl
                        replace hD : va_D A ([(xx, .inr (11, [.ref st, .ref tp, .ref ft, .ref rd, .ref wr, .ref st2, .int zi])), (st, .inr (6, [.ref d, .ref sh, .ref vw, .ref ta, .ref sa, .int (nI n)])), (sh, .inl (κ 4, 3, .inr (.inr (.inr (.inr fs))))), (vw, .inl (κ 5, 3, .inr (.inr (.inr (.inr fv))))), (tp, .inr (8, [.ref tb, .int 0])), (tb, .inl (κ 0, 800, .inl tf))] ++ im2__259) := subD (C := [(xx, .inr (11, [.ref st, .ref tp, .ref ft, .ref rd, .ref wr, .ref st2, .int zi])), (st, .inr (6, [.ref d, .ref sh, .ref vw, .ref ta, .ref sa, .int (nI n)])), (sh, .inl (κ 4, 3, .inr (.inr (.inr (.inr fs))))), (vw, .inl (κ 5, 3, .inr (.inr (.inr (.inr fv))))), (tp, .inr (8, [.ref tb, .int 0])), (tb, .inl (κ 0, 800, .inl tf))]) hD [0, 1, 2, 3, 4, 5] (by decide) rfl
                        replace hp_261 : Sb im2__204 im2__259 ∧ Ix κ im2__259 p__257 n__258 R_4 := hp_261
                        obtain ⟨h_262, h_263⟩ := hp_261
                        replace htb := htb.up h_262
                        replace h_8 := h_8.up h_262
                        replace h_9 := h_9.up h_262
                        replace a_140 := a_140.up h_262
                        replace a_214 := a_214.up h_262
                        replace h_246 := h_246.up h_262
                        replace h_247 := h_247.up h_262
                        replace hb_252 := hb_252.up h_262
                        replace hm_245 := h_262 _ hm_245
                        replace hm_251 := h_262 _ hm_251
                        refine W.eq (g2 := F0 m 125 ls [.ref p__257, .int (nI t), .ref st]) rfl ?_
                        refine et_VT (CR := [(xx, .inr (11, [.ref st, .ref tp, .ref ft, .ref rd, .ref wr, .ref st2, .int zi])), (sh, .inl (κ 4, 3, .inr (.inr (.inr (.inr fs))))), (tp, .inr (8, [.ref tb, .int 0])), (tb, .inl (κ 0, 800, .inl tf))]) (As := [.int (nI t), .ref p__257]) (rest := []) hFX hKK hE hP hD hS hA (c_X6_stack l D κ κq im2__259 st d sh vw ta sa n fs fv t a_3 R_4 w_5 v_7 d_6 p__257 n__258 (by omega) htb e_1 e_2 h_246 h_9 (by omega) h_263) 2 gV_X11_223 hdV_X6_stack ⟨Nat.le_of_ble_eq_true rfl, Nat.le_of_ble_eq_true rfl⟩ rfl rfl (Nat.le_of_ble_eq_true rfl) dX11_narrow_125 ⟨Nat.le_of_ble_eq_true rfl, Nat.le_of_ble_eq_true rfl⟩ hl.1 [1, 3] [0, 2, 4, 5] rfl rfl (by decide) (by decide) (by decide) hP 1 6 rfl rfl rfl (fun u_266 H locs hp_267 hP hD hS => ?_)
                        refine W.widen (k := 6) (n := 110) (Nat.le_refl _) (Nat.le_refl _) ?_
                        obtain ⟨gv__264, im2__265⟩ := u_266
                        replace hP : va_P D vwCl ([(xx, .inr (11, [.ref st, .ref tp, .ref ft, .ref rd, .ref wr, .ref st2, .int zi])), (st, .inr (6, [.ref d, .ref sh, .ref vw, .ref ta, .ref sa, .int (nI n)])), (sh, .inl (κ 4, 3, .inr (.inr (.inr (.inr fs))))), (vw, .inl (κ 5, 3, .inr (.inr (.inr (.inr gv__264))))), (tp, .inr (8, [.ref tb, .int 0])), (tb, .inl (κ 0, 800, .inl tf))] ++ im2__265) H := subP (C := [(xx, .inr (11, [.ref st, .ref tp, .ref ft, .ref rd, .ref wr, .ref st2, .int zi])), (sh, .inl (κ 4, 3, .inr (.inr (.inr (.inr fs))))), (tp, .inr (8, [.ref tb, .int 0])), (tb, .inl (κ 0, 800, .inl tf)), (st, .inr (6, [.ref d, .ref sh, .ref vw, .ref ta, .ref sa, .int (nI n)])), (vw, .inl (κ 5, 3, .inr (.inr (.inr (.inr gv__264)))))]) hP [0, 4, 1, 5, 2, 3] rfl
                        replace hD : va_D A ([(xx, .inr (11, [.ref st, .ref tp, .ref ft, .ref rd, .ref wr, .ref st2, .int zi])), (st, .inr (6, [.ref d, .ref sh, .ref vw, .ref ta, .ref sa, .int (nI n)])), (sh, .inl (κ 4, 3, .inr (.inr (.inr (.inr fs))))), (vw, .inl (κ 5, 3, .inr (.inr (.inr (.inr gv__264))))), (tp, .inr (8, [.ref tb, .int 0])), (tb, .inl (κ 0, 800, .inl tf))] ++ im2__265) := subD (C := [(xx, .inr (11, [.ref st, .ref tp, .ref ft, .ref rd, .ref wr, .ref st2, .int zi])), (sh, .inl (κ 4, 3, .inr (.inr (.inr (.inr fs))))), (tp, .inr (8, [.ref tb, .int 0])), (tb, .inl (κ 0, 800, .inl tf)), (st, .inr (6, [.ref d, .ref sh, .ref vw, .ref ta, .ref sa, .int (nI n)])), (vw, .inl (κ 5, 3, .inr (.inr (.inr (.inr gv__264)))))]) hD [0, 4, 1, 5, 2, 3] (by decide) rfl
                        replace hp_267 : Sb im2__259 im2__265 ∧ Tb κ im2__265 fs gv__264 3 := hp_267
                        obtain ⟨h_268, h_269⟩ := hp_267
                        replace htb := htb.up h_268
                        replace h_8 := h_8.up h_268
                        replace h_9 := h_9.up h_268
                        replace a_140 := a_140.up h_268
                        replace a_214 := a_214.up h_268
                        replace h_246 := h_246.up h_268
                        replace h_247 := h_247.up h_268
                        replace hb_252 := hb_252.up h_268
                        replace h_263 := h_263.up h_268
                        replace hm_245 := h_268 _ hm_245
                        replace hm_251 := h_268 _ hm_251
                        refine W.eq (g2 := F0 m 128 ls [.int (nI n__258)]) rfl ?_
                        exact et_iret hx hb hr hlk rfl hS (nI n__258, gv__264, im2__265) rfl ⟨(show Tb κ im2__265 fs gv__264 3 from h_269), (show Sb im im2__265 from (Sb.tr (Sb.tr (Sb.tr h_135 h_207) h_262) h_268))⟩ (subP hP [0, 1, 2, 3, 4, 5] rfl) (subD hD [0, 1, 2, 3, 4, 5] (by decide) rfl) (Nat.le_of_ble_eq_true rfl) (Nat.le_of_ble_eq_true rfl) dX11_narrow_128
                      · refine W.eq (g2 := F0 m 107 ls [.int 0]) rfl ?_
                        refine lv_if_ne (tgt := 112) hx hb dX11_narrow_107 (by decide) (fun c_270 => absurd c_270 (by decide)) (fun c_270 => ?_)
                        refine lv_iconst (v := (-1)) hx hb dX11_narrow_110 (by decide) ?_
                        exact et_iret hx hb hr hlk rfl hS ((-1), fv, im2__204) rfl ⟨(show Tb κ im2__204 fs fv 3 from htb), (show Sb im im2__204 from (Sb.tr h_135 h_207))⟩ (subP hP [0, 1, 2, 3, 4, 5] rfl) (subD hD [0, 1, 2, 3, 4, 5] (by decide) rfl) (Nat.le_of_ble_eq_true rfl) (Nat.le_of_ble_eq_true rfl) dX11_narrow_111
                  · refine lv_iload hx hb dX11_narrow_71 (lv_at hl 2 rfl) ?_
                    refine lv_if_ne (tgt := 78) hx hb dX11_narrow_73 (by decide) (fun c_271 => ?_) (fun c_271 => absurd c_271 (by decide))
                    refine lv_iload_n hx hb dX11_narrow_78 rfl (lv_at hl 6 rfl) ?_
                    refine lv_bipush (v := 6) hx hb dX11_narrow_79 (by decide) ?_
                    refine lv_icmp_ge (tgt := 112) hx hb dX11_narrow_81 (by decide) (fun c_272 => ?_) (fun c_272 => ?_)
                    · refine lv_aload_n hx hb dX11_narrow_112 rfl (lv_at hl 3 rfl) ?_
                      refine va_get (D := D) (ci := 11) (v := .ref st) (C := RX11) (T := TX11) (N := 7) hx hb hts inlX11 hown hK hP 0 rfl rfl 0 (by decide) (hts _ mw_15) (fun _ h9 => h9) rfl dX11_narrow_113 ?_
                      refine lv_iload_n hx hb dX11_narrow_116 rfl (lv_at hl 4 rfl) ?_
                      refine lv_aload hx hb dX11_narrow_117 (lv_at hl 0 rfl) ?_
                      refine lv_iload_n hx hb dX11_narrow_119 rfl (lv_at hl 6 rfl) ?_
                      refine lv_aload hx hb dX11_narrow_120 (lv_at hl 1 rfl) ?_
                      obtain ⟨h_278, h_279, hm_280, h_281, h_282⟩ := id a_214
                      refine et_VT (CR := [(xx, .inr (11, [.ref st, .ref tp, .ref ft, .ref rd, .ref wr, .ref st2, .int zi])), (st, .inr (6, [.ref d, .ref sh, .ref vw, .ref ta, .ref sa, .int (nI n)])), (sh, .inl (κ 4, 3, .inr (.inr (.inr (.inr fs))))), (vw, .inl (κ 5, 3, .inr (.inr (.inr (.inr fv))))), (tp, .inr (8, [.ref tb, .int 0])), (tb, .inl (κ 0, 800, .inl tf))]) (As := [.int zc, .ref q__137]) (rest := [.int (nI t), .ref st]) hFX hKK hE hP hD hS hA (c_X7_narrowed_r l D κ κq im2__204 q__209 a_3 R_4 w_5 co__210 ra__211 mq__212 ty__213 zc q__137 k__138 n__139 a_214 a_140) 2 gV_X11_219 hdV_X7_narrowed ⟨Nat.le_of_ble_eq_true rfl, Nat.le_of_ble_eq_true rfl⟩ rfl rfl (Nat.le_of_ble_eq_true rfl) dX11_narrow_122 ⟨Nat.le_of_ble_eq_true rfl, Nat.le_of_ble_eq_true rfl⟩ hl.1 [] [0, 1, 2, 3, 4, 5] rfl rfl (by decide) (by decide) (by decide) (oneP (C := [(xx, .inr (11, [.ref st, .ref tp, .ref ft, .ref rd, .ref wr, .ref st2, .int zi])), (st, .inr (6, [.ref d, .ref sh, .ref vw, .ref ta, .ref sa, .int (nI n)])), (sh, .inl (κ 4, 3, .inr (.inr (.inr (.inr fs))))), (vw, .inl (κ 5, 3, .inr (.inr (.inr (.inr fv))))), (tp, .inr (8, [.ref tb, .int 0])), (tb, .inl (κ 0, 800, .inl tf))]) hP hm_280) 0 7 rfl rfl rfl (fun u_276 H locs hp_277 hP hD hS => ?_)
                      refine W.widen (k := 5) (n := 107) (Nat.le_refl _) (Nat.le_refl _) ?_
                      obtain ⟨p__273, n__274, im2__275⟩ := u_276
                      replace hP : va_P D vwCl ([(xx, .inr (11, [.ref st, .ref tp, .ref ft, .ref rd, .ref wr, .ref st2, .int zi])), (st, .inr (6, [.ref d, .ref sh, .ref vw, .ref ta, .ref sa, .int (nI n)])), (sh, .inl (κ 4, 3, .inr (.inr (.inr (.inr fs))))), (vw, .inl (κ 5, 3, .inr (.inr (.inr (.inr fv))))), (tp, .inr (8, [.ref tb, .int 0])), (tb, .inl (κ 0, 800, .inl tf))] ++ im2__275) H := subP (C := [(xx, .inr (11, [.ref st, .ref tp, .ref ft, .ref rd, .ref wr, .ref st2, .int zi])), (st, .inr (6, [.ref d, .ref sh, .ref vw, .ref ta, .ref sa, .int (nI n)])), (sh, .inl (κ 4, 3, .inr (.inr (.inr (.inr fs))))), (vw, .inl (κ 5, 3, .inr (.inr (.inr (.inr fv))))), (tp, .inr (8, [.ref tb, .int 0])), (tb, .inl (κ 0, 800, .inl tf))]) hP [0, 1, 2, 3, 4, 5] rfl
                      replace hD : va_D A ([(xx, .inr (11, [.ref st, .ref tp, .ref ft, .ref rd, .ref wr, .ref st2, .int zi])), (st, .inr (6, [.ref d, .ref sh, .ref vw, .ref ta, .ref sa, .int (nI n)])), (sh, .inl (κ 4, 3, .inr (.inr (.inr (.inr fs))))), (vw, .inl (κ 5, 3, .inr (.inr (.inr (.inr fv))))), (tp, .inr (8, [.ref tb, .int 0])), (tb, .inl (κ 0, 800, .inl tf))] ++ im2__275) := subD (C := [(xx, .inr (11, [.ref st, .ref tp, .ref ft, .ref rd, .ref wr, .ref st2, .int zi])), (st, .inr (6, [.ref d, .ref sh, .ref vw, .ref ta, .ref sa, .int (nI n)])), (sh, .inl (κ 4, 3, .inr (.inr (.inr (.inr fs))))), (vw, .inl (κ 5, 3, .inr (.inr (.inr (.inr fv))))), (tp, .inr (8, [.ref tb, .int 0])), (tb, .inl (κ 0, 800, .inl tf))]) hD [0, 1, 2, 3, 4, 5] (by decide) rfl
                      replace hp_277 : Sb im2__204 im2__275 ∧ Ix κ im2__275 p__273 n__274 R_4 := hp_277
                      obtain ⟨h_283, h_284⟩ := hp_277
                      replace htb := htb.up h_283
                      replace h_8 := h_8.up h_283
                      replace h_9 := h_9.up h_283
                      replace a_140 := a_140.up h_283
                      replace a_214 := a_214.up h_283
                      replace h_281 := h_281.up h_283
                      replace h_282 := h_282.up h_283
                      replace hm_280 := h_283 _ hm_280
                      refine W.eq (g2 := F0 m 125 ls [.ref p__273, .int (nI t), .ref st]) rfl ?_
                      refine et_VT (CR := [(xx, .inr (11, [.ref st, .ref tp, .ref ft, .ref rd, .ref wr, .ref st2, .int zi])), (sh, .inl (κ 4, 3, .inr (.inr (.inr (.inr fs))))), (tp, .inr (8, [.ref tb, .int 0])), (tb, .inl (κ 0, 800, .inl tf))]) (As := [.int (nI t), .ref p__273]) (rest := []) hFX hKK hE hP hD hS hA (c_X6_stack l D κ κq im2__275 st d sh vw ta sa n fs fv t a_3 R_4 w_5 v_7 d_6 p__273 n__274 (by omega) htb e_1 e_2 h_281 h_9 (by omega) h_284) 2 gV_X11_223 hdV_X6_stack ⟨Nat.le_of_ble_eq_true rfl, Nat.le_of_ble_eq_true rfl⟩ rfl rfl (Nat.le_of_ble_eq_true rfl) dX11_narrow_125 ⟨Nat.le_of_ble_eq_true rfl, Nat.le_of_ble_eq_true rfl⟩ hl.1 [1, 3] [0, 2, 4, 5] rfl rfl (by decide) (by decide) (by decide) hP 1 6 rfl rfl rfl (fun u_287 H locs hp_288 hP hD hS => ?_)
                      refine W.widen (k := 6) (n := 110) (Nat.le_refl _) (Nat.le_refl _) ?_
                      obtain ⟨gv__285, im2__286⟩ := u_287
                      replace hP : va_P D vwCl ([(xx, .inr (11, [.ref st, .ref tp, .ref ft, .ref rd, .ref wr, .ref st2, .int zi])), (st, .inr (6, [.ref d, .ref sh, .ref vw, .ref ta, .ref sa, .int (nI n)])), (sh, .inl (κ 4, 3, .inr (.inr (.inr (.inr fs))))), (vw, .inl (κ 5, 3, .inr (.inr (.inr (.inr gv__285))))), (tp, .inr (8, [.ref tb, .int 0])), (tb, .inl (κ 0, 800, .inl tf))] ++ im2__286) H := subP (C := [(xx, .inr (11, [.ref st, .ref tp, .ref ft, .ref rd, .ref wr, .ref st2, .int zi])), (sh, .inl (κ 4, 3, .inr (.inr (.inr (.inr fs))))), (tp, .inr (8, [.ref tb, .int 0])), (tb, .inl (κ 0, 800, .inl tf)), (st, .inr (6, [.ref d, .ref sh, .ref vw, .ref ta, .ref sa, .int (nI n)])), (vw, .inl (κ 5, 3, .inr (.inr (.inr (.inr gv__285)))))]) hP [0, 4, 1, 5, 2, 3] rfl
                      replace hD : va_D A ([(xx, .inr (11, [.ref st, .ref tp, .ref ft, .ref rd, .ref wr, .ref st2, .int zi])), (st, .inr (6, [.ref d, .ref sh, .ref vw, .ref ta, .ref sa, .int (nI n)])), (sh, .inl (κ 4, 3, .inr (.inr (.inr (.inr fs))))), (vw, .inl (κ 5, 3, .inr (.inr (.inr (.inr gv__285))))), (tp, .inr (8, [.ref tb, .int 0])), (tb, .inl (κ 0, 800, .inl tf))] ++ im2__286) := subD (C := [(xx, .inr (11, [.ref st, .ref tp, .ref ft, .ref rd, .ref wr, .ref st2, .int zi])), (sh, .inl (κ 4, 3, .inr (.inr (.inr (.inr fs))))), (tp, .inr (8, [.ref tb, .int 0])), (tb, .inl (κ 0, 800, .inl tf)), (st, .inr (6, [.ref d, .ref sh, .ref vw, .ref ta, .ref sa, .int (nI n)])), (vw, .inl (κ 5, 3, .inr (.inr (.inr (.inr gv__285)))))]) hD [0, 4, 1, 5, 2, 3] (by decide) rfl
                      replace hp_288 : Sb im2__275 im2__286 ∧ Tb κ im2__286 fs gv__285 3 := hp_288
                      obtain ⟨h_289, h_290⟩ := hp_288
                      replace htb := htb.up h_289
                      replace h_8 := h_8.up h_289
                      replace h_9 := h_9.up h_289
                      replace a_140 := a_140.up h_289
                      replace a_214 := a_214.up h_289
                      replace h_281 := h_281.up h_289
                      replace h_282 := h_282.up h_289
                      replace h_284 := h_284.up h_289
                      replace hm_280 := h_289 _ hm_280
                      refine W.eq (g2 := F0 m 128 ls [.int (nI n__274)]) rfl ?_
                      exact et_iret hx hb hr hlk rfl hS (nI n__274, gv__285, im2__286) rfl ⟨(show Tb κ im2__286 fs gv__285 3 from h_290), (show Sb im im2__286 from (Sb.tr (Sb.tr (Sb.tr h_135 h_207) h_283) h_289))⟩ (subP hP [0, 1, 2, 3, 4, 5] rfl) (subD hD [0, 1, 2, 3, 4, 5] (by decide) rfl) (Nat.le_of_ble_eq_true rfl) (Nat.le_of_ble_eq_true rfl) dX11_narrow_128
                    · refine lv_iload hx hb dX11_narrow_84 (lv_at hl 2 rfl) ?_
                      refine lv_if_eq (tgt := 110) hx hb dX11_narrow_86 (by decide) (fun c_291 => absurd c_291 (by decide)) (fun c_291 => ?_)
                      refine lv_aload hx hb dX11_narrow_89 (lv_at hl 1 rfl) ?_
                      refine lv_ifnull hx hb dX11_narrow_91 ?_
                      refine lv_aload hx hb dX11_narrow_94 (lv_at hl 0 rfl) ?_
                      obtain ⟨h_292, h_293, hm_294, h_295, h_296⟩ := id a_214
                      refine va_get (D := D) (ci := 7) (v := .int (nI ty__213)) (C := RX7) (T := TX7) (N := 4) hx hb hts inlX7 hown hK (oneP (C := [(xx, .inr (11, [.ref st, .ref tp, .ref ft, .ref rd, .ref wr, .ref st2, .int zi])), (st, .inr (6, [.ref d, .ref sh, .ref vw, .ref ta, .ref sa, .int (nI n)])), (sh, .inl (κ 4, 3, .inr (.inr (.inr (.inr fs))))), (vw, .inl (κ 5, 3, .inr (.inr (.inr (.inr fv))))), (tp, .inr (8, [.ref tb, .int 0])), (tb, .inl (κ 0, 800, .inl tf))]) hP hm_294) 0 rfl rfl 3 (by decide) (hts _ mw_982) (fun _ h9 => h9) rfl dX11_narrow_96 ?_
                      refine lv_aload hx hb dX11_narrow_99 (lv_at hl 1 rfl) ?_
                      obtain ⟨hk_297, b_298, x_299, hm_300, hb_301⟩ := id a_140
                      have hn_b_298 := hb_301.1
                      refine va_get (D := D) (ci := 0) (v := .int (nI k__138)) (C := RX0) (T := TX0) (N := 3) hx hb hts inlX0 hown hK (oneP (C := [(xx, .inr (11, [.ref st, .ref tp, .ref ft, .ref rd, .ref wr, .ref st2, .int zi])), (st, .inr (6, [.ref d, .ref sh, .ref vw, .ref ta, .ref sa, .int (nI n)])), (sh, .inl (κ 4, 3, .inr (.inr (.inr (.inr fs))))), (vw, .inl (κ 5, 3, .inr (.inr (.inr (.inr fv))))), (tp, .inr (8, [.ref tb, .int 0])), (tb, .inl (κ 0, 800, .inl tf))]) hP hm_300) 0 rfl rfl 1 (by decide) (hts _ mw_983) (fun _ h9 => h9) rfl dX11_narrow_101 ?_
                      refine er_S (As := [.int (nI ty__213), .int (nI k__138)]) (rest := []) hFX hKK hE hS (c_X11_holds l D κ κq ty__213 k__138 (by omega) (by omega)) 2 gS_X11_216 hdS_X11_holds rfl rfl ⟨Nat.le_of_ble_eq_true rfl, Nat.le_of_ble_eq_true rfl⟩ rfl rfl (Nat.le_of_ble_eq_true rfl) dX11_narrow_104 ⟨Nat.le_of_ble_eq_true rfl, Nat.le_of_ble_eq_true rfl⟩ hl.1 (subP0 hP [] rfl) (fun r__302 hp_303 => ?_)
                      replace hp_303 : ((r__302 = 1) ∨ (r__302 = 0)) := hp_303
                      have ha_304 := hp_303
                      clear hp_303
                      rcases ha_304 with rfl | rfl
                      · refine W.eq (g2 := F0 m 107 ls [.int 1]) rfl ?_
                        refine lv_if_ne (tgt := 112) hx hb dX11_narrow_107 (by decide) (fun c_305 => ?_) (fun c_305 => absurd c_305 (by decide))
                        refine lv_aload_n hx hb dX11_narrow_112 rfl (lv_at hl 3 rfl) ?_
                        refine va_get (D := D) (ci := 11) (v := .ref st) (C := RX11) (T := TX11) (N := 7) hx hb hts inlX11 hown hK hP 0 rfl rfl 0 (by decide) (hts _ mw_15) (fun _ h9 => h9) rfl dX11_narrow_113 ?_
                        refine lv_iload_n hx hb dX11_narrow_116 rfl (lv_at hl 4 rfl) ?_
                        refine lv_aload hx hb dX11_narrow_117 (lv_at hl 0 rfl) ?_
                        refine lv_iload_n hx hb dX11_narrow_119 rfl (lv_at hl 6 rfl) ?_
                        refine lv_aload hx hb dX11_narrow_120 (lv_at hl 1 rfl) ?_
                        refine et_VT (CR := [(xx, .inr (11, [.ref st, .ref tp, .ref ft, .ref rd, .ref wr, .ref st2, .int zi])), (st, .inr (6, [.ref d, .ref sh, .ref vw, .ref ta, .ref sa, .int (nI n)])), (sh, .inl (κ 4, 3, .inr (.inr (.inr (.inr fs))))), (vw, .inl (κ 5, 3, .inr (.inr (.inr (.inr fv))))), (tp, .inr (8, [.ref tb, .int 0])), (tb, .inl (κ 0, 800, .inl tf))]) (As := [.int zc, .ref q__137]) (rest := [.int (nI t), .ref st]) hFX hKK hE hP hD hS hA (c_X7_narrowed_r l D κ κq im2__204 q__209 a_3 R_4 w_5 co__210 ra__211 mq__212 ty__213 zc q__137 k__138 n__139 a_214 a_140) 2 gV_X11_219 hdV_X7_narrowed ⟨Nat.le_of_ble_eq_true rfl, Nat.le_of_ble_eq_true rfl⟩ rfl rfl (Nat.le_of_ble_eq_true rfl) dX11_narrow_122 ⟨Nat.le_of_ble_eq_true rfl, Nat.le_of_ble_eq_true rfl⟩ hl.1 [] [0, 1, 2, 3, 4, 5] rfl rfl (by decide) (by decide) (by decide) (oneP (C := [(xx, .inr (11, [.ref st, .ref tp, .ref ft, .ref rd, .ref wr, .ref st2, .int zi])), (st, .inr (6, [.ref d, .ref sh, .ref vw, .ref ta, .ref sa, .int (nI n)])), (sh, .inl (κ 4, 3, .inr (.inr (.inr (.inr fs))))), (vw, .inl (κ 5, 3, .inr (.inr (.inr (.inr fv))))), (tp, .inr (8, [.ref tb, .int 0])), (tb, .inl (κ 0, 800, .inl tf))]) hP hm_294) 0 7 rfl rfl rfl (fun u_309 H locs hp_310 hP hD hS => ?_)
                        refine W.widen (k := 5) (n := 107) (Nat.le_refl _) (Nat.le_refl _) ?_
                        obtain ⟨p__306, n__307, im2__308⟩ := u_309
                        replace hP : va_P D vwCl ([(xx, .inr (11, [.ref st, .ref tp, .ref ft, .ref rd, .ref wr, .ref st2, .int zi])), (st, .inr (6, [.ref d, .ref sh, .ref vw, .ref ta, .ref sa, .int (nI n)])), (sh, .inl (κ 4, 3, .inr (.inr (.inr (.inr fs))))), (vw, .inl (κ 5, 3, .inr (.inr (.inr (.inr fv))))), (tp, .inr (8, [.ref tb, .int 0])), (tb, .inl (κ 0, 800, .inl tf))] ++ im2__308) H := subP (C := [(xx, .inr (11, [.ref st, .ref tp, .ref ft, .ref rd, .ref wr, .ref st2, .int zi])), (st, .inr (6, [.ref d, .ref sh, .ref vw, .ref ta, .ref sa, .int (nI n)])), (sh, .inl (κ 4, 3, .inr (.inr (.inr (.inr fs))))), (vw, .inl (κ 5, 3, .inr (.inr (.inr (.inr fv))))), (tp, .inr (8, [.ref tb, .int 0])), (tb, .inl (κ 0, 800, .inl tf))]) hP [0, 1, 2, 3, 4, 5] rfl
                        replace hD : va_D A ([(xx, .inr (11, [.ref st, .ref tp, .ref ft, .ref rd, .ref wr, .ref st2, .int zi])), (st, .inr (6, [.ref d, .ref sh, .ref vw, .ref ta, .ref sa, .int (nI n)])), (sh, .inl (κ 4, 3, .inr (.inr (.inr (.inr fs))))), (vw, .inl (κ 5, 3, .inr (.inr (.inr (.inr fv))))), (tp, .inr (8, [.ref tb, .int 0])), (tb, .inl (κ 0, 800, .inl tf))] ++ im2__308) := subD (C := [(xx, .inr (11, [.ref st, .ref tp, .ref ft, .ref rd, .ref wr, .ref st2, .int zi])), (st, .inr (6, [.ref d, .ref sh, .ref vw, .ref ta, .ref sa, .int (nI n)])), (sh, .inl (κ 4, 3, .inr (.inr (.inr (.inr fs))))), (vw, .inl (κ 5, 3, .inr (.inr (.inr (.inr fv))))), (tp, .inr (8, [.ref tb, .int 0])), (tb, .inl (κ 0, 800, .inl tf))]) hD [0, 1, 2, 3, 4, 5] (by decide) rfl
                        replace hp_310 : Sb im2__204 im2__308 ∧ Ix κ im2__308 p__306 n__307 R_4 := hp_310
                        obtain ⟨h_311, h_312⟩ := hp_310
                        replace htb := htb.up h_311
                        replace h_8 := h_8.up h_311
                        replace h_9 := h_9.up h_311
                        replace a_140 := a_140.up h_311
                        replace a_214 := a_214.up h_311
                        replace h_295 := h_295.up h_311
                        replace h_296 := h_296.up h_311
                        replace hb_301 := hb_301.up h_311
                        replace hm_294 := h_311 _ hm_294
                        replace hm_300 := h_311 _ hm_300
                        refine W.eq (g2 := F0 m 125 ls [.ref p__306, .int (nI t), .ref st]) rfl ?_
                        refine et_VT (CR := [(xx, .inr (11, [.ref st, .ref tp, .ref ft, .ref rd, .ref wr, .ref st2, .int zi])), (sh, .inl (κ 4, 3, .inr (.inr (.inr (.inr fs))))), (tp, .inr (8, [.ref tb, .int 0])), (tb, .inl (κ 0, 800, .inl tf))]) (As := [.int (nI t), .ref p__306]) (rest := []) hFX hKK hE hP hD hS hA (c_X6_stack l D κ κq im2__308 st d sh vw ta sa n fs fv t a_3 R_4 w_5 v_7 d_6 p__306 n__307 (by omega) htb e_1 e_2 h_295 h_9 (by omega) h_312) 2 gV_X11_223 hdV_X6_stack ⟨Nat.le_of_ble_eq_true rfl, Nat.le_of_ble_eq_true rfl⟩ rfl rfl (Nat.le_of_ble_eq_true rfl) dX11_narrow_125 ⟨Nat.le_of_ble_eq_true rfl, Nat.le_of_ble_eq_true rfl⟩ hl.1 [1, 3] [0, 2, 4, 5] rfl rfl (by decide) (by decide) (by decide) hP 1 6 rfl rfl rfl (fun u_315 H locs hp_316 hP hD hS => ?_)
                        refine W.widen (k := 6) (n := 110) (Nat.le_refl _) (Nat.le_refl _) ?_
                        obtain ⟨gv__313, im2__314⟩ := u_315
                        replace hP : va_P D vwCl ([(xx, .inr (11, [.ref st, .ref tp, .ref ft, .ref rd, .ref wr, .ref st2, .int zi])), (st, .inr (6, [.ref d, .ref sh, .ref vw, .ref ta, .ref sa, .int (nI n)])), (sh, .inl (κ 4, 3, .inr (.inr (.inr (.inr fs))))), (vw, .inl (κ 5, 3, .inr (.inr (.inr (.inr gv__313))))), (tp, .inr (8, [.ref tb, .int 0])), (tb, .inl (κ 0, 800, .inl tf))] ++ im2__314) H := subP (C := [(xx, .inr (11, [.ref st, .ref tp, .ref ft, .ref rd, .ref wr, .ref st2, .int zi])), (sh, .inl (κ 4, 3, .inr (.inr (.inr (.inr fs))))), (tp, .inr (8, [.ref tb, .int 0])), (tb, .inl (κ 0, 800, .inl tf)), (st, .inr (6, [.ref d, .ref sh, .ref vw, .ref ta, .ref sa, .int (nI n)])), (vw, .inl (κ 5, 3, .inr (.inr (.inr (.inr gv__313)))))]) hP [0, 4, 1, 5, 2, 3] rfl
                        replace hD : va_D A ([(xx, .inr (11, [.ref st, .ref tp, .ref ft, .ref rd, .ref wr, .ref st2, .int zi])), (st, .inr (6, [.ref d, .ref sh, .ref vw, .ref ta, .ref sa, .int (nI n)])), (sh, .inl (κ 4, 3, .inr (.inr (.inr (.inr fs))))), (vw, .inl (κ 5, 3, .inr (.inr (.inr (.inr gv__313))))), (tp, .inr (8, [.ref tb, .int 0])), (tb, .inl (κ 0, 800, .inl tf))] ++ im2__314) := subD (C := [(xx, .inr (11, [.ref st, .ref tp, .ref ft, .ref rd, .ref wr, .ref st2, .int zi])), (sh, .inl (κ 4, 3, .inr (.inr (.inr (.inr fs))))), (tp, .inr (8, [.ref tb, .int 0])), (tb, .inl (κ 0, 800, .inl tf)), (st, .inr (6, [.ref d, .ref sh, .ref vw, .ref ta, .ref sa, .int (nI n)])), (vw, .inl (κ 5, 3, .inr (.inr (.inr (.inr gv__313)))))]) hD [0, 4, 1, 5, 2, 3] (by decide) rfl
                        replace hp_316 : Sb im2__308 im2__314 ∧ Tb κ im2__314 fs gv__313 3 := hp_316
                        obtain ⟨h_317, h_318⟩ := hp_316
                        replace htb := htb.up h_317
                        replace h_8 := h_8.up h_317
                        replace h_9 := h_9.up h_317
                        replace a_140 := a_140.up h_317
                        replace a_214 := a_214.up h_317
                        replace h_295 := h_295.up h_317
                        replace h_296 := h_296.up h_317
                        replace hb_301 := hb_301.up h_317
                        replace h_312 := h_312.up h_317
                        replace hm_294 := h_317 _ hm_294
                        replace hm_300 := h_317 _ hm_300
                        refine W.eq (g2 := F0 m 128 ls [.int (nI n__307)]) rfl ?_
                        exact et_iret hx hb hr hlk rfl hS (nI n__307, gv__313, im2__314) rfl ⟨(show Tb κ im2__314 fs gv__313 3 from h_318), (show Sb im im2__314 from (Sb.tr (Sb.tr (Sb.tr h_135 h_207) h_311) h_317))⟩ (subP hP [0, 1, 2, 3, 4, 5] rfl) (subD hD [0, 1, 2, 3, 4, 5] (by decide) rfl) (Nat.le_of_ble_eq_true rfl) (Nat.le_of_ble_eq_true rfl) dX11_narrow_128
                      · refine W.eq (g2 := F0 m 107 ls [.int 0]) rfl ?_
                        refine lv_if_ne (tgt := 112) hx hb dX11_narrow_107 (by decide) (fun c_319 => absurd c_319 (by decide)) (fun c_319 => ?_)
                        refine lv_iconst (v := (-1)) hx hb dX11_narrow_110 (by decide) ?_
                        exact et_iret hx hb hr hlk rfl hS ((-1), fv, im2__204) rfl ⟨(show Tb κ im2__204 fs fv 3 from htb), (show Sb im im2__204 from (Sb.tr h_135 h_207))⟩ (subP hP [0, 1, 2, 3, 4, 5] rfl) (subD hD [0, 1, 2, 3, 4, 5] (by decide) rfl) (Nat.le_of_ble_eq_true rfl) (Nat.le_of_ble_eq_true rfl) dX11_narrow_111
                · refine lv_iconst (v := (-1)) hx hb dX11_narrow_63 (by decide) ?_
                  exact et_iret hx hb hr hlk rfl hS ((-1), fv, im2__204) rfl ⟨(show Tb κ im2__204 fs fv 3 from htb), (show Sb im im2__204 from (Sb.tr h_135 h_207))⟩ (subP hP [0, 1, 2, 3, 4, 5] rfl) (subD hD [0, 1, 2, 3, 4, 5] (by decide) rfl) (Nat.le_of_ble_eq_true rfl) (Nat.le_of_ble_eq_true rfl) dX11_narrow_64
            · refine W.eq (g2 := F0 m 50 ls [.int 0]) rfl ?_
              refine lv_if_eq (tgt := 63) hx hb dX11_narrow_50 (by decide) (fun c_320 => ?_) (fun c_320 => absurd (by decide) c_320)
              refine lv_iconst (v := (-1)) hx hb dX11_narrow_63 (by decide) ?_
              exact et_iret hx hb hr hlk rfl hS ((-1), fv, im2__204) rfl ⟨(show Tb κ im2__204 fs fv 3 from htb), (show Sb im im2__204 from (Sb.tr h_135 h_207))⟩ (subP hP [0, 1, 2, 3, 4, 5] rfl) (subD hD [0, 1, 2, 3, 4, 5] (by decide) rfl) (Nat.le_of_ble_eq_true rfl) (Nat.le_of_ble_eq_true rfl) dX11_narrow_64
  · skip
    refine lv_aload_n hx hb dX11_narrow_0 rfl (lv_at hl 0 rfl) ?_
    refine va_get (D := D) (ci := 11) (v := .ref tp) (C := RX11) (T := TX11) (N := 7) hx hb hts inlX11 hown hK hP 0 rfl rfl 1 (by decide) (hts _ mw_19) (fun _ h9 => h9) rfl dX11_narrow_1 ?_
    refine va_get (D := D) (ci := 8) (v := .int (nI L)) (C := RX8) (T := TX8) (N := 2) hx hb hts inlX8 hown hK hP 4 rfl rfl 1 (by decide) (hts _ mw_223) (fun _ h9 => h9) rfl dX11_narrow_4 ?_
    refine lv_if_le (tgt := 14) hx hb dX11_narrow_7 (by decide) (fun c_321 => ?_) (fun c_321 => ?_)
    · have nc_321 := cv_le (a := L) (b := 0) (by omega) (by omega) c_321
      refine lv_iconst (v := 0) hx hb dX11_narrow_14 (by decide) ?_
      refine lv_istore (lv' := [(4, .int 0), (0, .ref xx), (1, .int za), (2, .int zb), (3, .int zc)]) hx hb dX11_narrow_15 hl (by decide) rfl (fun ls hl => ?_)
      refine lv_aload_n hx hb dX11_narrow_17 rfl (lv_at hl 1 rfl) ?_
      refine va_get (D := D) (ci := 11) (v := .ref tp) (C := RX11) (T := TX11) (N := 7) hx hb hts inlX11 hown hK hP 0 rfl rfl 1 (by decide) (hts _ mw_19) (fun _ h9 => h9) rfl dX11_narrow_18 ?_
      refine et_VT (CR := [(xx, .inr (11, [.ref st, .ref tp, .ref ft, .ref rd, .ref wr, .ref st2, .int zi])), (st, .inr (6, [.ref d, .ref sh, .ref vw, .ref ta, .ref sa, .int (nI n)])), (sh, .inl (κ 4, 3, .inr (.inr (.inr (.inr fs))))), (vw, .inl (κ 5, 3, .inr (.inr (.inr (.inr fv)))))]) (As := []) (rest := []) hFX hKK hE hP hD hS hA (c_X8_takeCell l D κ κq im tp tb L tf (by omega)) 0 gV_X11_110 hdV_X8_takeCell ⟨Nat.le_of_ble_eq_true rfl, Nat.le_of_ble_eq_true rfl⟩ rfl rfl (Nat.le_of_ble_eq_true rfl) dX11_narrow_21 ⟨Nat.le_of_ble_eq_true rfl, Nat.le_of_ble_eq_true rfl⟩ hl.1 [4, 5] [0, 1, 2, 3] rfl rfl (by decide) (by decide) (by decide) hP 4 8 rfl rfl rfl (fun u_324 H locs hp_325 hP hD hS => ?_)
      refine W.widen (k := 2) (n := 23) (Nat.le_refl _) (Nat.le_refl _) ?_
      obtain ⟨r__322, im2__323⟩ := u_324
      replace hP : va_P D vwCl ([(xx, .inr (11, [.ref st, .ref tp, .ref ft, .ref rd, .ref wr, .ref st2, .int zi])), (st, .inr (6, [.ref d, .ref sh, .ref vw, .ref ta, .ref sa, .int (nI n)])), (sh, .inl (κ 4, 3, .inr (.inr (.inr (.inr fs))))), (vw, .inl (κ 5, 3, .inr (.inr (.inr (.inr fv))))), (tp, .inr (8, [.ref tb, .int 0])), (tb, .inl (κ 0, 800, .inl tf))] ++ im2__323) H := subP (C := [(xx, .inr (11, [.ref st, .ref tp, .ref ft, .ref rd, .ref wr, .ref st2, .int zi])), (st, .inr (6, [.ref d, .ref sh, .ref vw, .ref ta, .ref sa, .int (nI n)])), (sh, .inl (κ 4, 3, .inr (.inr (.inr (.inr fs))))), (vw, .inl (κ 5, 3, .inr (.inr (.inr (.inr fv))))), (tp, .inr (8, [.ref tb, .int 0])), (tb, .inl (κ 0, 800, .inl tf))]) hP [0, 1, 2, 3, 4, 5] rfl
      replace hD : va_D A ([(xx, .inr (11, [.ref st, .ref tp, .ref ft, .ref rd, .ref wr, .ref st2, .int zi])), (st, .inr (6, [.ref d, .ref sh, .ref vw, .ref ta, .ref sa, .int (nI n)])), (sh, .inl (κ 4, 3, .inr (.inr (.inr (.inr fs))))), (vw, .inl (κ 5, 3, .inr (.inr (.inr (.inr fv))))), (tp, .inr (8, [.ref tb, .int 0])), (tb, .inl (κ 0, 800, .inl tf))] ++ im2__323) := subD (C := [(xx, .inr (11, [.ref st, .ref tp, .ref ft, .ref rd, .ref wr, .ref st2, .int zi])), (st, .inr (6, [.ref d, .ref sh, .ref vw, .ref ta, .ref sa, .int (nI n)])), (sh, .inl (κ 4, 3, .inr (.inr (.inr (.inr fs))))), (vw, .inl (κ 5, 3, .inr (.inr (.inr (.inr fv))))), (tp, .inr (8, [.ref tb, .int 0])), (tb, .inl (κ 0, 800, .inl tf))]) hD [0, 1, 2, 3, 4, 5] (by decide) rfl
      replace hp_325 : Sb im im2__323 ∧ ((r__322 = none) ∨ (∃ (q : Nat), ∃ (k : Nat), ∃ (n : Nat), r__322 = some q ∧ Cl κ im2__323 q k n)) := hp_325
      obtain ⟨h_326, ha_327⟩ := hp_325
      replace htb := htb.up h_326
      rcases ha_327 with rfl | ⟨q__328, k__329, n__330, rfl, a_331⟩
      · refine W.eq (g2 := F0 m 24 ls [.null]) rfl ?_
        refine lv_astoreN (lv' := [(5, .null), (4, .int 0), (0, .ref xx), (1, .int za), (2, .int zb), (3, .int zc)]) hx hb dX11_narrow_24 hl (by decide) rfl (fun ls hl => ?_)
        refine lv_aload_n hx hb dX11_narrow_26 rfl (lv_at hl 2 rfl) ?_
        refine va_get (D := D) (ci := 11) (v := .ref st) (C := RX11) (T := TX11) (N := 7) hx hb hts inlX11 hown hK hP 0 rfl rfl 0 (by decide) (hts _ mw_15) (fun _ h9 => h9) rfl dX11_narrow_27 ?_
        refine lv_iload_n hx hb dX11_narrow_30 rfl (lv_at hl 3 rfl) ?_
        refine lv_iload_n hx hb dX11_narrow_31 rfl (lv_at hl 4 rfl) ?_
        refine er_V (As := [.int za, .int zb]) (rest := []) hFX hKK hE hS (c_X6_stripOf_x l D κ κq st d sh vw ta sa n za zb (by assumption)) 2 gV_X11_189 hdV_X6_stripOf rfl rfl ⟨Nat.le_of_ble_eq_true rfl, Nat.le_of_ble_eq_true rfl⟩ rfl rfl (Nat.le_of_ble_eq_true rfl) dX11_narrow_32 ⟨Nat.le_of_ble_eq_true rfl, Nat.le_of_ble_eq_true rfl⟩ hl.1 hP 1 6 rfl rfl rfl (subP0 hP [1] rfl) (fun _ hp_332 => ?_)
        refine W.eq (g2 := F0 m 35 ls [.null]) rfl ?_
        refine lv_astoreN (lv' := [(6, .null), (5, .null), (4, .int 0), (0, .ref xx), (1, .int za), (2, .int zb), (3, .int zc)]) hx hb dX11_narrow_35 hl (by decide) rfl (fun ls hl => ?_)
        refine lv_aloadN hx hb dX11_narrow_37 (lv_at hl 0 rfl) ?_
        refine lv_ifnullN (tgt := 63) hx hb dX11_narrow_39 (by decide) ?_
        refine lv_iconst (v := (-1)) hx hb dX11_narrow_63 (by decide) ?_
        exact et_iret hx hb hr hlk rfl hS ((-1), fv, im2__323) rfl ⟨(show Tb κ im2__323 fs fv 3 from htb), (show Sb im im2__323 from h_326)⟩ (subP hP [0, 1, 2, 3, 4, 5] rfl) (subD hD [0, 1, 2, 3, 4, 5] (by decide) rfl) (Nat.le_of_ble_eq_true rfl) (Nat.le_of_ble_eq_true rfl) dX11_narrow_64
      · refine W.eq (g2 := F0 m 24 ls [.ref q__328]) rfl ?_
        refine lv_astore (lv' := [(5, .ref q__328), (4, .int 0), (0, .ref xx), (1, .int za), (2, .int zb), (3, .int zc)]) hx hb dX11_narrow_24 hl (by decide) rfl (fun ls hl => ?_)
        refine lv_aload_n hx hb dX11_narrow_26 rfl (lv_at hl 2 rfl) ?_
        refine va_get (D := D) (ci := 11) (v := .ref st) (C := RX11) (T := TX11) (N := 7) hx hb hts inlX11 hown hK hP 0 rfl rfl 0 (by decide) (hts _ mw_15) (fun _ h9 => h9) rfl dX11_narrow_27 ?_
        refine lv_iload_n hx hb dX11_narrow_30 rfl (lv_at hl 3 rfl) ?_
        refine lv_iload_n hx hb dX11_narrow_31 rfl (lv_at hl 4 rfl) ?_
        refine er_V (As := [.int za, .int zb]) (rest := []) hFX hKK hE hS (c_X6_stripOf_x l D κ κq st d sh vw ta sa n za zb (by assumption)) 2 gV_X11_189 hdV_X6_stripOf rfl rfl ⟨Nat.le_of_ble_eq_true rfl, Nat.le_of_ble_eq_true rfl⟩ rfl rfl (Nat.le_of_ble_eq_true rfl) dX11_narrow_32 ⟨Nat.le_of_ble_eq_true rfl, Nat.le_of_ble_eq_true rfl⟩ hl.1 hP 1 6 rfl rfl rfl (subP0 hP [1] rfl) (fun _ hp_333 => ?_)
        refine W.eq (g2 := F0 m 35 ls [.null]) rfl ?_
        refine lv_astoreN (lv' := [(6, .null), (5, .ref q__328), (4, .int 0), (0, .ref xx), (1, .int za), (2, .int zb), (3, .int zc)]) hx hb dX11_narrow_35 hl (by decide) rfl (fun ls hl => ?_)
        refine lv_aloadN hx hb dX11_narrow_37 (lv_at hl 0 rfl) ?_
        refine lv_ifnullN (tgt := 63) hx hb dX11_narrow_39 (by decide) ?_
        refine lv_iconst (v := (-1)) hx hb dX11_narrow_63 (by decide) ?_
        exact et_iret hx hb hr hlk rfl hS ((-1), fv, im2__323) rfl ⟨(show Tb κ im2__323 fs fv 3 from htb), (show Sb im im2__323 from h_326)⟩ (subP hP [0, 1, 2, 3, 4, 5] rfl) (subD hD [0, 1, 2, 3, 4, 5] (by decide) rfl) (Nat.le_of_ble_eq_true rfl) (Nat.le_of_ble_eq_true rfl) dX11_narrow_64
    · have nc_321 := cv_nle (a := L) (b := 0) (by omega) (by omega) c_321
      refine lv_iconst (v := 1) hx hb dX11_narrow_10 (by decide) ?_
      refine lv_goto (tgt := 15) hx hb dX11_narrow_11 (by decide) ?_
      refine lv_istore (lv' := [(4, .int 1), (0, .ref xx), (1, .int za), (2, .int zb), (3, .int zc)]) hx hb dX11_narrow_15 hl (by decide) rfl (fun ls hl => ?_)
      refine lv_aload_n hx hb dX11_narrow_17 rfl (lv_at hl 1 rfl) ?_
      refine va_get (D := D) (ci := 11) (v := .ref tp) (C := RX11) (T := TX11) (N := 7) hx hb hts inlX11 hown hK hP 0 rfl rfl 1 (by decide) (hts _ mw_19) (fun _ h9 => h9) rfl dX11_narrow_18 ?_
      refine et_VT (CR := [(xx, .inr (11, [.ref st, .ref tp, .ref ft, .ref rd, .ref wr, .ref st2, .int zi])), (st, .inr (6, [.ref d, .ref sh, .ref vw, .ref ta, .ref sa, .int (nI n)])), (sh, .inl (κ 4, 3, .inr (.inr (.inr (.inr fs))))), (vw, .inl (κ 5, 3, .inr (.inr (.inr (.inr fv)))))]) (As := []) (rest := []) hFX hKK hE hP hD hS hA (c_X8_takeCell l D κ κq im tp tb L tf (by omega)) 0 gV_X11_110 hdV_X8_takeCell ⟨Nat.le_of_ble_eq_true rfl, Nat.le_of_ble_eq_true rfl⟩ rfl rfl (Nat.le_of_ble_eq_true rfl) dX11_narrow_21 ⟨Nat.le_of_ble_eq_true rfl, Nat.le_of_ble_eq_true rfl⟩ hl.1 [4, 5] [0, 1, 2, 3] rfl rfl (by decide) (by decide) (by decide) hP 4 8 rfl rfl rfl (fun u_336 H locs hp_337 hP hD hS => ?_)
      refine W.widen (k := 2) (n := 23) (Nat.le_refl _) (Nat.le_refl _) ?_
      obtain ⟨r__334, im2__335⟩ := u_336
      replace hP : va_P D vwCl ([(xx, .inr (11, [.ref st, .ref tp, .ref ft, .ref rd, .ref wr, .ref st2, .int zi])), (st, .inr (6, [.ref d, .ref sh, .ref vw, .ref ta, .ref sa, .int (nI n)])), (sh, .inl (κ 4, 3, .inr (.inr (.inr (.inr fs))))), (vw, .inl (κ 5, 3, .inr (.inr (.inr (.inr fv))))), (tp, .inr (8, [.ref tb, .int 0])), (tb, .inl (κ 0, 800, .inl tf))] ++ im2__335) H := subP (C := [(xx, .inr (11, [.ref st, .ref tp, .ref ft, .ref rd, .ref wr, .ref st2, .int zi])), (st, .inr (6, [.ref d, .ref sh, .ref vw, .ref ta, .ref sa, .int (nI n)])), (sh, .inl (κ 4, 3, .inr (.inr (.inr (.inr fs))))), (vw, .inl (κ 5, 3, .inr (.inr (.inr (.inr fv))))), (tp, .inr (8, [.ref tb, .int 0])), (tb, .inl (κ 0, 800, .inl tf))]) hP [0, 1, 2, 3, 4, 5] rfl
      replace hD : va_D A ([(xx, .inr (11, [.ref st, .ref tp, .ref ft, .ref rd, .ref wr, .ref st2, .int zi])), (st, .inr (6, [.ref d, .ref sh, .ref vw, .ref ta, .ref sa, .int (nI n)])), (sh, .inl (κ 4, 3, .inr (.inr (.inr (.inr fs))))), (vw, .inl (κ 5, 3, .inr (.inr (.inr (.inr fv))))), (tp, .inr (8, [.ref tb, .int 0])), (tb, .inl (κ 0, 800, .inl tf))] ++ im2__335) := subD (C := [(xx, .inr (11, [.ref st, .ref tp, .ref ft, .ref rd, .ref wr, .ref st2, .int zi])), (st, .inr (6, [.ref d, .ref sh, .ref vw, .ref ta, .ref sa, .int (nI n)])), (sh, .inl (κ 4, 3, .inr (.inr (.inr (.inr fs))))), (vw, .inl (κ 5, 3, .inr (.inr (.inr (.inr fv))))), (tp, .inr (8, [.ref tb, .int 0])), (tb, .inl (κ 0, 800, .inl tf))]) hD [0, 1, 2, 3, 4, 5] (by decide) rfl
      replace hp_337 : Sb im im2__335 ∧ ((r__334 = none) ∨ (∃ (q : Nat), ∃ (k : Nat), ∃ (n : Nat), r__334 = some q ∧ Cl κ im2__335 q k n)) := hp_337
      obtain ⟨h_338, ha_339⟩ := hp_337
      replace htb := htb.up h_338
      rcases ha_339 with rfl | ⟨q__340, k__341, n__342, rfl, a_343⟩
      · refine W.eq (g2 := F0 m 24 ls [.null]) rfl ?_
        refine lv_astoreN (lv' := [(5, .null), (4, .int 1), (0, .ref xx), (1, .int za), (2, .int zb), (3, .int zc)]) hx hb dX11_narrow_24 hl (by decide) rfl (fun ls hl => ?_)
        refine lv_aload_n hx hb dX11_narrow_26 rfl (lv_at hl 2 rfl) ?_
        refine va_get (D := D) (ci := 11) (v := .ref st) (C := RX11) (T := TX11) (N := 7) hx hb hts inlX11 hown hK hP 0 rfl rfl 0 (by decide) (hts _ mw_15) (fun _ h9 => h9) rfl dX11_narrow_27 ?_
        refine lv_iload_n hx hb dX11_narrow_30 rfl (lv_at hl 3 rfl) ?_
        refine lv_iload_n hx hb dX11_narrow_31 rfl (lv_at hl 4 rfl) ?_
        refine er_V (As := [.int za, .int zb]) (rest := []) hFX hKK hE hS (c_X6_stripOf_x l D κ κq st d sh vw ta sa n za zb (by assumption)) 2 gV_X11_189 hdV_X6_stripOf rfl rfl ⟨Nat.le_of_ble_eq_true rfl, Nat.le_of_ble_eq_true rfl⟩ rfl rfl (Nat.le_of_ble_eq_true rfl) dX11_narrow_32 ⟨Nat.le_of_ble_eq_true rfl, Nat.le_of_ble_eq_true rfl⟩ hl.1 hP 1 6 rfl rfl rfl (subP0 hP [1] rfl) (fun _ hp_344 => ?_)
        refine W.eq (g2 := F0 m 35 ls [.null]) rfl ?_
        refine lv_astoreN (lv' := [(6, .null), (5, .null), (4, .int 1), (0, .ref xx), (1, .int za), (2, .int zb), (3, .int zc)]) hx hb dX11_narrow_35 hl (by decide) rfl (fun ls hl => ?_)
        refine lv_aloadN hx hb dX11_narrow_37 (lv_at hl 0 rfl) ?_
        refine lv_ifnullN (tgt := 63) hx hb dX11_narrow_39 (by decide) ?_
        refine lv_iconst (v := (-1)) hx hb dX11_narrow_63 (by decide) ?_
        exact et_iret hx hb hr hlk rfl hS ((-1), fv, im2__335) rfl ⟨(show Tb κ im2__335 fs fv 3 from htb), (show Sb im im2__335 from h_338)⟩ (subP hP [0, 1, 2, 3, 4, 5] rfl) (subD hD [0, 1, 2, 3, 4, 5] (by decide) rfl) (Nat.le_of_ble_eq_true rfl) (Nat.le_of_ble_eq_true rfl) dX11_narrow_64
      · refine W.eq (g2 := F0 m 24 ls [.ref q__340]) rfl ?_
        refine lv_astore (lv' := [(5, .ref q__340), (4, .int 1), (0, .ref xx), (1, .int za), (2, .int zb), (3, .int zc)]) hx hb dX11_narrow_24 hl (by decide) rfl (fun ls hl => ?_)
        refine lv_aload_n hx hb dX11_narrow_26 rfl (lv_at hl 2 rfl) ?_
        refine va_get (D := D) (ci := 11) (v := .ref st) (C := RX11) (T := TX11) (N := 7) hx hb hts inlX11 hown hK hP 0 rfl rfl 0 (by decide) (hts _ mw_15) (fun _ h9 => h9) rfl dX11_narrow_27 ?_
        refine lv_iload_n hx hb dX11_narrow_30 rfl (lv_at hl 3 rfl) ?_
        refine lv_iload_n hx hb dX11_narrow_31 rfl (lv_at hl 4 rfl) ?_
        refine er_V (As := [.int za, .int zb]) (rest := []) hFX hKK hE hS (c_X6_stripOf_x l D κ κq st d sh vw ta sa n za zb (by assumption)) 2 gV_X11_189 hdV_X6_stripOf rfl rfl ⟨Nat.le_of_ble_eq_true rfl, Nat.le_of_ble_eq_true rfl⟩ rfl rfl (Nat.le_of_ble_eq_true rfl) dX11_narrow_32 ⟨Nat.le_of_ble_eq_true rfl, Nat.le_of_ble_eq_true rfl⟩ hl.1 hP 1 6 rfl rfl rfl (subP0 hP [1] rfl) (fun _ hp_345 => ?_)
        refine W.eq (g2 := F0 m 35 ls [.null]) rfl ?_
        refine lv_astoreN (lv' := [(6, .null), (5, .ref q__340), (4, .int 1), (0, .ref xx), (1, .int za), (2, .int zb), (3, .int zc)]) hx hb dX11_narrow_35 hl (by decide) rfl (fun ls hl => ?_)
        refine lv_aloadN hx hb dX11_narrow_37 (lv_at hl 0 rfl) ?_
        refine lv_ifnullN (tgt := 63) hx hb dX11_narrow_39 (by decide) ?_
        refine lv_iconst (v := (-1)) hx hb dX11_narrow_63 (by decide) ?_
        exact et_iret hx hb hr hlk rfl hS ((-1), fv, im2__335) rfl ⟨(show Tb κ im2__335 fs fv 3 from htb), (show Sb im im2__335 from h_338)⟩ (subP hP [0, 1, 2, 3, 4, 5] rfl) (subD hD [0, 1, 2, 3, 4, 5] (by decide) rfl) (Nat.le_of_ble_eq_true rfl) (Nat.le_of_ble_eq_true rfl) dX11_narrow_64
set_option maxHeartbeats 4000000 in
set_option maxRecDepth 100000 in
theorem c_X11_order (l : Launch) (D : va_G) (κ : Nat → ClassId) (κq : Nat → Nat) (im : va_W) (xx : Nat) (tp : Nat) (ft : Nat) (rd : Nat) (wr : Nat) (st2 : Nat) (zi : Int32) (st : Nat) (d : Nat) (sh : Nat) (vw : Nat) (ta : Nat) (sa : Nat) (n : Nat) (fs : Nat → Option Nat) (fv : Nat → Option Nat) (za : Int32) (zb : Int32) (zd : Int32) (htb : Tb κ im fs fv 3) : Et l yX11_order (wl yX11_order cX11_order 5 (some .int)) { frames := 6, cells := 8, slots := 200, locals := 134 } D κ κq [.ref xx, .int za, .int zb, .int zd] ([(xx, .inr (11, [.ref st, .ref tp, .ref ft, .ref rd, .ref wr, .ref st2, .int zi])), (st, .inr (6, [.ref d, .ref sh, .ref vw, .ref ta, .ref sa, .int (nI n)])), (sh, .inl (κ 4, 3, .inr (.inr (.inr (.inr fs))))), (vw, .inl (κ 5, 3, .inr (.inr (.inr (.inr fv)))))] ++ im) (fun u9 : Int32 × (Nat → Option Nat) × va_W => some (.int u9.1)) (fun u9 : Int32 × (Nat → Option Nat) × va_W => Tb κ u9.2.2 fs u9.2.1 3 ∧ Sb im u9.2.2) (fun u9 : Int32 × (Nat → Option Nat) × va_W => ([(xx, .inr (11, [.ref st, .ref tp, .ref ft, .ref rd, .ref wr, .ref st2, .int zi])), (st, .inr (6, [.ref d, .ref sh, .ref vw, .ref ta, .ref sa, .int (nI n)])), (sh, .inl (κ 4, 3, .inr (.inr (.inr (.inr fs))))), (vw, .inl (κ 5, 3, .inr (.inr (.inr (.inr u9.2.1)))))] ++ u9.2.2)) := by
  refine et_of (by decide +kernel) (Nat.le_of_ble_eq_true rfl) ?_
  intro p e s m args below meth c A ls hx hb hr hml hts hown hlk hin hKK hK hA hP hD hS hE hl
  have hS : va_S A s.heap s.heap [] := hS
  have hP : va_P D vwCl ([(xx, .inr (11, [.ref st, .ref tp, .ref ft, .ref rd, .ref wr, .ref st2, .int zi])), (st, .inr (6, [.ref d, .ref sh, .ref vw, .ref ta, .ref sa, .int (nI n)])), (sh, .inl (κ 4, 3, .inr (.inr (.inr (.inr fs))))), (vw, .inl (κ 5, 3, .inr (.inr (.inr (.inr fv)))))] ++ im) s.heap := hP
  have hD : va_D A ([(xx, .inr (11, [.ref st, .ref tp, .ref ft, .ref rd, .ref wr, .ref st2, .int zi])), (st, .inr (6, [.ref d, .ref sh, .ref vw, .ref ta, .ref sa, .int (nI n)])), (sh, .inl (κ 4, 3, .inr (.inr (.inr (.inr fs))))), (vw, .inl (κ 5, 3, .inr (.inr (.inr (.inr fv)))))] ++ im) := hD
  have hFX : FX p s m args c cX11_order 5 RX11 := ⟨hx, hb, hml, hown, hts⟩
  have hl : lv_has ls 5 [(0, .ref xx), (1, .int za), (2, .int zb), (3, .int zd)] := hl
  rcases pl_cases za with ⟨t, ht_t, rfl⟩ | hnp_za
  · skip
    rcases htb t (by omega) with ⟨e_1, e_2⟩ | ⟨a_3, R_4, w_5, d_6, v_7, e_1, e_2, h_8, h_9, hd_10⟩
    · skip
      refine lv_aload_n hx hb dX11_order_0 rfl (lv_at hl 0 rfl) ?_
      refine va_get (D := D) (ci := 11) (v := .ref st) (C := RX11) (T := TX11) (N := 7) hx hb hts inlX11 hown hK hP 0 rfl rfl 0 (by decide) (hts _ mw_15) (fun _ h9 => h9) rfl dX11_order_1 ?_
      refine lv_iload_n hx hb dX11_order_4 rfl (lv_at hl 1 rfl) ?_
      refine lv_iload_n hx hb dX11_order_5 rfl (lv_at hl 2 rfl) ?_
      refine er_V (As := [.int (nI t), .int zb]) (rest := []) hFX hKK hE hS (c_X6_stripOf_n l D κ κq st d sh vw ta sa n fs fv t zb (by omega) e_1 e_2) 2 gV_X11_189 hdV_X6_stripOf rfl rfl ⟨Nat.le_of_ble_eq_true rfl, Nat.le_of_ble_eq_true rfl⟩ rfl rfl (Nat.le_of_ble_eq_true rfl) dX11_order_6 ⟨Nat.le_of_ble_eq_true rfl, Nat.le_of_ble_eq_true rfl⟩ hl.1 hP 1 6 rfl rfl rfl (subP0 hP [1, 2, 3] rfl) (fun _ hp_11 => ?_)
      refine W.eq (g2 := F0 m 9 ls [.null]) rfl ?_
      refine lv_astoreN (lv' := [(4, .null), (0, .ref xx), (1, .int (nI t)), (2, .int zb), (3, .int zd)]) hx hb dX11_order_9 hl (by decide) rfl (fun ls hl => ?_)
      refine lv_aloadN hx hb dX11_order_11 (lv_at hl 0 rfl) ?_
      refine lv_ifnullN (tgt := 27) hx hb dX11_order_13 (by decide) ?_
      refine lv_iconst (v := (-1)) hx hb dX11_order_27 (by decide) ?_
      exact et_iret hx hb hr hlk rfl hS ((-1), fv, im) rfl ⟨(show Tb κ im fs fv 3 from htb), (show Sb im im from Sb.rf)⟩ (subP hP [0, 1, 2, 3] rfl) (subD hD [0, 1, 2, 3] (by decide) rfl) (Nat.le_of_ble_eq_true rfl) (Nat.le_of_ble_eq_true rfl) dX11_order_28
    · have hle_a_3 := h_8.le
      refine lv_aload_n hx hb dX11_order_0 rfl (lv_at hl 0 rfl) ?_
      refine va_get (D := D) (ci := 11) (v := .ref st) (C := RX11) (T := TX11) (N := 7) hx hb hts inlX11 hown hK hP 0 rfl rfl 0 (by decide) (hts _ mw_15) (fun _ h9 => h9) rfl dX11_order_1 ?_
      refine lv_iload_n hx hb dX11_order_4 rfl (lv_at hl 1 rfl) ?_
      refine lv_iload_n hx hb dX11_order_5 rfl (lv_at hl 2 rfl) ?_
      refine et_VT (CR := [(xx, .inr (11, [.ref st, .ref tp, .ref ft, .ref rd, .ref wr, .ref st2, .int zi]))]) (As := [.int (nI t), .int zb]) (rest := []) hFX hKK hE hP hD hS hA (c_X6_stripOf_s l D κ κq im st d sh vw ta sa n fs fv t a_3 R_4 w_5 v_7 d_6 zb (by omega) e_1 e_2 h_8 h_9) 2 gV_X11_189 hdV_X6_stripOf ⟨Nat.le_of_ble_eq_true rfl, Nat.le_of_ble_eq_true rfl⟩ rfl rfl (Nat.le_of_ble_eq_true rfl) dX11_order_6 ⟨Nat.le_of_ble_eq_true rfl, Nat.le_of_ble_eq_true rfl⟩ hl.1 [1, 2, 3] [0] rfl rfl (by decide) (by decide) (by decide) hP 1 6 rfl rfl rfl (fun u_14 H locs hp_15 hP hD hS => ?_)
      refine W.widen (k := 1) (n := 4) (Nat.le_refl _) (Nat.le_refl _) ?_
      obtain ⟨r__12, im2__13⟩ := u_14
      replace hP : va_P D vwCl ([(xx, .inr (11, [.ref st, .ref tp, .ref ft, .ref rd, .ref wr, .ref st2, .int zi])), (st, .inr (6, [.ref d, .ref sh, .ref vw, .ref ta, .ref sa, .int (nI n)])), (sh, .inl (κ 4, 3, .inr (.inr (.inr (.inr fs))))), (vw, .inl (κ 5, 3, .inr (.inr (.inr (.inr fv)))))] ++ im2__13) H := subP (C := [(xx, .inr (11, [.ref st, .ref tp, .ref ft, .ref rd, .ref wr, .ref st2, .int zi])), (st, .inr (6, [.ref d, .ref sh, .ref vw, .ref ta, .ref sa, .int (nI n)])), (sh, .inl (κ 4, 3, .inr (.inr (.inr (.inr fs))))), (vw, .inl (κ 5, 3, .inr (.inr (.inr (.inr fv)))))]) hP [0, 1, 2, 3] rfl
      replace hD : va_D A ([(xx, .inr (11, [.ref st, .ref tp, .ref ft, .ref rd, .ref wr, .ref st2, .int zi])), (st, .inr (6, [.ref d, .ref sh, .ref vw, .ref ta, .ref sa, .int (nI n)])), (sh, .inl (κ 4, 3, .inr (.inr (.inr (.inr fs))))), (vw, .inl (κ 5, 3, .inr (.inr (.inr (.inr fv)))))] ++ im2__13) := subD (C := [(xx, .inr (11, [.ref st, .ref tp, .ref ft, .ref rd, .ref wr, .ref st2, .int zi])), (st, .inr (6, [.ref d, .ref sh, .ref vw, .ref ta, .ref sa, .int (nI n)])), (sh, .inl (κ 4, 3, .inr (.inr (.inr (.inr fs))))), (vw, .inl (κ 5, 3, .inr (.inr (.inr (.inr fv)))))]) hD [0, 1, 2, 3] (by decide) rfl
      replace hp_15 : Sb im im2__13 ∧ ((r__12 = none) ∨ (∃ (q : Nat), ∃ (co : Nat), ∃ (ra : Nat), ∃ (mq : Nat), ∃ (ty : Nat), r__12 = some q ∧ Sp κ im2__13 q a_3 R_4 w_5 co ra mq ty)) := hp_15
      obtain ⟨h_16, ha_17⟩ := hp_15
      replace htb := htb.up h_16
      replace h_8 := h_8.up h_16
      replace h_9 := h_9.up h_16
      rcases ha_17 with rfl | ⟨q__18, co__19, ra__20, mq__21, ty__22, rfl, a_23⟩
      · refine W.eq (g2 := F0 m 9 ls [.null]) rfl ?_
        refine lv_astoreN (lv' := [(4, .null), (0, .ref xx), (1, .int (nI t)), (2, .int zb), (3, .int zd)]) hx hb dX11_order_9 hl (by decide) rfl (fun ls hl => ?_)
        refine lv_aloadN hx hb dX11_order_11 (lv_at hl 0 rfl) ?_
        refine lv_ifnullN (tgt := 27) hx hb dX11_order_13 (by decide) ?_
        refine lv_iconst (v := (-1)) hx hb dX11_order_27 (by decide) ?_
        exact et_iret hx hb hr hlk rfl hS ((-1), fv, im2__13) rfl ⟨(show Tb κ im2__13 fs fv 3 from htb), (show Sb im im2__13 from h_16)⟩ (subP hP [0, 1, 2, 3] rfl) (subD hD [0, 1, 2, 3] (by decide) rfl) (Nat.le_of_ble_eq_true rfl) (Nat.le_of_ble_eq_true rfl) dX11_order_28
      · refine W.eq (g2 := F0 m 9 ls [.ref q__18]) rfl ?_
        refine lv_astore (lv' := [(4, .ref q__18), (0, .ref xx), (1, .int (nI t)), (2, .int zb), (3, .int zd)]) hx hb dX11_order_9 hl (by decide) rfl (fun ls hl => ?_)
        refine lv_aload hx hb dX11_order_11 (lv_at hl 0 rfl) ?_
        refine lv_ifnull hx hb dX11_order_13 ?_
        refine lv_aload_n hx hb dX11_order_16 rfl (lv_at hl 1 rfl) ?_
        refine va_get (D := D) (ci := 11) (v := .ref st) (C := RX11) (T := TX11) (N := 7) hx hb hts inlX11 hown hK hP 0 rfl rfl 0 (by decide) (hts _ mw_15) (fun _ h9 => h9) rfl dX11_order_17 ?_
        refine lv_iload_n hx hb dX11_order_20 rfl (lv_at hl 2 rfl) ?_
        refine er_V (As := [.int (nI t)]) (rest := []) hFX hKK hE hS (c_X6_canStack_s l D κ κq im2__13 st d sh vw ta sa n fv t v_7 d_6 R_4 (by omega) e_2 h_9 (by omega)) 1 gV_X11_205 hdV_X6_canStack rfl rfl ⟨Nat.le_of_ble_eq_true rfl, Nat.le_of_ble_eq_true rfl⟩ rfl rfl (Nat.le_of_ble_eq_true rfl) dX11_order_21 ⟨Nat.le_of_ble_eq_true rfl, Nat.le_of_ble_eq_true rfl⟩ hl.1 hP 1 6 rfl rfl rfl (subP hP [1, 3] rfl) (fun r__24 hp_25 => ?_)
        replace hp_25 : ((r__24 = 1 ∧ d_6 ≤ 5) ∨ (r__24 = 0)) := hp_25
        have ha_26 := hp_25
        clear hp_25
        rcases ha_26 with ⟨rfl, a_27⟩ | rfl
        · refine W.eq (g2 := F0 m 24 ls [.int 1]) rfl ?_
          refine lv_if_ne (tgt := 29) hx hb dX11_order_24 (by decide) (fun c_28 => ?_) (fun c_28 => absurd c_28 (by decide))
          refine lv_aload_n hx hb dX11_order_29 rfl (lv_at hl 1 rfl) ?_
          refine va_get (D := D) (ci := 11) (v := .ref st) (C := RX11) (T := TX11) (N := 7) hx hb hts inlX11 hown hK hP 0 rfl rfl 0 (by decide) (hts _ mw_15) (fun _ h9 => h9) rfl dX11_order_30 ?_
          refine lv_iload_n hx hb dX11_order_33 rfl (lv_at hl 2 rfl) ?_
          refine lv_aload hx hb dX11_order_34 (lv_at hl 0 rfl) ?_
          refine lv_iload_n hx hb dX11_order_36 rfl (lv_at hl 4 rfl) ?_
          obtain ⟨h_33, h_34, hm_35, h_36, h_37⟩ := id a_23
          refine et_VT (CR := [(xx, .inr (11, [.ref st, .ref tp, .ref ft, .ref rd, .ref wr, .ref st2, .int zi])), (st, .inr (6, [.ref d, .ref sh, .ref vw, .ref ta, .ref sa, .int (nI n)])), (sh, .inl (κ 4, 3, .inr (.inr (.inr (.inr fs))))), (vw, .inl (κ 5, 3, .inr (.inr (.inr (.inr fv)))))]) (As := [.int zd]) (rest := [.int (nI t), .ref st]) hFX hKK hE hP hD hS hA (c_X7_ordered l D κ κq im2__13 q__18 a_3 R_4 w_5 co__19 ra__20 mq__21 ty__22 zd a_23) 1 gV_X11_227 hdV_X7_ordered ⟨Nat.le_of_ble_eq_true rfl, Nat.le_of_ble_eq_true rfl⟩ rfl rfl (Nat.le_of_ble_eq_true rfl) dX11_order_37 ⟨Nat.le_of_ble_eq_true rfl, Nat.le_of_ble_eq_true rfl⟩ hl.1 [] [0, 1, 2, 3] rfl rfl (by decide) (by decide) (by decide) (oneP (C := [(xx, .inr (11, [.ref st, .ref tp, .ref ft, .ref rd, .ref wr, .ref st2, .int zi])), (st, .inr (6, [.ref d, .ref sh, .ref vw, .ref ta, .ref sa, .int (nI n)])), (sh, .inl (κ 4, 3, .inr (.inr (.inr (.inr fs))))), (vw, .inl (κ 5, 3, .inr (.inr (.inr (.inr fv)))))]) hP hm_35) 0 7 rfl rfl rfl (fun u_31 H locs hp_32 hP hD hS => ?_)
          refine W.widen (k := 2) (n := 44) (Nat.le_refl _) (Nat.le_refl _) ?_
          obtain ⟨p__29, im2__30⟩ := u_31
          replace hP : va_P D vwCl ([(xx, .inr (11, [.ref st, .ref tp, .ref ft, .ref rd, .ref wr, .ref st2, .int zi])), (st, .inr (6, [.ref d, .ref sh, .ref vw, .ref ta, .ref sa, .int (nI n)])), (sh, .inl (κ 4, 3, .inr (.inr (.inr (.inr fs))))), (vw, .inl (κ 5, 3, .inr (.inr (.inr (.inr fv)))))] ++ im2__30) H := subP (C := [(xx, .inr (11, [.ref st, .ref tp, .ref ft, .ref rd, .ref wr, .ref st2, .int zi])), (st, .inr (6, [.ref d, .ref sh, .ref vw, .ref ta, .ref sa, .int (nI n)])), (sh, .inl (κ 4, 3, .inr (.inr (.inr (.inr fs))))), (vw, .inl (κ 5, 3, .inr (.inr (.inr (.inr fv)))))]) hP [0, 1, 2, 3] rfl
          replace hD : va_D A ([(xx, .inr (11, [.ref st, .ref tp, .ref ft, .ref rd, .ref wr, .ref st2, .int zi])), (st, .inr (6, [.ref d, .ref sh, .ref vw, .ref ta, .ref sa, .int (nI n)])), (sh, .inl (κ 4, 3, .inr (.inr (.inr (.inr fs))))), (vw, .inl (κ 5, 3, .inr (.inr (.inr (.inr fv)))))] ++ im2__30) := subD (C := [(xx, .inr (11, [.ref st, .ref tp, .ref ft, .ref rd, .ref wr, .ref st2, .int zi])), (st, .inr (6, [.ref d, .ref sh, .ref vw, .ref ta, .ref sa, .int (nI n)])), (sh, .inl (κ 4, 3, .inr (.inr (.inr (.inr fs))))), (vw, .inl (κ 5, 3, .inr (.inr (.inr (.inr fv)))))]) hD [0, 1, 2, 3] (by decide) rfl
          replace hp_32 : Sb im2__13 im2__30 ∧ Ix κ im2__30 p__29 mq__21 R_4 := hp_32
          obtain ⟨h_38, h_39⟩ := hp_32
          replace htb := htb.up h_38
          replace h_8 := h_8.up h_38
          replace h_9 := h_9.up h_38
          replace a_23 := a_23.up h_38
          replace h_36 := h_36.up h_38
          replace h_37 := h_37.up h_38
          replace hm_35 := h_38 _ hm_35
          refine W.eq (g2 := F0 m 40 ls [.ref p__29, .int (nI t), .ref st]) rfl ?_
          refine et_VT (CR := [(xx, .inr (11, [.ref st, .ref tp, .ref ft, .ref rd, .ref wr, .ref st2, .int zi])), (sh, .inl (κ 4, 3, .inr (.inr (.inr (.inr fs)))))]) (As := [.int (nI t), .ref p__29]) (rest := []) hFX hKK hE hP hD hS hA (c_X6_stack l D κ κq im2__30 st d sh vw ta sa n fs fv t a_3 R_4 w_5 v_7 d_6 p__29 mq__21 (by omega) htb e_1 e_2 h_36 h_9 (by omega) h_39) 2 gV_X11_223 hdV_X6_stack ⟨Nat.le_of_ble_eq_true rfl, Nat.le_of_ble_eq_true rfl⟩ rfl rfl (Nat.le_of_ble_eq_true rfl) dX11_order_40 ⟨Nat.le_of_ble_eq_true rfl, Nat.le_of_ble_eq_true rfl⟩ hl.1 [1, 3] [0, 2] rfl rfl (by decide) (by decide) (by decide) hP 1 6 rfl rfl rfl (fun u_42 H locs hp_43 hP hD hS => ?_)
          refine W.widen (k := 3) (n := 47) (Nat.le_refl _) (Nat.le_refl _) ?_
          obtain ⟨gv__40, im2__41⟩ := u_42
          replace hP : va_P D vwCl ([(xx, .inr (11, [.ref st, .ref tp, .ref ft, .ref rd, .ref wr, .ref st2, .int zi])), (st, .inr (6, [.ref d, .ref sh, .ref vw, .ref ta, .ref sa, .int (nI n)])), (sh, .inl (κ 4, 3, .inr (.inr (.inr (.inr fs))))), (vw, .inl (κ 5, 3, .inr (.inr (.inr (.inr gv__40)))))] ++ im2__41) H := subP (C := [(xx, .inr (11, [.ref st, .ref tp, .ref ft, .ref rd, .ref wr, .ref st2, .int zi])), (sh, .inl (κ 4, 3, .inr (.inr (.inr (.inr fs))))), (st, .inr (6, [.ref d, .ref sh, .ref vw, .ref ta, .ref sa, .int (nI n)])), (vw, .inl (κ 5, 3, .inr (.inr (.inr (.inr gv__40)))))]) hP [0, 2, 1, 3] rfl
          replace hD : va_D A ([(xx, .inr (11, [.ref st, .ref tp, .ref ft, .ref rd, .ref wr, .ref st2, .int zi])), (st, .inr (6, [.ref d, .ref sh, .ref vw, .ref ta, .ref sa, .int (nI n)])), (sh, .inl (κ 4, 3, .inr (.inr (.inr (.inr fs))))), (vw, .inl (κ 5, 3, .inr (.inr (.inr (.inr gv__40)))))] ++ im2__41) := subD (C := [(xx, .inr (11, [.ref st, .ref tp, .ref ft, .ref rd, .ref wr, .ref st2, .int zi])), (sh, .inl (κ 4, 3, .inr (.inr (.inr (.inr fs))))), (st, .inr (6, [.ref d, .ref sh, .ref vw, .ref ta, .ref sa, .int (nI n)])), (vw, .inl (κ 5, 3, .inr (.inr (.inr (.inr gv__40)))))]) hD [0, 2, 1, 3] (by decide) rfl
          replace hp_43 : Sb im2__30 im2__41 ∧ Tb κ im2__41 fs gv__40 3 := hp_43
          obtain ⟨h_44, h_45⟩ := hp_43
          replace htb := htb.up h_44
          replace h_8 := h_8.up h_44
          replace h_9 := h_9.up h_44
          replace a_23 := a_23.up h_44
          replace h_36 := h_36.up h_44
          replace h_37 := h_37.up h_44
          replace h_39 := h_39.up h_44
          replace hm_35 := h_44 _ hm_35
          refine W.eq (g2 := F0 m 43 ls [.int (nI mq__21)]) rfl ?_
          exact et_iret hx hb hr hlk rfl hS (nI mq__21, gv__40, im2__41) rfl ⟨(show Tb κ im2__41 fs gv__40 3 from h_45), (show Sb im im2__41 from (Sb.tr (Sb.tr h_16 h_38) h_44))⟩ (subP hP [0, 1, 2, 3] rfl) (subD hD [0, 1, 2, 3] (by decide) rfl) (Nat.le_of_ble_eq_true rfl) (Nat.le_of_ble_eq_true rfl) dX11_order_43
        · refine W.eq (g2 := F0 m 24 ls [.int 0]) rfl ?_
          refine lv_if_ne (tgt := 29) hx hb dX11_order_24 (by decide) (fun c_46 => absurd c_46 (by decide)) (fun c_46 => ?_)
          refine lv_iconst (v := (-1)) hx hb dX11_order_27 (by decide) ?_
          exact et_iret hx hb hr hlk rfl hS ((-1), fv, im2__13) rfl ⟨(show Tb κ im2__13 fs fv 3 from htb), (show Sb im im2__13 from h_16)⟩ (subP hP [0, 1, 2, 3] rfl) (subD hD [0, 1, 2, 3] (by decide) rfl) (Nat.le_of_ble_eq_true rfl) (Nat.le_of_ble_eq_true rfl) dX11_order_28
  · skip
    refine lv_aload_n hx hb dX11_order_0 rfl (lv_at hl 0 rfl) ?_
    refine va_get (D := D) (ci := 11) (v := .ref st) (C := RX11) (T := TX11) (N := 7) hx hb hts inlX11 hown hK hP 0 rfl rfl 0 (by decide) (hts _ mw_15) (fun _ h9 => h9) rfl dX11_order_1 ?_
    refine lv_iload_n hx hb dX11_order_4 rfl (lv_at hl 1 rfl) ?_
    refine lv_iload_n hx hb dX11_order_5 rfl (lv_at hl 2 rfl) ?_
    refine er_V (As := [.int za, .int zb]) (rest := []) hFX hKK hE hS (c_X6_stripOf_x l D κ κq st d sh vw ta sa n za zb (by assumption)) 2 gV_X11_189 hdV_X6_stripOf rfl rfl ⟨Nat.le_of_ble_eq_true rfl, Nat.le_of_ble_eq_true rfl⟩ rfl rfl (Nat.le_of_ble_eq_true rfl) dX11_order_6 ⟨Nat.le_of_ble_eq_true rfl, Nat.le_of_ble_eq_true rfl⟩ hl.1 hP 1 6 rfl rfl rfl (subP0 hP [1] rfl) (fun _ hp_47 => ?_)
    refine W.eq (g2 := F0 m 9 ls [.null]) rfl ?_
    refine lv_astoreN (lv' := [(4, .null), (0, .ref xx), (1, .int za), (2, .int zb), (3, .int zd)]) hx hb dX11_order_9 hl (by decide) rfl (fun ls hl => ?_)
    refine lv_aloadN hx hb dX11_order_11 (lv_at hl 0 rfl) ?_
    refine lv_ifnullN (tgt := 27) hx hb dX11_order_13 (by decide) ?_
    refine lv_iconst (v := (-1)) hx hb dX11_order_27 (by decide) ?_
    exact et_iret hx hb hr hlk rfl hS ((-1), fv, im) rfl ⟨(show Tb κ im fs fv 3 from htb), (show Sb im im from Sb.rf)⟩ (subP hP [0, 1, 2, 3] rfl) (subD hD [0, 1, 2, 3] (by decide) rfl) (Nat.le_of_ble_eq_true rfl) (Nat.le_of_ble_eq_true rfl) dX11_order_28
set_option maxHeartbeats 4000000 in
set_option maxRecDepth 100000 in
theorem c_X11_cut (l : Launch) (D : va_G) (κ : Nat → ClassId) (κq : Nat → Nat) (im : va_W) (xx : Nat) (tp : Nat) (ft : Nat) (rd : Nat) (wr : Nat) (st2 : Nat) (zi : Int32) (st : Nat) (d : Nat) (sh : Nat) (vw : Nat) (ta : Nat) (sa : Nat) (n : Nat) (fs : Nat → Option Nat) (fv : Nat → Option Nat) (za : Int32) (zb : Int32) (zc : Int32) (htb : Tb κ im fs fv 3) : Et l yX11_cut (wl yX11_cut cX11_cut 7 (some .int)) { frames := 3, cells := 8, slots := 200, locals := 67 } D κ κq [.ref xx, .int za, .int zb, .int zc] ([(xx, .inr (11, [.ref st, .ref tp, .ref ft, .ref rd, .ref wr, .ref st2, .int zi])), (st, .inr (6, [.ref d, .ref sh, .ref vw, .ref ta, .ref sa, .int (nI n)])), (sh, .inl (κ 4, 3, .inr (.inr (.inr (.inr fs))))), (vw, .inl (κ 5, 3, .inr (.inr (.inr (.inr fv)))))] ++ im) (fun u9 : Int32 × (Nat → Option Nat) × va_W => some (.int u9.1)) (fun u9 : Int32 × (Nat → Option Nat) × va_W => Tb κ u9.2.2 fs u9.2.1 3 ∧ Sb im u9.2.2) (fun u9 : Int32 × (Nat → Option Nat) × va_W => ([(xx, .inr (11, [.ref st, .ref tp, .ref ft, .ref rd, .ref wr, .ref st2, .int zi])), (st, .inr (6, [.ref d, .ref sh, .ref vw, .ref ta, .ref sa, .int (nI n)])), (sh, .inl (κ 4, 3, .inr (.inr (.inr (.inr fs))))), (vw, .inl (κ 5, 3, .inr (.inr (.inr (.inr u9.2.1)))))] ++ u9.2.2)) := by
  refine et_of (by decide +kernel) (Nat.le_of_ble_eq_true rfl) ?_
  intro p e s m args below meth c A ls hx hb hr hml hts hown hlk hin hKK hK hA hP hD hS hE hl
  have hS : va_S A s.heap s.heap [] := hS
  have hP : va_P D vwCl ([(xx, .inr (11, [.ref st, .ref tp, .ref ft, .ref rd, .ref wr, .ref st2, .int zi])), (st, .inr (6, [.ref d, .ref sh, .ref vw, .ref ta, .ref sa, .int (nI n)])), (sh, .inl (κ 4, 3, .inr (.inr (.inr (.inr fs))))), (vw, .inl (κ 5, 3, .inr (.inr (.inr (.inr fv)))))] ++ im) s.heap := hP
  have hD : va_D A ([(xx, .inr (11, [.ref st, .ref tp, .ref ft, .ref rd, .ref wr, .ref st2, .int zi])), (st, .inr (6, [.ref d, .ref sh, .ref vw, .ref ta, .ref sa, .int (nI n)])), (sh, .inl (κ 4, 3, .inr (.inr (.inr (.inr fs))))), (vw, .inl (κ 5, 3, .inr (.inr (.inr (.inr fv)))))] ++ im) := hD
  have hFX : FX p s m args c cX11_cut 7 RX11 := ⟨hx, hb, hml, hown, hts⟩
  have hl : lv_has ls 7 [(0, .ref xx), (1, .int za), (2, .int zb), (3, .int zc)] := hl
  rcases pl_cases za with ⟨t, ht_t, rfl⟩ | hnp_za
  · skip
    rcases htb t (by omega) with ⟨e_1, e_2⟩ | ⟨a_3, R_4, w_5, d_6, v_7, e_1, e_2, h_8, h_9, hd_10⟩
    · skip
      refine lv_aload_n hx hb dX11_cut_0 rfl (lv_at hl 0 rfl) ?_
      refine va_get (D := D) (ci := 11) (v := .ref st) (C := RX11) (T := TX11) (N := 7) hx hb hts inlX11 hown hK hP 0 rfl rfl 0 (by decide) (hts _ mw_15) (fun _ h9 => h9) rfl dX11_cut_1 ?_
      refine lv_iload_n hx hb dX11_cut_4 rfl (lv_at hl 1 rfl) ?_
      refine er_V (As := [.int (nI t)]) (rest := []) hFX hKK hE hS (c_X6_topOf_n l D κ κq st d sh vw ta sa n fv t (by omega) e_2) 1 gV_X11_231 hdV_X6_topOf rfl rfl ⟨Nat.le_of_ble_eq_true rfl, Nat.le_of_ble_eq_true rfl⟩ rfl rfl (Nat.le_of_ble_eq_true rfl) dX11_cut_5 ⟨Nat.le_of_ble_eq_true rfl, Nat.le_of_ble_eq_true rfl⟩ hl.1 hP 1 6 rfl rfl rfl (subP0 hP [1, 3] rfl) (fun _ hp_11 => ?_)
      refine W.eq (g2 := F0 m 8 ls [.null]) rfl ?_
      refine lv_astoreN (lv' := [(4, .null), (0, .ref xx), (1, .int (nI t)), (2, .int zb), (3, .int zc)]) hx hb dX11_cut_8 hl (by decide) rfl (fun ls hl => ?_)
      refine lv_aloadN hx hb dX11_cut_10 (lv_at hl 0 rfl) ?_
      refine lv_ifnullN (tgt := 34) hx hb dX11_cut_12 (by decide) ?_
      refine lv_iconst (v := (-1)) hx hb dX11_cut_34 (by decide) ?_
      exact et_iret hx hb hr hlk rfl hS ((-1), fv, im) rfl ⟨(show Tb κ im fs fv 3 from htb), (show Sb im im from Sb.rf)⟩ (subP hP [0, 1, 2, 3] rfl) (subD hD [0, 1, 2, 3] (by decide) rfl) (Nat.le_of_ble_eq_true rfl) (Nat.le_of_ble_eq_true rfl) dX11_cut_35
    · have hle_a_3 := h_8.le
      refine lv_aload_n hx hb dX11_cut_0 rfl (lv_at hl 0 rfl) ?_
      refine va_get (D := D) (ci := 11) (v := .ref st) (C := RX11) (T := TX11) (N := 7) hx hb hts inlX11 hown hK hP 0 rfl rfl 0 (by decide) (hts _ mw_15) (fun _ h9 => h9) rfl dX11_cut_1 ?_
      refine lv_iload_n hx hb dX11_cut_4 rfl (lv_at hl 1 rfl) ?_
      refine er_V (As := [.int (nI t)]) (rest := []) hFX hKK hE hS (c_X6_topOf_s l D κ κq st d sh vw ta sa n fv t v_7 (by omega) e_2) 1 gV_X11_231 hdV_X6_topOf rfl rfl ⟨Nat.le_of_ble_eq_true rfl, Nat.le_of_ble_eq_true rfl⟩ rfl rfl (Nat.le_of_ble_eq_true rfl) dX11_cut_5 ⟨Nat.le_of_ble_eq_true rfl, Nat.le_of_ble_eq_true rfl⟩ hl.1 hP 1 6 rfl rfl rfl (subP0 hP [1, 3] rfl) (fun _ hp_12 => ?_)
      refine W.eq (g2 := F0 m 8 ls [.ref v_7]) rfl ?_
      refine lv_astore (lv' := [(4, .ref v_7), (0, .ref xx), (1, .int (nI t)), (2, .int zb), (3, .int zc)]) hx hb dX11_cut_8 hl (by decide) rfl (fun ls hl => ?_)
      refine lv_aload hx hb dX11_cut_10 (lv_at hl 0 rfl) ?_
      refine lv_ifnull hx hb dX11_cut_12 ?_
      refine lv_aload_n hx hb dX11_cut_15 rfl (lv_at hl 1 rfl) ?_
      refine va_get (D := D) (ci := 11) (v := .ref st) (C := RX11) (T := TX11) (N := 7) hx hb hts inlX11 hown hK hP 0 rfl rfl 0 (by decide) (hts _ mw_15) (fun _ h9 => h9) rfl dX11_cut_16 ?_
      refine lv_iload_n hx hb dX11_cut_19 rfl (lv_at hl 2 rfl) ?_
      refine er_V (As := [.int (nI t)]) (rest := []) hFX hKK hE hS (c_X6_canStack_s l D κ κq im st d sh vw ta sa n fv t v_7 d_6 R_4 (by omega) e_2 h_9 (by omega)) 1 gV_X11_205 hdV_X6_canStack rfl rfl ⟨Nat.le_of_ble_eq_true rfl, Nat.le_of_ble_eq_true rfl⟩ rfl rfl (Nat.le_of_ble_eq_true rfl) dX11_cut_20 ⟨Nat.le_of_ble_eq_true rfl, Nat.le_of_ble_eq_true rfl⟩ hl.1 hP 1 6 rfl rfl rfl (subP hP [1, 3] rfl) (fun r__13 hp_14 => ?_)
      replace hp_14 : ((r__13 = 1 ∧ d_6 ≤ 5) ∨ (r__13 = 0)) := hp_14
      have ha_15 := hp_14
      clear hp_14
      rcases ha_15 with ⟨rfl, a_16⟩ | rfl
      · refine W.eq (g2 := F0 m 23 ls [.int 1]) rfl ?_
        refine lv_if_eq (tgt := 34) hx hb dX11_cut_23 (by decide) (fun c_17 => absurd c_17 (by decide)) (fun c_17 => ?_)
        refine lv_iload_n hx hb dX11_cut_26 rfl (lv_at hl 3 rfl) ?_
        refine lv_if_lt (tgt := 34) hx hb dX11_cut_27 (by decide) (fun c_18 => ?_) (fun c_18 => ?_)
        · have nc_18 := cz_lt (a := zb.toInt) (b := (0 : Int)) rfl (by decide) c_18
          refine lv_iconst (v := (-1)) hx hb dX11_cut_34 (by decide) ?_
          exact et_iret hx hb hr hlk rfl hS ((-1), fv, im) rfl ⟨(show Tb κ im fs fv 3 from htb), (show Sb im im from Sb.rf)⟩ (subP hP [0, 1, 2, 3] rfl) (subD hD [0, 1, 2, 3] (by decide) rfl) (Nat.le_of_ble_eq_true rfl) (Nat.le_of_ble_eq_true rfl) dX11_cut_35
        · have nc_18 := cz_nlt (a := zb.toInt) (b := (0 : Int)) rfl (by decide) c_18
          refine lv_iload_n hx hb dX11_cut_30 rfl (lv_at hl 4 rfl) ?_
          refine lv_if_ge (tgt := 36) hx hb dX11_cut_31 (by decide) (fun c_19 => ?_) (fun c_19 => ?_)
          · have nc_19 := cz_le (a := (0 : Int)) (b := zc.toInt) (by decide) rfl c_19
            have hrg_zb := fb0_rng zb
            obtain ⟨j_20, hj_20, rfl⟩ := i_nat (x := zb) (B := 2147483647) (by omega) (by omega)
            have hz_j_20 : (nI j_20).toInt = ((j_20 : Nat) : Int) := nI_toInt (by omega)
            have hrg_zc := fb0_rng zc
            obtain ⟨j_21, hj_21, rfl⟩ := i_nat (x := zc) (B := 2147483647) (by omega) (by omega)
            have hz_j_21 : (nI j_21).toInt = ((j_21 : Nat) : Int) := nI_toInt (by omega)
            refine lv_iload_n hx hb dX11_cut_36 rfl (lv_at hl 3 rfl) ?_
            refine lv_aload hx hb dX11_cut_37 (lv_at hl 0 rfl) ?_
            obtain ⟨r_22, n_23, u_24, hm_25, ix_26⟩ := Vw_cell h_9
            refine va_get (D := D) (ci := 9) (v := .ref r_22) (C := RX9) (T := TX9) (N := 3) hx hb hts inlX9 hown hK (oneP (C := [(xx, .inr (11, [.ref st, .ref tp, .ref ft, .ref rd, .ref wr, .ref st2, .int zi])), (st, .inr (6, [.ref d, .ref sh, .ref vw, .ref ta, .ref sa, .int (nI n)])), (sh, .inl (κ 4, 3, .inr (.inr (.inr (.inr fs))))), (vw, .inl (κ 5, 3, .inr (.inr (.inr (.inr fv)))))]) hP hm_25) 0 rfl rfl 0 (by decide) (hts _ mw_1078) (fun _ h9 => h9) rfl dX11_cut_39 ?_
            obtain ⟨hn_27, f_28, hm_29, hf_30⟩ := id ix_26
            refine va_alen hx hb hK (oneP (C := [(xx, .inr (11, [.ref st, .ref tp, .ref ft, .ref rd, .ref wr, .ref st2, .int zi])), (st, .inr (6, [.ref d, .ref sh, .ref vw, .ref ta, .ref sa, .int (nI n)])), (sh, .inl (κ 4, 3, .inr (.inr (.inr (.inr fs))))), (vw, .inl (κ 5, 3, .inr (.inr (.inr (.inr fv)))))]) hP hm_29) 0 0 rfl rfl (v := nI n_23) rfl dX11_cut_42 ?_
            refine va_mmin hx hb (hml.trans hl.1.symm) hown (hts _ mw_1079) (hts _ mw_317) (hts _ mw_318) (hts _ mw_319) (Nat.le_of_ble_eq_true rfl) (Nat.le_of_ble_eq_true rfl) (Nat.le_of_ble_eq_true rfl) (Nat.le_of_ble_eq_true rfl) dX11_cut_43 ?_
            obtain ⟨r_31, hr_31a, hr_31b, hr_31c, er_31⟩ := min_n (a := j_20) (b := n_23) (by omega) (by omega)
            refine ki (v := nI r_31) er_31 ?_
            refine W.eq (g2 := F0 m 46 ls [.int (nI r_31)]) rfl ?_
            refine lv_istore (lv' := [(5, .int (nI r_31)), (4, .ref v_7), (0, .ref xx), (1, .int (nI t)), (2, .int (nI j_20)), (3, .int (nI j_21))]) hx hb dX11_cut_46 hl (by decide) rfl (fun ls hl => ?_)
            refine lv_iload_n hx hb dX11_cut_48 rfl (lv_at hl 5 rfl) ?_
            refine lv_aload hx hb dX11_cut_49 (lv_at hl 1 rfl) ?_
            refine va_get (D := D) (ci := 9) (v := .ref r_22) (C := RX9) (T := TX9) (N := 3) hx hb hts inlX9 hown hK (oneP (C := [(xx, .inr (11, [.ref st, .ref tp, .ref ft, .ref rd, .ref wr, .ref st2, .int zi])), (st, .inr (6, [.ref d, .ref sh, .ref vw, .ref ta, .ref sa, .int (nI n)])), (sh, .inl (κ 4, 3, .inr (.inr (.inr (.inr fs))))), (vw, .inl (κ 5, 3, .inr (.inr (.inr (.inr fv)))))]) hP hm_25) 0 rfl rfl 0 (by decide) (hts _ mw_1078) (fun _ h9 => h9) rfl dX11_cut_51 ?_
            refine va_alen hx hb hK (oneP (C := [(xx, .inr (11, [.ref st, .ref tp, .ref ft, .ref rd, .ref wr, .ref st2, .int zi])), (st, .inr (6, [.ref d, .ref sh, .ref vw, .ref ta, .ref sa, .int (nI n)])), (sh, .inl (κ 4, 3, .inr (.inr (.inr (.inr fs))))), (vw, .inl (κ 5, 3, .inr (.inr (.inr (.inr fv)))))]) hP hm_29) 0 0 rfl rfl (v := nI n_23) rfl dX11_cut_54 ?_
            refine lv_iload hx hb dX11_cut_55 (lv_at hl 0 rfl) ?_
            refine lv_isub hx hb dX11_cut_57 ?_
            refine ki (v := (nI (n_23 - r_31))) (pk_sub (a := n_23) (b := r_31) (by omega)) ?_
            refine va_mmin hx hb (hml.trans hl.1.symm) hown (hts _ mw_1079) (hts _ mw_317) (hts _ mw_318) (hts _ mw_319) (Nat.le_of_ble_eq_true rfl) (Nat.le_of_ble_eq_true rfl) (Nat.le_of_ble_eq_true rfl) (Nat.le_of_ble_eq_true rfl) dX11_cut_58 ?_
            obtain ⟨r_32, hr_32a, hr_32b, hr_32c, er_32⟩ := min_n (a := j_21) (b := (n_23 - r_31)) (by omega) (by omega)
            refine ki (v := nI r_32) er_32 ?_
            refine W.eq (g2 := F0 m 61 ls [.int (nI r_32)]) rfl ?_
            refine lv_istore (lv' := [(6, .int (nI r_32)), (5, .int (nI r_31)), (4, .ref v_7), (0, .ref xx), (1, .int (nI t)), (2, .int (nI j_20)), (3, .int (nI j_21))]) hx hb dX11_cut_61 hl (by decide) rfl (fun ls hl => ?_)
            refine lv_aload_n hx hb dX11_cut_63 rfl (lv_at hl 3 rfl) ?_
            refine va_get (D := D) (ci := 11) (v := .ref st) (C := RX11) (T := TX11) (N := 7) hx hb hts inlX11 hown hK hP 0 rfl rfl 0 (by decide) (hts _ mw_15) (fun _ h9 => h9) rfl dX11_cut_64 ?_
            refine lv_iload_n hx hb dX11_cut_67 rfl (lv_at hl 4 rfl) ?_
            refine lv_aload hx hb dX11_cut_68 (lv_at hl 2 rfl) ?_
            refine va_get (D := D) (ci := 9) (v := .ref r_22) (C := RX9) (T := TX9) (N := 3) hx hb hts inlX9 hown hK (oneP (C := [(xx, .inr (11, [.ref st, .ref tp, .ref ft, .ref rd, .ref wr, .ref st2, .int zi])), (st, .inr (6, [.ref d, .ref sh, .ref vw, .ref ta, .ref sa, .int (nI n)])), (sh, .inl (κ 4, 3, .inr (.inr (.inr (.inr fs))))), (vw, .inl (κ 5, 3, .inr (.inr (.inr (.inr fv)))))]) hP hm_25) 0 rfl rfl 0 (by decide) (hts _ mw_1078) (fun _ h9 => h9) rfl dX11_cut_70 ?_
            refine lv_iload hx hb dX11_cut_73 (lv_at hl 1 rfl) ?_
            refine lv_iload hx hb dX11_cut_75 (lv_at hl 1 rfl) ?_
            refine lv_iload hx hb dX11_cut_77 (lv_at hl 0 rfl) ?_
            refine lv_iadd hx hb dX11_cut_79 ?_
            refine ki (v := (nI (r_31 + r_32))) (nI_add r_31 r_32) ?_
            refine et_ST (CR := [(xx, .inr (11, [.ref st, .ref tp, .ref ft, .ref rd, .ref wr, .ref st2, .int zi])), (st, .inr (6, [.ref d, .ref sh, .ref vw, .ref ta, .ref sa, .int (nI n)])), (sh, .inl (κ 4, 3, .inr (.inr (.inr (.inr fs))))), (vw, .inl (κ 5, 3, .inr (.inr (.inr (.inr fv)))))]) (As := [.ref r_22, .int (nI r_31), .int (nI (r_31 + r_32))]) (rest := [.int (nI t), .ref st]) hFX hKK hE hP hD hS hA (c_J7_copyOfRange_feecc l D κ κq im r_22 n_23 R_4 r_31 (r_31 + r_32) ix_26 (by omega) (by omega)) 3 gS_X11_245 hdS_J7_copyOfRange_feecc ⟨Nat.le_of_ble_eq_true rfl, Nat.le_of_ble_eq_true rfl⟩ rfl rfl (Nat.le_of_ble_eq_true rfl) dX11_cut_80 ⟨Nat.le_of_ble_eq_true rfl, Nat.le_of_ble_eq_true rfl⟩ hl.1 [] [0, 1, 2, 3] rfl rfl (by decide) (by decide) (by decide) (fun u_35 H locs hp_36 hP hD hS => ?_)
            refine W.widen (k := 1) (n := 40) (Nat.le_refl _) (Nat.le_refl _) ?_
            obtain ⟨q__33, g__34⟩ := u_35
            replace hP : va_P D vwCl ([(xx, .inr (11, [.ref st, .ref tp, .ref ft, .ref rd, .ref wr, .ref st2, .int zi])), (st, .inr (6, [.ref d, .ref sh, .ref vw, .ref ta, .ref sa, .int (nI n)])), (sh, .inl (κ 4, 3, .inr (.inr (.inr (.inr fs))))), (vw, .inl (κ 5, 3, .inr (.inr (.inr (.inr fv))))), (q__33, .inl (κ 0, (r_31 + r_32) - r_31, .inl g__34))] ++ im) H := subP (C := [(xx, .inr (11, [.ref st, .ref tp, .ref ft, .ref rd, .ref wr, .ref st2, .int zi])), (st, .inr (6, [.ref d, .ref sh, .ref vw, .ref ta, .ref sa, .int (nI n)])), (sh, .inl (κ 4, 3, .inr (.inr (.inr (.inr fs))))), (vw, .inl (κ 5, 3, .inr (.inr (.inr (.inr fv))))), (q__33, .inl (κ 0, (r_31 + r_32) - r_31, .inl g__34))]) hP [0, 1, 2, 3, 4] rfl
            replace hD : va_D A ([(xx, .inr (11, [.ref st, .ref tp, .ref ft, .ref rd, .ref wr, .ref st2, .int zi])), (st, .inr (6, [.ref d, .ref sh, .ref vw, .ref ta, .ref sa, .int (nI n)])), (sh, .inl (κ 4, 3, .inr (.inr (.inr (.inr fs))))), (vw, .inl (κ 5, 3, .inr (.inr (.inr (.inr fv))))), (q__33, .inl (κ 0, (r_31 + r_32) - r_31, .inl g__34))] ++ im) := subD (C := [(xx, .inr (11, [.ref st, .ref tp, .ref ft, .ref rd, .ref wr, .ref st2, .int zi])), (st, .inr (6, [.ref d, .ref sh, .ref vw, .ref ta, .ref sa, .int (nI n)])), (sh, .inl (κ 4, 3, .inr (.inr (.inr (.inr fs))))), (vw, .inl (κ 5, 3, .inr (.inr (.inr (.inr fv))))), (q__33, .inl (κ 0, (r_31 + r_32) - r_31, .inl g__34))]) hD [0, 1, 2, 3, 4] (by decide) rfl
            replace hp_36 : Rn ((r_31 + r_32) - r_31) R_4 g__34 := hp_36
            have h_37 := hp_36
            clear hp_36
            refine W.eq (g2 := F0 m 83 ls [.ref q__33, .int (nI t), .ref st]) rfl ?_
            replace hP : va_P D vwCl ([(xx, .inr (11, [.ref st, .ref tp, .ref ft, .ref rd, .ref wr, .ref st2, .int zi])), (st, .inr (6, [.ref d, .ref sh, .ref vw, .ref ta, .ref sa, .int (nI n)])), (sh, .inl (κ 4, 3, .inr (.inr (.inr (.inr fs))))), (vw, .inl (κ 5, 3, .inr (.inr (.inr (.inr fv))))), (q__33, .inl (κ 0, (r_31 + r_32) - r_31, .inl g__34))] ++ im) _ := subP hP [0, 1, 2, 3, 4] rfl
            replace hD : va_D A ([(xx, .inr (11, [.ref st, .ref tp, .ref ft, .ref rd, .ref wr, .ref st2, .int zi])), (st, .inr (6, [.ref d, .ref sh, .ref vw, .ref ta, .ref sa, .int (nI n)])), (sh, .inl (κ 4, 3, .inr (.inr (.inr (.inr fs))))), (vw, .inl (κ 5, 3, .inr (.inr (.inr (.inr fv))))), (q__33, .inl (κ 0, (r_31 + r_32) - r_31, .inl g__34))] ++ im) := subD hD [0, 1, 2, 3, 4] (by decide) rfl
            obtain ⟨im_38, he_39⟩ : ∃ x9 : va_W, x9 = ([(q__33, .inl (κ 0, (r_31 + r_32) - r_31, .inl g__34))] ++ im) := ⟨_, rfl⟩
            have hs_40 : Sb im im_38 := by rw [he_39]; exact Sb.app
            have hm_q__33 : (q__33, .inl (κ 0, (r_31 + r_32) - r_31, .inl g__34)) ∈ im_38 := by rw [he_39]; exact List.mem_of_getElem? (i := 0) rfl
            replace hP : va_P D vwCl ([(xx, .inr (11, [.ref st, .ref tp, .ref ft, .ref rd, .ref wr, .ref st2, .int zi])), (st, .inr (6, [.ref d, .ref sh, .ref vw, .ref ta, .ref sa, .int (nI n)])), (sh, .inl (κ 4, 3, .inr (.inr (.inr (.inr fs))))), (vw, .inl (κ 5, 3, .inr (.inr (.inr (.inr fv)))))] ++ ([(q__33, .inl (κ 0, (r_31 + r_32) - r_31, .inl g__34))] ++ im)) _ := hP
            replace hD : va_D A ([(xx, .inr (11, [.ref st, .ref tp, .ref ft, .ref rd, .ref wr, .ref st2, .int zi])), (st, .inr (6, [.ref d, .ref sh, .ref vw, .ref ta, .ref sa, .int (nI n)])), (sh, .inl (κ 4, 3, .inr (.inr (.inr (.inr fs))))), (vw, .inl (κ 5, 3, .inr (.inr (.inr (.inr fv)))))] ++ ([(q__33, .inl (κ 0, (r_31 + r_32) - r_31, .inl g__34))] ++ im)) := hD
            rw [← he_39] at hP hD
            clear he_39
            replace htb := htb.up hs_40
            replace h_8 := h_8.up hs_40
            replace h_9 := h_9.up hs_40
            replace ix_26 := ix_26.up hs_40
            replace hm_25 := hs_40 _ hm_25
            replace hm_29 := hs_40 _ hm_29
            have hf_41 : Ix κ im_38 q__33 ((r_31 + r_32) - r_31) R_4 := ⟨by omega, _, hm_q__33, h_37⟩
            refine et_VT (CR := [(xx, .inr (11, [.ref st, .ref tp, .ref ft, .ref rd, .ref wr, .ref st2, .int zi])), (sh, .inl (κ 4, 3, .inr (.inr (.inr (.inr fs)))))]) (As := [.int (nI t), .ref q__33]) (rest := []) hFX hKK hE hP hD hS hA (c_X6_stack l D κ κq im_38 st d sh vw ta sa n fs fv t a_3 R_4 w_5 v_7 d_6 q__33 ((r_31 + r_32) - r_31) (by omega) htb e_1 e_2 h_8 h_9 (by omega) hf_41) 2 gV_X11_223 hdV_X6_stack ⟨Nat.le_of_ble_eq_true rfl, Nat.le_of_ble_eq_true rfl⟩ rfl rfl (Nat.le_of_ble_eq_true rfl) dX11_cut_83 ⟨Nat.le_of_ble_eq_true rfl, Nat.le_of_ble_eq_true rfl⟩ hl.1 [1, 3] [0, 2] rfl rfl (by decide) (by decide) (by decide) hP 1 6 rfl rfl rfl (fun u_44 H locs hp_45 hP hD hS => ?_)
            refine W.widen (k := 2) (n := 43) (Nat.le_refl _) (Nat.le_refl _) ?_
            obtain ⟨gv__42, im2__43⟩ := u_44
            replace hP : va_P D vwCl ([(xx, .inr (11, [.ref st, .ref tp, .ref ft, .ref rd, .ref wr, .ref st2, .int zi])), (st, .inr (6, [.ref d, .ref sh, .ref vw, .ref ta, .ref sa, .int (nI n)])), (sh, .inl (κ 4, 3, .inr (.inr (.inr (.inr fs))))), (vw, .inl (κ 5, 3, .inr (.inr (.inr (.inr gv__42)))))] ++ im2__43) H := subP (C := [(xx, .inr (11, [.ref st, .ref tp, .ref ft, .ref rd, .ref wr, .ref st2, .int zi])), (sh, .inl (κ 4, 3, .inr (.inr (.inr (.inr fs))))), (st, .inr (6, [.ref d, .ref sh, .ref vw, .ref ta, .ref sa, .int (nI n)])), (vw, .inl (κ 5, 3, .inr (.inr (.inr (.inr gv__42)))))]) hP [0, 2, 1, 3] rfl
            replace hD : va_D A ([(xx, .inr (11, [.ref st, .ref tp, .ref ft, .ref rd, .ref wr, .ref st2, .int zi])), (st, .inr (6, [.ref d, .ref sh, .ref vw, .ref ta, .ref sa, .int (nI n)])), (sh, .inl (κ 4, 3, .inr (.inr (.inr (.inr fs))))), (vw, .inl (κ 5, 3, .inr (.inr (.inr (.inr gv__42)))))] ++ im2__43) := subD (C := [(xx, .inr (11, [.ref st, .ref tp, .ref ft, .ref rd, .ref wr, .ref st2, .int zi])), (sh, .inl (κ 4, 3, .inr (.inr (.inr (.inr fs))))), (st, .inr (6, [.ref d, .ref sh, .ref vw, .ref ta, .ref sa, .int (nI n)])), (vw, .inl (κ 5, 3, .inr (.inr (.inr (.inr gv__42)))))]) hD [0, 2, 1, 3] (by decide) rfl
            replace hp_45 : Sb im_38 im2__43 ∧ Tb κ im2__43 fs gv__42 3 := hp_45
            obtain ⟨h_46, h_47⟩ := hp_45
            replace htb := htb.up h_46
            replace h_8 := h_8.up h_46
            replace h_9 := h_9.up h_46
            replace ix_26 := ix_26.up h_46
            replace hf_41 := hf_41.up h_46
            replace hm_25 := h_46 _ hm_25
            replace hm_29 := h_46 _ hm_29
            replace hm_q__33 := h_46 _ hm_q__33
            refine W.eq (g2 := F0 m 86 ls [.int (nI ((r_31 + r_32) - r_31))]) rfl ?_
            exact et_iret hx hb hr hlk rfl hS (nI ((r_31 + r_32) - r_31), gv__42, im2__43) rfl ⟨(show Tb κ im2__43 fs gv__42 3 from h_47), (show Sb im im2__43 from (Sb.tr hs_40 h_46))⟩ (subP hP [0, 1, 2, 3] rfl) (subD hD [0, 1, 2, 3] (by decide) rfl) (Nat.le_of_ble_eq_true rfl) (Nat.le_of_ble_eq_true rfl) dX11_cut_86
          · have nc_19 := cz_nle (a := (0 : Int)) (b := zc.toInt) (by decide) rfl c_19
            refine lv_iconst (v := (-1)) hx hb dX11_cut_34 (by decide) ?_
            exact et_iret hx hb hr hlk rfl hS ((-1), fv, im) rfl ⟨(show Tb κ im fs fv 3 from htb), (show Sb im im from Sb.rf)⟩ (subP hP [0, 1, 2, 3] rfl) (subD hD [0, 1, 2, 3] (by decide) rfl) (Nat.le_of_ble_eq_true rfl) (Nat.le_of_ble_eq_true rfl) dX11_cut_35
      · refine W.eq (g2 := F0 m 23 ls [.int 0]) rfl ?_
        refine lv_if_eq (tgt := 34) hx hb dX11_cut_23 (by decide) (fun c_48 => ?_) (fun c_48 => absurd (by decide) c_48)
        refine lv_iconst (v := (-1)) hx hb dX11_cut_34 (by decide) ?_
        exact et_iret hx hb hr hlk rfl hS ((-1), fv, im) rfl ⟨(show Tb κ im fs fv 3 from htb), (show Sb im im from Sb.rf)⟩ (subP hP [0, 1, 2, 3] rfl) (subD hD [0, 1, 2, 3] (by decide) rfl) (Nat.le_of_ble_eq_true rfl) (Nat.le_of_ble_eq_true rfl) dX11_cut_35
  · skip
    refine lv_aload_n hx hb dX11_cut_0 rfl (lv_at hl 0 rfl) ?_
    refine va_get (D := D) (ci := 11) (v := .ref st) (C := RX11) (T := TX11) (N := 7) hx hb hts inlX11 hown hK hP 0 rfl rfl 0 (by decide) (hts _ mw_15) (fun _ h9 => h9) rfl dX11_cut_1 ?_
    refine lv_iload_n hx hb dX11_cut_4 rfl (lv_at hl 1 rfl) ?_
    refine er_V (As := [.int za]) (rest := []) hFX hKK hE hS (c_X6_topOf_x l D κ κq st d sh vw ta sa n za (by assumption)) 1 gV_X11_231 hdV_X6_topOf rfl rfl ⟨Nat.le_of_ble_eq_true rfl, Nat.le_of_ble_eq_true rfl⟩ rfl rfl (Nat.le_of_ble_eq_true rfl) dX11_cut_5 ⟨Nat.le_of_ble_eq_true rfl, Nat.le_of_ble_eq_true rfl⟩ hl.1 hP 1 6 rfl rfl rfl (subP0 hP [1] rfl) (fun _ hp_49 => ?_)
    refine W.eq (g2 := F0 m 8 ls [.null]) rfl ?_
    refine lv_astoreN (lv' := [(4, .null), (0, .ref xx), (1, .int za), (2, .int zb), (3, .int zc)]) hx hb dX11_cut_8 hl (by decide) rfl (fun ls hl => ?_)
    refine lv_aloadN hx hb dX11_cut_10 (lv_at hl 0 rfl) ?_
    refine lv_ifnullN (tgt := 34) hx hb dX11_cut_12 (by decide) ?_
    refine lv_iconst (v := (-1)) hx hb dX11_cut_34 (by decide) ?_
    exact et_iret hx hb hr hlk rfl hS ((-1), fv, im) rfl ⟨(show Tb κ im fs fv 3 from htb), (show Sb im im from Sb.rf)⟩ (subP hP [0, 1, 2, 3] rfl) (subD hD [0, 1, 2, 3] (by decide) rfl) (Nat.le_of_ble_eq_true rfl) (Nat.le_of_ble_eq_true rfl) dX11_cut_35
set_option maxHeartbeats 4000000 in
set_option maxRecDepth 100000 in
theorem c_X11_unlike (l : Launch) (D : va_G) (κ : Nat → ClassId) (κq : Nat → Nat) (im : va_W) (xx : Nat) (tp : Nat) (ft : Nat) (rd : Nat) (wr : Nat) (st2 : Nat) (zi : Int32) (st : Nat) (d : Nat) (sh : Nat) (vw : Nat) (ta : Nat) (sa : Nat) (n : Nat) (fs : Nat → Option Nat) (fv : Nat → Option Nat) (za : Int32) (zb : Int32) (htb : Tb κ im fs fv 3) : Et l yX11_unlike (wl yX11_unlike cX11_unlike 4 (some .int)) { frames := 6, cells := 8, slots := 200, locals := 135 } D κ κq [.ref xx, .int za, .int zb] ([(xx, .inr (11, [.ref st, .ref tp, .ref ft, .ref rd, .ref wr, .ref st2, .int zi])), (st, .inr (6, [.ref d, .ref sh, .ref vw, .ref ta, .ref sa, .int (nI n)])), (sh, .inl (κ 4, 3, .inr (.inr (.inr (.inr fs))))), (vw, .inl (κ 5, 3, .inr (.inr (.inr (.inr fv)))))] ++ im) (fun u9 : Int32 × (Nat → Option Nat) × va_W => some (.int u9.1)) (fun u9 : Int32 × (Nat → Option Nat) × va_W => Tb κ u9.2.2 fs u9.2.1 3 ∧ Sb im u9.2.2) (fun u9 : Int32 × (Nat → Option Nat) × va_W => ([(xx, .inr (11, [.ref st, .ref tp, .ref ft, .ref rd, .ref wr, .ref st2, .int zi])), (st, .inr (6, [.ref d, .ref sh, .ref vw, .ref ta, .ref sa, .int (nI n)])), (sh, .inl (κ 4, 3, .inr (.inr (.inr (.inr fs))))), (vw, .inl (κ 5, 3, .inr (.inr (.inr (.inr u9.2.1)))))] ++ u9.2.2)) := by
  refine et_of (by decide +kernel) (Nat.le_of_ble_eq_true rfl) ?_
  intro p e s m args below meth c A ls hx hb hr hml hts hown hlk hin hKK hK hA hP hD hS hE hl
  have hS : va_S A s.heap s.heap [] := hS
  have hP : va_P D vwCl ([(xx, .inr (11, [.ref st, .ref tp, .ref ft, .ref rd, .ref wr, .ref st2, .int zi])), (st, .inr (6, [.ref d, .ref sh, .ref vw, .ref ta, .ref sa, .int (nI n)])), (sh, .inl (κ 4, 3, .inr (.inr (.inr (.inr fs))))), (vw, .inl (κ 5, 3, .inr (.inr (.inr (.inr fv)))))] ++ im) s.heap := hP
  have hD : va_D A ([(xx, .inr (11, [.ref st, .ref tp, .ref ft, .ref rd, .ref wr, .ref st2, .int zi])), (st, .inr (6, [.ref d, .ref sh, .ref vw, .ref ta, .ref sa, .int (nI n)])), (sh, .inl (κ 4, 3, .inr (.inr (.inr (.inr fs))))), (vw, .inl (κ 5, 3, .inr (.inr (.inr (.inr fv)))))] ++ im) := hD
  have hFX : FX p s m args c cX11_unlike 4 RX11 := ⟨hx, hb, hml, hown, hts⟩
  have hl : lv_has ls 4 [(0, .ref xx), (1, .int za), (2, .int zb)] := hl
  rcases pl_cases za with ⟨t, ht_t, rfl⟩ | hnp_za
  · skip
    rcases htb t (by omega) with ⟨e_1, e_2⟩ | ⟨a_3, R_4, w_5, d_6, v_7, e_1, e_2, h_8, h_9, hd_10⟩
    · skip
      refine lv_aload_n hx hb dX11_unlike_0 rfl (lv_at hl 0 rfl) ?_
      refine va_get (D := D) (ci := 11) (v := .ref st) (C := RX11) (T := TX11) (N := 7) hx hb hts inlX11 hown hK hP 0 rfl rfl 0 (by decide) (hts _ mw_15) (fun _ h9 => h9) rfl dX11_unlike_1 ?_
      refine lv_iload_n hx hb dX11_unlike_4 rfl (lv_at hl 1 rfl) ?_
      refine lv_iload_n hx hb dX11_unlike_5 rfl (lv_at hl 2 rfl) ?_
      refine er_V (As := [.int (nI t), .int zb]) (rest := []) hFX hKK hE hS (c_X6_stripOf_n l D κ κq st d sh vw ta sa n fs fv t zb (by omega) e_1 e_2) 2 gV_X11_189 hdV_X6_stripOf rfl rfl ⟨Nat.le_of_ble_eq_true rfl, Nat.le_of_ble_eq_true rfl⟩ rfl rfl (Nat.le_of_ble_eq_true rfl) dX11_unlike_6 ⟨Nat.le_of_ble_eq_true rfl, Nat.le_of_ble_eq_true rfl⟩ hl.1 hP 1 6 rfl rfl rfl (subP0 hP [1, 2, 3] rfl) (fun _ hp_11 => ?_)
      refine W.eq (g2 := F0 m 9 ls [.null]) rfl ?_
      refine lv_astore_nN (lv' := [(3, .null), (0, .ref xx), (1, .int (nI t)), (2, .int zb)]) hx hb dX11_unlike_9 rfl hl (by decide) rfl (fun ls hl => ?_)
      refine lv_aload_nN hx hb dX11_unlike_10 rfl (lv_at hl 0 rfl) ?_
      refine lv_ifnullN (tgt := 25) hx hb dX11_unlike_11 (by decide) ?_
      refine lv_iconst (v := (-1)) hx hb dX11_unlike_25 (by decide) ?_
      exact et_iret hx hb hr hlk rfl hS ((-1), fv, im) rfl ⟨(show Tb κ im fs fv 3 from htb), (show Sb im im from Sb.rf)⟩ (subP hP [0, 1, 2, 3] rfl) (subD hD [0, 1, 2, 3] (by decide) rfl) (Nat.le_of_ble_eq_true rfl) (Nat.le_of_ble_eq_true rfl) dX11_unlike_26
    · have hle_a_3 := h_8.le
      refine lv_aload_n hx hb dX11_unlike_0 rfl (lv_at hl 0 rfl) ?_
      refine va_get (D := D) (ci := 11) (v := .ref st) (C := RX11) (T := TX11) (N := 7) hx hb hts inlX11 hown hK hP 0 rfl rfl 0 (by decide) (hts _ mw_15) (fun _ h9 => h9) rfl dX11_unlike_1 ?_
      refine lv_iload_n hx hb dX11_unlike_4 rfl (lv_at hl 1 rfl) ?_
      refine lv_iload_n hx hb dX11_unlike_5 rfl (lv_at hl 2 rfl) ?_
      refine et_VT (CR := [(xx, .inr (11, [.ref st, .ref tp, .ref ft, .ref rd, .ref wr, .ref st2, .int zi]))]) (As := [.int (nI t), .int zb]) (rest := []) hFX hKK hE hP hD hS hA (c_X6_stripOf_s l D κ κq im st d sh vw ta sa n fs fv t a_3 R_4 w_5 v_7 d_6 zb (by omega) e_1 e_2 h_8 h_9) 2 gV_X11_189 hdV_X6_stripOf ⟨Nat.le_of_ble_eq_true rfl, Nat.le_of_ble_eq_true rfl⟩ rfl rfl (Nat.le_of_ble_eq_true rfl) dX11_unlike_6 ⟨Nat.le_of_ble_eq_true rfl, Nat.le_of_ble_eq_true rfl⟩ hl.1 [1, 2, 3] [0] rfl rfl (by decide) (by decide) (by decide) hP 1 6 rfl rfl rfl (fun u_14 H locs hp_15 hP hD hS => ?_)
      refine W.widen (k := 1) (n := 4) (Nat.le_refl _) (Nat.le_refl _) ?_
      obtain ⟨r__12, im2__13⟩ := u_14
      replace hP : va_P D vwCl ([(xx, .inr (11, [.ref st, .ref tp, .ref ft, .ref rd, .ref wr, .ref st2, .int zi])), (st, .inr (6, [.ref d, .ref sh, .ref vw, .ref ta, .ref sa, .int (nI n)])), (sh, .inl (κ 4, 3, .inr (.inr (.inr (.inr fs))))), (vw, .inl (κ 5, 3, .inr (.inr (.inr (.inr fv)))))] ++ im2__13) H := subP (C := [(xx, .inr (11, [.ref st, .ref tp, .ref ft, .ref rd, .ref wr, .ref st2, .int zi])), (st, .inr (6, [.ref d, .ref sh, .ref vw, .ref ta, .ref sa, .int (nI n)])), (sh, .inl (κ 4, 3, .inr (.inr (.inr (.inr fs))))), (vw, .inl (κ 5, 3, .inr (.inr (.inr (.inr fv)))))]) hP [0, 1, 2, 3] rfl
      replace hD : va_D A ([(xx, .inr (11, [.ref st, .ref tp, .ref ft, .ref rd, .ref wr, .ref st2, .int zi])), (st, .inr (6, [.ref d, .ref sh, .ref vw, .ref ta, .ref sa, .int (nI n)])), (sh, .inl (κ 4, 3, .inr (.inr (.inr (.inr fs))))), (vw, .inl (κ 5, 3, .inr (.inr (.inr (.inr fv)))))] ++ im2__13) := subD (C := [(xx, .inr (11, [.ref st, .ref tp, .ref ft, .ref rd, .ref wr, .ref st2, .int zi])), (st, .inr (6, [.ref d, .ref sh, .ref vw, .ref ta, .ref sa, .int (nI n)])), (sh, .inl (κ 4, 3, .inr (.inr (.inr (.inr fs))))), (vw, .inl (κ 5, 3, .inr (.inr (.inr (.inr fv)))))]) hD [0, 1, 2, 3] (by decide) rfl
      replace hp_15 : Sb im im2__13 ∧ ((r__12 = none) ∨ (∃ (q : Nat), ∃ (co : Nat), ∃ (ra : Nat), ∃ (mq : Nat), ∃ (ty : Nat), r__12 = some q ∧ Sp κ im2__13 q a_3 R_4 w_5 co ra mq ty)) := hp_15
      obtain ⟨h_16, ha_17⟩ := hp_15
      replace htb := htb.up h_16
      replace h_8 := h_8.up h_16
      replace h_9 := h_9.up h_16
      rcases ha_17 with rfl | ⟨q__18, co__19, ra__20, mq__21, ty__22, rfl, a_23⟩
      · refine W.eq (g2 := F0 m 9 ls [.null]) rfl ?_
        refine lv_astore_nN (lv' := [(3, .null), (0, .ref xx), (1, .int (nI t)), (2, .int zb)]) hx hb dX11_unlike_9 rfl hl (by decide) rfl (fun ls hl => ?_)
        refine lv_aload_nN hx hb dX11_unlike_10 rfl (lv_at hl 0 rfl) ?_
        refine lv_ifnullN (tgt := 25) hx hb dX11_unlike_11 (by decide) ?_
        refine lv_iconst (v := (-1)) hx hb dX11_unlike_25 (by decide) ?_
        exact et_iret hx hb hr hlk rfl hS ((-1), fv, im2__13) rfl ⟨(show Tb κ im2__13 fs fv 3 from htb), (show Sb im im2__13 from h_16)⟩ (subP hP [0, 1, 2, 3] rfl) (subD hD [0, 1, 2, 3] (by decide) rfl) (Nat.le_of_ble_eq_true rfl) (Nat.le_of_ble_eq_true rfl) dX11_unlike_26
      · refine W.eq (g2 := F0 m 9 ls [.ref q__18]) rfl ?_
        refine lv_astore_n (lv' := [(3, .ref q__18), (0, .ref xx), (1, .int (nI t)), (2, .int zb)]) hx hb dX11_unlike_9 rfl hl (by decide) rfl (fun ls hl => ?_)
        refine lv_aload_n hx hb dX11_unlike_10 rfl (lv_at hl 0 rfl) ?_
        refine lv_ifnull hx hb dX11_unlike_11 ?_
        refine lv_aload_n hx hb dX11_unlike_14 rfl (lv_at hl 1 rfl) ?_
        refine va_get (D := D) (ci := 11) (v := .ref st) (C := RX11) (T := TX11) (N := 7) hx hb hts inlX11 hown hK hP 0 rfl rfl 0 (by decide) (hts _ mw_15) (fun _ h9 => h9) rfl dX11_unlike_15 ?_
        refine lv_iload_n hx hb dX11_unlike_18 rfl (lv_at hl 2 rfl) ?_
        refine er_V (As := [.int (nI t)]) (rest := []) hFX hKK hE hS (c_X6_canStack_s l D κ κq im2__13 st d sh vw ta sa n fv t v_7 d_6 R_4 (by omega) e_2 h_9 (by omega)) 1 gV_X11_205 hdV_X6_canStack rfl rfl ⟨Nat.le_of_ble_eq_true rfl, Nat.le_of_ble_eq_true rfl⟩ rfl rfl (Nat.le_of_ble_eq_true rfl) dX11_unlike_19 ⟨Nat.le_of_ble_eq_true rfl, Nat.le_of_ble_eq_true rfl⟩ hl.1 hP 1 6 rfl rfl rfl (subP hP [1, 3] rfl) (fun r__24 hp_25 => ?_)
        replace hp_25 : ((r__24 = 1 ∧ d_6 ≤ 5) ∨ (r__24 = 0)) := hp_25
        have ha_26 := hp_25
        clear hp_25
        rcases ha_26 with ⟨rfl, a_27⟩ | rfl
        · refine W.eq (g2 := F0 m 22 ls [.int 1]) rfl ?_
          refine lv_if_ne (tgt := 27) hx hb dX11_unlike_22 (by decide) (fun c_28 => ?_) (fun c_28 => absurd c_28 (by decide))
          refine lv_aload_n hx hb dX11_unlike_27 rfl (lv_at hl 1 rfl) ?_
          refine va_get (D := D) (ci := 11) (v := .ref st) (C := RX11) (T := TX11) (N := 7) hx hb hts inlX11 hown hK hP 0 rfl rfl 0 (by decide) (hts _ mw_15) (fun _ h9 => h9) rfl dX11_unlike_28 ?_
          refine lv_iload_n hx hb dX11_unlike_31 rfl (lv_at hl 2 rfl) ?_
          refine lv_aload_n hx hb dX11_unlike_32 rfl (lv_at hl 0 rfl) ?_
          obtain ⟨h_34, h_35, hm_36, h_37, h_38⟩ := id a_23
          refine et_VT (CR := [(xx, .inr (11, [.ref st, .ref tp, .ref ft, .ref rd, .ref wr, .ref st2, .int zi])), (st, .inr (6, [.ref d, .ref sh, .ref vw, .ref ta, .ref sa, .int (nI n)])), (sh, .inl (κ 4, 3, .inr (.inr (.inr (.inr fs))))), (vw, .inl (κ 5, 3, .inr (.inr (.inr (.inr fv)))))]) (As := []) (rest := [.int (nI t), .ref st]) hFX hKK hE hP hD hS hA (c_X7_firsts l D κ κq im2__13 q__18 a_3 R_4 w_5 co__19 ra__20 mq__21 ty__22 a_23) 0 gV_X11_251 hdV_X7_firsts ⟨Nat.le_of_ble_eq_true rfl, Nat.le_of_ble_eq_true rfl⟩ rfl rfl (Nat.le_of_ble_eq_true rfl) dX11_unlike_33 ⟨Nat.le_of_ble_eq_true rfl, Nat.le_of_ble_eq_true rfl⟩ hl.1 [] [0, 1, 2, 3] rfl rfl (by decide) (by decide) (by decide) (oneP (C := [(xx, .inr (11, [.ref st, .ref tp, .ref ft, .ref rd, .ref wr, .ref st2, .int zi])), (st, .inr (6, [.ref d, .ref sh, .ref vw, .ref ta, .ref sa, .int (nI n)])), (sh, .inl (κ 4, 3, .inr (.inr (.inr (.inr fs))))), (vw, .inl (κ 5, 3, .inr (.inr (.inr (.inr fv)))))]) hP hm_36) 0 7 rfl rfl rfl (fun u_32 H locs hp_33 hP hD hS => ?_)
          refine W.widen (k := 3) (n := 84) (Nat.le_refl _) (Nat.le_refl _) ?_
          obtain ⟨p__29, n__30, im2__31⟩ := u_32
          replace hP : va_P D vwCl ([(xx, .inr (11, [.ref st, .ref tp, .ref ft, .ref rd, .ref wr, .ref st2, .int zi])), (st, .inr (6, [.ref d, .ref sh, .ref vw, .ref ta, .ref sa, .int (nI n)])), (sh, .inl (κ 4, 3, .inr (.inr (.inr (.inr fs))))), (vw, .inl (κ 5, 3, .inr (.inr (.inr (.inr fv)))))] ++ im2__31) H := subP (C := [(xx, .inr (11, [.ref st, .ref tp, .ref ft, .ref rd, .ref wr, .ref st2, .int zi])), (st, .inr (6, [.ref d, .ref sh, .ref vw, .ref ta, .ref sa, .int (nI n)])), (sh, .inl (κ 4, 3, .inr (.inr (.inr (.inr fs))))), (vw, .inl (κ 5, 3, .inr (.inr (.inr (.inr fv)))))]) hP [0, 1, 2, 3] rfl
          replace hD : va_D A ([(xx, .inr (11, [.ref st, .ref tp, .ref ft, .ref rd, .ref wr, .ref st2, .int zi])), (st, .inr (6, [.ref d, .ref sh, .ref vw, .ref ta, .ref sa, .int (nI n)])), (sh, .inl (κ 4, 3, .inr (.inr (.inr (.inr fs))))), (vw, .inl (κ 5, 3, .inr (.inr (.inr (.inr fv)))))] ++ im2__31) := subD (C := [(xx, .inr (11, [.ref st, .ref tp, .ref ft, .ref rd, .ref wr, .ref st2, .int zi])), (st, .inr (6, [.ref d, .ref sh, .ref vw, .ref ta, .ref sa, .int (nI n)])), (sh, .inl (κ 4, 3, .inr (.inr (.inr (.inr fs))))), (vw, .inl (κ 5, 3, .inr (.inr (.inr (.inr fv)))))]) hD [0, 1, 2, 3] (by decide) rfl
          replace hp_33 : Sb im2__13 im2__31 ∧ Ix κ im2__31 p__29 n__30 R_4 := hp_33
          obtain ⟨h_39, h_40⟩ := hp_33
          replace htb := htb.up h_39
          replace h_8 := h_8.up h_39
          replace h_9 := h_9.up h_39
          replace a_23 := a_23.up h_39
          replace h_37 := h_37.up h_39
          replace h_38 := h_38.up h_39
          replace hm_36 := h_39 _ hm_36
          refine W.eq (g2 := F0 m 36 ls [.ref p__29, .int (nI t), .ref st]) rfl ?_
          refine et_VT (CR := [(xx, .inr (11, [.ref st, .ref tp, .ref ft, .ref rd, .ref wr, .ref st2, .int zi])), (sh, .inl (κ 4, 3, .inr (.inr (.inr (.inr fs)))))]) (As := [.int (nI t), .ref p__29]) (rest := []) hFX hKK hE hP hD hS hA (c_X6_stack l D κ κq im2__31 st d sh vw ta sa n fs fv t a_3 R_4 w_5 v_7 d_6 p__29 n__30 (by omega) htb e_1 e_2 h_37 h_9 (by omega) h_40) 2 gV_X11_223 hdV_X6_stack ⟨Nat.le_of_ble_eq_true rfl, Nat.le_of_ble_eq_true rfl⟩ rfl rfl (Nat.le_of_ble_eq_true rfl) dX11_unlike_36 ⟨Nat.le_of_ble_eq_true rfl, Nat.le_of_ble_eq_true rfl⟩ hl.1 [1, 3] [0, 2] rfl rfl (by decide) (by decide) (by decide) hP 1 6 rfl rfl rfl (fun u_43 H locs hp_44 hP hD hS => ?_)
          refine W.widen (k := 4) (n := 87) (Nat.le_refl _) (Nat.le_refl _) ?_
          obtain ⟨gv__41, im2__42⟩ := u_43
          replace hP : va_P D vwCl ([(xx, .inr (11, [.ref st, .ref tp, .ref ft, .ref rd, .ref wr, .ref st2, .int zi])), (st, .inr (6, [.ref d, .ref sh, .ref vw, .ref ta, .ref sa, .int (nI n)])), (sh, .inl (κ 4, 3, .inr (.inr (.inr (.inr fs))))), (vw, .inl (κ 5, 3, .inr (.inr (.inr (.inr gv__41)))))] ++ im2__42) H := subP (C := [(xx, .inr (11, [.ref st, .ref tp, .ref ft, .ref rd, .ref wr, .ref st2, .int zi])), (sh, .inl (κ 4, 3, .inr (.inr (.inr (.inr fs))))), (st, .inr (6, [.ref d, .ref sh, .ref vw, .ref ta, .ref sa, .int (nI n)])), (vw, .inl (κ 5, 3, .inr (.inr (.inr (.inr gv__41)))))]) hP [0, 2, 1, 3] rfl
          replace hD : va_D A ([(xx, .inr (11, [.ref st, .ref tp, .ref ft, .ref rd, .ref wr, .ref st2, .int zi])), (st, .inr (6, [.ref d, .ref sh, .ref vw, .ref ta, .ref sa, .int (nI n)])), (sh, .inl (κ 4, 3, .inr (.inr (.inr (.inr fs))))), (vw, .inl (κ 5, 3, .inr (.inr (.inr (.inr gv__41)))))] ++ im2__42) := subD (C := [(xx, .inr (11, [.ref st, .ref tp, .ref ft, .ref rd, .ref wr, .ref st2, .int zi])), (sh, .inl (κ 4, 3, .inr (.inr (.inr (.inr fs))))), (st, .inr (6, [.ref d, .ref sh, .ref vw, .ref ta, .ref sa, .int (nI n)])), (vw, .inl (κ 5, 3, .inr (.inr (.inr (.inr gv__41)))))]) hD [0, 2, 1, 3] (by decide) rfl
          replace hp_44 : Sb im2__31 im2__42 ∧ Tb κ im2__42 fs gv__41 3 := hp_44
          obtain ⟨h_45, h_46⟩ := hp_44
          replace htb := htb.up h_45
          replace h_8 := h_8.up h_45
          replace h_9 := h_9.up h_45
          replace a_23 := a_23.up h_45
          replace h_37 := h_37.up h_45
          replace h_38 := h_38.up h_45
          replace h_40 := h_40.up h_45
          replace hm_36 := h_45 _ hm_36
          refine W.eq (g2 := F0 m 39 ls [.int (nI n__30)]) rfl ?_
          exact et_iret hx hb hr hlk rfl hS (nI n__30, gv__41, im2__42) rfl ⟨(show Tb κ im2__42 fs gv__41 3 from h_46), (show Sb im im2__42 from (Sb.tr (Sb.tr h_16 h_39) h_45))⟩ (subP hP [0, 1, 2, 3] rfl) (subD hD [0, 1, 2, 3] (by decide) rfl) (Nat.le_of_ble_eq_true rfl) (Nat.le_of_ble_eq_true rfl) dX11_unlike_39
        · refine W.eq (g2 := F0 m 22 ls [.int 0]) rfl ?_
          refine lv_if_ne (tgt := 27) hx hb dX11_unlike_22 (by decide) (fun c_47 => absurd c_47 (by decide)) (fun c_47 => ?_)
          refine lv_iconst (v := (-1)) hx hb dX11_unlike_25 (by decide) ?_
          exact et_iret hx hb hr hlk rfl hS ((-1), fv, im2__13) rfl ⟨(show Tb κ im2__13 fs fv 3 from htb), (show Sb im im2__13 from h_16)⟩ (subP hP [0, 1, 2, 3] rfl) (subD hD [0, 1, 2, 3] (by decide) rfl) (Nat.le_of_ble_eq_true rfl) (Nat.le_of_ble_eq_true rfl) dX11_unlike_26
  · skip
    refine lv_aload_n hx hb dX11_unlike_0 rfl (lv_at hl 0 rfl) ?_
    refine va_get (D := D) (ci := 11) (v := .ref st) (C := RX11) (T := TX11) (N := 7) hx hb hts inlX11 hown hK hP 0 rfl rfl 0 (by decide) (hts _ mw_15) (fun _ h9 => h9) rfl dX11_unlike_1 ?_
    refine lv_iload_n hx hb dX11_unlike_4 rfl (lv_at hl 1 rfl) ?_
    refine lv_iload_n hx hb dX11_unlike_5 rfl (lv_at hl 2 rfl) ?_
    refine er_V (As := [.int za, .int zb]) (rest := []) hFX hKK hE hS (c_X6_stripOf_x l D κ κq st d sh vw ta sa n za zb (by assumption)) 2 gV_X11_189 hdV_X6_stripOf rfl rfl ⟨Nat.le_of_ble_eq_true rfl, Nat.le_of_ble_eq_true rfl⟩ rfl rfl (Nat.le_of_ble_eq_true rfl) dX11_unlike_6 ⟨Nat.le_of_ble_eq_true rfl, Nat.le_of_ble_eq_true rfl⟩ hl.1 hP 1 6 rfl rfl rfl (subP0 hP [1] rfl) (fun _ hp_48 => ?_)
    refine W.eq (g2 := F0 m 9 ls [.null]) rfl ?_
    refine lv_astore_nN (lv' := [(3, .null), (0, .ref xx), (1, .int za), (2, .int zb)]) hx hb dX11_unlike_9 rfl hl (by decide) rfl (fun ls hl => ?_)
    refine lv_aload_nN hx hb dX11_unlike_10 rfl (lv_at hl 0 rfl) ?_
    refine lv_ifnullN (tgt := 25) hx hb dX11_unlike_11 (by decide) ?_
    refine lv_iconst (v := (-1)) hx hb dX11_unlike_25 (by decide) ?_
    exact et_iret hx hb hr hlk rfl hS ((-1), fv, im) rfl ⟨(show Tb κ im fs fv 3 from htb), (show Sb im im from Sb.rf)⟩ (subP hP [0, 1, 2, 3] rfl) (subD hD [0, 1, 2, 3] (by decide) rfl) (Nat.le_of_ble_eq_true rfl) (Nat.le_of_ble_eq_true rfl) dX11_unlike_26
set_option maxHeartbeats 4000000 in
set_option maxRecDepth 100000 in
theorem c_X11_back (l : Launch) (D : va_G) (κ : Nat → ClassId) (κq : Nat → Nat) (im : va_W) (xx : Nat) (tp : Nat) (ft : Nat) (rd : Nat) (wr : Nat) (st2 : Nat) (zi : Int32) (st : Nat) (d : Nat) (sh : Nat) (vw : Nat) (ta : Nat) (sa : Nat) (n : Nat) (fs : Nat → Option Nat) (fv : Nat → Option Nat) (za : Int32) (htb : Tb κ im fs fv 3) : Et l yX11_back (wl yX11_back cX11_back 3 (some .int)) { frames := 2, cells := 0, slots := 0, locals := 41 } D κ κq [.ref xx, .int za] ([(xx, .inr (11, [.ref st, .ref tp, .ref ft, .ref rd, .ref wr, .ref st2, .int zi])), (st, .inr (6, [.ref d, .ref sh, .ref vw, .ref ta, .ref sa, .int (nI n)])), (sh, .inl (κ 4, 3, .inr (.inr (.inr (.inr fs))))), (vw, .inl (κ 5, 3, .inr (.inr (.inr (.inr fv)))))] ++ im) (fun u9 : Int32 × (Nat → Option Nat) => some (.int u9.1)) (fun u9 : Int32 × (Nat → Option Nat) => Tb κ im fs u9.2 3) (fun u9 : Int32 × (Nat → Option Nat) => ([(xx, .inr (11, [.ref st, .ref tp, .ref ft, .ref rd, .ref wr, .ref st2, .int zi])), (st, .inr (6, [.ref d, .ref sh, .ref vw, .ref ta, .ref sa, .int (nI n)])), (sh, .inl (κ 4, 3, .inr (.inr (.inr (.inr fs))))), (vw, .inl (κ 5, 3, .inr (.inr (.inr (.inr u9.2)))))] ++ im)) := by
  refine et_of (by decide +kernel) (Nat.le_of_ble_eq_true rfl) ?_
  intro p e s m args below meth c A ls hx hb hr hml hts hown hlk hin hKK hK hA hP hD hS hE hl
  have hS : va_S A s.heap s.heap [] := hS
  have hP : va_P D vwCl ([(xx, .inr (11, [.ref st, .ref tp, .ref ft, .ref rd, .ref wr, .ref st2, .int zi])), (st, .inr (6, [.ref d, .ref sh, .ref vw, .ref ta, .ref sa, .int (nI n)])), (sh, .inl (κ 4, 3, .inr (.inr (.inr (.inr fs))))), (vw, .inl (κ 5, 3, .inr (.inr (.inr (.inr fv)))))] ++ im) s.heap := hP
  have hD : va_D A ([(xx, .inr (11, [.ref st, .ref tp, .ref ft, .ref rd, .ref wr, .ref st2, .int zi])), (st, .inr (6, [.ref d, .ref sh, .ref vw, .ref ta, .ref sa, .int (nI n)])), (sh, .inl (κ 4, 3, .inr (.inr (.inr (.inr fs))))), (vw, .inl (κ 5, 3, .inr (.inr (.inr (.inr fv)))))] ++ im) := hD
  have hFX : FX p s m args c cX11_back 3 RX11 := ⟨hx, hb, hml, hown, hts⟩
  have hl : lv_has ls 3 [(0, .ref xx), (1, .int za)] := hl
  rcases pl_cases za with ⟨t, ht_t, rfl⟩ | hnp_za
  · skip
    rcases htb t (by omega) with ⟨e_1, e_2⟩ | ⟨a_3, R_4, w_5, d_6, v_7, e_1, e_2, h_8, h_9, hd_10⟩
    · skip
      refine lv_aload_n hx hb dX11_back_0 rfl (lv_at hl 0 rfl) ?_
      refine va_get (D := D) (ci := 11) (v := .ref st) (C := RX11) (T := TX11) (N := 7) hx hb hts inlX11 hown hK hP 0 rfl rfl 0 (by decide) (hts _ mw_15) (fun _ h9 => h9) rfl dX11_back_1 ?_
      refine lv_iload_n hx hb dX11_back_4 rfl (lv_at hl 1 rfl) ?_
      refine er_V (As := [.int (nI t)]) (rest := []) hFX hKK hE hS (c_X6_topOf_n l D κ κq st d sh vw ta sa n fv t (by omega) e_2) 1 gV_X11_231 hdV_X6_topOf rfl rfl ⟨Nat.le_of_ble_eq_true rfl, Nat.le_of_ble_eq_true rfl⟩ rfl rfl (Nat.le_of_ble_eq_true rfl) dX11_back_5 ⟨Nat.le_of_ble_eq_true rfl, Nat.le_of_ble_eq_true rfl⟩ hl.1 hP 1 6 rfl rfl rfl (subP0 hP [1, 3] rfl) (fun _ hp_11 => ?_)
      refine W.eq (g2 := F0 m 8 ls [.null]) rfl ?_
      refine lv_astore_nN (lv' := [(2, .null), (0, .ref xx), (1, .int (nI t))]) hx hb dX11_back_8 rfl hl (by decide) rfl (fun ls hl => ?_)
      refine lv_aload_nN hx hb dX11_back_9 rfl (lv_at hl 0 rfl) ?_
      refine lv_ifnullN (tgt := 20) hx hb dX11_back_10 (by decide) ?_
      refine lv_iconst (v := (-1)) hx hb dX11_back_20 (by decide) ?_
      exact et_iret hx hb hr hlk rfl hS ((-1), fv) rfl (show Tb κ im fs fv 3 from htb) (subP hP [0, 1, 2, 3] rfl) (subD hD [0, 1, 2, 3] (by decide) rfl) (Nat.le_of_ble_eq_true rfl) (Nat.le_of_ble_eq_true rfl) dX11_back_21
    · have hle_a_3 := h_8.le
      refine lv_aload_n hx hb dX11_back_0 rfl (lv_at hl 0 rfl) ?_
      refine va_get (D := D) (ci := 11) (v := .ref st) (C := RX11) (T := TX11) (N := 7) hx hb hts inlX11 hown hK hP 0 rfl rfl 0 (by decide) (hts _ mw_15) (fun _ h9 => h9) rfl dX11_back_1 ?_
      refine lv_iload_n hx hb dX11_back_4 rfl (lv_at hl 1 rfl) ?_
      refine er_V (As := [.int (nI t)]) (rest := []) hFX hKK hE hS (c_X6_topOf_s l D κ κq st d sh vw ta sa n fv t v_7 (by omega) e_2) 1 gV_X11_231 hdV_X6_topOf rfl rfl ⟨Nat.le_of_ble_eq_true rfl, Nat.le_of_ble_eq_true rfl⟩ rfl rfl (Nat.le_of_ble_eq_true rfl) dX11_back_5 ⟨Nat.le_of_ble_eq_true rfl, Nat.le_of_ble_eq_true rfl⟩ hl.1 hP 1 6 rfl rfl rfl (subP0 hP [1, 3] rfl) (fun _ hp_12 => ?_)
      refine W.eq (g2 := F0 m 8 ls [.ref v_7]) rfl ?_
      refine lv_astore_n (lv' := [(2, .ref v_7), (0, .ref xx), (1, .int (nI t))]) hx hb dX11_back_8 rfl hl (by decide) rfl (fun ls hl => ?_)
      refine lv_aload_n hx hb dX11_back_9 rfl (lv_at hl 0 rfl) ?_
      refine lv_ifnull hx hb dX11_back_10 ?_
      refine lv_aload_n hx hb dX11_back_13 rfl (lv_at hl 0 rfl) ?_
      rcases (show d_6 = 0 ∨ ∃ d9 : Nat, d_6 = d9 + 1 from (by rcases Nat.eq_zero_or_pos d_6 with h9 | h9; (exact Or.inl h9); exact Or.inr ⟨d_6 - 1, by omega⟩)) with rfl | ⟨d_13, rfl⟩
      · skip
        obtain ⟨r_14, n_15, hm_16, ix_17⟩ := id h_9
        refine va_get (D := D) (ci := 9) (v := .null) (C := RX9) (T := TX9) (N := 3) hx hb hts inlX9 hown hK (oneP (C := [(xx, .inr (11, [.ref st, .ref tp, .ref ft, .ref rd, .ref wr, .ref st2, .int zi])), (st, .inr (6, [.ref d, .ref sh, .ref vw, .ref ta, .ref sa, .int (nI n)])), (sh, .inl (κ 4, 3, .inr (.inr (.inr (.inr fs))))), (vw, .inl (κ 5, 3, .inr (.inr (.inr (.inr fv)))))]) hP hm_16) 0 rfl rfl 1 (by decide) (hts _ mw_1122) (fun _ h9 => h9) rfl dX11_back_14 ?_
        refine lv_ifnonnullN hx hb dX11_back_17 ?_
        refine lv_iconst (v := (-1)) hx hb dX11_back_20 (by decide) ?_
        exact et_iret hx hb hr hlk rfl hS ((-1), fv) rfl (show Tb κ im fs fv 3 from htb) (subP hP [0, 1, 2, 3] rfl) (subD hD [0, 1, 2, 3] (by decide) rfl) (Nat.le_of_ble_eq_true rfl) (Nat.le_of_ble_eq_true rfl) dX11_back_21
      · skip
        obtain ⟨r_18, n_19, u_20, hm_21, ix_22, hu_23⟩ := id h_9
        refine va_get (D := D) (ci := 9) (v := .ref u_20) (C := RX9) (T := TX9) (N := 3) hx hb hts inlX9 hown hK (oneP (C := [(xx, .inr (11, [.ref st, .ref tp, .ref ft, .ref rd, .ref wr, .ref st2, .int zi])), (st, .inr (6, [.ref d, .ref sh, .ref vw, .ref ta, .ref sa, .int (nI n)])), (sh, .inl (κ 4, 3, .inr (.inr (.inr (.inr fs))))), (vw, .inl (κ 5, 3, .inr (.inr (.inr (.inr fv)))))]) hP hm_21) 0 rfl rfl 1 (by decide) (hts _ mw_1122) (fun _ h9 => h9) rfl dX11_back_14 ?_
        refine lv_ifnonnull (tgt := 22) hx hb dX11_back_17 (by decide) ?_
        refine lv_aload_n hx hb dX11_back_22 rfl (lv_at hl 1 rfl) ?_
        refine va_get (D := D) (ci := 11) (v := .ref st) (C := RX11) (T := TX11) (N := 7) hx hb hts inlX11 hown hK hP 0 rfl rfl 0 (by decide) (hts _ mw_15) (fun _ h9 => h9) rfl dX11_back_23 ?_
        refine lv_iload_n hx hb dX11_back_26 rfl (lv_at hl 2 rfl) ?_
        refine lv_aload_n hx hb dX11_back_27 rfl (lv_at hl 0 rfl) ?_
        refine va_get (D := D) (ci := 9) (v := .ref u_20) (C := RX9) (T := TX9) (N := 3) hx hb hts inlX9 hown hK (oneP (C := [(xx, .inr (11, [.ref st, .ref tp, .ref ft, .ref rd, .ref wr, .ref st2, .int zi])), (st, .inr (6, [.ref d, .ref sh, .ref vw, .ref ta, .ref sa, .int (nI n)])), (sh, .inl (κ 4, 3, .inr (.inr (.inr (.inr fs))))), (vw, .inl (κ 5, 3, .inr (.inr (.inr (.inr fv)))))]) hP hm_21) 0 rfl rfl 1 (by decide) (hts _ mw_1122) (fun _ h9 => h9) rfl dX11_back_28 ?_
        refine et_VT (CR := [(xx, .inr (11, [.ref st, .ref tp, .ref ft, .ref rd, .ref wr, .ref st2, .int zi])), (sh, .inl (κ 4, 3, .inr (.inr (.inr (.inr fs)))))]) (As := [.int (nI t), .ref u_20]) (rest := []) hFX hKK hE hP hD hS hA (c_X6_setTop l D κ κq im st d sh vw ta sa n fs fv t a_3 R_4 w_5 u_20 d_13 (by omega) htb e_1 h_8 hu_23 (by omega)) 2 gV_X11_259 hdV_X6_setTop ⟨Nat.le_of_ble_eq_true rfl, Nat.le_of_ble_eq_true rfl⟩ rfl rfl (Nat.le_of_ble_eq_true rfl) dX11_back_31 ⟨Nat.le_of_ble_eq_true rfl, Nat.le_of_ble_eq_true rfl⟩ hl.1 [1, 3] [0, 2] rfl rfl (by decide) (by decide) (by decide) hP 1 6 rfl rfl rfl (fun gv__24 H locs hp_25 hP hD hS => ?_)
        refine W.widen (k := 0) (n := 0) (Nat.le_refl _) (Nat.le_refl _) ?_
        replace hP : va_P D vwCl ([(xx, .inr (11, [.ref st, .ref tp, .ref ft, .ref rd, .ref wr, .ref st2, .int zi])), (st, .inr (6, [.ref d, .ref sh, .ref vw, .ref ta, .ref sa, .int (nI n)])), (sh, .inl (κ 4, 3, .inr (.inr (.inr (.inr fs))))), (vw, .inl (κ 5, 3, .inr (.inr (.inr (.inr gv__24)))))] ++ im) H := subP (C := [(xx, .inr (11, [.ref st, .ref tp, .ref ft, .ref rd, .ref wr, .ref st2, .int zi])), (sh, .inl (κ 4, 3, .inr (.inr (.inr (.inr fs))))), (st, .inr (6, [.ref d, .ref sh, .ref vw, .ref ta, .ref sa, .int (nI n)])), (vw, .inl (κ 5, 3, .inr (.inr (.inr (.inr gv__24)))))]) hP [0, 2, 1, 3] rfl
        replace hD : va_D A ([(xx, .inr (11, [.ref st, .ref tp, .ref ft, .ref rd, .ref wr, .ref st2, .int zi])), (st, .inr (6, [.ref d, .ref sh, .ref vw, .ref ta, .ref sa, .int (nI n)])), (sh, .inl (κ 4, 3, .inr (.inr (.inr (.inr fs))))), (vw, .inl (κ 5, 3, .inr (.inr (.inr (.inr gv__24)))))] ++ im) := subD (C := [(xx, .inr (11, [.ref st, .ref tp, .ref ft, .ref rd, .ref wr, .ref st2, .int zi])), (sh, .inl (κ 4, 3, .inr (.inr (.inr (.inr fs))))), (st, .inr (6, [.ref d, .ref sh, .ref vw, .ref ta, .ref sa, .int (nI n)])), (vw, .inl (κ 5, 3, .inr (.inr (.inr (.inr gv__24)))))]) hD [0, 2, 1, 3] (by decide) rfl
        replace hp_25 : Tb κ im fs gv__24 3 := hp_25
        have h_26 := hp_25
        clear hp_25
        refine W.eq (g2 := F0 m 34 ls []) rfl ?_
        refine lv_aload_n hx hb dX11_back_34 rfl (lv_at hl 0 rfl) ?_
        refine va_get (D := D) (ci := 9) (v := .ref u_20) (C := RX9) (T := TX9) (N := 3) hx hb hts inlX9 hown hK (oneP (C := [(xx, .inr (11, [.ref st, .ref tp, .ref ft, .ref rd, .ref wr, .ref st2, .int zi])), (st, .inr (6, [.ref d, .ref sh, .ref vw, .ref ta, .ref sa, .int (nI n)])), (sh, .inl (κ 4, 3, .inr (.inr (.inr (.inr fs))))), (vw, .inl (κ 5, 3, .inr (.inr (.inr (.inr gv__24)))))]) hP hm_21) 0 rfl rfl 1 (by decide) (hts _ mw_1122) (fun _ h9 => h9) rfl dX11_back_35 ?_
        obtain ⟨r_27, n_28, u_29, hm_30, ix_31⟩ := Vw_cell hu_23
        refine va_get (D := D) (ci := 9) (v := .int (nI d_13)) (C := RX9) (T := TX9) (N := 3) hx hb hts inlX9 hown hK (oneP (C := [(xx, .inr (11, [.ref st, .ref tp, .ref ft, .ref rd, .ref wr, .ref st2, .int zi])), (st, .inr (6, [.ref d, .ref sh, .ref vw, .ref ta, .ref sa, .int (nI n)])), (sh, .inl (κ 4, 3, .inr (.inr (.inr (.inr fs))))), (vw, .inl (κ 5, 3, .inr (.inr (.inr (.inr gv__24)))))]) hP hm_30) 0 rfl rfl 2 (by decide) (hts _ mw_1123) (fun _ h9 => h9) rfl dX11_back_38 ?_
        exact et_iret hx hb hr hlk rfl hS (nI d_13, gv__24) rfl (show Tb κ im fs gv__24 3 from h_26) (subP hP [0, 1, 2, 3] rfl) (subD hD [0, 1, 2, 3] (by decide) rfl) (Nat.le_of_ble_eq_true rfl) (Nat.le_of_ble_eq_true rfl) dX11_back_41
  · skip
    refine lv_aload_n hx hb dX11_back_0 rfl (lv_at hl 0 rfl) ?_
    refine va_get (D := D) (ci := 11) (v := .ref st) (C := RX11) (T := TX11) (N := 7) hx hb hts inlX11 hown hK hP 0 rfl rfl 0 (by decide) (hts _ mw_15) (fun _ h9 => h9) rfl dX11_back_1 ?_
    refine lv_iload_n hx hb dX11_back_4 rfl (lv_at hl 1 rfl) ?_
    refine er_V (As := [.int za]) (rest := []) hFX hKK hE hS (c_X6_topOf_x l D κ κq st d sh vw ta sa n za (by assumption)) 1 gV_X11_231 hdV_X6_topOf rfl rfl ⟨Nat.le_of_ble_eq_true rfl, Nat.le_of_ble_eq_true rfl⟩ rfl rfl (Nat.le_of_ble_eq_true rfl) dX11_back_5 ⟨Nat.le_of_ble_eq_true rfl, Nat.le_of_ble_eq_true rfl⟩ hl.1 hP 1 6 rfl rfl rfl (subP0 hP [1] rfl) (fun _ hp_32 => ?_)
    refine W.eq (g2 := F0 m 8 ls [.null]) rfl ?_
    refine lv_astore_nN (lv' := [(2, .null), (0, .ref xx), (1, .int za)]) hx hb dX11_back_8 rfl hl (by decide) rfl (fun ls hl => ?_)
    refine lv_aload_nN hx hb dX11_back_9 rfl (lv_at hl 0 rfl) ?_
    refine lv_ifnullN (tgt := 20) hx hb dX11_back_10 (by decide) ?_
    refine lv_iconst (v := (-1)) hx hb dX11_back_20 (by decide) ?_
    exact et_iret hx hb hr hlk rfl hS ((-1), fv) rfl (show Tb κ im fs fv 3 from htb) (subP hP [0, 1, 2, 3] rfl) (subD hD [0, 1, 2, 3] (by decide) rfl) (Nat.le_of_ble_eq_true rfl) (Nat.le_of_ble_eq_true rfl) dX11_back_21
set_option maxHeartbeats 4000000 in
set_option maxRecDepth 100000 in
theorem c_X11_find (l : Launch) (D : va_G) (κ : Nat → ClassId) (κq : Nat → Nat) (im : va_W) (xx : Nat) (tp : Nat) (ft : Nat) (rd : Nat) (wr : Nat) (st2 : Nat) (zi : Int32) (st : Nat) (d : Nat) (sh : Nat) (vw : Nat) (ta : Nat) (sa : Nat) (n : Nat) (fs : Nat → Option Nat) (fv : Nat → Option Nat) (tb : Nat) (L : Nat) (tf : Nat → Int32) (za : Int32) (htb : Tb κ im fs fv 3) (hL : L ≤ 800) : Et l yX11_find (wl yX11_find cX11_find 4 (some .int)) { frames := 4, cells := 2, slots := 40, locals := 82 } D κ κq [.ref xx, .int za] ([(xx, .inr (11, [.ref st, .ref tp, .ref ft, .ref rd, .ref wr, .ref st2, .int zi])), (st, .inr (6, [.ref d, .ref sh, .ref vw, .ref ta, .ref sa, .int (nI n)])), (sh, .inl (κ 4, 3, .inr (.inr (.inr (.inr fs))))), (vw, .inl (κ 5, 3, .inr (.inr (.inr (.inr fv))))), (tp, .inr (8, [.ref tb, .int (nI L)])), (tb, .inl (κ 0, 800, .inl tf))] ++ im) (fun u9 : Int32 × va_W => some (.int u9.1)) (fun u9 : Int32 × va_W => Sb im u9.2) (fun u9 : Int32 × va_W => ([(xx, .inr (11, [.ref st, .ref tp, .ref ft, .ref rd, .ref wr, .ref st2, .int zi])), (st, .inr (6, [.ref d, .ref sh, .ref vw, .ref ta, .ref sa, .int (nI n)])), (sh, .inl (κ 4, 3, .inr (.inr (.inr (.inr fs))))), (vw, .inl (κ 5, 3, .inr (.inr (.inr (.inr fv))))), (tp, .inr (8, [.ref tb, .int 0])), (tb, .inl (κ 0, 800, .inl tf))] ++ u9.2)) := by
  refine et_of (by decide +kernel) (Nat.le_of_ble_eq_true rfl) ?_
  intro p e s m args below meth c A ls hx hb hr hml hts hown hlk hin hKK hK hA hP hD hS hE hl
  have hS : va_S A s.heap s.heap [] := hS
  have hP : va_P D vwCl ([(xx, .inr (11, [.ref st, .ref tp, .ref ft, .ref rd, .ref wr, .ref st2, .int zi])), (st, .inr (6, [.ref d, .ref sh, .ref vw, .ref ta, .ref sa, .int (nI n)])), (sh, .inl (κ 4, 3, .inr (.inr (.inr (.inr fs))))), (vw, .inl (κ 5, 3, .inr (.inr (.inr (.inr fv))))), (tp, .inr (8, [.ref tb, .int (nI L)])), (tb, .inl (κ 0, 800, .inl tf))] ++ im) s.heap := hP
  have hD : va_D A ([(xx, .inr (11, [.ref st, .ref tp, .ref ft, .ref rd, .ref wr, .ref st2, .int zi])), (st, .inr (6, [.ref d, .ref sh, .ref vw, .ref ta, .ref sa, .int (nI n)])), (sh, .inl (κ 4, 3, .inr (.inr (.inr (.inr fs))))), (vw, .inl (κ 5, 3, .inr (.inr (.inr (.inr fv))))), (tp, .inr (8, [.ref tb, .int (nI L)])), (tb, .inl (κ 0, 800, .inl tf))] ++ im) := hD
  have hFX : FX p s m args c cX11_find 4 RX11 := ⟨hx, hb, hml, hown, hts⟩
  have hl : lv_has ls 4 [(0, .ref xx), (1, .int za)] := hl
  rcases pl_cases za with ⟨t, ht_t, rfl⟩ | hnp_za
  · skip
    rcases htb t (by omega) with ⟨e_1, e_2⟩ | ⟨a_3, R_4, w_5, d_6, v_7, e_1, e_2, h_8, h_9, hd_10⟩
    · skip
      refine lv_aload_n hx hb dX11_find_0 rfl (lv_at hl 0 rfl) ?_
      refine va_get (D := D) (ci := 11) (v := .ref tp) (C := RX11) (T := TX11) (N := 7) hx hb hts inlX11 hown hK hP 0 rfl rfl 1 (by decide) (hts _ mw_19) (fun _ h9 => h9) rfl dX11_find_1 ?_
      refine et_VT (CR := [(xx, .inr (11, [.ref st, .ref tp, .ref ft, .ref rd, .ref wr, .ref st2, .int zi])), (st, .inr (6, [.ref d, .ref sh, .ref vw, .ref ta, .ref sa, .int (nI n)])), (sh, .inl (κ 4, 3, .inr (.inr (.inr (.inr fs))))), (vw, .inl (κ 5, 3, .inr (.inr (.inr (.inr fv)))))]) (As := []) (rest := []) hFX hKK hE hP hD hS hA (c_X8_takeName l D κ κq im tp tb L tf (by omega)) 0 gV_X11_157 hdV_X8_takeName ⟨Nat.le_of_ble_eq_true rfl, Nat.le_of_ble_eq_true rfl⟩ rfl rfl (Nat.le_of_ble_eq_true rfl) dX11_find_4 ⟨Nat.le_of_ble_eq_true rfl, Nat.le_of_ble_eq_true rfl⟩ hl.1 [4, 5] [0, 1, 2, 3] rfl rfl (by decide) (by decide) (by decide) hP 4 8 rfl rfl rfl (fun u_13 H locs hp_14 hP hD hS => ?_)
      refine W.widen (k := 1) (n := 20) (Nat.le_refl _) (Nat.le_refl _) ?_
      obtain ⟨r__11, im2__12⟩ := u_13
      replace hP : va_P D vwCl ([(xx, .inr (11, [.ref st, .ref tp, .ref ft, .ref rd, .ref wr, .ref st2, .int zi])), (st, .inr (6, [.ref d, .ref sh, .ref vw, .ref ta, .ref sa, .int (nI n)])), (sh, .inl (κ 4, 3, .inr (.inr (.inr (.inr fs))))), (vw, .inl (κ 5, 3, .inr (.inr (.inr (.inr fv))))), (tp, .inr (8, [.ref tb, .int 0])), (tb, .inl (κ 0, 800, .inl tf))] ++ im2__12) H := subP (C := [(xx, .inr (11, [.ref st, .ref tp, .ref ft, .ref rd, .ref wr, .ref st2, .int zi])), (st, .inr (6, [.ref d, .ref sh, .ref vw, .ref ta, .ref sa, .int (nI n)])), (sh, .inl (κ 4, 3, .inr (.inr (.inr (.inr fs))))), (vw, .inl (κ 5, 3, .inr (.inr (.inr (.inr fv))))), (tp, .inr (8, [.ref tb, .int 0])), (tb, .inl (κ 0, 800, .inl tf))]) hP [0, 1, 2, 3, 4, 5] rfl
      replace hD : va_D A ([(xx, .inr (11, [.ref st, .ref tp, .ref ft, .ref rd, .ref wr, .ref st2, .int zi])), (st, .inr (6, [.ref d, .ref sh, .ref vw, .ref ta, .ref sa, .int (nI n)])), (sh, .inl (κ 4, 3, .inr (.inr (.inr (.inr fs))))), (vw, .inl (κ 5, 3, .inr (.inr (.inr (.inr fv))))), (tp, .inr (8, [.ref tb, .int 0])), (tb, .inl (κ 0, 800, .inl tf))] ++ im2__12) := subD (C := [(xx, .inr (11, [.ref st, .ref tp, .ref ft, .ref rd, .ref wr, .ref st2, .int zi])), (st, .inr (6, [.ref d, .ref sh, .ref vw, .ref ta, .ref sa, .int (nI n)])), (sh, .inl (κ 4, 3, .inr (.inr (.inr (.inr fs))))), (vw, .inl (κ 5, 3, .inr (.inr (.inr (.inr fv))))), (tp, .inr (8, [.ref tb, .int 0])), (tb, .inl (κ 0, 800, .inl tf))]) hD [0, 1, 2, 3, 4, 5] (by decide) rfl
      replace hp_14 : Sb im im2__12 ∧ ((r__11 = none) ∨ (∃ (q : Nat), ∃ (n : Nat), r__11 = some q ∧ By κ im2__12 q n ∧ n ≤ 12 ∧ 1 ≤ n)) := hp_14
      obtain ⟨h_15, ha_16⟩ := hp_14
      replace htb := htb.up h_15
      rcases ha_16 with rfl | ⟨q__17, n__18, rfl, a_19, a_20, a_21⟩
      · refine W.eq (g2 := F0 m 7 ls [.null]) rfl ?_
        refine lv_astore_nN (lv' := [(2, .null), (0, .ref xx), (1, .int (nI t))]) hx hb dX11_find_7 rfl hl (by decide) rfl (fun ls hl => ?_)
        refine lv_aload_n hx hb dX11_find_8 rfl (lv_at hl 1 rfl) ?_
        refine va_get (D := D) (ci := 11) (v := .ref st) (C := RX11) (T := TX11) (N := 7) hx hb hts inlX11 hown hK hP 0 rfl rfl 0 (by decide) (hts _ mw_15) (fun _ h9 => h9) rfl dX11_find_9 ?_
        refine lv_iload_n hx hb dX11_find_12 rfl (lv_at hl 2 rfl) ?_
        refine er_V (As := [.int (nI t)]) (rest := []) hFX hKK hE hS (c_X6_sheetOf_n l D κ κq st d sh vw ta sa n fs t (by omega) e_1) 1 gV_X11_114 hdV_X6_sheetOf rfl rfl ⟨Nat.le_of_ble_eq_true rfl, Nat.le_of_ble_eq_true rfl⟩ rfl rfl (Nat.le_of_ble_eq_true rfl) dX11_find_13 ⟨Nat.le_of_ble_eq_true rfl, Nat.le_of_ble_eq_true rfl⟩ hl.1 hP 1 6 rfl rfl rfl (subP0 hP [1, 2] rfl) (fun _ hp_22 => ?_)
        refine W.eq (g2 := F0 m 16 ls [.null]) rfl ?_
        refine lv_astore_nN (lv' := [(3, .null), (2, .null), (0, .ref xx), (1, .int (nI t))]) hx hb dX11_find_16 rfl hl (by decide) rfl (fun ls hl => ?_)
        refine lv_aload_nN hx hb dX11_find_17 rfl (lv_at hl 1 rfl) ?_
        refine lv_ifnullN (tgt := 25) hx hb dX11_find_18 (by decide) ?_
        refine lv_iconst (v := (-1)) hx hb dX11_find_25 (by decide) ?_
        exact et_iret hx hb hr hlk rfl hS ((-1), im2__12) rfl (show Sb im im2__12 from h_15) (subP hP [0, 1, 2, 3, 4, 5] rfl) (subD hD [0, 1, 2, 3, 4, 5] (by decide) rfl) (Nat.le_of_ble_eq_true rfl) (Nat.le_of_ble_eq_true rfl) dX11_find_26
      · refine W.eq (g2 := F0 m 7 ls [.ref q__17]) rfl ?_
        refine lv_astore_n (lv' := [(2, .ref q__17), (0, .ref xx), (1, .int (nI t))]) hx hb dX11_find_7 rfl hl (by decide) rfl (fun ls hl => ?_)
        refine lv_aload_n hx hb dX11_find_8 rfl (lv_at hl 1 rfl) ?_
        refine va_get (D := D) (ci := 11) (v := .ref st) (C := RX11) (T := TX11) (N := 7) hx hb hts inlX11 hown hK hP 0 rfl rfl 0 (by decide) (hts _ mw_15) (fun _ h9 => h9) rfl dX11_find_9 ?_
        refine lv_iload_n hx hb dX11_find_12 rfl (lv_at hl 2 rfl) ?_
        refine er_V (As := [.int (nI t)]) (rest := []) hFX hKK hE hS (c_X6_sheetOf_n l D κ κq st d sh vw ta sa n fs t (by omega) e_1) 1 gV_X11_114 hdV_X6_sheetOf rfl rfl ⟨Nat.le_of_ble_eq_true rfl, Nat.le_of_ble_eq_true rfl⟩ rfl rfl (Nat.le_of_ble_eq_true rfl) dX11_find_13 ⟨Nat.le_of_ble_eq_true rfl, Nat.le_of_ble_eq_true rfl⟩ hl.1 hP 1 6 rfl rfl rfl (subP0 hP [1, 2] rfl) (fun _ hp_23 => ?_)
        refine W.eq (g2 := F0 m 16 ls [.null]) rfl ?_
        refine lv_astore_nN (lv' := [(3, .null), (2, .ref q__17), (0, .ref xx), (1, .int (nI t))]) hx hb dX11_find_16 rfl hl (by decide) rfl (fun ls hl => ?_)
        refine lv_aload_n hx hb dX11_find_17 rfl (lv_at hl 1 rfl) ?_
        refine lv_ifnull hx hb dX11_find_18 ?_
        refine lv_aload_nN hx hb dX11_find_21 rfl (lv_at hl 0 rfl) ?_
        refine lv_ifnonnullN hx hb dX11_find_22 ?_
        refine lv_iconst (v := (-1)) hx hb dX11_find_25 (by decide) ?_
        exact et_iret hx hb hr hlk rfl hS ((-1), im2__12) rfl (show Sb im im2__12 from h_15) (subP hP [0, 1, 2, 3, 4, 5] rfl) (subD hD [0, 1, 2, 3, 4, 5] (by decide) rfl) (Nat.le_of_ble_eq_true rfl) (Nat.le_of_ble_eq_true rfl) dX11_find_26
    · have hle_a_3 := h_8.le
      refine lv_aload_n hx hb dX11_find_0 rfl (lv_at hl 0 rfl) ?_
      refine va_get (D := D) (ci := 11) (v := .ref tp) (C := RX11) (T := TX11) (N := 7) hx hb hts inlX11 hown hK hP 0 rfl rfl 1 (by decide) (hts _ mw_19) (fun _ h9 => h9) rfl dX11_find_1 ?_
      refine et_VT (CR := [(xx, .inr (11, [.ref st, .ref tp, .ref ft, .ref rd, .ref wr, .ref st2, .int zi])), (st, .inr (6, [.ref d, .ref sh, .ref vw, .ref ta, .ref sa, .int (nI n)])), (sh, .inl (κ 4, 3, .inr (.inr (.inr (.inr fs))))), (vw, .inl (κ 5, 3, .inr (.inr (.inr (.inr fv)))))]) (As := []) (rest := []) hFX hKK hE hP hD hS hA (c_X8_takeName l D κ κq im tp tb L tf (by omega)) 0 gV_X11_157 hdV_X8_takeName ⟨Nat.le_of_ble_eq_true rfl, Nat.le_of_ble_eq_true rfl⟩ rfl rfl (Nat.le_of_ble_eq_true rfl) dX11_find_4 ⟨Nat.le_of_ble_eq_true rfl, Nat.le_of_ble_eq_true rfl⟩ hl.1 [4, 5] [0, 1, 2, 3] rfl rfl (by decide) (by decide) (by decide) hP 4 8 rfl rfl rfl (fun u_26 H locs hp_27 hP hD hS => ?_)
      refine W.widen (k := 1) (n := 20) (Nat.le_refl _) (Nat.le_refl _) ?_
      obtain ⟨r__24, im2__25⟩ := u_26
      replace hP : va_P D vwCl ([(xx, .inr (11, [.ref st, .ref tp, .ref ft, .ref rd, .ref wr, .ref st2, .int zi])), (st, .inr (6, [.ref d, .ref sh, .ref vw, .ref ta, .ref sa, .int (nI n)])), (sh, .inl (κ 4, 3, .inr (.inr (.inr (.inr fs))))), (vw, .inl (κ 5, 3, .inr (.inr (.inr (.inr fv))))), (tp, .inr (8, [.ref tb, .int 0])), (tb, .inl (κ 0, 800, .inl tf))] ++ im2__25) H := subP (C := [(xx, .inr (11, [.ref st, .ref tp, .ref ft, .ref rd, .ref wr, .ref st2, .int zi])), (st, .inr (6, [.ref d, .ref sh, .ref vw, .ref ta, .ref sa, .int (nI n)])), (sh, .inl (κ 4, 3, .inr (.inr (.inr (.inr fs))))), (vw, .inl (κ 5, 3, .inr (.inr (.inr (.inr fv))))), (tp, .inr (8, [.ref tb, .int 0])), (tb, .inl (κ 0, 800, .inl tf))]) hP [0, 1, 2, 3, 4, 5] rfl
      replace hD : va_D A ([(xx, .inr (11, [.ref st, .ref tp, .ref ft, .ref rd, .ref wr, .ref st2, .int zi])), (st, .inr (6, [.ref d, .ref sh, .ref vw, .ref ta, .ref sa, .int (nI n)])), (sh, .inl (κ 4, 3, .inr (.inr (.inr (.inr fs))))), (vw, .inl (κ 5, 3, .inr (.inr (.inr (.inr fv))))), (tp, .inr (8, [.ref tb, .int 0])), (tb, .inl (κ 0, 800, .inl tf))] ++ im2__25) := subD (C := [(xx, .inr (11, [.ref st, .ref tp, .ref ft, .ref rd, .ref wr, .ref st2, .int zi])), (st, .inr (6, [.ref d, .ref sh, .ref vw, .ref ta, .ref sa, .int (nI n)])), (sh, .inl (κ 4, 3, .inr (.inr (.inr (.inr fs))))), (vw, .inl (κ 5, 3, .inr (.inr (.inr (.inr fv))))), (tp, .inr (8, [.ref tb, .int 0])), (tb, .inl (κ 0, 800, .inl tf))]) hD [0, 1, 2, 3, 4, 5] (by decide) rfl
      replace hp_27 : Sb im im2__25 ∧ ((r__24 = none) ∨ (∃ (q : Nat), ∃ (n : Nat), r__24 = some q ∧ By κ im2__25 q n ∧ n ≤ 12 ∧ 1 ≤ n)) := hp_27
      obtain ⟨h_28, ha_29⟩ := hp_27
      replace htb := htb.up h_28
      replace h_8 := h_8.up h_28
      replace h_9 := h_9.up h_28
      rcases ha_29 with rfl | ⟨q__30, n__31, rfl, a_32, a_33, a_34⟩
      · refine W.eq (g2 := F0 m 7 ls [.null]) rfl ?_
        refine lv_astore_nN (lv' := [(2, .null), (0, .ref xx), (1, .int (nI t))]) hx hb dX11_find_7 rfl hl (by decide) rfl (fun ls hl => ?_)
        refine lv_aload_n hx hb dX11_find_8 rfl (lv_at hl 1 rfl) ?_
        refine va_get (D := D) (ci := 11) (v := .ref st) (C := RX11) (T := TX11) (N := 7) hx hb hts inlX11 hown hK hP 0 rfl rfl 0 (by decide) (hts _ mw_15) (fun _ h9 => h9) rfl dX11_find_9 ?_
        refine lv_iload_n hx hb dX11_find_12 rfl (lv_at hl 2 rfl) ?_
        refine er_V (As := [.int (nI t)]) (rest := []) hFX hKK hE hS (c_X6_sheetOf_s l D κ κq st d sh vw ta sa n fs t a_3 (by omega) e_1) 1 gV_X11_114 hdV_X6_sheetOf rfl rfl ⟨Nat.le_of_ble_eq_true rfl, Nat.le_of_ble_eq_true rfl⟩ rfl rfl (Nat.le_of_ble_eq_true rfl) dX11_find_13 ⟨Nat.le_of_ble_eq_true rfl, Nat.le_of_ble_eq_true rfl⟩ hl.1 hP 1 6 rfl rfl rfl (subP0 hP [1, 2] rfl) (fun _ hp_35 => ?_)
        refine W.eq (g2 := F0 m 16 ls [.ref a_3]) rfl ?_
        refine lv_astore_n (lv' := [(3, .ref a_3), (2, .null), (0, .ref xx), (1, .int (nI t))]) hx hb dX11_find_16 rfl hl (by decide) rfl (fun ls hl => ?_)
        refine lv_aload_nN hx hb dX11_find_17 rfl (lv_at hl 1 rfl) ?_
        refine lv_ifnullN (tgt := 25) hx hb dX11_find_18 (by decide) ?_
        refine lv_iconst (v := (-1)) hx hb dX11_find_25 (by decide) ?_
        exact et_iret hx hb hr hlk rfl hS ((-1), im2__25) rfl (show Sb im im2__25 from h_28) (subP hP [0, 1, 2, 3, 4, 5] rfl) (subD hD [0, 1, 2, 3, 4, 5] (by decide) rfl) (Nat.le_of_ble_eq_true rfl) (Nat.le_of_ble_eq_true rfl) dX11_find_26
      · refine W.eq (g2 := F0 m 7 ls [.ref q__30]) rfl ?_
        refine lv_astore_n (lv' := [(2, .ref q__30), (0, .ref xx), (1, .int (nI t))]) hx hb dX11_find_7 rfl hl (by decide) rfl (fun ls hl => ?_)
        refine lv_aload_n hx hb dX11_find_8 rfl (lv_at hl 1 rfl) ?_
        refine va_get (D := D) (ci := 11) (v := .ref st) (C := RX11) (T := TX11) (N := 7) hx hb hts inlX11 hown hK hP 0 rfl rfl 0 (by decide) (hts _ mw_15) (fun _ h9 => h9) rfl dX11_find_9 ?_
        refine lv_iload_n hx hb dX11_find_12 rfl (lv_at hl 2 rfl) ?_
        refine er_V (As := [.int (nI t)]) (rest := []) hFX hKK hE hS (c_X6_sheetOf_s l D κ κq st d sh vw ta sa n fs t a_3 (by omega) e_1) 1 gV_X11_114 hdV_X6_sheetOf rfl rfl ⟨Nat.le_of_ble_eq_true rfl, Nat.le_of_ble_eq_true rfl⟩ rfl rfl (Nat.le_of_ble_eq_true rfl) dX11_find_13 ⟨Nat.le_of_ble_eq_true rfl, Nat.le_of_ble_eq_true rfl⟩ hl.1 hP 1 6 rfl rfl rfl (subP0 hP [1, 2] rfl) (fun _ hp_36 => ?_)
        refine W.eq (g2 := F0 m 16 ls [.ref a_3]) rfl ?_
        refine lv_astore_n (lv' := [(3, .ref a_3), (2, .ref q__30), (0, .ref xx), (1, .int (nI t))]) hx hb dX11_find_16 rfl hl (by decide) rfl (fun ls hl => ?_)
        refine lv_aload_n hx hb dX11_find_17 rfl (lv_at hl 1 rfl) ?_
        refine lv_ifnull hx hb dX11_find_18 ?_
        refine lv_aload_n hx hb dX11_find_21 rfl (lv_at hl 0 rfl) ?_
        refine lv_ifnonnull (tgt := 27) hx hb dX11_find_22 (by decide) ?_
        refine lv_aload_n hx hb dX11_find_27 rfl (lv_at hl 0 rfl) ?_
        obtain ⟨hb_37, c_38, x_39, v_40, g_41, h_42, hm_43, hm_44, hm_45, lo_46, lc_47, vw_48⟩ := id h_8
        obtain ⟨hb_37_1, hb_37_2, hb_37_3⟩ := hb_37
        have hrw_hb_37 := rw_le hb_37_1 hb_37_3
        refine va_get (D := D) (ci := 5) (v := .ref c_38) (C := RX5) (T := TX5) (N := 4) hx hb hts inlX5 hown hK (oneP (C := [(xx, .inr (11, [.ref st, .ref tp, .ref ft, .ref rd, .ref wr, .ref st2, .int zi])), (st, .inr (6, [.ref d, .ref sh, .ref vw, .ref ta, .ref sa, .int (nI n)])), (sh, .inl (κ 4, 3, .inr (.inr (.inr (.inr fs))))), (vw, .inl (κ 5, 3, .inr (.inr (.inr (.inr fv))))), (tp, .inr (8, [.ref tb, .int 0])), (tb, .inl (κ 0, 800, .inl tf))]) hP hm_43) 0 rfl rfl 0 (by decide) (hts _ mw_559) (fun _ h9 => h9) rfl dX11_find_28 ?_
        refine lv_aload_n hx hb dX11_find_31 rfl (lv_at hl 0 rfl) ?_
        refine va_get (D := D) (ci := 5) (v := .ref c_38) (C := RX5) (T := TX5) (N := 4) hx hb hts inlX5 hown hK (oneP (C := [(xx, .inr (11, [.ref st, .ref tp, .ref ft, .ref rd, .ref wr, .ref st2, .int zi])), (st, .inr (6, [.ref d, .ref sh, .ref vw, .ref ta, .ref sa, .int (nI n)])), (sh, .inl (κ 4, 3, .inr (.inr (.inr (.inr fs))))), (vw, .inl (κ 5, 3, .inr (.inr (.inr (.inr fv))))), (tp, .inr (8, [.ref tb, .int 0])), (tb, .inl (κ 0, 800, .inl tf))]) hP hm_43) 0 rfl rfl 0 (by decide) (hts _ mw_559) (fun _ h9 => h9) rfl dX11_find_32 ?_
        refine va_alen hx hb hK (oneP (C := [(xx, .inr (11, [.ref st, .ref tp, .ref ft, .ref rd, .ref wr, .ref st2, .int zi])), (st, .inr (6, [.ref d, .ref sh, .ref vw, .ref ta, .ref sa, .int (nI n)])), (sh, .inl (κ 4, 3, .inr (.inr (.inr (.inr fs))))), (vw, .inl (κ 5, 3, .inr (.inr (.inr (.inr fv))))), (tp, .inr (8, [.ref tb, .int 0])), (tb, .inl (κ 0, 800, .inl tf))]) hP hm_44) 0 3 rfl rfl (v := nI w_5) rfl dX11_find_35 ?_
        refine lv_aload_n hx hb dX11_find_36 rfl (lv_at hl 1 rfl) ?_
        refine er_S (As := [.ref c_38, .int (nI w_5), .ref q__30]) (rest := []) hFX hKK hE hS (c_X1_indexOf l D κ κq im2__25 c_38 w_5 q__30 n__31 w_5 g_41 a_32 lo_46 (by omega) (by omega)) 3 gS_X11_164 hdS_X1_indexOf rfl rfl ⟨Nat.le_of_ble_eq_true rfl, Nat.le_of_ble_eq_true rfl⟩ rfl rfl (Nat.le_of_ble_eq_true rfl) dX11_find_37 ⟨Nat.le_of_ble_eq_true rfl, Nat.le_of_ble_eq_true rfl⟩ hl.1 (va_P.app (oneP (C := [(xx, .inr (11, [.ref st, .ref tp, .ref ft, .ref rd, .ref wr, .ref st2, .int zi])), (st, .inr (6, [.ref d, .ref sh, .ref vw, .ref ta, .ref sa, .int (nI n)])), (sh, .inl (κ 4, 3, .inr (.inr (.inr (.inr fs))))), (vw, .inl (κ 5, 3, .inr (.inr (.inr (.inr fv))))), (tp, .inr (8, [.ref tb, .int 0])), (tb, .inl (κ 0, 800, .inl tf))]) hP hm_44) (subP (C := [(xx, .inr (11, [.ref st, .ref tp, .ref ft, .ref rd, .ref wr, .ref st2, .int zi])), (st, .inr (6, [.ref d, .ref sh, .ref vw, .ref ta, .ref sa, .int (nI n)])), (sh, .inl (κ 4, 3, .inr (.inr (.inr (.inr fs))))), (vw, .inl (κ 5, 3, .inr (.inr (.inr (.inr fv))))), (tp, .inr (8, [.ref tb, .int 0])), (tb, .inl (κ 0, 800, .inl tf))]) (C' := []) hP [] rfl)) (fun r__49 hp_50 => ?_)
        replace hp_50 : (r__49 = -1 ∨ ∃ j : Nat, j < w_5 ∧ r__49 = nI j) := hp_50
        have h_51 := hp_50
        clear hp_50
        refine W.eq (g2 := F0 m 40 ls [.int r__49]) rfl ?_
        exact et_iret hx hb hr hlk rfl hS (r__49, im2__25) rfl (show Sb im im2__25 from h_28) (subP hP [0, 1, 2, 3, 4, 5] rfl) (subD hD [0, 1, 2, 3, 4, 5] (by decide) rfl) (Nat.le_of_ble_eq_true rfl) (Nat.le_of_ble_eq_true rfl) dX11_find_40
  · skip
    refine lv_aload_n hx hb dX11_find_0 rfl (lv_at hl 0 rfl) ?_
    refine va_get (D := D) (ci := 11) (v := .ref tp) (C := RX11) (T := TX11) (N := 7) hx hb hts inlX11 hown hK hP 0 rfl rfl 1 (by decide) (hts _ mw_19) (fun _ h9 => h9) rfl dX11_find_1 ?_
    refine et_VT (CR := [(xx, .inr (11, [.ref st, .ref tp, .ref ft, .ref rd, .ref wr, .ref st2, .int zi])), (st, .inr (6, [.ref d, .ref sh, .ref vw, .ref ta, .ref sa, .int (nI n)])), (sh, .inl (κ 4, 3, .inr (.inr (.inr (.inr fs))))), (vw, .inl (κ 5, 3, .inr (.inr (.inr (.inr fv)))))]) (As := []) (rest := []) hFX hKK hE hP hD hS hA (c_X8_takeName l D κ κq im tp tb L tf (by omega)) 0 gV_X11_157 hdV_X8_takeName ⟨Nat.le_of_ble_eq_true rfl, Nat.le_of_ble_eq_true rfl⟩ rfl rfl (Nat.le_of_ble_eq_true rfl) dX11_find_4 ⟨Nat.le_of_ble_eq_true rfl, Nat.le_of_ble_eq_true rfl⟩ hl.1 [4, 5] [0, 1, 2, 3] rfl rfl (by decide) (by decide) (by decide) hP 4 8 rfl rfl rfl (fun u_54 H locs hp_55 hP hD hS => ?_)
    refine W.widen (k := 1) (n := 20) (Nat.le_refl _) (Nat.le_refl _) ?_
    obtain ⟨r__52, im2__53⟩ := u_54
    replace hP : va_P D vwCl ([(xx, .inr (11, [.ref st, .ref tp, .ref ft, .ref rd, .ref wr, .ref st2, .int zi])), (st, .inr (6, [.ref d, .ref sh, .ref vw, .ref ta, .ref sa, .int (nI n)])), (sh, .inl (κ 4, 3, .inr (.inr (.inr (.inr fs))))), (vw, .inl (κ 5, 3, .inr (.inr (.inr (.inr fv))))), (tp, .inr (8, [.ref tb, .int 0])), (tb, .inl (κ 0, 800, .inl tf))] ++ im2__53) H := subP (C := [(xx, .inr (11, [.ref st, .ref tp, .ref ft, .ref rd, .ref wr, .ref st2, .int zi])), (st, .inr (6, [.ref d, .ref sh, .ref vw, .ref ta, .ref sa, .int (nI n)])), (sh, .inl (κ 4, 3, .inr (.inr (.inr (.inr fs))))), (vw, .inl (κ 5, 3, .inr (.inr (.inr (.inr fv))))), (tp, .inr (8, [.ref tb, .int 0])), (tb, .inl (κ 0, 800, .inl tf))]) hP [0, 1, 2, 3, 4, 5] rfl
    replace hD : va_D A ([(xx, .inr (11, [.ref st, .ref tp, .ref ft, .ref rd, .ref wr, .ref st2, .int zi])), (st, .inr (6, [.ref d, .ref sh, .ref vw, .ref ta, .ref sa, .int (nI n)])), (sh, .inl (κ 4, 3, .inr (.inr (.inr (.inr fs))))), (vw, .inl (κ 5, 3, .inr (.inr (.inr (.inr fv))))), (tp, .inr (8, [.ref tb, .int 0])), (tb, .inl (κ 0, 800, .inl tf))] ++ im2__53) := subD (C := [(xx, .inr (11, [.ref st, .ref tp, .ref ft, .ref rd, .ref wr, .ref st2, .int zi])), (st, .inr (6, [.ref d, .ref sh, .ref vw, .ref ta, .ref sa, .int (nI n)])), (sh, .inl (κ 4, 3, .inr (.inr (.inr (.inr fs))))), (vw, .inl (κ 5, 3, .inr (.inr (.inr (.inr fv))))), (tp, .inr (8, [.ref tb, .int 0])), (tb, .inl (κ 0, 800, .inl tf))]) hD [0, 1, 2, 3, 4, 5] (by decide) rfl
    replace hp_55 : Sb im im2__53 ∧ ((r__52 = none) ∨ (∃ (q : Nat), ∃ (n : Nat), r__52 = some q ∧ By κ im2__53 q n ∧ n ≤ 12 ∧ 1 ≤ n)) := hp_55
    obtain ⟨h_56, ha_57⟩ := hp_55
    replace htb := htb.up h_56
    rcases ha_57 with rfl | ⟨q__58, n__59, rfl, a_60, a_61, a_62⟩
    · refine W.eq (g2 := F0 m 7 ls [.null]) rfl ?_
      refine lv_astore_nN (lv' := [(2, .null), (0, .ref xx), (1, .int za)]) hx hb dX11_find_7 rfl hl (by decide) rfl (fun ls hl => ?_)
      refine lv_aload_n hx hb dX11_find_8 rfl (lv_at hl 1 rfl) ?_
      refine va_get (D := D) (ci := 11) (v := .ref st) (C := RX11) (T := TX11) (N := 7) hx hb hts inlX11 hown hK hP 0 rfl rfl 0 (by decide) (hts _ mw_15) (fun _ h9 => h9) rfl dX11_find_9 ?_
      refine lv_iload_n hx hb dX11_find_12 rfl (lv_at hl 2 rfl) ?_
      refine er_V (As := [.int za]) (rest := []) hFX hKK hE hS (c_X6_sheetOf_x l D κ κq st d sh vw ta sa n za (by assumption)) 1 gV_X11_114 hdV_X6_sheetOf rfl rfl ⟨Nat.le_of_ble_eq_true rfl, Nat.le_of_ble_eq_true rfl⟩ rfl rfl (Nat.le_of_ble_eq_true rfl) dX11_find_13 ⟨Nat.le_of_ble_eq_true rfl, Nat.le_of_ble_eq_true rfl⟩ hl.1 hP 1 6 rfl rfl rfl (subP0 hP [1] rfl) (fun _ hp_63 => ?_)
      refine W.eq (g2 := F0 m 16 ls [.null]) rfl ?_
      refine lv_astore_nN (lv' := [(3, .null), (2, .null), (0, .ref xx), (1, .int za)]) hx hb dX11_find_16 rfl hl (by decide) rfl (fun ls hl => ?_)
      refine lv_aload_nN hx hb dX11_find_17 rfl (lv_at hl 1 rfl) ?_
      refine lv_ifnullN (tgt := 25) hx hb dX11_find_18 (by decide) ?_
      refine lv_iconst (v := (-1)) hx hb dX11_find_25 (by decide) ?_
      exact et_iret hx hb hr hlk rfl hS ((-1), im2__53) rfl (show Sb im im2__53 from h_56) (subP hP [0, 1, 2, 3, 4, 5] rfl) (subD hD [0, 1, 2, 3, 4, 5] (by decide) rfl) (Nat.le_of_ble_eq_true rfl) (Nat.le_of_ble_eq_true rfl) dX11_find_26
    · refine W.eq (g2 := F0 m 7 ls [.ref q__58]) rfl ?_
      refine lv_astore_n (lv' := [(2, .ref q__58), (0, .ref xx), (1, .int za)]) hx hb dX11_find_7 rfl hl (by decide) rfl (fun ls hl => ?_)
      refine lv_aload_n hx hb dX11_find_8 rfl (lv_at hl 1 rfl) ?_
      refine va_get (D := D) (ci := 11) (v := .ref st) (C := RX11) (T := TX11) (N := 7) hx hb hts inlX11 hown hK hP 0 rfl rfl 0 (by decide) (hts _ mw_15) (fun _ h9 => h9) rfl dX11_find_9 ?_
      refine lv_iload_n hx hb dX11_find_12 rfl (lv_at hl 2 rfl) ?_
      refine er_V (As := [.int za]) (rest := []) hFX hKK hE hS (c_X6_sheetOf_x l D κ κq st d sh vw ta sa n za (by assumption)) 1 gV_X11_114 hdV_X6_sheetOf rfl rfl ⟨Nat.le_of_ble_eq_true rfl, Nat.le_of_ble_eq_true rfl⟩ rfl rfl (Nat.le_of_ble_eq_true rfl) dX11_find_13 ⟨Nat.le_of_ble_eq_true rfl, Nat.le_of_ble_eq_true rfl⟩ hl.1 hP 1 6 rfl rfl rfl (subP0 hP [1] rfl) (fun _ hp_64 => ?_)
      refine W.eq (g2 := F0 m 16 ls [.null]) rfl ?_
      refine lv_astore_nN (lv' := [(3, .null), (2, .ref q__58), (0, .ref xx), (1, .int za)]) hx hb dX11_find_16 rfl hl (by decide) rfl (fun ls hl => ?_)
      refine lv_aload_n hx hb dX11_find_17 rfl (lv_at hl 1 rfl) ?_
      refine lv_ifnull hx hb dX11_find_18 ?_
      refine lv_aload_nN hx hb dX11_find_21 rfl (lv_at hl 0 rfl) ?_
      refine lv_ifnonnullN hx hb dX11_find_22 ?_
      refine lv_iconst (v := (-1)) hx hb dX11_find_25 (by decide) ?_
      exact et_iret hx hb hr hlk rfl hS ((-1), im2__53) rfl (show Sb im im2__53 from h_56) (subP hP [0, 1, 2, 3, 4, 5] rfl) (subD hD [0, 1, 2, 3, 4, 5] (by decide) rfl) (Nat.le_of_ble_eq_true rfl) (Nat.le_of_ble_eq_true rfl) dX11_find_26
set_option maxHeartbeats 4000000 in
set_option maxRecDepth 100000 in
theorem c_X11_over (l : Launch) (D : va_G) (κ : Nat → ClassId) (κq : Nat → Nat) (im : va_W) (xx : Nat) (tp : Nat) (ft : Nat) (rd : Nat) (wr : Nat) (st2 : Nat) (zi : Int32) (st : Nat) (d : Nat) (sh : Nat) (vw : Nat) (ta : Nat) (sa : Nat) (n : Nat) (fs : Nat → Option Nat) (fv : Nat → Option Nat) (za : Int32) (zb : Int32) (zc : Int32) (htb : Tb κ im fs fv 3) : Et l yX11_over (wl yX11_over cX11_over 6 (some .long)) { frames := 6, cells := 8, slots := 200, locals := 135 } D κ κq [.ref xx, .int za, .int zb, .int zc] ([(xx, .inr (11, [.ref st, .ref tp, .ref ft, .ref rd, .ref wr, .ref st2, .int zi])), (st, .inr (6, [.ref d, .ref sh, .ref vw, .ref ta, .ref sa, .int (nI n)])), (sh, .inl (κ 4, 3, .inr (.inr (.inr (.inr fs))))), (vw, .inl (κ 5, 3, .inr (.inr (.inr (.inr fv)))))] ++ im) (fun u9 : Int64 × va_W => some (.long u9.1)) (fun u9 : Int64 × va_W => Sb im u9.2) (fun u9 : Int64 × va_W => ([(xx, .inr (11, [.ref st, .ref tp, .ref ft, .ref rd, .ref wr, .ref st2, .int zi])), (st, .inr (6, [.ref d, .ref sh, .ref vw, .ref ta, .ref sa, .int (nI n)])), (sh, .inl (κ 4, 3, .inr (.inr (.inr (.inr fs))))), (vw, .inl (κ 5, 3, .inr (.inr (.inr (.inr fv)))))] ++ u9.2)) := by
  refine et_of (by decide +kernel) (Nat.le_of_ble_eq_true rfl) ?_
  intro p e s m args below meth c A ls hx hb hr hml hts hown hlk hin hKK hK hA hP hD hS hE hl
  have hS : va_S A s.heap s.heap [] := hS
  have hP : va_P D vwCl ([(xx, .inr (11, [.ref st, .ref tp, .ref ft, .ref rd, .ref wr, .ref st2, .int zi])), (st, .inr (6, [.ref d, .ref sh, .ref vw, .ref ta, .ref sa, .int (nI n)])), (sh, .inl (κ 4, 3, .inr (.inr (.inr (.inr fs))))), (vw, .inl (κ 5, 3, .inr (.inr (.inr (.inr fv)))))] ++ im) s.heap := hP
  have hD : va_D A ([(xx, .inr (11, [.ref st, .ref tp, .ref ft, .ref rd, .ref wr, .ref st2, .int zi])), (st, .inr (6, [.ref d, .ref sh, .ref vw, .ref ta, .ref sa, .int (nI n)])), (sh, .inl (κ 4, 3, .inr (.inr (.inr (.inr fs))))), (vw, .inl (κ 5, 3, .inr (.inr (.inr (.inr fv)))))] ++ im) := hD
  have hFX : FX p s m args c cX11_over 6 RX11 := ⟨hx, hb, hml, hown, hts⟩
  have hl : lv_has ls 6 [(0, .ref xx), (1, .int za), (2, .int zb), (3, .int zc)] := hl
  rcases pl_cases za with ⟨t, ht_t, rfl⟩ | hnp_za
  · skip
    rcases htb t (by omega) with ⟨e_1, e_2⟩ | ⟨a_3, R_4, w_5, d_6, v_7, e_1, e_2, h_8, h_9, hd_10⟩
    · skip
      refine lv_aload_n hx hb dX11_over_0 rfl (lv_at hl 0 rfl) ?_
      refine va_get (D := D) (ci := 11) (v := .ref st) (C := RX11) (T := TX11) (N := 7) hx hb hts inlX11 hown hK hP 0 rfl rfl 0 (by decide) (hts _ mw_15) (fun _ h9 => h9) rfl dX11_over_1 ?_
      refine lv_iload_n hx hb dX11_over_4 rfl (lv_at hl 1 rfl) ?_
      refine lv_iload_n hx hb dX11_over_5 rfl (lv_at hl 2 rfl) ?_
      refine er_V (As := [.int (nI t), .int zb]) (rest := []) hFX hKK hE hS (c_X6_stripOf_n l D κ κq st d sh vw ta sa n fs fv t zb (by omega) e_1 e_2) 2 gV_X11_189 hdV_X6_stripOf rfl rfl ⟨Nat.le_of_ble_eq_true rfl, Nat.le_of_ble_eq_true rfl⟩ rfl rfl (Nat.le_of_ble_eq_true rfl) dX11_over_6 ⟨Nat.le_of_ble_eq_true rfl, Nat.le_of_ble_eq_true rfl⟩ hl.1 hP 1 6 rfl rfl rfl (subP0 hP [1, 2, 3] rfl) (fun _ hp_11 => ?_)
      refine W.eq (g2 := F0 m 9 ls [.null]) rfl ?_
      refine lv_astoreN (lv' := [(4, .null), (0, .ref xx), (1, .int (nI t)), (2, .int zb), (3, .int zc)]) hx hb dX11_over_9 hl (by decide) rfl (fun ls hl => ?_)
      refine lv_aloadN hx hb dX11_over_11 (lv_at hl 0 rfl) ?_
      refine lv_ifnonnullN hx hb dX11_over_13 ?_
      refine lv_ldc2 hx hb hown (hts _ mw_1252) dX11_over_16 ?_
      exact et_lret hx hb hr hlk hS ((-100000000000000), im) rfl (show Sb im im from Sb.rf) (subP hP [0, 1, 2, 3] rfl) (subD hD [0, 1, 2, 3] (by decide) rfl) (Nat.le_of_ble_eq_true rfl) (Nat.le_of_ble_eq_true rfl) dX11_over_19
    · have hle_a_3 := h_8.le
      refine lv_aload_n hx hb dX11_over_0 rfl (lv_at hl 0 rfl) ?_
      refine va_get (D := D) (ci := 11) (v := .ref st) (C := RX11) (T := TX11) (N := 7) hx hb hts inlX11 hown hK hP 0 rfl rfl 0 (by decide) (hts _ mw_15) (fun _ h9 => h9) rfl dX11_over_1 ?_
      refine lv_iload_n hx hb dX11_over_4 rfl (lv_at hl 1 rfl) ?_
      refine lv_iload_n hx hb dX11_over_5 rfl (lv_at hl 2 rfl) ?_
      refine et_VT (CR := [(xx, .inr (11, [.ref st, .ref tp, .ref ft, .ref rd, .ref wr, .ref st2, .int zi]))]) (As := [.int (nI t), .int zb]) (rest := []) hFX hKK hE hP hD hS hA (c_X6_stripOf_s l D κ κq im st d sh vw ta sa n fs fv t a_3 R_4 w_5 v_7 d_6 zb (by omega) e_1 e_2 h_8 h_9) 2 gV_X11_189 hdV_X6_stripOf ⟨Nat.le_of_ble_eq_true rfl, Nat.le_of_ble_eq_true rfl⟩ rfl rfl (Nat.le_of_ble_eq_true rfl) dX11_over_6 ⟨Nat.le_of_ble_eq_true rfl, Nat.le_of_ble_eq_true rfl⟩ hl.1 [1, 2, 3] [0] rfl rfl (by decide) (by decide) (by decide) hP 1 6 rfl rfl rfl (fun u_14 H locs hp_15 hP hD hS => ?_)
      refine W.widen (k := 1) (n := 4) (Nat.le_refl _) (Nat.le_refl _) ?_
      obtain ⟨r__12, im2__13⟩ := u_14
      replace hP : va_P D vwCl ([(xx, .inr (11, [.ref st, .ref tp, .ref ft, .ref rd, .ref wr, .ref st2, .int zi])), (st, .inr (6, [.ref d, .ref sh, .ref vw, .ref ta, .ref sa, .int (nI n)])), (sh, .inl (κ 4, 3, .inr (.inr (.inr (.inr fs))))), (vw, .inl (κ 5, 3, .inr (.inr (.inr (.inr fv)))))] ++ im2__13) H := subP (C := [(xx, .inr (11, [.ref st, .ref tp, .ref ft, .ref rd, .ref wr, .ref st2, .int zi])), (st, .inr (6, [.ref d, .ref sh, .ref vw, .ref ta, .ref sa, .int (nI n)])), (sh, .inl (κ 4, 3, .inr (.inr (.inr (.inr fs))))), (vw, .inl (κ 5, 3, .inr (.inr (.inr (.inr fv)))))]) hP [0, 1, 2, 3] rfl
      replace hD : va_D A ([(xx, .inr (11, [.ref st, .ref tp, .ref ft, .ref rd, .ref wr, .ref st2, .int zi])), (st, .inr (6, [.ref d, .ref sh, .ref vw, .ref ta, .ref sa, .int (nI n)])), (sh, .inl (κ 4, 3, .inr (.inr (.inr (.inr fs))))), (vw, .inl (κ 5, 3, .inr (.inr (.inr (.inr fv)))))] ++ im2__13) := subD (C := [(xx, .inr (11, [.ref st, .ref tp, .ref ft, .ref rd, .ref wr, .ref st2, .int zi])), (st, .inr (6, [.ref d, .ref sh, .ref vw, .ref ta, .ref sa, .int (nI n)])), (sh, .inl (κ 4, 3, .inr (.inr (.inr (.inr fs))))), (vw, .inl (κ 5, 3, .inr (.inr (.inr (.inr fv)))))]) hD [0, 1, 2, 3] (by decide) rfl
      replace hp_15 : Sb im im2__13 ∧ ((r__12 = none) ∨ (∃ (q : Nat), ∃ (co : Nat), ∃ (ra : Nat), ∃ (mq : Nat), ∃ (ty : Nat), r__12 = some q ∧ Sp κ im2__13 q a_3 R_4 w_5 co ra mq ty)) := hp_15
      obtain ⟨h_16, ha_17⟩ := hp_15
      replace htb := htb.up h_16
      replace h_8 := h_8.up h_16
      replace h_9 := h_9.up h_16
      rcases ha_17 with rfl | ⟨q__18, co__19, ra__20, mq__21, ty__22, rfl, a_23⟩
      · refine W.eq (g2 := F0 m 9 ls [.null]) rfl ?_
        refine lv_astoreN (lv' := [(4, .null), (0, .ref xx), (1, .int (nI t)), (2, .int zb), (3, .int zc)]) hx hb dX11_over_9 hl (by decide) rfl (fun ls hl => ?_)
        refine lv_aloadN hx hb dX11_over_11 (lv_at hl 0 rfl) ?_
        refine lv_ifnonnullN hx hb dX11_over_13 ?_
        refine lv_ldc2 hx hb hown (hts _ mw_1252) dX11_over_16 ?_
        exact et_lret hx hb hr hlk hS ((-100000000000000), im2__13) rfl (show Sb im im2__13 from h_16) (subP hP [0, 1, 2, 3] rfl) (subD hD [0, 1, 2, 3] (by decide) rfl) (Nat.le_of_ble_eq_true rfl) (Nat.le_of_ble_eq_true rfl) dX11_over_19
      · refine W.eq (g2 := F0 m 9 ls [.ref q__18]) rfl ?_
        refine lv_astore (lv' := [(4, .ref q__18), (0, .ref xx), (1, .int (nI t)), (2, .int zb), (3, .int zc)]) hx hb dX11_over_9 hl (by decide) rfl (fun ls hl => ?_)
        refine lv_aload hx hb dX11_over_11 (lv_at hl 0 rfl) ?_
        refine lv_ifnonnull (tgt := 20) hx hb dX11_over_13 (by decide) ?_
        refine lv_aload hx hb dX11_over_20 (lv_at hl 0 rfl) ?_
        obtain ⟨h_31, h_32, hm_33, h_34, h_35⟩ := id a_23
        refine et_VT (CR := [(xx, .inr (11, [.ref st, .ref tp, .ref ft, .ref rd, .ref wr, .ref st2, .int zi])), (st, .inr (6, [.ref d, .ref sh, .ref vw, .ref ta, .ref sa, .int (nI n)])), (sh, .inl (κ 4, 3, .inr (.inr (.inr (.inr fs))))), (vw, .inl (κ 5, 3, .inr (.inr (.inr (.inr fv)))))]) (As := []) (rest := []) hFX hKK hE hP hD hS hA (c_X7_filled l D κ κq im2__13 q__18 a_3 R_4 w_5 co__19 ra__20 mq__21 ty__22 a_23) 0 gV_X11_314 hdV_X7_filled ⟨Nat.le_of_ble_eq_true rfl, Nat.le_of_ble_eq_true rfl⟩ rfl rfl (Nat.le_of_ble_eq_true rfl) dX11_over_22 ⟨Nat.le_of_ble_eq_true rfl, Nat.le_of_ble_eq_true rfl⟩ hl.1 [] [0, 1, 2, 3] rfl rfl (by decide) (by decide) (by decide) (oneP (C := [(xx, .inr (11, [.ref st, .ref tp, .ref ft, .ref rd, .ref wr, .ref st2, .int zi])), (st, .inr (6, [.ref d, .ref sh, .ref vw, .ref ta, .ref sa, .int (nI n)])), (sh, .inl (κ 4, 3, .inr (.inr (.inr (.inr fs))))), (vw, .inl (κ 5, 3, .inr (.inr (.inr (.inr fv)))))]) hP hm_33) 0 7 rfl rfl rfl (fun u_29 H locs hp_30 hP hD hS => ?_)
        refine W.widen (k := 4) (n := 88) (Nat.le_refl _) (Nat.le_refl _) ?_
        obtain ⟨p__24, rb__25, n__26, tz__27, im2__28⟩ := u_29
        replace hP : va_P D vwCl ([(xx, .inr (11, [.ref st, .ref tp, .ref ft, .ref rd, .ref wr, .ref st2, .int zi])), (st, .inr (6, [.ref d, .ref sh, .ref vw, .ref ta, .ref sa, .int (nI n)])), (sh, .inl (κ 4, 3, .inr (.inr (.inr (.inr fs))))), (vw, .inl (κ 5, 3, .inr (.inr (.inr (.inr fv)))))] ++ im2__28) H := subP (C := [(xx, .inr (11, [.ref st, .ref tp, .ref ft, .ref rd, .ref wr, .ref st2, .int zi])), (st, .inr (6, [.ref d, .ref sh, .ref vw, .ref ta, .ref sa, .int (nI n)])), (sh, .inl (κ 4, 3, .inr (.inr (.inr (.inr fs))))), (vw, .inl (κ 5, 3, .inr (.inr (.inr (.inr fv)))))]) hP [0, 1, 2, 3] rfl
        replace hD : va_D A ([(xx, .inr (11, [.ref st, .ref tp, .ref ft, .ref rd, .ref wr, .ref st2, .int zi])), (st, .inr (6, [.ref d, .ref sh, .ref vw, .ref ta, .ref sa, .int (nI n)])), (sh, .inl (κ 4, 3, .inr (.inr (.inr (.inr fs))))), (vw, .inl (κ 5, 3, .inr (.inr (.inr (.inr fv)))))] ++ im2__28) := subD (C := [(xx, .inr (11, [.ref st, .ref tp, .ref ft, .ref rd, .ref wr, .ref st2, .int zi])), (st, .inr (6, [.ref d, .ref sh, .ref vw, .ref ta, .ref sa, .int (nI n)])), (sh, .inl (κ 4, 3, .inr (.inr (.inr (.inr fs))))), (vw, .inl (κ 5, 3, .inr (.inr (.inr (.inr fv)))))]) hD [0, 1, 2, 3] (by decide) rfl
        replace hp_30 : Sb im2__13 im2__28 ∧ Sp κ im2__28 p__24 a_3 R_4 w_5 co__19 rb__25 n__26 tz__27 := hp_30
        obtain ⟨h_36, h_37⟩ := hp_30
        replace htb := htb.up h_36
        replace h_8 := h_8.up h_36
        replace h_9 := h_9.up h_36
        replace a_23 := a_23.up h_36
        replace h_34 := h_34.up h_36
        replace h_35 := h_35.up h_36
        replace hm_33 := h_36 _ hm_33
        refine W.eq (g2 := F0 m 25 ls [.ref p__24]) rfl ?_
        refine lv_astore (lv' := [(5, .ref p__24), (4, .ref q__18), (0, .ref xx), (1, .int (nI t)), (2, .int zb), (3, .int zc)]) hx hb dX11_over_25 hl (by decide) rfl (fun ls hl => ?_)
        refine lv_iload_n hx hb dX11_over_27 rfl (lv_at hl 5 rfl) ?_
        refine lv_if_ne (tgt := 39) hx hb dX11_over_28 (by decide) (fun c_38 => ?_) (fun c_38 => ?_)
        · refine lv_iload_n hx hb dX11_over_39 rfl (lv_at hl 5 rfl) ?_
          refine lv_iconst (v := 1) hx hb dX11_over_40 (by decide) ?_
          refine lv_icmp_ne (tgt := 50) hx hb dX11_over_41 (by decide) (fun c_39 => ?_) (fun c_39 => ?_)
          · refine lv_aload hx hb dX11_over_50 (lv_at hl 0 rfl) ?_
            obtain ⟨h_40, h_41, hm_42, h_43, h_44⟩ := id h_37
            refine va_get (D := D) (ci := 7) (v := .ref rb__25) (C := RX7) (T := TX7) (N := 4) hx hb hts inlX7 hown hK (oneP (C := [(xx, .inr (11, [.ref st, .ref tp, .ref ft, .ref rd, .ref wr, .ref st2, .int zi])), (st, .inr (6, [.ref d, .ref sh, .ref vw, .ref ta, .ref sa, .int (nI n)])), (sh, .inl (κ 4, 3, .inr (.inr (.inr (.inr fs))))), (vw, .inl (κ 5, 3, .inr (.inr (.inr (.inr fv)))))]) hP hm_42) 0 rfl rfl 2 (by decide) (hts _ mw_1273) (fun _ h9 => h9) rfl dX11_over_52 ?_
            obtain ⟨hn_45, f_46, hm_47, hf_48⟩ := id h_44
            refine va_alen hx hb hK (oneP (C := [(xx, .inr (11, [.ref st, .ref tp, .ref ft, .ref rd, .ref wr, .ref st2, .int zi])), (st, .inr (6, [.ref d, .ref sh, .ref vw, .ref ta, .ref sa, .int (nI n)])), (sh, .inl (κ 4, 3, .inr (.inr (.inr (.inr fs))))), (vw, .inl (κ 5, 3, .inr (.inr (.inr (.inr fv)))))]) hP hm_47) 0 0 rfl rfl (v := nI n__26) rfl dX11_over_55 ?_
            refine lv_if_ne (tgt := 63) hx hb dX11_over_56 (by decide) (fun c_49 => ?_) (fun c_49 => ?_)
            · have nc_49 := cv_ne (a := n__26) (b := 0) (by omega) (by omega) c_49
              refine lv_iload_n hx hb dX11_over_63 rfl (lv_at hl 5 rfl) ?_
              rcases Classical.em (zc.toInt < 2 ∨ 6 < zc.toInt) with c_50 | c_50
              · refine lv_tableOut (tgt := 140) hx hb dX11_over_64 c_50 (by decide) ?_
                refine lv_ldc2 hx hb hown (hts _ mw_1252) dX11_over_140 ?_
                exact et_lret hx hb hr hlk hS ((-100000000000000), im2__28) rfl (show Sb im im2__28 from (Sb.tr h_16 h_36)) (subP hP [0, 1, 2, 3] rfl) (subD hD [0, 1, 2, 3] (by decide) rfl) (Nat.le_of_ble_eq_true rfl) (Nat.le_of_ble_eq_true rfl) dX11_over_143
              · have e_51 : zc = 2 ∨ zc = 3 ∨ zc = 4 ∨ zc = 5 ∨ zc = 6 := by
                  have q1 : ¬ zc.toInt < 2 := fun h => c_50 (Or.inl h)
                  have q2 : ¬ 6 < zc.toInt := fun h => c_50 (Or.inr h)
                  have q3 : ∀ v : Int32, zc.toInt = v.toInt → zc = v := fun v h => Int32.toInt_inj.mp h
                  rcases (show zc.toInt = 2 ∨ zc.toInt = 3 ∨ zc.toInt = 4 ∨ zc.toInt = 5 ∨ zc.toInt = 6 by omega) with h | h | h | h | h
                  · exact Or.inl (q3 2 (h.trans (by decide)))
                  · exact Or.inr (Or.inl (q3 3 (h.trans (by decide))))
                  · exact Or.inr (Or.inr (Or.inl (q3 4 (h.trans (by decide)))))
                  · exact Or.inr (Or.inr (Or.inr (Or.inl (q3 5 (h.trans (by decide))))))
                  · exact Or.inr (Or.inr (Or.inr (Or.inr ((q3 6 (h.trans (by decide)))))))
                clear c_50
                rcases e_51 with rfl | rfl | rfl | rfl | rfl
                · refine lv_tableIn (tgt := 100) hx hb dX11_over_64 (by decide) (by decide) rfl (by decide) ?_
                  refine lv_aload hx hb dX11_over_100 (lv_at hl 0 rfl) ?_
                  refine er_V (As := []) (rest := []) hFX hKK hE hS (c_X7_leastRow l D κ κq im2__28 p__24 a_3 R_4 w_5 co__19 rb__25 n__26 tz__27 h_37) 0 gV_X11_323 hdV_X7_leastRow rfl rfl ⟨Nat.le_of_ble_eq_true rfl, Nat.le_of_ble_eq_true rfl⟩ rfl rfl (Nat.le_of_ble_eq_true rfl) dX11_over_102 ⟨Nat.le_of_ble_eq_true rfl, Nat.le_of_ble_eq_true rfl⟩ hl.1 (oneP (C := [(xx, .inr (11, [.ref st, .ref tp, .ref ft, .ref rd, .ref wr, .ref st2, .int zi])), (st, .inr (6, [.ref d, .ref sh, .ref vw, .ref ta, .ref sa, .int (nI n)])), (sh, .inl (κ 4, 3, .inr (.inr (.inr (.inr fs))))), (vw, .inl (κ 5, 3, .inr (.inr (.inr (.inr fv)))))]) hP hm_42) 0 7 rfl rfl rfl (subP hP [] rfl) (fun r__52 hp_53 => ?_)
                  refine W.eq (g2 := F0 m 105 ls [.int r__52]) rfl ?_
                  refine lv_i2l (v := r__52.toInt64) hx hb dX11_over_105 rfl ?_
                  exact et_lret hx hb hr hlk hS (r__52.toInt64, im2__28) rfl (show Sb im im2__28 from (Sb.tr h_16 h_36)) (subP hP [0, 1, 2, 3] rfl) (subD hD [0, 1, 2, 3] (by decide) rfl) (Nat.le_of_ble_eq_true rfl) (Nat.le_of_ble_eq_true rfl) dX11_over_106
                · refine lv_tableIn (tgt := 107) hx hb dX11_over_64 (by decide) (by decide) rfl (by decide) ?_
                  refine lv_aload hx hb dX11_over_107 (lv_at hl 0 rfl) ?_
                  refine er_V (As := []) (rest := []) hFX hKK hE hS (c_X7_greatestRow l D κ κq im2__28 p__24 a_3 R_4 w_5 co__19 rb__25 n__26 tz__27 h_37) 0 gV_X11_326 hdV_X7_greatestRow rfl rfl ⟨Nat.le_of_ble_eq_true rfl, Nat.le_of_ble_eq_true rfl⟩ rfl rfl (Nat.le_of_ble_eq_true rfl) dX11_over_109 ⟨Nat.le_of_ble_eq_true rfl, Nat.le_of_ble_eq_true rfl⟩ hl.1 (oneP (C := [(xx, .inr (11, [.ref st, .ref tp, .ref ft, .ref rd, .ref wr, .ref st2, .int zi])), (st, .inr (6, [.ref d, .ref sh, .ref vw, .ref ta, .ref sa, .int (nI n)])), (sh, .inl (κ 4, 3, .inr (.inr (.inr (.inr fs))))), (vw, .inl (κ 5, 3, .inr (.inr (.inr (.inr fv)))))]) hP hm_42) 0 7 rfl rfl rfl (subP hP [] rfl) (fun r__54 hp_55 => ?_)
                  refine W.eq (g2 := F0 m 112 ls [.int r__54]) rfl ?_
                  refine lv_i2l (v := r__54.toInt64) hx hb dX11_over_112 rfl ?_
                  exact et_lret hx hb hr hlk hS (r__54.toInt64, im2__28) rfl (show Sb im im2__28 from (Sb.tr h_16 h_36)) (subP hP [0, 1, 2, 3] rfl) (subD hD [0, 1, 2, 3] (by decide) rfl) (Nat.le_of_ble_eq_true rfl) (Nat.le_of_ble_eq_true rfl) dX11_over_113
                · refine lv_tableIn (tgt := 114) hx hb dX11_over_64 (by decide) (by decide) rfl (by decide) ?_
                  refine lv_aload hx hb dX11_over_114 (lv_at hl 0 rfl) ?_
                  refine et_VT (CR := [(xx, .inr (11, [.ref st, .ref tp, .ref ft, .ref rd, .ref wr, .ref st2, .int zi])), (st, .inr (6, [.ref d, .ref sh, .ref vw, .ref ta, .ref sa, .int (nI n)])), (sh, .inl (κ 4, 3, .inr (.inr (.inr (.inr fs))))), (vw, .inl (κ 5, 3, .inr (.inr (.inr (.inr fv)))))]) (As := []) (rest := []) hFX hKK hE hP hD hS hA (c_X7_medianRow l D κ κq im2__28 p__24 a_3 R_4 w_5 co__19 rb__25 n__26 tz__27 h_37) 0 gV_X11_329 hdV_X7_medianRow ⟨Nat.le_of_ble_eq_true rfl, Nat.le_of_ble_eq_true rfl⟩ rfl rfl (Nat.le_of_ble_eq_true rfl) dX11_over_116 ⟨Nat.le_of_ble_eq_true rfl, Nat.le_of_ble_eq_true rfl⟩ hl.1 [] [0, 1, 2, 3] rfl rfl (by decide) (by decide) (by decide) (oneP (C := [(xx, .inr (11, [.ref st, .ref tp, .ref ft, .ref rd, .ref wr, .ref st2, .int zi])), (st, .inr (6, [.ref d, .ref sh, .ref vw, .ref ta, .ref sa, .int (nI n)])), (sh, .inl (κ 4, 3, .inr (.inr (.inr (.inr fs))))), (vw, .inl (κ 5, 3, .inr (.inr (.inr (.inr fv)))))]) hP hm_42) 0 7 rfl rfl rfl (fun u_58 H locs hp_59 hP hD hS => ?_)
                  refine W.widen (k := 5) (n := 128) (Nat.le_refl _) (Nat.le_refl _) ?_
                  obtain ⟨r__56, im2__57⟩ := u_58
                  replace hP : va_P D vwCl ([(xx, .inr (11, [.ref st, .ref tp, .ref ft, .ref rd, .ref wr, .ref st2, .int zi])), (st, .inr (6, [.ref d, .ref sh, .ref vw, .ref ta, .ref sa, .int (nI n)])), (sh, .inl (κ 4, 3, .inr (.inr (.inr (.inr fs))))), (vw, .inl (κ 5, 3, .inr (.inr (.inr (.inr fv)))))] ++ im2__57) H := subP (C := [(xx, .inr (11, [.ref st, .ref tp, .ref ft, .ref rd, .ref wr, .ref st2, .int zi])), (st, .inr (6, [.ref d, .ref sh, .ref vw, .ref ta, .ref sa, .int (nI n)])), (sh, .inl (κ 4, 3, .inr (.inr (.inr (.inr fs))))), (vw, .inl (κ 5, 3, .inr (.inr (.inr (.inr fv)))))]) hP [0, 1, 2, 3] rfl
                  replace hD : va_D A ([(xx, .inr (11, [.ref st, .ref tp, .ref ft, .ref rd, .ref wr, .ref st2, .int zi])), (st, .inr (6, [.ref d, .ref sh, .ref vw, .ref ta, .ref sa, .int (nI n)])), (sh, .inl (κ 4, 3, .inr (.inr (.inr (.inr fs))))), (vw, .inl (κ 5, 3, .inr (.inr (.inr (.inr fv)))))] ++ im2__57) := subD (C := [(xx, .inr (11, [.ref st, .ref tp, .ref ft, .ref rd, .ref wr, .ref st2, .int zi])), (st, .inr (6, [.ref d, .ref sh, .ref vw, .ref ta, .ref sa, .int (nI n)])), (sh, .inl (κ 4, 3, .inr (.inr (.inr (.inr fs))))), (vw, .inl (κ 5, 3, .inr (.inr (.inr (.inr fv)))))]) hD [0, 1, 2, 3] (by decide) rfl
                  replace hp_59 : Sb im2__28 im2__57 := hp_59
                  have h_60 := hp_59
                  clear hp_59
                  replace htb := htb.up h_60
                  replace h_8 := h_8.up h_60
                  replace h_9 := h_9.up h_60
                  replace a_23 := a_23.up h_60
                  replace h_34 := h_34.up h_60
                  replace h_35 := h_35.up h_60
                  replace h_37 := h_37.up h_60
                  replace h_43 := h_43.up h_60
                  replace h_44 := h_44.up h_60
                  replace hm_33 := h_60 _ hm_33
                  replace hm_42 := h_60 _ hm_42
                  replace hm_47 := h_60 _ hm_47
                  refine W.eq (g2 := F0 m 119 ls [.int r__56]) rfl ?_
                  refine lv_i2l (v := r__56.toInt64) hx hb dX11_over_119 rfl ?_
                  exact et_lret hx hb hr hlk hS (r__56.toInt64, im2__57) rfl (show Sb im im2__57 from (Sb.tr (Sb.tr h_16 h_36) h_60)) (subP hP [0, 1, 2, 3] rfl) (subD hD [0, 1, 2, 3] (by decide) rfl) (Nat.le_of_ble_eq_true rfl) (Nat.le_of_ble_eq_true rfl) dX11_over_120
                · refine lv_tableIn (tgt := 121) hx hb dX11_over_64 (by decide) (by decide) rfl (by decide) ?_
                  refine lv_aload hx hb dX11_over_121 (lv_at hl 0 rfl) ?_
                  refine er_V (As := []) (rest := []) hFX hKK hE hS (c_X7_modeRow l D κ κq im2__28 p__24 a_3 R_4 w_5 co__19 rb__25 n__26 tz__27 h_37) 0 gV_X11_332 hdV_X7_modeRow rfl rfl ⟨Nat.le_of_ble_eq_true rfl, Nat.le_of_ble_eq_true rfl⟩ rfl rfl (Nat.le_of_ble_eq_true rfl) dX11_over_123 ⟨Nat.le_of_ble_eq_true rfl, Nat.le_of_ble_eq_true rfl⟩ hl.1 (oneP (C := [(xx, .inr (11, [.ref st, .ref tp, .ref ft, .ref rd, .ref wr, .ref st2, .int zi])), (st, .inr (6, [.ref d, .ref sh, .ref vw, .ref ta, .ref sa, .int (nI n)])), (sh, .inl (κ 4, 3, .inr (.inr (.inr (.inr fs))))), (vw, .inl (κ 5, 3, .inr (.inr (.inr (.inr fv)))))]) hP hm_42) 0 7 rfl rfl rfl (subP hP [] rfl) (fun r__61 hp_62 => ?_)
                  replace hp_62 : (n__26 = 0 ∨ ∃ j : Nat, j < R_4 ∧ r__61 = nI j) := hp_62
                  have h_63 := hp_62
                  clear hp_62
                  refine W.eq (g2 := F0 m 126 ls [.int r__61]) rfl ?_
                  refine lv_i2l (v := r__61.toInt64) hx hb dX11_over_126 rfl ?_
                  exact et_lret hx hb hr hlk hS (r__61.toInt64, im2__28) rfl (show Sb im im2__28 from (Sb.tr h_16 h_36)) (subP hP [0, 1, 2, 3] rfl) (subD hD [0, 1, 2, 3] (by decide) rfl) (Nat.le_of_ble_eq_true rfl) (Nat.le_of_ble_eq_true rfl) dX11_over_127
                · refine lv_tableIn (tgt := 128) hx hb dX11_over_64 (by decide) (by decide) rfl (by decide) ?_
                  refine lv_aload hx hb dX11_over_128 (lv_at hl 0 rfl) ?_
                  refine lv_aload hx hb dX11_over_130 (lv_at hl 0 rfl) ?_
                  refine er_V (As := []) (rest := [.ref p__24]) hFX hKK hE hS (c_X7_modeRow l D κ κq im2__28 p__24 a_3 R_4 w_5 co__19 rb__25 n__26 tz__27 h_37) 0 gV_X11_332 hdV_X7_modeRow rfl rfl ⟨Nat.le_of_ble_eq_true rfl, Nat.le_of_ble_eq_true rfl⟩ rfl rfl (Nat.le_of_ble_eq_true rfl) dX11_over_132 ⟨Nat.le_of_ble_eq_true rfl, Nat.le_of_ble_eq_true rfl⟩ hl.1 (oneP (C := [(xx, .inr (11, [.ref st, .ref tp, .ref ft, .ref rd, .ref wr, .ref st2, .int zi])), (st, .inr (6, [.ref d, .ref sh, .ref vw, .ref ta, .ref sa, .int (nI n)])), (sh, .inl (κ 4, 3, .inr (.inr (.inr (.inr fs))))), (vw, .inl (κ 5, 3, .inr (.inr (.inr (.inr fv)))))]) hP hm_42) 0 7 rfl rfl rfl (subP hP [] rfl) (fun r__64 hp_65 => ?_)
                  replace hp_65 : (n__26 = 0 ∨ ∃ j : Nat, j < R_4 ∧ r__64 = nI j) := hp_65
                  have h_66 := hp_65
                  clear hp_65
                  refine W.eq (g2 := F0 m 135 ls [.int r__64, .ref p__24]) rfl ?_
                  obtain ⟨j_67, hj_67, rfl⟩ := Or.resolve_left h_66 (by omega)
                  refine er_V (As := [.int (nI j_67)]) (rest := []) hFX hKK hE hS (c_X7_countLike l D κ κq im2__28 p__24 a_3 R_4 w_5 co__19 rb__25 n__26 tz__27 j_67 h_37 (by omega)) 1 gV_X11_335 hdV_X7_countLike rfl rfl ⟨Nat.le_of_ble_eq_true rfl, Nat.le_of_ble_eq_true rfl⟩ rfl rfl (Nat.le_of_ble_eq_true rfl) dX11_over_135 ⟨Nat.le_of_ble_eq_true rfl, Nat.le_of_ble_eq_true rfl⟩ hl.1 (oneP (C := [(xx, .inr (11, [.ref st, .ref tp, .ref ft, .ref rd, .ref wr, .ref st2, .int zi])), (st, .inr (6, [.ref d, .ref sh, .ref vw, .ref ta, .ref sa, .int (nI n)])), (sh, .inl (κ 4, 3, .inr (.inr (.inr (.inr fs))))), (vw, .inl (κ 5, 3, .inr (.inr (.inr (.inr fv)))))]) hP hm_42) 0 7 rfl rfl rfl (subP hP [] rfl) (fun r__68 hp_69 => ?_)
                  refine W.eq (g2 := F0 m 138 ls [.int r__68]) rfl ?_
                  refine lv_i2l (v := r__68.toInt64) hx hb dX11_over_138 rfl ?_
                  exact et_lret hx hb hr hlk hS (r__68.toInt64, im2__28) rfl (show Sb im im2__28 from (Sb.tr h_16 h_36)) (subP hP [0, 1, 2, 3] rfl) (subD hD [0, 1, 2, 3] (by decide) rfl) (Nat.le_of_ble_eq_true rfl) (Nat.le_of_ble_eq_true rfl) dX11_over_139
            · have nc_49 := cv_eq (a := n__26) (b := 0) (by omega) (by omega) c_49
              refine lv_ldc2 hx hb hown (hts _ mw_1252) dX11_over_59 ?_
              exact et_lret hx hb hr hlk hS ((-100000000000000), im2__28) rfl (show Sb im im2__28 from (Sb.tr h_16 h_36)) (subP hP [0, 1, 2, 3] rfl) (subD hD [0, 1, 2, 3] (by decide) rfl) (Nat.le_of_ble_eq_true rfl) (Nat.le_of_ble_eq_true rfl) dX11_over_62
          · refine lv_aload hx hb dX11_over_44 (lv_at hl 0 rfl) ?_
            obtain ⟨h_72, h_73, hm_74, h_75, h_76⟩ := id h_37
            refine er_V (As := []) (rest := []) hFX hKK hE hS (c_X7_sum l D κ κq im2__28 p__24 a_3 R_4 w_5 co__19 rb__25 n__26 tz__27 h_37) 0 gV_X11_319 hdV_X7_sum rfl rfl ⟨Nat.le_of_ble_eq_true rfl, Nat.le_of_ble_eq_true rfl⟩ rfl rfl (Nat.le_of_ble_eq_true rfl) dX11_over_46 ⟨Nat.le_of_ble_eq_true rfl, Nat.le_of_ble_eq_true rfl⟩ hl.1 (oneP (C := [(xx, .inr (11, [.ref st, .ref tp, .ref ft, .ref rd, .ref wr, .ref st2, .int zi])), (st, .inr (6, [.ref d, .ref sh, .ref vw, .ref ta, .ref sa, .int (nI n)])), (sh, .inl (κ 4, 3, .inr (.inr (.inr (.inr fs))))), (vw, .inl (κ 5, 3, .inr (.inr (.inr (.inr fv)))))]) hP hm_74) 0 7 rfl rfl rfl (subP hP [] rfl) (fun r__70 hp_71 => ?_)
            refine W.eq (g2 := F0 m 49 ls [.long r__70]) rfl ?_
            exact et_lret hx hb hr hlk hS (r__70, im2__28) rfl (show Sb im im2__28 from (Sb.tr h_16 h_36)) (subP hP [0, 1, 2, 3] rfl) (subD hD [0, 1, 2, 3] (by decide) rfl) (Nat.le_of_ble_eq_true rfl) (Nat.le_of_ble_eq_true rfl) dX11_over_49
        · refine lv_aload hx hb dX11_over_31 (lv_at hl 0 rfl) ?_
          obtain ⟨h_77, h_78, hm_79, h_80, h_81⟩ := id h_37
          refine va_get (D := D) (ci := 7) (v := .ref rb__25) (C := RX7) (T := TX7) (N := 4) hx hb hts inlX7 hown hK (oneP (C := [(xx, .inr (11, [.ref st, .ref tp, .ref ft, .ref rd, .ref wr, .ref st2, .int zi])), (st, .inr (6, [.ref d, .ref sh, .ref vw, .ref ta, .ref sa, .int (nI n)])), (sh, .inl (κ 4, 3, .inr (.inr (.inr (.inr fs))))), (vw, .inl (κ 5, 3, .inr (.inr (.inr (.inr fv)))))]) hP hm_79) 0 rfl rfl 2 (by decide) (hts _ mw_1273) (fun _ h9 => h9) rfl dX11_over_33 ?_
          obtain ⟨hn_82, f_83, hm_84, hf_85⟩ := id h_81
          refine va_alen hx hb hK (oneP (C := [(xx, .inr (11, [.ref st, .ref tp, .ref ft, .ref rd, .ref wr, .ref st2, .int zi])), (st, .inr (6, [.ref d, .ref sh, .ref vw, .ref ta, .ref sa, .int (nI n)])), (sh, .inl (κ 4, 3, .inr (.inr (.inr (.inr fs))))), (vw, .inl (κ 5, 3, .inr (.inr (.inr (.inr fv)))))]) hP hm_84) 0 0 rfl rfl (v := nI n__26) rfl dX11_over_36 ?_
          refine lv_i2l (v := (nI n__26).toInt64) hx hb dX11_over_37 rfl ?_
          exact et_lret hx hb hr hlk hS ((nI n__26).toInt64, im2__28) rfl (show Sb im im2__28 from (Sb.tr h_16 h_36)) (subP hP [0, 1, 2, 3] rfl) (subD hD [0, 1, 2, 3] (by decide) rfl) (Nat.le_of_ble_eq_true rfl) (Nat.le_of_ble_eq_true rfl) dX11_over_38
  · skip
    refine lv_aload_n hx hb dX11_over_0 rfl (lv_at hl 0 rfl) ?_
    refine va_get (D := D) (ci := 11) (v := .ref st) (C := RX11) (T := TX11) (N := 7) hx hb hts inlX11 hown hK hP 0 rfl rfl 0 (by decide) (hts _ mw_15) (fun _ h9 => h9) rfl dX11_over_1 ?_
    refine lv_iload_n hx hb dX11_over_4 rfl (lv_at hl 1 rfl) ?_
    refine lv_iload_n hx hb dX11_over_5 rfl (lv_at hl 2 rfl) ?_
    refine er_V (As := [.int za, .int zb]) (rest := []) hFX hKK hE hS (c_X6_stripOf_x l D κ κq st d sh vw ta sa n za zb (by assumption)) 2 gV_X11_189 hdV_X6_stripOf rfl rfl ⟨Nat.le_of_ble_eq_true rfl, Nat.le_of_ble_eq_true rfl⟩ rfl rfl (Nat.le_of_ble_eq_true rfl) dX11_over_6 ⟨Nat.le_of_ble_eq_true rfl, Nat.le_of_ble_eq_true rfl⟩ hl.1 hP 1 6 rfl rfl rfl (subP0 hP [1] rfl) (fun _ hp_86 => ?_)
    refine W.eq (g2 := F0 m 9 ls [.null]) rfl ?_
    refine lv_astoreN (lv' := [(4, .null), (0, .ref xx), (1, .int za), (2, .int zb), (3, .int zc)]) hx hb dX11_over_9 hl (by decide) rfl (fun ls hl => ?_)
    refine lv_aloadN hx hb dX11_over_11 (lv_at hl 0 rfl) ?_
    refine lv_ifnonnullN hx hb dX11_over_13 ?_
    refine lv_ldc2 hx hb hown (hts _ mw_1252) dX11_over_16 ?_
    exact et_lret hx hb hr hlk hS ((-100000000000000), im) rfl (show Sb im im from Sb.rf) (subP hP [0, 1, 2, 3] rfl) (subD hD [0, 1, 2, 3] (by decide) rfl) (Nat.le_of_ble_eq_true rfl) (Nat.le_of_ble_eq_true rfl) dX11_over_19
set_option maxHeartbeats 4000000 in
set_option maxRecDepth 100000 in
theorem c_X11_group (l : Launch) (D : va_G) (κ : Nat → ClassId) (κq : Nat → Nat) (im : va_W) (xx : Nat) (tp : Nat) (ft : Nat) (rd : Nat) (wr : Nat) (st2 : Nat) (zi : Int32) (st : Nat) (d : Nat) (sh : Nat) (vw : Nat) (ta : Nat) (sa : Nat) (n : Nat) (fs : Nat → Option Nat) (fv : Nat → Option Nat) (za : Int32) (zb : Int32) (zc : Int32) (zd : Int32) (ze : Int32) (htb : Tb κ im fs fv 3) : Et l yX11_group (wl yX11_group cX11_group 8 (some .long)) { frames := 6, cells := 16, slots := 400, locals := 135 } D κ κq [.ref xx, .int za, .int zb, .int zc, .int zd, .int ze] ([(xx, .inr (11, [.ref st, .ref tp, .ref ft, .ref rd, .ref wr, .ref st2, .int zi])), (st, .inr (6, [.ref d, .ref sh, .ref vw, .ref ta, .ref sa, .int (nI n)])), (sh, .inl (κ 4, 3, .inr (.inr (.inr (.inr fs))))), (vw, .inl (κ 5, 3, .inr (.inr (.inr (.inr fv)))))] ++ im) (fun u9 : Int64 × va_W => some (.long u9.1)) (fun u9 : Int64 × va_W => Sb im u9.2) (fun u9 : Int64 × va_W => ([(xx, .inr (11, [.ref st, .ref tp, .ref ft, .ref rd, .ref wr, .ref st2, .int zi])), (st, .inr (6, [.ref d, .ref sh, .ref vw, .ref ta, .ref sa, .int (nI n)])), (sh, .inl (κ 4, 3, .inr (.inr (.inr (.inr fs))))), (vw, .inl (κ 5, 3, .inr (.inr (.inr (.inr fv)))))] ++ u9.2)) := by
  refine et_of (by decide +kernel) (Nat.le_of_ble_eq_true rfl) ?_
  intro p e s m args below meth c A ls hx hb hr hml hts hown hlk hin hKK hK hA hP hD hS hE hl
  have hS : va_S A s.heap s.heap [] := hS
  have hP : va_P D vwCl ([(xx, .inr (11, [.ref st, .ref tp, .ref ft, .ref rd, .ref wr, .ref st2, .int zi])), (st, .inr (6, [.ref d, .ref sh, .ref vw, .ref ta, .ref sa, .int (nI n)])), (sh, .inl (κ 4, 3, .inr (.inr (.inr (.inr fs))))), (vw, .inl (κ 5, 3, .inr (.inr (.inr (.inr fv)))))] ++ im) s.heap := hP
  have hD : va_D A ([(xx, .inr (11, [.ref st, .ref tp, .ref ft, .ref rd, .ref wr, .ref st2, .int zi])), (st, .inr (6, [.ref d, .ref sh, .ref vw, .ref ta, .ref sa, .int (nI n)])), (sh, .inl (κ 4, 3, .inr (.inr (.inr (.inr fs))))), (vw, .inl (κ 5, 3, .inr (.inr (.inr (.inr fv)))))] ++ im) := hD
  have hFX : FX p s m args c cX11_group 8 RX11 := ⟨hx, hb, hml, hown, hts⟩
  have hl : lv_has ls 8 [(0, .ref xx), (1, .int za), (2, .int zb), (3, .int zc), (4, .int zd), (5, .int ze)] := hl
  rcases pl_cases za with ⟨t, ht_t, rfl⟩ | hnp_za
  · skip
    rcases htb t (by omega) with ⟨e_1, e_2⟩ | ⟨a_3, R_4, w_5, d_6, v_7, e_1, e_2, h_8, h_9, hd_10⟩
    · skip
      refine lv_aload_n hx hb dX11_group_0 rfl (lv_at hl 0 rfl) ?_
      refine va_get (D := D) (ci := 11) (v := .ref st) (C := RX11) (T := TX11) (N := 7) hx hb hts inlX11 hown hK hP 0 rfl rfl 0 (by decide) (hts _ mw_15) (fun _ h9 => h9) rfl dX11_group_1 ?_
      refine lv_iload_n hx hb dX11_group_4 rfl (lv_at hl 1 rfl) ?_
      refine lv_iload_n hx hb dX11_group_5 rfl (lv_at hl 2 rfl) ?_
      refine er_V (As := [.int (nI t), .int zb]) (rest := []) hFX hKK hE hS (c_X6_stripOf_n l D κ κq st d sh vw ta sa n fs fv t zb (by omega) e_1 e_2) 2 gV_X11_189 hdV_X6_stripOf rfl rfl ⟨Nat.le_of_ble_eq_true rfl, Nat.le_of_ble_eq_true rfl⟩ rfl rfl (Nat.le_of_ble_eq_true rfl) dX11_group_6 ⟨Nat.le_of_ble_eq_true rfl, Nat.le_of_ble_eq_true rfl⟩ hl.1 hP 1 6 rfl rfl rfl (subP0 hP [1, 2, 3] rfl) (fun _ hp_11 => ?_)
      refine W.eq (g2 := F0 m 9 ls [.null]) rfl ?_
      refine lv_astoreN (lv' := [(6, .null), (0, .ref xx), (1, .int (nI t)), (2, .int zb), (3, .int zc), (4, .int zd), (5, .int ze)]) hx hb dX11_group_9 hl (by decide) rfl (fun ls hl => ?_)
      refine lv_aloadN hx hb dX11_group_11 (lv_at hl 0 rfl) ?_
      refine lv_ifnonnullN hx hb dX11_group_13 ?_
      refine lv_ldc2 hx hb hown (hts _ mw_1252) dX11_group_16 ?_
      exact et_lret hx hb hr hlk hS ((-100000000000000), im) rfl (show Sb im im from Sb.rf) (subP hP [0, 1, 2, 3] rfl) (subD hD [0, 1, 2, 3] (by decide) rfl) (Nat.le_of_ble_eq_true rfl) (Nat.le_of_ble_eq_true rfl) dX11_group_19
    · have hle_a_3 := h_8.le
      refine lv_aload_n hx hb dX11_group_0 rfl (lv_at hl 0 rfl) ?_
      refine va_get (D := D) (ci := 11) (v := .ref st) (C := RX11) (T := TX11) (N := 7) hx hb hts inlX11 hown hK hP 0 rfl rfl 0 (by decide) (hts _ mw_15) (fun _ h9 => h9) rfl dX11_group_1 ?_
      refine lv_iload_n hx hb dX11_group_4 rfl (lv_at hl 1 rfl) ?_
      refine lv_iload_n hx hb dX11_group_5 rfl (lv_at hl 2 rfl) ?_
      refine et_VT (CR := [(xx, .inr (11, [.ref st, .ref tp, .ref ft, .ref rd, .ref wr, .ref st2, .int zi]))]) (As := [.int (nI t), .int zb]) (rest := []) hFX hKK hE hP hD hS hA (c_X6_stripOf_s l D κ κq im st d sh vw ta sa n fs fv t a_3 R_4 w_5 v_7 d_6 zb (by omega) e_1 e_2 h_8 h_9) 2 gV_X11_189 hdV_X6_stripOf ⟨Nat.le_of_ble_eq_true rfl, Nat.le_of_ble_eq_true rfl⟩ rfl rfl (Nat.le_of_ble_eq_true rfl) dX11_group_6 ⟨Nat.le_of_ble_eq_true rfl, Nat.le_of_ble_eq_true rfl⟩ hl.1 [1, 2, 3] [0] rfl rfl (by decide) (by decide) (by decide) hP 1 6 rfl rfl rfl (fun u_14 H locs hp_15 hP hD hS => ?_)
      refine W.widen (k := 1) (n := 4) (Nat.le_refl _) (Nat.le_refl _) ?_
      obtain ⟨r__12, im2__13⟩ := u_14
      replace hP : va_P D vwCl ([(xx, .inr (11, [.ref st, .ref tp, .ref ft, .ref rd, .ref wr, .ref st2, .int zi])), (st, .inr (6, [.ref d, .ref sh, .ref vw, .ref ta, .ref sa, .int (nI n)])), (sh, .inl (κ 4, 3, .inr (.inr (.inr (.inr fs))))), (vw, .inl (κ 5, 3, .inr (.inr (.inr (.inr fv)))))] ++ im2__13) H := subP (C := [(xx, .inr (11, [.ref st, .ref tp, .ref ft, .ref rd, .ref wr, .ref st2, .int zi])), (st, .inr (6, [.ref d, .ref sh, .ref vw, .ref ta, .ref sa, .int (nI n)])), (sh, .inl (κ 4, 3, .inr (.inr (.inr (.inr fs))))), (vw, .inl (κ 5, 3, .inr (.inr (.inr (.inr fv)))))]) hP [0, 1, 2, 3] rfl
      replace hD : va_D A ([(xx, .inr (11, [.ref st, .ref tp, .ref ft, .ref rd, .ref wr, .ref st2, .int zi])), (st, .inr (6, [.ref d, .ref sh, .ref vw, .ref ta, .ref sa, .int (nI n)])), (sh, .inl (κ 4, 3, .inr (.inr (.inr (.inr fs))))), (vw, .inl (κ 5, 3, .inr (.inr (.inr (.inr fv)))))] ++ im2__13) := subD (C := [(xx, .inr (11, [.ref st, .ref tp, .ref ft, .ref rd, .ref wr, .ref st2, .int zi])), (st, .inr (6, [.ref d, .ref sh, .ref vw, .ref ta, .ref sa, .int (nI n)])), (sh, .inl (κ 4, 3, .inr (.inr (.inr (.inr fs))))), (vw, .inl (κ 5, 3, .inr (.inr (.inr (.inr fv)))))]) hD [0, 1, 2, 3] (by decide) rfl
      replace hp_15 : Sb im im2__13 ∧ ((r__12 = none) ∨ (∃ (q : Nat), ∃ (co : Nat), ∃ (ra : Nat), ∃ (mq : Nat), ∃ (ty : Nat), r__12 = some q ∧ Sp κ im2__13 q a_3 R_4 w_5 co ra mq ty)) := hp_15
      obtain ⟨h_16, ha_17⟩ := hp_15
      replace htb := htb.up h_16
      replace h_8 := h_8.up h_16
      replace h_9 := h_9.up h_16
      rcases ha_17 with rfl | ⟨q__18, co__19, ra__20, mq__21, ty__22, rfl, a_23⟩
      · refine W.eq (g2 := F0 m 9 ls [.null]) rfl ?_
        refine lv_astoreN (lv' := [(6, .null), (0, .ref xx), (1, .int (nI t)), (2, .int zb), (3, .int zc), (4, .int zd), (5, .int ze)]) hx hb dX11_group_9 hl (by decide) rfl (fun ls hl => ?_)
        refine lv_aloadN hx hb dX11_group_11 (lv_at hl 0 rfl) ?_
        refine lv_ifnonnullN hx hb dX11_group_13 ?_
        refine lv_ldc2 hx hb hown (hts _ mw_1252) dX11_group_16 ?_
        exact et_lret hx hb hr hlk hS ((-100000000000000), im2__13) rfl (show Sb im im2__13 from h_16) (subP hP [0, 1, 2, 3] rfl) (subD hD [0, 1, 2, 3] (by decide) rfl) (Nat.le_of_ble_eq_true rfl) (Nat.le_of_ble_eq_true rfl) dX11_group_19
      · refine W.eq (g2 := F0 m 9 ls [.ref q__18]) rfl ?_
        refine lv_astore (lv' := [(6, .ref q__18), (0, .ref xx), (1, .int (nI t)), (2, .int zb), (3, .int zc), (4, .int zd), (5, .int ze)]) hx hb dX11_group_9 hl (by decide) rfl (fun ls hl => ?_)
        refine lv_aload hx hb dX11_group_11 (lv_at hl 0 rfl) ?_
        refine lv_ifnonnull (tgt := 20) hx hb dX11_group_13 (by decide) ?_
        refine lv_aload hx hb dX11_group_20 (lv_at hl 0 rfl) ?_
        obtain ⟨h_29, h_30, hm_31, h_32, h_33⟩ := id a_23
        refine et_VT (CR := [(xx, .inr (11, [.ref st, .ref tp, .ref ft, .ref rd, .ref wr, .ref st2, .int zi])), (st, .inr (6, [.ref d, .ref sh, .ref vw, .ref ta, .ref sa, .int (nI n)])), (sh, .inl (κ 4, 3, .inr (.inr (.inr (.inr fs))))), (vw, .inl (κ 5, 3, .inr (.inr (.inr (.inr fv)))))]) (As := []) (rest := []) hFX hKK hE hP hD hS hA (c_X7_firsts l D κ κq im2__13 q__18 a_3 R_4 w_5 co__19 ra__20 mq__21 ty__22 a_23) 0 gV_X11_251 hdV_X7_firsts ⟨Nat.le_of_ble_eq_true rfl, Nat.le_of_ble_eq_true rfl⟩ rfl rfl (Nat.le_of_ble_eq_true rfl) dX11_group_22 ⟨Nat.le_of_ble_eq_true rfl, Nat.le_of_ble_eq_true rfl⟩ hl.1 [] [0, 1, 2, 3] rfl rfl (by decide) (by decide) (by decide) (oneP (C := [(xx, .inr (11, [.ref st, .ref tp, .ref ft, .ref rd, .ref wr, .ref st2, .int zi])), (st, .inr (6, [.ref d, .ref sh, .ref vw, .ref ta, .ref sa, .int (nI n)])), (sh, .inl (κ 4, 3, .inr (.inr (.inr (.inr fs))))), (vw, .inl (κ 5, 3, .inr (.inr (.inr (.inr fv)))))]) hP hm_31) 0 7 rfl rfl rfl (fun u_27 H locs hp_28 hP hD hS => ?_)
        refine W.widen (k := 3) (n := 84) (Nat.le_refl _) (Nat.le_refl _) ?_
        obtain ⟨p__24, n__25, im2__26⟩ := u_27
        replace hP : va_P D vwCl ([(xx, .inr (11, [.ref st, .ref tp, .ref ft, .ref rd, .ref wr, .ref st2, .int zi])), (st, .inr (6, [.ref d, .ref sh, .ref vw, .ref ta, .ref sa, .int (nI n)])), (sh, .inl (κ 4, 3, .inr (.inr (.inr (.inr fs))))), (vw, .inl (κ 5, 3, .inr (.inr (.inr (.inr fv)))))] ++ im2__26) H := subP (C := [(xx, .inr (11, [.ref st, .ref tp, .ref ft, .ref rd, .ref wr, .ref st2, .int zi])), (st, .inr (6, [.ref d, .ref sh, .ref vw, .ref ta, .ref sa, .int (nI n)])), (sh, .inl (κ 4, 3, .inr (.inr (.inr (.inr fs))))), (vw, .inl (κ 5, 3, .inr (.inr (.inr (.inr fv)))))]) hP [0, 1, 2, 3] rfl
        replace hD : va_D A ([(xx, .inr (11, [.ref st, .ref tp, .ref ft, .ref rd, .ref wr, .ref st2, .int zi])), (st, .inr (6, [.ref d, .ref sh, .ref vw, .ref ta, .ref sa, .int (nI n)])), (sh, .inl (κ 4, 3, .inr (.inr (.inr (.inr fs))))), (vw, .inl (κ 5, 3, .inr (.inr (.inr (.inr fv)))))] ++ im2__26) := subD (C := [(xx, .inr (11, [.ref st, .ref tp, .ref ft, .ref rd, .ref wr, .ref st2, .int zi])), (st, .inr (6, [.ref d, .ref sh, .ref vw, .ref ta, .ref sa, .int (nI n)])), (sh, .inl (κ 4, 3, .inr (.inr (.inr (.inr fs))))), (vw, .inl (κ 5, 3, .inr (.inr (.inr (.inr fv)))))]) hD [0, 1, 2, 3] (by decide) rfl
        replace hp_28 : Sb im2__13 im2__26 ∧ Ix κ im2__26 p__24 n__25 R_4 := hp_28
        obtain ⟨h_34, h_35⟩ := hp_28
        replace htb := htb.up h_34
        replace h_8 := h_8.up h_34
        replace h_9 := h_9.up h_34
        replace a_23 := a_23.up h_34
        replace h_32 := h_32.up h_34
        replace h_33 := h_33.up h_34
        replace hm_31 := h_34 _ hm_31
        refine W.eq (g2 := F0 m 25 ls [.ref p__24]) rfl ?_
        refine lv_astore (lv' := [(7, .ref p__24), (6, .ref q__18), (0, .ref xx), (1, .int (nI t)), (2, .int zb), (3, .int zc), (4, .int zd), (5, .int ze)]) hx hb dX11_group_25 hl (by decide) rfl (fun ls hl => ?_)
        refine lv_iload_n hx hb dX11_group_27 rfl (lv_at hl 5 rfl) ?_
        refine lv_iconst (v := (-1)) hx hb dX11_group_28 (by decide) ?_
        refine lv_icmp_ne (tgt := 37) hx hb dX11_group_29 (by decide) (fun c_36 => ?_) (fun c_36 => ?_)
        · refine lv_iload_n hx hb dX11_group_37 rfl (lv_at hl 5 rfl) ?_
          refine lv_if_lt (tgt := 48) hx hb dX11_group_38 (by decide) (fun c_37 => ?_) (fun c_37 => ?_)
          · have nc_37 := cz_lt (a := zc.toInt) (b := (0 : Int)) rfl (by decide) c_37
            refine lv_ldc2 hx hb hown (hts _ mw_1252) dX11_group_48 ?_
            exact et_lret hx hb hr hlk hS ((-100000000000000), im2__26) rfl (show Sb im im2__26 from (Sb.tr h_16 h_34)) (subP hP [0, 1, 2, 3] rfl) (subD hD [0, 1, 2, 3] (by decide) rfl) (Nat.le_of_ble_eq_true rfl) (Nat.le_of_ble_eq_true rfl) dX11_group_51
          · have nc_37 := cz_nlt (a := zc.toInt) (b := (0 : Int)) rfl (by decide) c_37
            refine lv_iload_n hx hb dX11_group_41 rfl (lv_at hl 5 rfl) ?_
            refine lv_aload hx hb dX11_group_42 (lv_at hl 0 rfl) ?_
            obtain ⟨hn_38, f_39, hm_40, hf_41⟩ := id h_35
            refine va_alen hx hb hK (oneP (C := [(xx, .inr (11, [.ref st, .ref tp, .ref ft, .ref rd, .ref wr, .ref st2, .int zi])), (st, .inr (6, [.ref d, .ref sh, .ref vw, .ref ta, .ref sa, .int (nI n)])), (sh, .inl (κ 4, 3, .inr (.inr (.inr (.inr fs))))), (vw, .inl (κ 5, 3, .inr (.inr (.inr (.inr fv)))))]) hP hm_40) 0 0 rfl rfl (v := nI n__25) rfl dX11_group_44 ?_
            refine lv_icmp_lt (tgt := 52) hx hb dX11_group_45 (by decide) (fun c_42 => ?_) (fun c_42 => ?_)
            · have nc_42 := cz_lt (a := zc.toInt) (b := ((n__25 : Nat) : Int)) rfl (nI_toInt (by omega)) c_42
              refine lv_iload hx hb dX11_group_52 (lv_at hl 6 rfl) ?_
              rcases Classical.em (zd.toInt < 0 ∨ 2 < zd.toInt) with c_43 | c_43
              · refine lv_tableOut (tgt := 109) hx hb dX11_group_54 c_43 (by decide) ?_
                refine lv_ldc2 hx hb hown (hts _ mw_1252) dX11_group_109 ?_
                exact et_lret hx hb hr hlk hS ((-100000000000000), im2__26) rfl (show Sb im im2__26 from (Sb.tr h_16 h_34)) (subP hP [0, 1, 2, 3] rfl) (subD hD [0, 1, 2, 3] (by decide) rfl) (Nat.le_of_ble_eq_true rfl) (Nat.le_of_ble_eq_true rfl) dX11_group_112
              · have e_44 : zd = 0 ∨ zd = 1 ∨ zd = 2 := by
                  have q1 : ¬ zd.toInt < 0 := fun h => c_43 (Or.inl h)
                  have q2 : ¬ 2 < zd.toInt := fun h => c_43 (Or.inr h)
                  have q3 : ∀ v : Int32, zd.toInt = v.toInt → zd = v := fun v h => Int32.toInt_inj.mp h
                  rcases (show zd.toInt = 0 ∨ zd.toInt = 1 ∨ zd.toInt = 2 by omega) with h | h | h
                  · exact Or.inl (q3 0 (h.trans (by decide)))
                  · exact Or.inr (Or.inl (q3 1 (h.trans (by decide))))
                  · exact Or.inr (Or.inr ((q3 2 (h.trans (by decide)))))
                clear c_43
                rcases e_44 with rfl | rfl | rfl
                · refine lv_tableIn (tgt := 80) hx hb dX11_group_54 (by decide) (by decide) rfl (by decide) ?_
                  refine lv_aload hx hb dX11_group_80 (lv_at hl 0 rfl) ?_
                  refine lv_iload_n hx hb dX11_group_82 rfl (lv_at hl 5 rfl) ?_
                  obtain ⟨j_45, hj_45, rfl⟩ := i_nat (x := zc) (B := 40) (by omega) (by omega)
                  have hz_j_45 : (nI j_45).toInt = ((j_45 : Nat) : Int) := nI_toInt (by omega)
                  refine va_iald hx hb hK (oneP (C := [(xx, .inr (11, [.ref st, .ref tp, .ref ft, .ref rd, .ref wr, .ref st2, .int zi])), (st, .inr (6, [.ref d, .ref sh, .ref vw, .ref ta, .ref sa, .int (nI n)])), (sh, .inl (κ 4, 3, .inr (.inr (.inr (.inr fs))))), (vw, .inl (κ 5, 3, .inr (.inr (.inr (.inr fv)))))]) hP hm_40) 0 0 rfl rfl (i := nI j_45) (vp_in_nI (n := j_45) (by omega) (by omega)) dX11_group_83 ?_
                  refine kv (v := .int (f_39 j_45)) (by rw [nI_clamp (by omega)]) ?_
                  obtain ⟨n_46, hn_46, en_46⟩ := hf_41 j_45 (by omega)
                  refine kv (v := .int (nI n_46)) (congrArg Value.int en_46) ?_
                  refine lv_i2l (v := (nI n_46).toInt64) hx hb dX11_group_84 rfl ?_
                  exact et_lret hx hb hr hlk hS ((nI n_46).toInt64, im2__26) rfl (show Sb im im2__26 from (Sb.tr h_16 h_34)) (subP hP [0, 1, 2, 3] rfl) (subD hD [0, 1, 2, 3] (by decide) rfl) (Nat.le_of_ble_eq_true rfl) (Nat.le_of_ble_eq_true rfl) dX11_group_85
                · refine lv_tableIn (tgt := 86) hx hb dX11_group_54 (by decide) (by decide) rfl (by decide) ?_
                  refine lv_aload hx hb dX11_group_86 (lv_at hl 1 rfl) ?_
                  refine lv_aload hx hb dX11_group_88 (lv_at hl 0 rfl) ?_
                  refine lv_iload_n hx hb dX11_group_90 rfl (lv_at hl 5 rfl) ?_
                  obtain ⟨j_47, hj_47, rfl⟩ := i_nat (x := zc) (B := 40) (by omega) (by omega)
                  have hz_j_47 : (nI j_47).toInt = ((j_47 : Nat) : Int) := nI_toInt (by omega)
                  refine va_iald hx hb hK (oneP (C := [(xx, .inr (11, [.ref st, .ref tp, .ref ft, .ref rd, .ref wr, .ref st2, .int zi])), (st, .inr (6, [.ref d, .ref sh, .ref vw, .ref ta, .ref sa, .int (nI n)])), (sh, .inl (κ 4, 3, .inr (.inr (.inr (.inr fs))))), (vw, .inl (κ 5, 3, .inr (.inr (.inr (.inr fv)))))]) hP hm_40) 0 0 rfl rfl (i := nI j_47) (vp_in_nI (n := j_47) (by omega) (by omega)) dX11_group_91 ?_
                  refine kv (v := .int (f_39 j_47)) (by rw [nI_clamp (by omega)]) ?_
                  obtain ⟨n_48, hn_48, en_48⟩ := hf_41 j_47 (by omega)
                  refine kv (v := .int (nI n_48)) (congrArg Value.int en_48) ?_
                  refine er_V (As := [.int (nI n_48)]) (rest := []) hFX hKK hE hS (c_X7_countLike l D κ κq im2__26 q__18 a_3 R_4 w_5 co__19 ra__20 mq__21 ty__22 n_48 a_23 (by omega)) 1 gV_X11_335 hdV_X7_countLike rfl rfl ⟨Nat.le_of_ble_eq_true rfl, Nat.le_of_ble_eq_true rfl⟩ rfl rfl (Nat.le_of_ble_eq_true rfl) dX11_group_92 ⟨Nat.le_of_ble_eq_true rfl, Nat.le_of_ble_eq_true rfl⟩ hl.1 (oneP (C := [(xx, .inr (11, [.ref st, .ref tp, .ref ft, .ref rd, .ref wr, .ref st2, .int zi])), (st, .inr (6, [.ref d, .ref sh, .ref vw, .ref ta, .ref sa, .int (nI n)])), (sh, .inl (κ 4, 3, .inr (.inr (.inr (.inr fs))))), (vw, .inl (κ 5, 3, .inr (.inr (.inr (.inr fv)))))]) hP hm_31) 0 7 rfl rfl rfl (subP hP [] rfl) (fun r__49 hp_50 => ?_)
                  refine W.eq (g2 := F0 m 95 ls [.int r__49]) rfl ?_
                  refine lv_i2l (v := r__49.toInt64) hx hb dX11_group_95 rfl ?_
                  exact et_lret hx hb hr hlk hS (r__49.toInt64, im2__26) rfl (show Sb im im2__26 from (Sb.tr h_16 h_34)) (subP hP [0, 1, 2, 3] rfl) (subD hD [0, 1, 2, 3] (by decide) rfl) (Nat.le_of_ble_eq_true rfl) (Nat.le_of_ble_eq_true rfl) dX11_group_96
                · refine lv_tableIn (tgt := 97) hx hb dX11_group_54 (by decide) (by decide) rfl (by decide) ?_
                  refine lv_aload hx hb dX11_group_97 (lv_at hl 1 rfl) ?_
                  refine lv_aload hx hb dX11_group_99 (lv_at hl 0 rfl) ?_
                  refine lv_iload_n hx hb dX11_group_101 rfl (lv_at hl 5 rfl) ?_
                  obtain ⟨j_51, hj_51, rfl⟩ := i_nat (x := zc) (B := 40) (by omega) (by omega)
                  have hz_j_51 : (nI j_51).toInt = ((j_51 : Nat) : Int) := nI_toInt (by omega)
                  refine va_iald hx hb hK (oneP (C := [(xx, .inr (11, [.ref st, .ref tp, .ref ft, .ref rd, .ref wr, .ref st2, .int zi])), (st, .inr (6, [.ref d, .ref sh, .ref vw, .ref ta, .ref sa, .int (nI n)])), (sh, .inl (κ 4, 3, .inr (.inr (.inr (.inr fs))))), (vw, .inl (κ 5, 3, .inr (.inr (.inr (.inr fv)))))]) hP hm_40) 0 0 rfl rfl (i := nI j_51) (vp_in_nI (n := j_51) (by omega) (by omega)) dX11_group_102 ?_
                  refine kv (v := .int (f_39 j_51)) (by rw [nI_clamp (by omega)]) ?_
                  obtain ⟨n_52, hn_52, en_52⟩ := hf_41 j_51 (by omega)
                  refine kv (v := .int (nI n_52)) (congrArg Value.int en_52) ?_
                  refine lv_iload hx hb dX11_group_103 (lv_at hl 7 rfl) ?_
                  refine et_VT (CR := [(xx, .inr (11, [.ref st, .ref tp, .ref ft, .ref rd, .ref wr, .ref st2, .int zi])), (st, .inr (6, [.ref d, .ref sh, .ref vw, .ref ta, .ref sa, .int (nI n)])), (sh, .inl (κ 4, 3, .inr (.inr (.inr (.inr fs))))), (vw, .inl (κ 5, 3, .inr (.inr (.inr (.inr fv)))))]) (As := [.int (nI n_52), .int ze]) (rest := []) hFX hKK hE hP hD hS hA (c_X7_sumLike l D κ κq im2__26 q__18 a_3 R_4 w_5 co__19 ra__20 mq__21 ty__22 n_52 ze a_23 (by omega)) 2 gV_X11_338 hdV_X7_sumLike ⟨Nat.le_of_ble_eq_true rfl, Nat.le_of_ble_eq_true rfl⟩ rfl rfl (Nat.le_of_ble_eq_true rfl) dX11_group_105 ⟨Nat.le_of_ble_eq_true rfl, Nat.le_of_ble_eq_true rfl⟩ hl.1 [] [0, 1, 2, 3] rfl rfl (by decide) (by decide) (by decide) (oneP (C := [(xx, .inr (11, [.ref st, .ref tp, .ref ft, .ref rd, .ref wr, .ref st2, .int zi])), (st, .inr (6, [.ref d, .ref sh, .ref vw, .ref ta, .ref sa, .int (nI n)])), (sh, .inl (κ 4, 3, .inr (.inr (.inr (.inr fs))))), (vw, .inl (κ 5, 3, .inr (.inr (.inr (.inr fv)))))]) hP hm_31) 0 7 rfl rfl rfl (fun u_55 H locs hp_56 hP hD hS => ?_)
                  refine W.widen (k := 6) (n := 168) (Nat.le_refl _) (Nat.le_refl _) ?_
                  obtain ⟨r__53, im2__54⟩ := u_55
                  replace hP : va_P D vwCl ([(xx, .inr (11, [.ref st, .ref tp, .ref ft, .ref rd, .ref wr, .ref st2, .int zi])), (st, .inr (6, [.ref d, .ref sh, .ref vw, .ref ta, .ref sa, .int (nI n)])), (sh, .inl (κ 4, 3, .inr (.inr (.inr (.inr fs))))), (vw, .inl (κ 5, 3, .inr (.inr (.inr (.inr fv)))))] ++ im2__54) H := subP (C := [(xx, .inr (11, [.ref st, .ref tp, .ref ft, .ref rd, .ref wr, .ref st2, .int zi])), (st, .inr (6, [.ref d, .ref sh, .ref vw, .ref ta, .ref sa, .int (nI n)])), (sh, .inl (κ 4, 3, .inr (.inr (.inr (.inr fs))))), (vw, .inl (κ 5, 3, .inr (.inr (.inr (.inr fv)))))]) hP [0, 1, 2, 3] rfl
                  replace hD : va_D A ([(xx, .inr (11, [.ref st, .ref tp, .ref ft, .ref rd, .ref wr, .ref st2, .int zi])), (st, .inr (6, [.ref d, .ref sh, .ref vw, .ref ta, .ref sa, .int (nI n)])), (sh, .inl (κ 4, 3, .inr (.inr (.inr (.inr fs))))), (vw, .inl (κ 5, 3, .inr (.inr (.inr (.inr fv)))))] ++ im2__54) := subD (C := [(xx, .inr (11, [.ref st, .ref tp, .ref ft, .ref rd, .ref wr, .ref st2, .int zi])), (st, .inr (6, [.ref d, .ref sh, .ref vw, .ref ta, .ref sa, .int (nI n)])), (sh, .inl (κ 4, 3, .inr (.inr (.inr (.inr fs))))), (vw, .inl (κ 5, 3, .inr (.inr (.inr (.inr fv)))))]) hD [0, 1, 2, 3] (by decide) rfl
                  replace hp_56 : Sb im2__26 im2__54 := hp_56
                  have h_57 := hp_56
                  clear hp_56
                  replace htb := htb.up h_57
                  replace h_8 := h_8.up h_57
                  replace h_9 := h_9.up h_57
                  replace a_23 := a_23.up h_57
                  replace h_32 := h_32.up h_57
                  replace h_33 := h_33.up h_57
                  replace h_35 := h_35.up h_57
                  replace hm_31 := h_57 _ hm_31
                  replace hm_40 := h_57 _ hm_40
                  refine W.eq (g2 := F0 m 108 ls [.long r__53]) rfl ?_
                  exact et_lret hx hb hr hlk hS (r__53, im2__54) rfl (show Sb im im2__54 from (Sb.tr (Sb.tr h_16 h_34) h_57)) (subP hP [0, 1, 2, 3] rfl) (subD hD [0, 1, 2, 3] (by decide) rfl) (Nat.le_of_ble_eq_true rfl) (Nat.le_of_ble_eq_true rfl) dX11_group_108
            · have nc_42 := cz_nlt (a := zc.toInt) (b := ((n__25 : Nat) : Int)) rfl (nI_toInt (by omega)) c_42
              refine lv_ldc2 hx hb hown (hts _ mw_1252) dX11_group_48 ?_
              exact et_lret hx hb hr hlk hS ((-100000000000000), im2__26) rfl (show Sb im im2__26 from (Sb.tr h_16 h_34)) (subP hP [0, 1, 2, 3] rfl) (subD hD [0, 1, 2, 3] (by decide) rfl) (Nat.le_of_ble_eq_true rfl) (Nat.le_of_ble_eq_true rfl) dX11_group_51
        · refine lv_aload hx hb dX11_group_32 (lv_at hl 0 rfl) ?_
          obtain ⟨hn_58, f_59, hm_60, hf_61⟩ := id h_35
          refine va_alen hx hb hK (oneP (C := [(xx, .inr (11, [.ref st, .ref tp, .ref ft, .ref rd, .ref wr, .ref st2, .int zi])), (st, .inr (6, [.ref d, .ref sh, .ref vw, .ref ta, .ref sa, .int (nI n)])), (sh, .inl (κ 4, 3, .inr (.inr (.inr (.inr fs))))), (vw, .inl (κ 5, 3, .inr (.inr (.inr (.inr fv)))))]) hP hm_60) 0 0 rfl rfl (v := nI n__25) rfl dX11_group_34 ?_
          refine lv_i2l (v := (nI n__25).toInt64) hx hb dX11_group_35 rfl ?_
          exact et_lret hx hb hr hlk hS ((nI n__25).toInt64, im2__26) rfl (show Sb im im2__26 from (Sb.tr h_16 h_34)) (subP hP [0, 1, 2, 3] rfl) (subD hD [0, 1, 2, 3] (by decide) rfl) (Nat.le_of_ble_eq_true rfl) (Nat.le_of_ble_eq_true rfl) dX11_group_36
  · skip
    refine lv_aload_n hx hb dX11_group_0 rfl (lv_at hl 0 rfl) ?_
    refine va_get (D := D) (ci := 11) (v := .ref st) (C := RX11) (T := TX11) (N := 7) hx hb hts inlX11 hown hK hP 0 rfl rfl 0 (by decide) (hts _ mw_15) (fun _ h9 => h9) rfl dX11_group_1 ?_
    refine lv_iload_n hx hb dX11_group_4 rfl (lv_at hl 1 rfl) ?_
    refine lv_iload_n hx hb dX11_group_5 rfl (lv_at hl 2 rfl) ?_
    refine er_V (As := [.int za, .int zb]) (rest := []) hFX hKK hE hS (c_X6_stripOf_x l D κ κq st d sh vw ta sa n za zb (by assumption)) 2 gV_X11_189 hdV_X6_stripOf rfl rfl ⟨Nat.le_of_ble_eq_true rfl, Nat.le_of_ble_eq_true rfl⟩ rfl rfl (Nat.le_of_ble_eq_true rfl) dX11_group_6 ⟨Nat.le_of_ble_eq_true rfl, Nat.le_of_ble_eq_true rfl⟩ hl.1 hP 1 6 rfl rfl rfl (subP0 hP [1] rfl) (fun _ hp_62 => ?_)
    refine W.eq (g2 := F0 m 9 ls [.null]) rfl ?_
    refine lv_astoreN (lv' := [(6, .null), (0, .ref xx), (1, .int za), (2, .int zb), (3, .int zc), (4, .int zd), (5, .int ze)]) hx hb dX11_group_9 hl (by decide) rfl (fun ls hl => ?_)
    refine lv_aloadN hx hb dX11_group_11 (lv_at hl 0 rfl) ?_
    refine lv_ifnonnullN hx hb dX11_group_13 ?_
    refine lv_ldc2 hx hb hown (hts _ mw_1252) dX11_group_16 ?_
    exact et_lret hx hb hr hlk hS ((-100000000000000), im) rfl (show Sb im im from Sb.rf) (subP hP [0, 1, 2, 3] rfl) (subD hD [0, 1, 2, 3] (by decide) rfl) (Nat.le_of_ble_eq_true rfl) (Nat.le_of_ble_eq_true rfl) dX11_group_19
set_option maxHeartbeats 4000000 in
set_option maxRecDepth 100000 in
theorem c_X11_matches (l : Launch) (D : va_G) (κ : Nat → ClassId) (κq : Nat → Nat) (im : va_W) (xx : Nat) (tp : Nat) (ft : Nat) (rd : Nat) (wr : Nat) (st2 : Nat) (zi : Int32) (st : Nat) (d : Nat) (sh : Nat) (vw : Nat) (ta : Nat) (sa : Nat) (n : Nat) (fs : Nat → Option Nat) (fv : Nat → Option Nat) (za : Int32) (zb : Int32) (zc : Int32) (zd : Int32) (htb : Tb κ im fs fv 3) : Et l yX11_matches (wl yX11_matches cX11_matches 8 (some .int)) { frames := 6, cells := 8, slots := 200, locals := 134 } D κ κq [.ref xx, .int za, .int zb, .int zc, .int zd] ([(xx, .inr (11, [.ref st, .ref tp, .ref ft, .ref rd, .ref wr, .ref st2, .int zi])), (st, .inr (6, [.ref d, .ref sh, .ref vw, .ref ta, .ref sa, .int (nI n)])), (sh, .inl (κ 4, 3, .inr (.inr (.inr (.inr fs))))), (vw, .inl (κ 5, 3, .inr (.inr (.inr (.inr fv)))))] ++ im) (fun u9 : Int32 × va_W => some (.int u9.1)) (fun u9 : Int32 × va_W => Sb im u9.2) (fun u9 : Int32 × va_W => ([(xx, .inr (11, [.ref st, .ref tp, .ref ft, .ref rd, .ref wr, .ref st2, .int zi])), (st, .inr (6, [.ref d, .ref sh, .ref vw, .ref ta, .ref sa, .int (nI n)])), (sh, .inl (κ 4, 3, .inr (.inr (.inr (.inr fs))))), (vw, .inl (κ 5, 3, .inr (.inr (.inr (.inr fv)))))] ++ u9.2)) := by
  refine et_of (by decide +kernel) (Nat.le_of_ble_eq_true rfl) ?_
  intro p e s m args below meth c A ls hx hb hr hml hts hown hlk hin hKK hK hA hP hD hS hE hl
  have hS : va_S A s.heap s.heap [] := hS
  have hP : va_P D vwCl ([(xx, .inr (11, [.ref st, .ref tp, .ref ft, .ref rd, .ref wr, .ref st2, .int zi])), (st, .inr (6, [.ref d, .ref sh, .ref vw, .ref ta, .ref sa, .int (nI n)])), (sh, .inl (κ 4, 3, .inr (.inr (.inr (.inr fs))))), (vw, .inl (κ 5, 3, .inr (.inr (.inr (.inr fv)))))] ++ im) s.heap := hP
  have hD : va_D A ([(xx, .inr (11, [.ref st, .ref tp, .ref ft, .ref rd, .ref wr, .ref st2, .int zi])), (st, .inr (6, [.ref d, .ref sh, .ref vw, .ref ta, .ref sa, .int (nI n)])), (sh, .inl (κ 4, 3, .inr (.inr (.inr (.inr fs))))), (vw, .inl (κ 5, 3, .inr (.inr (.inr (.inr fv)))))] ++ im) := hD
  have hFX : FX p s m args c cX11_matches 8 RX11 := ⟨hx, hb, hml, hown, hts⟩
  have hl : lv_has ls 8 [(0, .ref xx), (1, .int za), (2, .int zb), (3, .int zc), (4, .int zd)] := hl
  rcases pl_cases za with ⟨t, ht_t, rfl⟩ | hnp_za
  · skip
    rcases htb t (by omega) with ⟨e_1, e_2⟩ | ⟨a_3, R_4, w_5, d_6, v_7, e_1, e_2, h_8, h_9, hd_10⟩
    · skip
      rcases pl_cases zc with ⟨t2, ht_t2, rfl⟩ | hnp_zc
      · skip
        rcases htb t2 (by omega) with ⟨e_11, e_12⟩ | ⟨a_13, R_14, w_15, d_16, v_17, e_11, e_12, h_18, h_19, hd_20⟩
        · skip
          refine lv_aload_n hx hb dX11_matches_0 rfl (lv_at hl 0 rfl) ?_
          refine va_get (D := D) (ci := 11) (v := .ref st) (C := RX11) (T := TX11) (N := 7) hx hb hts inlX11 hown hK hP 0 rfl rfl 0 (by decide) (hts _ mw_15) (fun _ h9 => h9) rfl dX11_matches_1 ?_
          refine lv_iload_n hx hb dX11_matches_4 rfl (lv_at hl 1 rfl) ?_
          refine lv_iload_n hx hb dX11_matches_5 rfl (lv_at hl 2 rfl) ?_
          refine er_V (As := [.int (nI t), .int zb]) (rest := []) hFX hKK hE hS (c_X6_stripOf_n l D κ κq st d sh vw ta sa n fs fv t zb (by omega) e_1 e_2) 2 gV_X11_189 hdV_X6_stripOf rfl rfl ⟨Nat.le_of_ble_eq_true rfl, Nat.le_of_ble_eq_true rfl⟩ rfl rfl (Nat.le_of_ble_eq_true rfl) dX11_matches_6 ⟨Nat.le_of_ble_eq_true rfl, Nat.le_of_ble_eq_true rfl⟩ hl.1 hP 1 6 rfl rfl rfl (subP0 hP [1, 2, 3] rfl) (fun _ hp_21 => ?_)
          refine W.eq (g2 := F0 m 9 ls [.null]) rfl ?_
          refine lv_astoreN (lv' := [(5, .null), (0, .ref xx), (1, .int (nI t)), (2, .int zb), (3, .int (nI t2)), (4, .int zd)]) hx hb dX11_matches_9 hl (by decide) rfl (fun ls hl => ?_)
          refine lv_aload_n hx hb dX11_matches_11 rfl (lv_at hl 1 rfl) ?_
          refine va_get (D := D) (ci := 11) (v := .ref st) (C := RX11) (T := TX11) (N := 7) hx hb hts inlX11 hown hK hP 0 rfl rfl 0 (by decide) (hts _ mw_15) (fun _ h9 => h9) rfl dX11_matches_12 ?_
          refine lv_iload_n hx hb dX11_matches_15 rfl (lv_at hl 4 rfl) ?_
          refine lv_iload hx hb dX11_matches_16 (lv_at hl 5 rfl) ?_
          refine er_V (As := [.int (nI t2), .int zd]) (rest := []) hFX hKK hE hS (c_X6_stripOf_n l D κ κq st d sh vw ta sa n fs fv t2 zd (by omega) e_11 e_12) 2 gV_X11_189 hdV_X6_stripOf rfl rfl ⟨Nat.le_of_ble_eq_true rfl, Nat.le_of_ble_eq_true rfl⟩ rfl rfl (Nat.le_of_ble_eq_true rfl) dX11_matches_18 ⟨Nat.le_of_ble_eq_true rfl, Nat.le_of_ble_eq_true rfl⟩ hl.1 hP 1 6 rfl rfl rfl (subP0 hP [1, 2, 3] rfl) (fun _ hp_22 => ?_)
          refine W.eq (g2 := F0 m 21 ls [.null]) rfl ?_
          refine lv_astoreN (lv' := [(6, .null), (5, .null), (0, .ref xx), (1, .int (nI t)), (2, .int zb), (3, .int (nI t2)), (4, .int zd)]) hx hb dX11_matches_21 hl (by decide) rfl (fun ls hl => ?_)
          refine lv_aloadN hx hb dX11_matches_23 (lv_at hl 1 rfl) ?_
          refine lv_ifnullN (tgt := 33) hx hb dX11_matches_25 (by decide) ?_
          refine lv_iconst (v := (-1)) hx hb dX11_matches_33 (by decide) ?_
          exact et_iret hx hb hr hlk rfl hS ((-1), im) rfl (show Sb im im from Sb.rf) (subP hP [0, 1, 2, 3] rfl) (subD hD [0, 1, 2, 3] (by decide) rfl) (Nat.le_of_ble_eq_true rfl) (Nat.le_of_ble_eq_true rfl) dX11_matches_34
        · have hle_a_13 := h_18.le
          refine lv_aload_n hx hb dX11_matches_0 rfl (lv_at hl 0 rfl) ?_
          refine va_get (D := D) (ci := 11) (v := .ref st) (C := RX11) (T := TX11) (N := 7) hx hb hts inlX11 hown hK hP 0 rfl rfl 0 (by decide) (hts _ mw_15) (fun _ h9 => h9) rfl dX11_matches_1 ?_
          refine lv_iload_n hx hb dX11_matches_4 rfl (lv_at hl 1 rfl) ?_
          refine lv_iload_n hx hb dX11_matches_5 rfl (lv_at hl 2 rfl) ?_
          refine er_V (As := [.int (nI t), .int zb]) (rest := []) hFX hKK hE hS (c_X6_stripOf_n l D κ κq st d sh vw ta sa n fs fv t zb (by omega) e_1 e_2) 2 gV_X11_189 hdV_X6_stripOf rfl rfl ⟨Nat.le_of_ble_eq_true rfl, Nat.le_of_ble_eq_true rfl⟩ rfl rfl (Nat.le_of_ble_eq_true rfl) dX11_matches_6 ⟨Nat.le_of_ble_eq_true rfl, Nat.le_of_ble_eq_true rfl⟩ hl.1 hP 1 6 rfl rfl rfl (subP0 hP [1, 2, 3] rfl) (fun _ hp_23 => ?_)
          refine W.eq (g2 := F0 m 9 ls [.null]) rfl ?_
          refine lv_astoreN (lv' := [(5, .null), (0, .ref xx), (1, .int (nI t)), (2, .int zb), (3, .int (nI t2)), (4, .int zd)]) hx hb dX11_matches_9 hl (by decide) rfl (fun ls hl => ?_)
          refine lv_aload_n hx hb dX11_matches_11 rfl (lv_at hl 1 rfl) ?_
          refine va_get (D := D) (ci := 11) (v := .ref st) (C := RX11) (T := TX11) (N := 7) hx hb hts inlX11 hown hK hP 0 rfl rfl 0 (by decide) (hts _ mw_15) (fun _ h9 => h9) rfl dX11_matches_12 ?_
          refine lv_iload_n hx hb dX11_matches_15 rfl (lv_at hl 4 rfl) ?_
          refine lv_iload hx hb dX11_matches_16 (lv_at hl 5 rfl) ?_
          refine et_VT (CR := [(xx, .inr (11, [.ref st, .ref tp, .ref ft, .ref rd, .ref wr, .ref st2, .int zi]))]) (As := [.int (nI t2), .int zd]) (rest := []) hFX hKK hE hP hD hS hA (c_X6_stripOf_s l D κ κq im st d sh vw ta sa n fs fv t2 a_13 R_14 w_15 v_17 d_16 zd (by omega) e_11 e_12 h_18 h_19) 2 gV_X11_189 hdV_X6_stripOf ⟨Nat.le_of_ble_eq_true rfl, Nat.le_of_ble_eq_true rfl⟩ rfl rfl (Nat.le_of_ble_eq_true rfl) dX11_matches_18 ⟨Nat.le_of_ble_eq_true rfl, Nat.le_of_ble_eq_true rfl⟩ hl.1 [1, 2, 3] [0] rfl rfl (by decide) (by decide) (by decide) hP 1 6 rfl rfl rfl (fun u_26 H locs hp_27 hP hD hS => ?_)
          refine W.widen (k := 1) (n := 4) (Nat.le_refl _) (Nat.le_refl _) ?_
          obtain ⟨r__24, im2__25⟩ := u_26
          replace hP : va_P D vwCl ([(xx, .inr (11, [.ref st, .ref tp, .ref ft, .ref rd, .ref wr, .ref st2, .int zi])), (st, .inr (6, [.ref d, .ref sh, .ref vw, .ref ta, .ref sa, .int (nI n)])), (sh, .inl (κ 4, 3, .inr (.inr (.inr (.inr fs))))), (vw, .inl (κ 5, 3, .inr (.inr (.inr (.inr fv)))))] ++ im2__25) H := subP (C := [(xx, .inr (11, [.ref st, .ref tp, .ref ft, .ref rd, .ref wr, .ref st2, .int zi])), (st, .inr (6, [.ref d, .ref sh, .ref vw, .ref ta, .ref sa, .int (nI n)])), (sh, .inl (κ 4, 3, .inr (.inr (.inr (.inr fs))))), (vw, .inl (κ 5, 3, .inr (.inr (.inr (.inr fv)))))]) hP [0, 1, 2, 3] rfl
          replace hD : va_D A ([(xx, .inr (11, [.ref st, .ref tp, .ref ft, .ref rd, .ref wr, .ref st2, .int zi])), (st, .inr (6, [.ref d, .ref sh, .ref vw, .ref ta, .ref sa, .int (nI n)])), (sh, .inl (κ 4, 3, .inr (.inr (.inr (.inr fs))))), (vw, .inl (κ 5, 3, .inr (.inr (.inr (.inr fv)))))] ++ im2__25) := subD (C := [(xx, .inr (11, [.ref st, .ref tp, .ref ft, .ref rd, .ref wr, .ref st2, .int zi])), (st, .inr (6, [.ref d, .ref sh, .ref vw, .ref ta, .ref sa, .int (nI n)])), (sh, .inl (κ 4, 3, .inr (.inr (.inr (.inr fs))))), (vw, .inl (κ 5, 3, .inr (.inr (.inr (.inr fv)))))]) hD [0, 1, 2, 3] (by decide) rfl
          replace hp_27 : Sb im im2__25 ∧ ((r__24 = none) ∨ (∃ (q : Nat), ∃ (co : Nat), ∃ (ra : Nat), ∃ (mq : Nat), ∃ (ty : Nat), r__24 = some q ∧ Sp κ im2__25 q a_13 R_14 w_15 co ra mq ty)) := hp_27
          obtain ⟨h_28, ha_29⟩ := hp_27
          replace htb := htb.up h_28
          replace h_18 := h_18.up h_28
          replace h_19 := h_19.up h_28
          rcases ha_29 with rfl | ⟨q__30, co__31, ra__32, mq__33, ty__34, rfl, a_35⟩
          · refine W.eq (g2 := F0 m 21 ls [.null]) rfl ?_
            refine lv_astoreN (lv' := [(6, .null), (5, .null), (0, .ref xx), (1, .int (nI t)), (2, .int zb), (3, .int (nI t2)), (4, .int zd)]) hx hb dX11_matches_21 hl (by decide) rfl (fun ls hl => ?_)
            refine lv_aloadN hx hb dX11_matches_23 (lv_at hl 1 rfl) ?_
            refine lv_ifnullN (tgt := 33) hx hb dX11_matches_25 (by decide) ?_
            refine lv_iconst (v := (-1)) hx hb dX11_matches_33 (by decide) ?_
            exact et_iret hx hb hr hlk rfl hS ((-1), im2__25) rfl (show Sb im im2__25 from h_28) (subP hP [0, 1, 2, 3] rfl) (subD hD [0, 1, 2, 3] (by decide) rfl) (Nat.le_of_ble_eq_true rfl) (Nat.le_of_ble_eq_true rfl) dX11_matches_34
          · refine W.eq (g2 := F0 m 21 ls [.ref q__30]) rfl ?_
            refine lv_astore (lv' := [(6, .ref q__30), (5, .null), (0, .ref xx), (1, .int (nI t)), (2, .int zb), (3, .int (nI t2)), (4, .int zd)]) hx hb dX11_matches_21 hl (by decide) rfl (fun ls hl => ?_)
            refine lv_aloadN hx hb dX11_matches_23 (lv_at hl 1 rfl) ?_
            refine lv_ifnullN (tgt := 33) hx hb dX11_matches_25 (by decide) ?_
            refine lv_iconst (v := (-1)) hx hb dX11_matches_33 (by decide) ?_
            exact et_iret hx hb hr hlk rfl hS ((-1), im2__25) rfl (show Sb im im2__25 from h_28) (subP hP [0, 1, 2, 3] rfl) (subD hD [0, 1, 2, 3] (by decide) rfl) (Nat.le_of_ble_eq_true rfl) (Nat.le_of_ble_eq_true rfl) dX11_matches_34
      · skip
        refine lv_aload_n hx hb dX11_matches_0 rfl (lv_at hl 0 rfl) ?_
        refine va_get (D := D) (ci := 11) (v := .ref st) (C := RX11) (T := TX11) (N := 7) hx hb hts inlX11 hown hK hP 0 rfl rfl 0 (by decide) (hts _ mw_15) (fun _ h9 => h9) rfl dX11_matches_1 ?_
        refine lv_iload_n hx hb dX11_matches_4 rfl (lv_at hl 1 rfl) ?_
        refine lv_iload_n hx hb dX11_matches_5 rfl (lv_at hl 2 rfl) ?_
        refine er_V (As := [.int (nI t), .int zb]) (rest := []) hFX hKK hE hS (c_X6_stripOf_n l D κ κq st d sh vw ta sa n fs fv t zb (by omega) e_1 e_2) 2 gV_X11_189 hdV_X6_stripOf rfl rfl ⟨Nat.le_of_ble_eq_true rfl, Nat.le_of_ble_eq_true rfl⟩ rfl rfl (Nat.le_of_ble_eq_true rfl) dX11_matches_6 ⟨Nat.le_of_ble_eq_true rfl, Nat.le_of_ble_eq_true rfl⟩ hl.1 hP 1 6 rfl rfl rfl (subP0 hP [1, 2, 3] rfl) (fun _ hp_36 => ?_)
        refine W.eq (g2 := F0 m 9 ls [.null]) rfl ?_
        refine lv_astoreN (lv' := [(5, .null), (0, .ref xx), (1, .int (nI t)), (2, .int zb), (3, .int zc), (4, .int zd)]) hx hb dX11_matches_9 hl (by decide) rfl (fun ls hl => ?_)
        refine lv_aload_n hx hb dX11_matches_11 rfl (lv_at hl 1 rfl) ?_
        refine va_get (D := D) (ci := 11) (v := .ref st) (C := RX11) (T := TX11) (N := 7) hx hb hts inlX11 hown hK hP 0 rfl rfl 0 (by decide) (hts _ mw_15) (fun _ h9 => h9) rfl dX11_matches_12 ?_
        refine lv_iload_n hx hb dX11_matches_15 rfl (lv_at hl 4 rfl) ?_
        refine lv_iload hx hb dX11_matches_16 (lv_at hl 5 rfl) ?_
        refine er_V (As := [.int zc, .int zd]) (rest := []) hFX hKK hE hS (c_X6_stripOf_x l D κ κq st d sh vw ta sa n zc zd (by assumption)) 2 gV_X11_189 hdV_X6_stripOf rfl rfl ⟨Nat.le_of_ble_eq_true rfl, Nat.le_of_ble_eq_true rfl⟩ rfl rfl (Nat.le_of_ble_eq_true rfl) dX11_matches_18 ⟨Nat.le_of_ble_eq_true rfl, Nat.le_of_ble_eq_true rfl⟩ hl.1 hP 1 6 rfl rfl rfl (subP0 hP [1] rfl) (fun _ hp_37 => ?_)
        refine W.eq (g2 := F0 m 21 ls [.null]) rfl ?_
        refine lv_astoreN (lv' := [(6, .null), (5, .null), (0, .ref xx), (1, .int (nI t)), (2, .int zb), (3, .int zc), (4, .int zd)]) hx hb dX11_matches_21 hl (by decide) rfl (fun ls hl => ?_)
        refine lv_aloadN hx hb dX11_matches_23 (lv_at hl 1 rfl) ?_
        refine lv_ifnullN (tgt := 33) hx hb dX11_matches_25 (by decide) ?_
        refine lv_iconst (v := (-1)) hx hb dX11_matches_33 (by decide) ?_
        exact et_iret hx hb hr hlk rfl hS ((-1), im) rfl (show Sb im im from Sb.rf) (subP hP [0, 1, 2, 3] rfl) (subD hD [0, 1, 2, 3] (by decide) rfl) (Nat.le_of_ble_eq_true rfl) (Nat.le_of_ble_eq_true rfl) dX11_matches_34
    · have hle_a_3 := h_8.le
      rcases pl_cases zc with ⟨t2, ht_t2, rfl⟩ | hnp_zc
      · skip
        rcases htb t2 (by omega) with ⟨e_38, e_39⟩ | ⟨a_40, R_41, w_42, d_43, v_44, e_38, e_39, h_45, h_46, hd_47⟩
        · skip
          refine lv_aload_n hx hb dX11_matches_0 rfl (lv_at hl 0 rfl) ?_
          refine va_get (D := D) (ci := 11) (v := .ref st) (C := RX11) (T := TX11) (N := 7) hx hb hts inlX11 hown hK hP 0 rfl rfl 0 (by decide) (hts _ mw_15) (fun _ h9 => h9) rfl dX11_matches_1 ?_
          refine lv_iload_n hx hb dX11_matches_4 rfl (lv_at hl 1 rfl) ?_
          refine lv_iload_n hx hb dX11_matches_5 rfl (lv_at hl 2 rfl) ?_
          refine et_VT (CR := [(xx, .inr (11, [.ref st, .ref tp, .ref ft, .ref rd, .ref wr, .ref st2, .int zi]))]) (As := [.int (nI t), .int zb]) (rest := []) hFX hKK hE hP hD hS hA (c_X6_stripOf_s l D κ κq im st d sh vw ta sa n fs fv t a_3 R_4 w_5 v_7 d_6 zb (by omega) e_1 e_2 h_8 h_9) 2 gV_X11_189 hdV_X6_stripOf ⟨Nat.le_of_ble_eq_true rfl, Nat.le_of_ble_eq_true rfl⟩ rfl rfl (Nat.le_of_ble_eq_true rfl) dX11_matches_6 ⟨Nat.le_of_ble_eq_true rfl, Nat.le_of_ble_eq_true rfl⟩ hl.1 [1, 2, 3] [0] rfl rfl (by decide) (by decide) (by decide) hP 1 6 rfl rfl rfl (fun u_50 H locs hp_51 hP hD hS => ?_)
          refine W.widen (k := 1) (n := 4) (Nat.le_refl _) (Nat.le_refl _) ?_
          obtain ⟨r__48, im2__49⟩ := u_50
          replace hP : va_P D vwCl ([(xx, .inr (11, [.ref st, .ref tp, .ref ft, .ref rd, .ref wr, .ref st2, .int zi])), (st, .inr (6, [.ref d, .ref sh, .ref vw, .ref ta, .ref sa, .int (nI n)])), (sh, .inl (κ 4, 3, .inr (.inr (.inr (.inr fs))))), (vw, .inl (κ 5, 3, .inr (.inr (.inr (.inr fv)))))] ++ im2__49) H := subP (C := [(xx, .inr (11, [.ref st, .ref tp, .ref ft, .ref rd, .ref wr, .ref st2, .int zi])), (st, .inr (6, [.ref d, .ref sh, .ref vw, .ref ta, .ref sa, .int (nI n)])), (sh, .inl (κ 4, 3, .inr (.inr (.inr (.inr fs))))), (vw, .inl (κ 5, 3, .inr (.inr (.inr (.inr fv)))))]) hP [0, 1, 2, 3] rfl
          replace hD : va_D A ([(xx, .inr (11, [.ref st, .ref tp, .ref ft, .ref rd, .ref wr, .ref st2, .int zi])), (st, .inr (6, [.ref d, .ref sh, .ref vw, .ref ta, .ref sa, .int (nI n)])), (sh, .inl (κ 4, 3, .inr (.inr (.inr (.inr fs))))), (vw, .inl (κ 5, 3, .inr (.inr (.inr (.inr fv)))))] ++ im2__49) := subD (C := [(xx, .inr (11, [.ref st, .ref tp, .ref ft, .ref rd, .ref wr, .ref st2, .int zi])), (st, .inr (6, [.ref d, .ref sh, .ref vw, .ref ta, .ref sa, .int (nI n)])), (sh, .inl (κ 4, 3, .inr (.inr (.inr (.inr fs))))), (vw, .inl (κ 5, 3, .inr (.inr (.inr (.inr fv)))))]) hD [0, 1, 2, 3] (by decide) rfl
          replace hp_51 : Sb im im2__49 ∧ ((r__48 = none) ∨ (∃ (q : Nat), ∃ (co : Nat), ∃ (ra : Nat), ∃ (mq : Nat), ∃ (ty : Nat), r__48 = some q ∧ Sp κ im2__49 q a_3 R_4 w_5 co ra mq ty)) := hp_51
          obtain ⟨h_52, ha_53⟩ := hp_51
          replace htb := htb.up h_52
          replace h_8 := h_8.up h_52
          replace h_9 := h_9.up h_52
          rcases ha_53 with rfl | ⟨q__54, co__55, ra__56, mq__57, ty__58, rfl, a_59⟩
          · refine W.eq (g2 := F0 m 9 ls [.null]) rfl ?_
            refine lv_astoreN (lv' := [(5, .null), (0, .ref xx), (1, .int (nI t)), (2, .int zb), (3, .int (nI t2)), (4, .int zd)]) hx hb dX11_matches_9 hl (by decide) rfl (fun ls hl => ?_)
            refine lv_aload_n hx hb dX11_matches_11 rfl (lv_at hl 1 rfl) ?_
            refine va_get (D := D) (ci := 11) (v := .ref st) (C := RX11) (T := TX11) (N := 7) hx hb hts inlX11 hown hK hP 0 rfl rfl 0 (by decide) (hts _ mw_15) (fun _ h9 => h9) rfl dX11_matches_12 ?_
            refine lv_iload_n hx hb dX11_matches_15 rfl (lv_at hl 4 rfl) ?_
            refine lv_iload hx hb dX11_matches_16 (lv_at hl 5 rfl) ?_
            refine er_V (As := [.int (nI t2), .int zd]) (rest := []) hFX hKK hE hS (c_X6_stripOf_n l D κ κq st d sh vw ta sa n fs fv t2 zd (by omega) e_38 e_39) 2 gV_X11_189 hdV_X6_stripOf rfl rfl ⟨Nat.le_of_ble_eq_true rfl, Nat.le_of_ble_eq_true rfl⟩ rfl rfl (Nat.le_of_ble_eq_true rfl) dX11_matches_18 ⟨Nat.le_of_ble_eq_true rfl, Nat.le_of_ble_eq_true rfl⟩ hl.1 hP 1 6 rfl rfl rfl (subP0 hP [1, 2, 3] rfl) (fun _ hp_60 => ?_)
            refine W.eq (g2 := F0 m 21 ls [.null]) rfl ?_
            refine lv_astoreN (lv' := [(6, .null), (5, .null), (0, .ref xx), (1, .int (nI t)), (2, .int zb), (3, .int (nI t2)), (4, .int zd)]) hx hb dX11_matches_21 hl (by decide) rfl (fun ls hl => ?_)
            refine lv_aloadN hx hb dX11_matches_23 (lv_at hl 1 rfl) ?_
            refine lv_ifnullN (tgt := 33) hx hb dX11_matches_25 (by decide) ?_
            refine lv_iconst (v := (-1)) hx hb dX11_matches_33 (by decide) ?_
            exact et_iret hx hb hr hlk rfl hS ((-1), im2__49) rfl (show Sb im im2__49 from h_52) (subP hP [0, 1, 2, 3] rfl) (subD hD [0, 1, 2, 3] (by decide) rfl) (Nat.le_of_ble_eq_true rfl) (Nat.le_of_ble_eq_true rfl) dX11_matches_34
          · refine W.eq (g2 := F0 m 9 ls [.ref q__54]) rfl ?_
            refine lv_astore (lv' := [(5, .ref q__54), (0, .ref xx), (1, .int (nI t)), (2, .int zb), (3, .int (nI t2)), (4, .int zd)]) hx hb dX11_matches_9 hl (by decide) rfl (fun ls hl => ?_)
            refine lv_aload_n hx hb dX11_matches_11 rfl (lv_at hl 1 rfl) ?_
            refine va_get (D := D) (ci := 11) (v := .ref st) (C := RX11) (T := TX11) (N := 7) hx hb hts inlX11 hown hK hP 0 rfl rfl 0 (by decide) (hts _ mw_15) (fun _ h9 => h9) rfl dX11_matches_12 ?_
            refine lv_iload_n hx hb dX11_matches_15 rfl (lv_at hl 4 rfl) ?_
            refine lv_iload hx hb dX11_matches_16 (lv_at hl 5 rfl) ?_
            refine er_V (As := [.int (nI t2), .int zd]) (rest := []) hFX hKK hE hS (c_X6_stripOf_n l D κ κq st d sh vw ta sa n fs fv t2 zd (by omega) e_38 e_39) 2 gV_X11_189 hdV_X6_stripOf rfl rfl ⟨Nat.le_of_ble_eq_true rfl, Nat.le_of_ble_eq_true rfl⟩ rfl rfl (Nat.le_of_ble_eq_true rfl) dX11_matches_18 ⟨Nat.le_of_ble_eq_true rfl, Nat.le_of_ble_eq_true rfl⟩ hl.1 hP 1 6 rfl rfl rfl (subP0 hP [1, 2, 3] rfl) (fun _ hp_61 => ?_)
            refine W.eq (g2 := F0 m 21 ls [.null]) rfl ?_
            refine lv_astoreN (lv' := [(6, .null), (5, .ref q__54), (0, .ref xx), (1, .int (nI t)), (2, .int zb), (3, .int (nI t2)), (4, .int zd)]) hx hb dX11_matches_21 hl (by decide) rfl (fun ls hl => ?_)
            refine lv_aload hx hb dX11_matches_23 (lv_at hl 1 rfl) ?_
            refine lv_ifnull hx hb dX11_matches_25 ?_
            refine lv_aloadN hx hb dX11_matches_28 (lv_at hl 0 rfl) ?_
            refine lv_ifnonnullN hx hb dX11_matches_30 ?_
            refine lv_iconst (v := (-1)) hx hb dX11_matches_33 (by decide) ?_
            exact et_iret hx hb hr hlk rfl hS ((-1), im2__49) rfl (show Sb im im2__49 from h_52) (subP hP [0, 1, 2, 3] rfl) (subD hD [0, 1, 2, 3] (by decide) rfl) (Nat.le_of_ble_eq_true rfl) (Nat.le_of_ble_eq_true rfl) dX11_matches_34
        · have hle_a_40 := h_45.le
          refine lv_aload_n hx hb dX11_matches_0 rfl (lv_at hl 0 rfl) ?_
          refine va_get (D := D) (ci := 11) (v := .ref st) (C := RX11) (T := TX11) (N := 7) hx hb hts inlX11 hown hK hP 0 rfl rfl 0 (by decide) (hts _ mw_15) (fun _ h9 => h9) rfl dX11_matches_1 ?_
          refine lv_iload_n hx hb dX11_matches_4 rfl (lv_at hl 1 rfl) ?_
          refine lv_iload_n hx hb dX11_matches_5 rfl (lv_at hl 2 rfl) ?_
          refine et_VT (CR := [(xx, .inr (11, [.ref st, .ref tp, .ref ft, .ref rd, .ref wr, .ref st2, .int zi]))]) (As := [.int (nI t), .int zb]) (rest := []) hFX hKK hE hP hD hS hA (c_X6_stripOf_s l D κ κq im st d sh vw ta sa n fs fv t a_3 R_4 w_5 v_7 d_6 zb (by omega) e_1 e_2 h_8 h_9) 2 gV_X11_189 hdV_X6_stripOf ⟨Nat.le_of_ble_eq_true rfl, Nat.le_of_ble_eq_true rfl⟩ rfl rfl (Nat.le_of_ble_eq_true rfl) dX11_matches_6 ⟨Nat.le_of_ble_eq_true rfl, Nat.le_of_ble_eq_true rfl⟩ hl.1 [1, 2, 3] [0] rfl rfl (by decide) (by decide) (by decide) hP 1 6 rfl rfl rfl (fun u_64 H locs hp_65 hP hD hS => ?_)
          refine W.widen (k := 1) (n := 4) (Nat.le_refl _) (Nat.le_refl _) ?_
          obtain ⟨r__62, im2__63⟩ := u_64
          replace hP : va_P D vwCl ([(xx, .inr (11, [.ref st, .ref tp, .ref ft, .ref rd, .ref wr, .ref st2, .int zi])), (st, .inr (6, [.ref d, .ref sh, .ref vw, .ref ta, .ref sa, .int (nI n)])), (sh, .inl (κ 4, 3, .inr (.inr (.inr (.inr fs))))), (vw, .inl (κ 5, 3, .inr (.inr (.inr (.inr fv)))))] ++ im2__63) H := subP (C := [(xx, .inr (11, [.ref st, .ref tp, .ref ft, .ref rd, .ref wr, .ref st2, .int zi])), (st, .inr (6, [.ref d, .ref sh, .ref vw, .ref ta, .ref sa, .int (nI n)])), (sh, .inl (κ 4, 3, .inr (.inr (.inr (.inr fs))))), (vw, .inl (κ 5, 3, .inr (.inr (.inr (.inr fv)))))]) hP [0, 1, 2, 3] rfl
          replace hD : va_D A ([(xx, .inr (11, [.ref st, .ref tp, .ref ft, .ref rd, .ref wr, .ref st2, .int zi])), (st, .inr (6, [.ref d, .ref sh, .ref vw, .ref ta, .ref sa, .int (nI n)])), (sh, .inl (κ 4, 3, .inr (.inr (.inr (.inr fs))))), (vw, .inl (κ 5, 3, .inr (.inr (.inr (.inr fv)))))] ++ im2__63) := subD (C := [(xx, .inr (11, [.ref st, .ref tp, .ref ft, .ref rd, .ref wr, .ref st2, .int zi])), (st, .inr (6, [.ref d, .ref sh, .ref vw, .ref ta, .ref sa, .int (nI n)])), (sh, .inl (κ 4, 3, .inr (.inr (.inr (.inr fs))))), (vw, .inl (κ 5, 3, .inr (.inr (.inr (.inr fv)))))]) hD [0, 1, 2, 3] (by decide) rfl
          replace hp_65 : Sb im im2__63 ∧ ((r__62 = none) ∨ (∃ (q : Nat), ∃ (co : Nat), ∃ (ra : Nat), ∃ (mq : Nat), ∃ (ty : Nat), r__62 = some q ∧ Sp κ im2__63 q a_3 R_4 w_5 co ra mq ty)) := hp_65
          obtain ⟨h_66, ha_67⟩ := hp_65
          replace htb := htb.up h_66
          replace h_8 := h_8.up h_66
          replace h_9 := h_9.up h_66
          replace h_45 := h_45.up h_66
          replace h_46 := h_46.up h_66
          rcases ha_67 with rfl | ⟨q__68, co__69, ra__70, mq__71, ty__72, rfl, a_73⟩
          · refine W.eq (g2 := F0 m 9 ls [.null]) rfl ?_
            refine lv_astoreN (lv' := [(5, .null), (0, .ref xx), (1, .int (nI t)), (2, .int zb), (3, .int (nI t2)), (4, .int zd)]) hx hb dX11_matches_9 hl (by decide) rfl (fun ls hl => ?_)
            refine lv_aload_n hx hb dX11_matches_11 rfl (lv_at hl 1 rfl) ?_
            refine va_get (D := D) (ci := 11) (v := .ref st) (C := RX11) (T := TX11) (N := 7) hx hb hts inlX11 hown hK hP 0 rfl rfl 0 (by decide) (hts _ mw_15) (fun _ h9 => h9) rfl dX11_matches_12 ?_
            refine lv_iload_n hx hb dX11_matches_15 rfl (lv_at hl 4 rfl) ?_
            refine lv_iload hx hb dX11_matches_16 (lv_at hl 5 rfl) ?_
            refine et_VT (CR := [(xx, .inr (11, [.ref st, .ref tp, .ref ft, .ref rd, .ref wr, .ref st2, .int zi]))]) (As := [.int (nI t2), .int zd]) (rest := []) hFX hKK hE hP hD hS hA (c_X6_stripOf_s l D κ κq im2__63 st d sh vw ta sa n fs fv t2 a_40 R_41 w_42 v_44 d_43 zd (by omega) e_38 e_39 h_45 h_46) 2 gV_X11_189 hdV_X6_stripOf ⟨Nat.le_of_ble_eq_true rfl, Nat.le_of_ble_eq_true rfl⟩ rfl rfl (Nat.le_of_ble_eq_true rfl) dX11_matches_18 ⟨Nat.le_of_ble_eq_true rfl, Nat.le_of_ble_eq_true rfl⟩ hl.1 [1, 2, 3] [0] rfl rfl (by decide) (by decide) (by decide) hP 1 6 rfl rfl rfl (fun u_76 H locs hp_77 hP hD hS => ?_)
            refine W.widen (k := 2) (n := 8) (Nat.le_refl _) (Nat.le_refl _) ?_
            obtain ⟨r__74, im2__75⟩ := u_76
            replace hP : va_P D vwCl ([(xx, .inr (11, [.ref st, .ref tp, .ref ft, .ref rd, .ref wr, .ref st2, .int zi])), (st, .inr (6, [.ref d, .ref sh, .ref vw, .ref ta, .ref sa, .int (nI n)])), (sh, .inl (κ 4, 3, .inr (.inr (.inr (.inr fs))))), (vw, .inl (κ 5, 3, .inr (.inr (.inr (.inr fv)))))] ++ im2__75) H := subP (C := [(xx, .inr (11, [.ref st, .ref tp, .ref ft, .ref rd, .ref wr, .ref st2, .int zi])), (st, .inr (6, [.ref d, .ref sh, .ref vw, .ref ta, .ref sa, .int (nI n)])), (sh, .inl (κ 4, 3, .inr (.inr (.inr (.inr fs))))), (vw, .inl (κ 5, 3, .inr (.inr (.inr (.inr fv)))))]) hP [0, 1, 2, 3] rfl
            replace hD : va_D A ([(xx, .inr (11, [.ref st, .ref tp, .ref ft, .ref rd, .ref wr, .ref st2, .int zi])), (st, .inr (6, [.ref d, .ref sh, .ref vw, .ref ta, .ref sa, .int (nI n)])), (sh, .inl (κ 4, 3, .inr (.inr (.inr (.inr fs))))), (vw, .inl (κ 5, 3, .inr (.inr (.inr (.inr fv)))))] ++ im2__75) := subD (C := [(xx, .inr (11, [.ref st, .ref tp, .ref ft, .ref rd, .ref wr, .ref st2, .int zi])), (st, .inr (6, [.ref d, .ref sh, .ref vw, .ref ta, .ref sa, .int (nI n)])), (sh, .inl (κ 4, 3, .inr (.inr (.inr (.inr fs))))), (vw, .inl (κ 5, 3, .inr (.inr (.inr (.inr fv)))))]) hD [0, 1, 2, 3] (by decide) rfl
            replace hp_77 : Sb im2__63 im2__75 ∧ ((r__74 = none) ∨ (∃ (q : Nat), ∃ (co : Nat), ∃ (ra : Nat), ∃ (mq : Nat), ∃ (ty : Nat), r__74 = some q ∧ Sp κ im2__75 q a_40 R_41 w_42 co ra mq ty)) := hp_77
            obtain ⟨h_78, ha_79⟩ := hp_77
            replace htb := htb.up h_78
            replace h_8 := h_8.up h_78
            replace h_9 := h_9.up h_78
            replace h_45 := h_45.up h_78
            replace h_46 := h_46.up h_78
            rcases ha_79 with rfl | ⟨q__80, co__81, ra__82, mq__83, ty__84, rfl, a_85⟩
            · refine W.eq (g2 := F0 m 21 ls [.null]) rfl ?_
              refine lv_astoreN (lv' := [(6, .null), (5, .null), (0, .ref xx), (1, .int (nI t)), (2, .int zb), (3, .int (nI t2)), (4, .int zd)]) hx hb dX11_matches_21 hl (by decide) rfl (fun ls hl => ?_)
              refine lv_aloadN hx hb dX11_matches_23 (lv_at hl 1 rfl) ?_
              refine lv_ifnullN (tgt := 33) hx hb dX11_matches_25 (by decide) ?_
              refine lv_iconst (v := (-1)) hx hb dX11_matches_33 (by decide) ?_
              exact et_iret hx hb hr hlk rfl hS ((-1), im2__75) rfl (show Sb im im2__75 from (Sb.tr h_66 h_78)) (subP hP [0, 1, 2, 3] rfl) (subD hD [0, 1, 2, 3] (by decide) rfl) (Nat.le_of_ble_eq_true rfl) (Nat.le_of_ble_eq_true rfl) dX11_matches_34
            · refine W.eq (g2 := F0 m 21 ls [.ref q__80]) rfl ?_
              refine lv_astore (lv' := [(6, .ref q__80), (5, .null), (0, .ref xx), (1, .int (nI t)), (2, .int zb), (3, .int (nI t2)), (4, .int zd)]) hx hb dX11_matches_21 hl (by decide) rfl (fun ls hl => ?_)
              refine lv_aloadN hx hb dX11_matches_23 (lv_at hl 1 rfl) ?_
              refine lv_ifnullN (tgt := 33) hx hb dX11_matches_25 (by decide) ?_
              refine lv_iconst (v := (-1)) hx hb dX11_matches_33 (by decide) ?_
              exact et_iret hx hb hr hlk rfl hS ((-1), im2__75) rfl (show Sb im im2__75 from (Sb.tr h_66 h_78)) (subP hP [0, 1, 2, 3] rfl) (subD hD [0, 1, 2, 3] (by decide) rfl) (Nat.le_of_ble_eq_true rfl) (Nat.le_of_ble_eq_true rfl) dX11_matches_34
          · refine W.eq (g2 := F0 m 9 ls [.ref q__68]) rfl ?_
            refine lv_astore (lv' := [(5, .ref q__68), (0, .ref xx), (1, .int (nI t)), (2, .int zb), (3, .int (nI t2)), (4, .int zd)]) hx hb dX11_matches_9 hl (by decide) rfl (fun ls hl => ?_)
            refine lv_aload_n hx hb dX11_matches_11 rfl (lv_at hl 1 rfl) ?_
            refine va_get (D := D) (ci := 11) (v := .ref st) (C := RX11) (T := TX11) (N := 7) hx hb hts inlX11 hown hK hP 0 rfl rfl 0 (by decide) (hts _ mw_15) (fun _ h9 => h9) rfl dX11_matches_12 ?_
            refine lv_iload_n hx hb dX11_matches_15 rfl (lv_at hl 4 rfl) ?_
            refine lv_iload hx hb dX11_matches_16 (lv_at hl 5 rfl) ?_
            refine et_VT (CR := [(xx, .inr (11, [.ref st, .ref tp, .ref ft, .ref rd, .ref wr, .ref st2, .int zi]))]) (As := [.int (nI t2), .int zd]) (rest := []) hFX hKK hE hP hD hS hA (c_X6_stripOf_s l D κ κq im2__63 st d sh vw ta sa n fs fv t2 a_40 R_41 w_42 v_44 d_43 zd (by omega) e_38 e_39 h_45 h_46) 2 gV_X11_189 hdV_X6_stripOf ⟨Nat.le_of_ble_eq_true rfl, Nat.le_of_ble_eq_true rfl⟩ rfl rfl (Nat.le_of_ble_eq_true rfl) dX11_matches_18 ⟨Nat.le_of_ble_eq_true rfl, Nat.le_of_ble_eq_true rfl⟩ hl.1 [1, 2, 3] [0] rfl rfl (by decide) (by decide) (by decide) hP 1 6 rfl rfl rfl (fun u_88 H locs hp_89 hP hD hS => ?_)
            refine W.widen (k := 2) (n := 8) (Nat.le_refl _) (Nat.le_refl _) ?_
            obtain ⟨r__86, im2__87⟩ := u_88
            replace hP : va_P D vwCl ([(xx, .inr (11, [.ref st, .ref tp, .ref ft, .ref rd, .ref wr, .ref st2, .int zi])), (st, .inr (6, [.ref d, .ref sh, .ref vw, .ref ta, .ref sa, .int (nI n)])), (sh, .inl (κ 4, 3, .inr (.inr (.inr (.inr fs))))), (vw, .inl (κ 5, 3, .inr (.inr (.inr (.inr fv)))))] ++ im2__87) H := subP (C := [(xx, .inr (11, [.ref st, .ref tp, .ref ft, .ref rd, .ref wr, .ref st2, .int zi])), (st, .inr (6, [.ref d, .ref sh, .ref vw, .ref ta, .ref sa, .int (nI n)])), (sh, .inl (κ 4, 3, .inr (.inr (.inr (.inr fs))))), (vw, .inl (κ 5, 3, .inr (.inr (.inr (.inr fv)))))]) hP [0, 1, 2, 3] rfl
            replace hD : va_D A ([(xx, .inr (11, [.ref st, .ref tp, .ref ft, .ref rd, .ref wr, .ref st2, .int zi])), (st, .inr (6, [.ref d, .ref sh, .ref vw, .ref ta, .ref sa, .int (nI n)])), (sh, .inl (κ 4, 3, .inr (.inr (.inr (.inr fs))))), (vw, .inl (κ 5, 3, .inr (.inr (.inr (.inr fv)))))] ++ im2__87) := subD (C := [(xx, .inr (11, [.ref st, .ref tp, .ref ft, .ref rd, .ref wr, .ref st2, .int zi])), (st, .inr (6, [.ref d, .ref sh, .ref vw, .ref ta, .ref sa, .int (nI n)])), (sh, .inl (κ 4, 3, .inr (.inr (.inr (.inr fs))))), (vw, .inl (κ 5, 3, .inr (.inr (.inr (.inr fv)))))]) hD [0, 1, 2, 3] (by decide) rfl
            replace hp_89 : Sb im2__63 im2__87 ∧ ((r__86 = none) ∨ (∃ (q : Nat), ∃ (co : Nat), ∃ (ra : Nat), ∃ (mq : Nat), ∃ (ty : Nat), r__86 = some q ∧ Sp κ im2__87 q a_40 R_41 w_42 co ra mq ty)) := hp_89
            obtain ⟨h_90, ha_91⟩ := hp_89
            replace htb := htb.up h_90
            replace h_8 := h_8.up h_90
            replace h_9 := h_9.up h_90
            replace h_45 := h_45.up h_90
            replace h_46 := h_46.up h_90
            replace a_73 := a_73.up h_90
            rcases ha_91 with rfl | ⟨q__92, co__93, ra__94, mq__95, ty__96, rfl, a_97⟩
            · refine W.eq (g2 := F0 m 21 ls [.null]) rfl ?_
              refine lv_astoreN (lv' := [(6, .null), (5, .ref q__68), (0, .ref xx), (1, .int (nI t)), (2, .int zb), (3, .int (nI t2)), (4, .int zd)]) hx hb dX11_matches_21 hl (by decide) rfl (fun ls hl => ?_)
              refine lv_aload hx hb dX11_matches_23 (lv_at hl 1 rfl) ?_
              refine lv_ifnull hx hb dX11_matches_25 ?_
              refine lv_aloadN hx hb dX11_matches_28 (lv_at hl 0 rfl) ?_
              refine lv_ifnonnullN hx hb dX11_matches_30 ?_
              refine lv_iconst (v := (-1)) hx hb dX11_matches_33 (by decide) ?_
              exact et_iret hx hb hr hlk rfl hS ((-1), im2__87) rfl (show Sb im im2__87 from (Sb.tr h_66 h_90)) (subP hP [0, 1, 2, 3] rfl) (subD hD [0, 1, 2, 3] (by decide) rfl) (Nat.le_of_ble_eq_true rfl) (Nat.le_of_ble_eq_true rfl) dX11_matches_34
            · refine W.eq (g2 := F0 m 21 ls [.ref q__92]) rfl ?_
              refine lv_astore (lv' := [(6, .ref q__92), (5, .ref q__68), (0, .ref xx), (1, .int (nI t)), (2, .int zb), (3, .int (nI t2)), (4, .int zd)]) hx hb dX11_matches_21 hl (by decide) rfl (fun ls hl => ?_)
              refine lv_aload hx hb dX11_matches_23 (lv_at hl 1 rfl) ?_
              refine lv_ifnull hx hb dX11_matches_25 ?_
              refine lv_aload hx hb dX11_matches_28 (lv_at hl 0 rfl) ?_
              refine lv_ifnonnull (tgt := 35) hx hb dX11_matches_30 (by decide) ?_
              refine va_new (ci := 3) (fs := [.null, .null, .int 0]) (C := RX3) (T := TX3) (N := 3) hx hb hts inlX3 tyX3 tyX3_ok hown (hts _ mw_785) (hts _ mw_786) (hts _ mw_787) hK hP hD hS hA rfl (fun j hj => by rcases (show j = 0 ∨ j = 1 ∨ j = 2 by omega) with rfl | rfl | rfl <;> rfl) (Nat.le_of_ble_eq_true rfl) (Nat.le_of_ble_eq_true rfl) dX11_matches_35 (fun q_98 H hP hD hS => ?_)
              replace hP : va_P D vwCl ([(xx, .inr (11, [.ref st, .ref tp, .ref ft, .ref rd, .ref wr, .ref st2, .int zi])), (st, .inr (6, [.ref d, .ref sh, .ref vw, .ref ta, .ref sa, .int (nI n)])), (sh, .inl (κ 4, 3, .inr (.inr (.inr (.inr fs))))), (vw, .inl (κ 5, 3, .inr (.inr (.inr (.inr fv))))), (q_98, .inr (3, [.null, .null, .int 0]))] ++ im2__87) H := mvP hP
              replace hD : va_D A ([(xx, .inr (11, [.ref st, .ref tp, .ref ft, .ref rd, .ref wr, .ref st2, .int zi])), (st, .inr (6, [.ref d, .ref sh, .ref vw, .ref ta, .ref sa, .int (nI n)])), (sh, .inl (κ 4, 3, .inr (.inr (.inr (.inr fs))))), (vw, .inl (κ 5, 3, .inr (.inr (.inr (.inr fv))))), (q_98, .inr (3, [.null, .null, .int 0]))] ++ im2__87) := mvD hD
              refine lv_dup hx hb dX11_matches_38 rfl ?_
              refine lv_aload hx hb dX11_matches_39 (lv_at hl 1 rfl) ?_
              refine lv_aload hx hb dX11_matches_41 (lv_at hl 0 rfl) ?_
              refine et_IT (CR := [(xx, .inr (11, [.ref st, .ref tp, .ref ft, .ref rd, .ref wr, .ref st2, .int zi])), (st, .inr (6, [.ref d, .ref sh, .ref vw, .ref ta, .ref sa, .int (nI n)])), (sh, .inl (κ 4, 3, .inr (.inr (.inr (.inr fs))))), (vw, .inl (κ 5, 3, .inr (.inr (.inr (.inr fv)))))]) (As := [.ref q__68, .ref q__92]) (rest := [.ref q_98]) hFX hKK hE hP hD hS hA (c_X3_init l D κ κq im2__87 q_98 q__68 a_3 R_4 w_5 co__69 ra__70 mq__71 ty__72 q__92 a_40 R_41 w_42 co__93 ra__94 mq__95 ty__96 a_73 a_97) 2 mw_819 mw_820 mw_787 mw_821 hdI_X3_init ⟨Nat.le_of_ble_eq_true rfl, Nat.le_of_ble_eq_true rfl⟩ rfl rfl (Nat.le_of_ble_eq_true rfl) dX11_matches_43 ⟨Nat.le_of_ble_eq_true rfl, Nat.le_of_ble_eq_true rfl⟩ hl.1 [4] [0, 1, 2, 3] rfl rfl (by decide) (by decide) (by decide) (fun zt__99 H locs hp_100 hP hD hS => ?_)
              refine W.widen (k := 3) (n := 11) (Nat.le_refl _) (Nat.le_refl _) ?_
              replace hP : va_P D vwCl ([(xx, .inr (11, [.ref st, .ref tp, .ref ft, .ref rd, .ref wr, .ref st2, .int zi])), (st, .inr (6, [.ref d, .ref sh, .ref vw, .ref ta, .ref sa, .int (nI n)])), (sh, .inl (κ 4, 3, .inr (.inr (.inr (.inr fs))))), (vw, .inl (κ 5, 3, .inr (.inr (.inr (.inr fv))))), (q_98, .inr (3, [.ref q__68, .ref q__92, .int zt__99]))] ++ im2__87) H := subP (C := [(xx, .inr (11, [.ref st, .ref tp, .ref ft, .ref rd, .ref wr, .ref st2, .int zi])), (st, .inr (6, [.ref d, .ref sh, .ref vw, .ref ta, .ref sa, .int (nI n)])), (sh, .inl (κ 4, 3, .inr (.inr (.inr (.inr fs))))), (vw, .inl (κ 5, 3, .inr (.inr (.inr (.inr fv))))), (q_98, .inr (3, [.ref q__68, .ref q__92, .int zt__99]))]) hP [0, 1, 2, 3, 4] rfl
              replace hD : va_D A ([(xx, .inr (11, [.ref st, .ref tp, .ref ft, .ref rd, .ref wr, .ref st2, .int zi])), (st, .inr (6, [.ref d, .ref sh, .ref vw, .ref ta, .ref sa, .int (nI n)])), (sh, .inl (κ 4, 3, .inr (.inr (.inr (.inr fs))))), (vw, .inl (κ 5, 3, .inr (.inr (.inr (.inr fv))))), (q_98, .inr (3, [.ref q__68, .ref q__92, .int zt__99]))] ++ im2__87) := subD (C := [(xx, .inr (11, [.ref st, .ref tp, .ref ft, .ref rd, .ref wr, .ref st2, .int zi])), (st, .inr (6, [.ref d, .ref sh, .ref vw, .ref ta, .ref sa, .int (nI n)])), (sh, .inl (κ 4, 3, .inr (.inr (.inr (.inr fs))))), (vw, .inl (κ 5, 3, .inr (.inr (.inr (.inr fv))))), (q_98, .inr (3, [.ref q__68, .ref q__92, .int zt__99]))]) hD [0, 1, 2, 3, 4] (by decide) rfl
              replace hp_100 : To zt__99 := hp_100
              have h_101 := hp_100
              clear hp_100
              refine W.eq (g2 := F0 m 46 ls [.ref q_98]) rfl ?_
              refine lv_astore (lv' := [(7, .ref q_98), (6, .ref q__92), (5, .ref q__68), (0, .ref xx), (1, .int (nI t)), (2, .int zb), (3, .int (nI t2)), (4, .int zd)]) hx hb dX11_matches_46 hl (by decide) rfl (fun ls hl => ?_)
              refine lv_aload hx hb dX11_matches_48 (lv_at hl 0 rfl) ?_
              refine va_get (D := D) (ci := 3) (v := .int zt__99) (C := RX3) (T := TX3) (N := 3) hx hb hts inlX3 hown hK hP 4 rfl rfl 2 (by decide) (hts _ mw_1371) (fun _ h9 => h9) rfl dX11_matches_50 ?_
              refine lv_iconst (v := (-1)) hx hb dX11_matches_53 (by decide) ?_
              refine lv_icmp_ne (tgt := 61) hx hb dX11_matches_54 (by decide) (fun c_102 => ?_) (fun c_102 => ?_)
              · refine lv_aload hx hb dX11_matches_61 (lv_at hl 0 rfl) ?_
                obtain ⟨h_103, h_104, hm_105, h_106, h_107⟩ := id a_73
                obtain ⟨hb_108, c_109, x_110, v_111, g_112, h_113, hm_114, hm_115, hm_116, lo_117, lc_118, vw_119⟩ := id h_106
                obtain ⟨hb_108_1, hb_108_2, hb_108_3⟩ := hb_108
                have hrw_hb_108 := rw_le hb_108_1 hb_108_3
                obtain ⟨hn_120, f_121, hm_122, hf_123⟩ := id h_107
                obtain ⟨cf1_124, hcf1_124⟩ := LcF_of lc_118
                obtain ⟨h_125, h_126, hm_127, h_128, h_129⟩ := id a_97
                obtain ⟨hb_130, c_131, x_132, v_133, g_134, h_135, hm_136, hm_137, hm_138, lo_139, lc_140, vw_141⟩ := id h_128
                obtain ⟨hb_130_1, hb_130_2, hb_130_3⟩ := hb_130
                have hrw_hb_130 := rw_le hb_130_1 hb_130_3
                obtain ⟨hn_142, f_143, hm_144, hf_145⟩ := id h_129
                obtain ⟨cf2_146, hcf2_146⟩ := LcF_of lc_140
                obtain ⟨mb_147, hmb_147⟩ := Mb_of f_121 f_143 mq__71 mq__95 cf1_124 cf2_146 w_5 co__69 w_42 co__93 zt__99
                refine er_V (As := []) (rest := []) hFX hKK hE hS (c_X3_countPairs l D κ κq im2__87 q_98 zt__99 q__68 a_3 co__69 ra__70 ty__72 c_109 x_110 R_4 v_111 w_5 g_112 h_113 cf1_124 q__92 a_40 co__93 ra__94 ty__96 c_131 x_132 R_41 v_133 w_42 g_134 h_135 cf2_146 mq__71 mq__95 f_121 f_143 mb_147 hcf1_124 hcf2_146 (by omega) (by omega) (by omega) (by omega) (by omega) (by omega) (by omega) (by omega) hf_123 hf_145 (by assumption)) 0 gV_X11_343 hdV_X3_countPairs rfl rfl ⟨Nat.le_of_ble_eq_true rfl, Nat.le_of_ble_eq_true rfl⟩ rfl rfl (Nat.le_of_ble_eq_true rfl) dX11_matches_63 ⟨Nat.le_of_ble_eq_true rfl, Nat.le_of_ble_eq_true rfl⟩ hl.1 hP 4 3 rfl rfl rfl (va_P.app (w1 := [(q_98, .inr (3, [.ref q__68, .ref q__92, .int zt__99]))]) (subP0 (C := [(xx, .inr (11, [.ref st, .ref tp, .ref ft, .ref rd, .ref wr, .ref st2, .int zi])), (st, .inr (6, [.ref d, .ref sh, .ref vw, .ref ta, .ref sa, .int (nI n)])), (sh, .inl (κ 4, 3, .inr (.inr (.inr (.inr fs))))), (vw, .inl (κ 5, 3, .inr (.inr (.inr (.inr fv))))), (q_98, .inr (3, [.ref q__68, .ref q__92, .int zt__99]))]) hP [4] rfl) (va_P.app (w1 := [(q__68, .inr (7, [.ref a_3, .int (nI co__69), .ref ra__70, .int (nI ty__72)]))]) (oneP (C := [(xx, .inr (11, [.ref st, .ref tp, .ref ft, .ref rd, .ref wr, .ref st2, .int zi])), (st, .inr (6, [.ref d, .ref sh, .ref vw, .ref ta, .ref sa, .int (nI n)])), (sh, .inl (κ 4, 3, .inr (.inr (.inr (.inr fs))))), (vw, .inl (κ 5, 3, .inr (.inr (.inr (.inr fv))))), (q_98, .inr (3, [.ref q__68, .ref q__92, .int zt__99]))]) hP hm_105) (va_P.app (w1 := [(a_3, .inr (5, [.ref c_109, .ref x_110, .int (nI R_4), .ref v_111]))]) (oneP (C := [(xx, .inr (11, [.ref st, .ref tp, .ref ft, .ref rd, .ref wr, .ref st2, .int zi])), (st, .inr (6, [.ref d, .ref sh, .ref vw, .ref ta, .ref sa, .int (nI n)])), (sh, .inl (κ 4, 3, .inr (.inr (.inr (.inr fs))))), (vw, .inl (κ 5, 3, .inr (.inr (.inr (.inr fv))))), (q_98, .inr (3, [.ref q__68, .ref q__92, .int zt__99]))]) hP hm_114) (va_P.app (w1 := [(c_109, .inl (κ 3, w_5, .inr (.inr (.inr (.inr g_112)))))]) (oneP (C := [(xx, .inr (11, [.ref st, .ref tp, .ref ft, .ref rd, .ref wr, .ref st2, .int zi])), (st, .inr (6, [.ref d, .ref sh, .ref vw, .ref ta, .ref sa, .int (nI n)])), (sh, .inl (κ 4, 3, .inr (.inr (.inr (.inr fs))))), (vw, .inl (κ 5, 3, .inr (.inr (.inr (.inr fv))))), (q_98, .inr (3, [.ref q__68, .ref q__92, .int zt__99]))]) hP hm_115) (va_P.app (w1 := [(x_110, .inl (κ 2, R_4 * w_5, .inr (.inr (.inr (.inr h_113)))))]) (oneP (C := [(xx, .inr (11, [.ref st, .ref tp, .ref ft, .ref rd, .ref wr, .ref st2, .int zi])), (st, .inr (6, [.ref d, .ref sh, .ref vw, .ref ta, .ref sa, .int (nI n)])), (sh, .inl (κ 4, 3, .inr (.inr (.inr (.inr fs))))), (vw, .inl (κ 5, 3, .inr (.inr (.inr (.inr fv))))), (q_98, .inr (3, [.ref q__68, .ref q__92, .int zt__99]))]) hP hm_116) (va_P.app (w1 := [(q__92, .inr (7, [.ref a_40, .int (nI co__93), .ref ra__94, .int (nI ty__96)]))]) (oneP (C := [(xx, .inr (11, [.ref st, .ref tp, .ref ft, .ref rd, .ref wr, .ref st2, .int zi])), (st, .inr (6, [.ref d, .ref sh, .ref vw, .ref ta, .ref sa, .int (nI n)])), (sh, .inl (κ 4, 3, .inr (.inr (.inr (.inr fs))))), (vw, .inl (κ 5, 3, .inr (.inr (.inr (.inr fv))))), (q_98, .inr (3, [.ref q__68, .ref q__92, .int zt__99]))]) hP hm_127) (va_P.app (w1 := [(a_40, .inr (5, [.ref c_131, .ref x_132, .int (nI R_41), .ref v_133]))]) (oneP (C := [(xx, .inr (11, [.ref st, .ref tp, .ref ft, .ref rd, .ref wr, .ref st2, .int zi])), (st, .inr (6, [.ref d, .ref sh, .ref vw, .ref ta, .ref sa, .int (nI n)])), (sh, .inl (κ 4, 3, .inr (.inr (.inr (.inr fs))))), (vw, .inl (κ 5, 3, .inr (.inr (.inr (.inr fv))))), (q_98, .inr (3, [.ref q__68, .ref q__92, .int zt__99]))]) hP hm_136) (va_P.app (w1 := [(c_131, .inl (κ 3, w_42, .inr (.inr (.inr (.inr g_134)))))]) (oneP (C := [(xx, .inr (11, [.ref st, .ref tp, .ref ft, .ref rd, .ref wr, .ref st2, .int zi])), (st, .inr (6, [.ref d, .ref sh, .ref vw, .ref ta, .ref sa, .int (nI n)])), (sh, .inl (κ 4, 3, .inr (.inr (.inr (.inr fs))))), (vw, .inl (κ 5, 3, .inr (.inr (.inr (.inr fv))))), (q_98, .inr (3, [.ref q__68, .ref q__92, .int zt__99]))]) hP hm_137) (va_P.app (w1 := [(x_132, .inl (κ 2, R_41 * w_42, .inr (.inr (.inr (.inr h_135)))))]) (oneP (C := [(xx, .inr (11, [.ref st, .ref tp, .ref ft, .ref rd, .ref wr, .ref st2, .int zi])), (st, .inr (6, [.ref d, .ref sh, .ref vw, .ref ta, .ref sa, .int (nI n)])), (sh, .inl (κ 4, 3, .inr (.inr (.inr (.inr fs))))), (vw, .inl (κ 5, 3, .inr (.inr (.inr (.inr fv))))), (q_98, .inr (3, [.ref q__68, .ref q__92, .int zt__99]))]) hP hm_138) (va_P.app (w1 := [(ra__70, .inl (κ 0, mq__71, .inl f_121))]) (oneP (C := [(xx, .inr (11, [.ref st, .ref tp, .ref ft, .ref rd, .ref wr, .ref st2, .int zi])), (st, .inr (6, [.ref d, .ref sh, .ref vw, .ref ta, .ref sa, .int (nI n)])), (sh, .inl (κ 4, 3, .inr (.inr (.inr (.inr fs))))), (vw, .inl (κ 5, 3, .inr (.inr (.inr (.inr fv))))), (q_98, .inr (3, [.ref q__68, .ref q__92, .int zt__99]))]) hP hm_122) (va_P.app (w1 := [(ra__94, .inl (κ 0, mq__95, .inl f_143))]) (oneP (C := [(xx, .inr (11, [.ref st, .ref tp, .ref ft, .ref rd, .ref wr, .ref st2, .int zi])), (st, .inr (6, [.ref d, .ref sh, .ref vw, .ref ta, .ref sa, .int (nI n)])), (sh, .inl (κ 4, 3, .inr (.inr (.inr (.inr fs))))), (vw, .inl (κ 5, 3, .inr (.inr (.inr (.inr fv))))), (q_98, .inr (3, [.ref q__68, .ref q__92, .int zt__99]))]) hP hm_144) (subP (C := [(xx, .inr (11, [.ref st, .ref tp, .ref ft, .ref rd, .ref wr, .ref st2, .int zi])), (st, .inr (6, [.ref d, .ref sh, .ref vw, .ref ta, .ref sa, .int (nI n)])), (sh, .inl (κ 4, 3, .inr (.inr (.inr (.inr fs))))), (vw, .inl (κ 5, 3, .inr (.inr (.inr (.inr fv))))), (q_98, .inr (3, [.ref q__68, .ref q__92, .int zt__99]))]) (C' := []) hP [] rfl)))))))))))) (fun r__148 hp_149 => ?_)
                replace hp_149 : r__148 = ctA mb_147 mq__95 mq__71 ∧ r__148 ≤ 1600 := hp_149
                obtain ⟨h_150, h_151⟩ := hp_149
                refine W.eq (g2 := F0 m 66 ls [.int (nI r__148)]) rfl ?_
                replace hP : va_P D vwCl ([(xx, .inr (11, [.ref st, .ref tp, .ref ft, .ref rd, .ref wr, .ref st2, .int zi])), (st, .inr (6, [.ref d, .ref sh, .ref vw, .ref ta, .ref sa, .int (nI n)])), (sh, .inl (κ 4, 3, .inr (.inr (.inr (.inr fs))))), (vw, .inl (κ 5, 3, .inr (.inr (.inr (.inr fv))))), (q_98, .inr (3, [.ref q__68, .ref q__92, .int zt__99]))] ++ im2__87) _ := subP hP [0, 1, 2, 3, 4] rfl
                replace hD : va_D A ([(xx, .inr (11, [.ref st, .ref tp, .ref ft, .ref rd, .ref wr, .ref st2, .int zi])), (st, .inr (6, [.ref d, .ref sh, .ref vw, .ref ta, .ref sa, .int (nI n)])), (sh, .inl (κ 4, 3, .inr (.inr (.inr (.inr fs))))), (vw, .inl (κ 5, 3, .inr (.inr (.inr (.inr fv))))), (q_98, .inr (3, [.ref q__68, .ref q__92, .int zt__99]))] ++ im2__87) := subD hD [0, 1, 2, 3, 4] (by decide) rfl
                obtain ⟨im_152, he_153⟩ : ∃ x9 : va_W, x9 = ([(q_98, .inr (3, [.ref q__68, .ref q__92, .int zt__99]))] ++ im2__87) := ⟨_, rfl⟩
                have hs_154 : Sb im2__87 im_152 := by rw [he_153]; exact Sb.app
                have hm_q_98 : (q_98, .inr (3, [.ref q__68, .ref q__92, .int zt__99])) ∈ im_152 := by rw [he_153]; exact List.mem_of_getElem? (i := 0) rfl
                replace hP : va_P D vwCl ([(xx, .inr (11, [.ref st, .ref tp, .ref ft, .ref rd, .ref wr, .ref st2, .int zi])), (st, .inr (6, [.ref d, .ref sh, .ref vw, .ref ta, .ref sa, .int (nI n)])), (sh, .inl (κ 4, 3, .inr (.inr (.inr (.inr fs))))), (vw, .inl (κ 5, 3, .inr (.inr (.inr (.inr fv)))))] ++ ([(q_98, .inr (3, [.ref q__68, .ref q__92, .int zt__99]))] ++ im2__87)) _ := hP
                replace hD : va_D A ([(xx, .inr (11, [.ref st, .ref tp, .ref ft, .ref rd, .ref wr, .ref st2, .int zi])), (st, .inr (6, [.ref d, .ref sh, .ref vw, .ref ta, .ref sa, .int (nI n)])), (sh, .inl (κ 4, 3, .inr (.inr (.inr (.inr fs))))), (vw, .inl (κ 5, 3, .inr (.inr (.inr (.inr fv)))))] ++ ([(q_98, .inr (3, [.ref q__68, .ref q__92, .int zt__99]))] ++ im2__87)) := hD
                rw [← he_153] at hP hD
                clear he_153
                replace htb := htb.up hs_154
                replace h_8 := h_8.up hs_154
                replace h_9 := h_9.up hs_154
                replace h_45 := h_45.up hs_154
                replace h_46 := h_46.up hs_154
                replace a_73 := a_73.up hs_154
                replace a_97 := a_97.up hs_154
                replace h_106 := h_106.up hs_154
                replace h_107 := h_107.up hs_154
                replace lo_117 := lo_117.up hs_154
                replace lc_118 := lc_118.up hs_154
                replace vw_119 := vw_119.up hs_154
                replace hcf1_124 := hcf1_124.up hs_154
                replace h_128 := h_128.up hs_154
                replace h_129 := h_129.up hs_154
                replace lo_139 := lo_139.up hs_154
                replace lc_140 := lc_140.up hs_154
                replace vw_141 := vw_141.up hs_154
                replace hcf2_146 := hcf2_146.up hs_154
                replace hm_105 := hs_154 _ hm_105
                replace hm_114 := hs_154 _ hm_114
                replace hm_115 := hs_154 _ hm_115
                replace hm_116 := hs_154 _ hm_116
                replace hm_122 := hs_154 _ hm_122
                replace hm_127 := hs_154 _ hm_127
                replace hm_136 := hs_154 _ hm_136
                replace hm_137 := hs_154 _ hm_137
                replace hm_138 := hs_154 _ hm_138
                replace hm_144 := hs_154 _ hm_144
                exact et_iret hx hb hr hlk rfl hS (nI r__148, im_152) rfl (show Sb im im_152 from (Sb.tr (Sb.tr h_66 h_90) hs_154)) (subP hP [0, 1, 2, 3] rfl) (subD hD [0, 1, 2, 3] (by decide) rfl) (Nat.le_of_ble_eq_true rfl) (Nat.le_of_ble_eq_true rfl) dX11_matches_66
              · refine lv_iconst (v := (-1)) hx hb dX11_matches_57 (by decide) ?_
                refine lv_goto (tgt := 66) hx hb dX11_matches_58 (by decide) ?_
                replace hP : va_P D vwCl ([(xx, .inr (11, [.ref st, .ref tp, .ref ft, .ref rd, .ref wr, .ref st2, .int zi])), (st, .inr (6, [.ref d, .ref sh, .ref vw, .ref ta, .ref sa, .int (nI n)])), (sh, .inl (κ 4, 3, .inr (.inr (.inr (.inr fs))))), (vw, .inl (κ 5, 3, .inr (.inr (.inr (.inr fv))))), (q_98, .inr (3, [.ref q__68, .ref q__92, .int zt__99]))] ++ im2__87) _ := subP hP [0, 1, 2, 3, 4] rfl
                replace hD : va_D A ([(xx, .inr (11, [.ref st, .ref tp, .ref ft, .ref rd, .ref wr, .ref st2, .int zi])), (st, .inr (6, [.ref d, .ref sh, .ref vw, .ref ta, .ref sa, .int (nI n)])), (sh, .inl (κ 4, 3, .inr (.inr (.inr (.inr fs))))), (vw, .inl (κ 5, 3, .inr (.inr (.inr (.inr fv))))), (q_98, .inr (3, [.ref q__68, .ref q__92, .int zt__99]))] ++ im2__87) := subD hD [0, 1, 2, 3, 4] (by decide) rfl
                obtain ⟨im_155, he_156⟩ : ∃ x9 : va_W, x9 = ([(q_98, .inr (3, [.ref q__68, .ref q__92, .int zt__99]))] ++ im2__87) := ⟨_, rfl⟩
                have hs_157 : Sb im2__87 im_155 := by rw [he_156]; exact Sb.app
                have hm_q_98 : (q_98, .inr (3, [.ref q__68, .ref q__92, .int zt__99])) ∈ im_155 := by rw [he_156]; exact List.mem_of_getElem? (i := 0) rfl
                replace hP : va_P D vwCl ([(xx, .inr (11, [.ref st, .ref tp, .ref ft, .ref rd, .ref wr, .ref st2, .int zi])), (st, .inr (6, [.ref d, .ref sh, .ref vw, .ref ta, .ref sa, .int (nI n)])), (sh, .inl (κ 4, 3, .inr (.inr (.inr (.inr fs))))), (vw, .inl (κ 5, 3, .inr (.inr (.inr (.inr fv)))))] ++ ([(q_98, .inr (3, [.ref q__68, .ref q__92, .int zt__99]))] ++ im2__87)) _ := hP
                replace hD : va_D A ([(xx, .inr (11, [.ref st, .ref tp, .ref ft, .ref rd, .ref wr, .ref st2, .int zi])), (st, .inr (6, [.ref d, .ref sh, .ref vw, .ref ta, .ref sa, .int (nI n)])), (sh, .inl (κ 4, 3, .inr (.inr (.inr (.inr fs))))), (vw, .inl (κ 5, 3, .inr (.inr (.inr (.inr fv)))))] ++ ([(q_98, .inr (3, [.ref q__68, .ref q__92, .int zt__99]))] ++ im2__87)) := hD
                rw [← he_156] at hP hD
                clear he_156
                replace htb := htb.up hs_157
                replace h_8 := h_8.up hs_157
                replace h_9 := h_9.up hs_157
                replace h_45 := h_45.up hs_157
                replace h_46 := h_46.up hs_157
                replace a_73 := a_73.up hs_157
                replace a_97 := a_97.up hs_157
                exact et_iret hx hb hr hlk rfl hS ((-1), im_155) rfl (show Sb im im_155 from (Sb.tr (Sb.tr h_66 h_90) hs_157)) (subP hP [0, 1, 2, 3] rfl) (subD hD [0, 1, 2, 3] (by decide) rfl) (Nat.le_of_ble_eq_true rfl) (Nat.le_of_ble_eq_true rfl) dX11_matches_66
      · skip
        refine lv_aload_n hx hb dX11_matches_0 rfl (lv_at hl 0 rfl) ?_
        refine va_get (D := D) (ci := 11) (v := .ref st) (C := RX11) (T := TX11) (N := 7) hx hb hts inlX11 hown hK hP 0 rfl rfl 0 (by decide) (hts _ mw_15) (fun _ h9 => h9) rfl dX11_matches_1 ?_
        refine lv_iload_n hx hb dX11_matches_4 rfl (lv_at hl 1 rfl) ?_
        refine lv_iload_n hx hb dX11_matches_5 rfl (lv_at hl 2 rfl) ?_
        refine et_VT (CR := [(xx, .inr (11, [.ref st, .ref tp, .ref ft, .ref rd, .ref wr, .ref st2, .int zi]))]) (As := [.int (nI t), .int zb]) (rest := []) hFX hKK hE hP hD hS hA (c_X6_stripOf_s l D κ κq im st d sh vw ta sa n fs fv t a_3 R_4 w_5 v_7 d_6 zb (by omega) e_1 e_2 h_8 h_9) 2 gV_X11_189 hdV_X6_stripOf ⟨Nat.le_of_ble_eq_true rfl, Nat.le_of_ble_eq_true rfl⟩ rfl rfl (Nat.le_of_ble_eq_true rfl) dX11_matches_6 ⟨Nat.le_of_ble_eq_true rfl, Nat.le_of_ble_eq_true rfl⟩ hl.1 [1, 2, 3] [0] rfl rfl (by decide) (by decide) (by decide) hP 1 6 rfl rfl rfl (fun u_160 H locs hp_161 hP hD hS => ?_)
        refine W.widen (k := 1) (n := 4) (Nat.le_refl _) (Nat.le_refl _) ?_
        obtain ⟨r__158, im2__159⟩ := u_160
        replace hP : va_P D vwCl ([(xx, .inr (11, [.ref st, .ref tp, .ref ft, .ref rd, .ref wr, .ref st2, .int zi])), (st, .inr (6, [.ref d, .ref sh, .ref vw, .ref ta, .ref sa, .int (nI n)])), (sh, .inl (κ 4, 3, .inr (.inr (.inr (.inr fs))))), (vw, .inl (κ 5, 3, .inr (.inr (.inr (.inr fv)))))] ++ im2__159) H := subP (C := [(xx, .inr (11, [.ref st, .ref tp, .ref ft, .ref rd, .ref wr, .ref st2, .int zi])), (st, .inr (6, [.ref d, .ref sh, .ref vw, .ref ta, .ref sa, .int (nI n)])), (sh, .inl (κ 4, 3, .inr (.inr (.inr (.inr fs))))), (vw, .inl (κ 5, 3, .inr (.inr (.inr (.inr fv)))))]) hP [0, 1, 2, 3] rfl
        replace hD : va_D A ([(xx, .inr (11, [.ref st, .ref tp, .ref ft, .ref rd, .ref wr, .ref st2, .int zi])), (st, .inr (6, [.ref d, .ref sh, .ref vw, .ref ta, .ref sa, .int (nI n)])), (sh, .inl (κ 4, 3, .inr (.inr (.inr (.inr fs))))), (vw, .inl (κ 5, 3, .inr (.inr (.inr (.inr fv)))))] ++ im2__159) := subD (C := [(xx, .inr (11, [.ref st, .ref tp, .ref ft, .ref rd, .ref wr, .ref st2, .int zi])), (st, .inr (6, [.ref d, .ref sh, .ref vw, .ref ta, .ref sa, .int (nI n)])), (sh, .inl (κ 4, 3, .inr (.inr (.inr (.inr fs))))), (vw, .inl (κ 5, 3, .inr (.inr (.inr (.inr fv)))))]) hD [0, 1, 2, 3] (by decide) rfl
        replace hp_161 : Sb im im2__159 ∧ ((r__158 = none) ∨ (∃ (q : Nat), ∃ (co : Nat), ∃ (ra : Nat), ∃ (mq : Nat), ∃ (ty : Nat), r__158 = some q ∧ Sp κ im2__159 q a_3 R_4 w_5 co ra mq ty)) := hp_161
        obtain ⟨h_162, ha_163⟩ := hp_161
        replace htb := htb.up h_162
        replace h_8 := h_8.up h_162
        replace h_9 := h_9.up h_162
        rcases ha_163 with rfl | ⟨q__164, co__165, ra__166, mq__167, ty__168, rfl, a_169⟩
        · refine W.eq (g2 := F0 m 9 ls [.null]) rfl ?_
          refine lv_astoreN (lv' := [(5, .null), (0, .ref xx), (1, .int (nI t)), (2, .int zb), (3, .int zc), (4, .int zd)]) hx hb dX11_matches_9 hl (by decide) rfl (fun ls hl => ?_)
          refine lv_aload_n hx hb dX11_matches_11 rfl (lv_at hl 1 rfl) ?_
          refine va_get (D := D) (ci := 11) (v := .ref st) (C := RX11) (T := TX11) (N := 7) hx hb hts inlX11 hown hK hP 0 rfl rfl 0 (by decide) (hts _ mw_15) (fun _ h9 => h9) rfl dX11_matches_12 ?_
          refine lv_iload_n hx hb dX11_matches_15 rfl (lv_at hl 4 rfl) ?_
          refine lv_iload hx hb dX11_matches_16 (lv_at hl 5 rfl) ?_
          refine er_V (As := [.int zc, .int zd]) (rest := []) hFX hKK hE hS (c_X6_stripOf_x l D κ κq st d sh vw ta sa n zc zd (by assumption)) 2 gV_X11_189 hdV_X6_stripOf rfl rfl ⟨Nat.le_of_ble_eq_true rfl, Nat.le_of_ble_eq_true rfl⟩ rfl rfl (Nat.le_of_ble_eq_true rfl) dX11_matches_18 ⟨Nat.le_of_ble_eq_true rfl, Nat.le_of_ble_eq_true rfl⟩ hl.1 hP 1 6 rfl rfl rfl (subP0 hP [1] rfl) (fun _ hp_170 => ?_)
          refine W.eq (g2 := F0 m 21 ls [.null]) rfl ?_
          refine lv_astoreN (lv' := [(6, .null), (5, .null), (0, .ref xx), (1, .int (nI t)), (2, .int zb), (3, .int zc), (4, .int zd)]) hx hb dX11_matches_21 hl (by decide) rfl (fun ls hl => ?_)
          refine lv_aloadN hx hb dX11_matches_23 (lv_at hl 1 rfl) ?_
          refine lv_ifnullN (tgt := 33) hx hb dX11_matches_25 (by decide) ?_
          refine lv_iconst (v := (-1)) hx hb dX11_matches_33 (by decide) ?_
          exact et_iret hx hb hr hlk rfl hS ((-1), im2__159) rfl (show Sb im im2__159 from h_162) (subP hP [0, 1, 2, 3] rfl) (subD hD [0, 1, 2, 3] (by decide) rfl) (Nat.le_of_ble_eq_true rfl) (Nat.le_of_ble_eq_true rfl) dX11_matches_34
        · refine W.eq (g2 := F0 m 9 ls [.ref q__164]) rfl ?_
          refine lv_astore (lv' := [(5, .ref q__164), (0, .ref xx), (1, .int (nI t)), (2, .int zb), (3, .int zc), (4, .int zd)]) hx hb dX11_matches_9 hl (by decide) rfl (fun ls hl => ?_)
          refine lv_aload_n hx hb dX11_matches_11 rfl (lv_at hl 1 rfl) ?_
          refine va_get (D := D) (ci := 11) (v := .ref st) (C := RX11) (T := TX11) (N := 7) hx hb hts inlX11 hown hK hP 0 rfl rfl 0 (by decide) (hts _ mw_15) (fun _ h9 => h9) rfl dX11_matches_12 ?_
          refine lv_iload_n hx hb dX11_matches_15 rfl (lv_at hl 4 rfl) ?_
          refine lv_iload hx hb dX11_matches_16 (lv_at hl 5 rfl) ?_
          refine er_V (As := [.int zc, .int zd]) (rest := []) hFX hKK hE hS (c_X6_stripOf_x l D κ κq st d sh vw ta sa n zc zd (by assumption)) 2 gV_X11_189 hdV_X6_stripOf rfl rfl ⟨Nat.le_of_ble_eq_true rfl, Nat.le_of_ble_eq_true rfl⟩ rfl rfl (Nat.le_of_ble_eq_true rfl) dX11_matches_18 ⟨Nat.le_of_ble_eq_true rfl, Nat.le_of_ble_eq_true rfl⟩ hl.1 hP 1 6 rfl rfl rfl (subP0 hP [1] rfl) (fun _ hp_171 => ?_)
          refine W.eq (g2 := F0 m 21 ls [.null]) rfl ?_
          refine lv_astoreN (lv' := [(6, .null), (5, .ref q__164), (0, .ref xx), (1, .int (nI t)), (2, .int zb), (3, .int zc), (4, .int zd)]) hx hb dX11_matches_21 hl (by decide) rfl (fun ls hl => ?_)
          refine lv_aload hx hb dX11_matches_23 (lv_at hl 1 rfl) ?_
          refine lv_ifnull hx hb dX11_matches_25 ?_
          refine lv_aloadN hx hb dX11_matches_28 (lv_at hl 0 rfl) ?_
          refine lv_ifnonnullN hx hb dX11_matches_30 ?_
          refine lv_iconst (v := (-1)) hx hb dX11_matches_33 (by decide) ?_
          exact et_iret hx hb hr hlk rfl hS ((-1), im2__159) rfl (show Sb im im2__159 from h_162) (subP hP [0, 1, 2, 3] rfl) (subD hD [0, 1, 2, 3] (by decide) rfl) (Nat.le_of_ble_eq_true rfl) (Nat.le_of_ble_eq_true rfl) dX11_matches_34
  · skip
    rcases pl_cases zc with ⟨t2, ht_t2, rfl⟩ | hnp_zc
    · skip
      rcases htb t2 (by omega) with ⟨e_172, e_173⟩ | ⟨a_174, R_175, w_176, d_177, v_178, e_172, e_173, h_179, h_180, hd_181⟩
      · skip
        refine lv_aload_n hx hb dX11_matches_0 rfl (lv_at hl 0 rfl) ?_
        refine va_get (D := D) (ci := 11) (v := .ref st) (C := RX11) (T := TX11) (N := 7) hx hb hts inlX11 hown hK hP 0 rfl rfl 0 (by decide) (hts _ mw_15) (fun _ h9 => h9) rfl dX11_matches_1 ?_
        refine lv_iload_n hx hb dX11_matches_4 rfl (lv_at hl 1 rfl) ?_
        refine lv_iload_n hx hb dX11_matches_5 rfl (lv_at hl 2 rfl) ?_
        refine er_V (As := [.int za, .int zb]) (rest := []) hFX hKK hE hS (c_X6_stripOf_x l D κ κq st d sh vw ta sa n za zb (by assumption)) 2 gV_X11_189 hdV_X6_stripOf rfl rfl ⟨Nat.le_of_ble_eq_true rfl, Nat.le_of_ble_eq_true rfl⟩ rfl rfl (Nat.le_of_ble_eq_true rfl) dX11_matches_6 ⟨Nat.le_of_ble_eq_true rfl, Nat.le_of_ble_eq_true rfl⟩ hl.1 hP 1 6 rfl rfl rfl (subP0 hP [1] rfl) (fun _ hp_182 => ?_)
        refine W.eq (g2 := F0 m 9 ls [.null]) rfl ?_
        refine lv_astoreN (lv' := [(5, .null), (0, .ref xx), (1, .int za), (2, .int zb), (3, .int (nI t2)), (4, .int zd)]) hx hb dX11_matches_9 hl (by decide) rfl (fun ls hl => ?_)
        refine lv_aload_n hx hb dX11_matches_11 rfl (lv_at hl 1 rfl) ?_
        refine va_get (D := D) (ci := 11) (v := .ref st) (C := RX11) (T := TX11) (N := 7) hx hb hts inlX11 hown hK hP 0 rfl rfl 0 (by decide) (hts _ mw_15) (fun _ h9 => h9) rfl dX11_matches_12 ?_
        refine lv_iload_n hx hb dX11_matches_15 rfl (lv_at hl 4 rfl) ?_
        refine lv_iload hx hb dX11_matches_16 (lv_at hl 5 rfl) ?_
        refine er_V (As := [.int (nI t2), .int zd]) (rest := []) hFX hKK hE hS (c_X6_stripOf_n l D κ κq st d sh vw ta sa n fs fv t2 zd (by omega) e_172 e_173) 2 gV_X11_189 hdV_X6_stripOf rfl rfl ⟨Nat.le_of_ble_eq_true rfl, Nat.le_of_ble_eq_true rfl⟩ rfl rfl (Nat.le_of_ble_eq_true rfl) dX11_matches_18 ⟨Nat.le_of_ble_eq_true rfl, Nat.le_of_ble_eq_true rfl⟩ hl.1 hP 1 6 rfl rfl rfl (subP0 hP [1, 2, 3] rfl) (fun _ hp_183 => ?_)
        refine W.eq (g2 := F0 m 21 ls [.null]) rfl ?_
        refine lv_astoreN (lv' := [(6, .null), (5, .null), (0, .ref xx), (1, .int za), (2, .int zb), (3, .int (nI t2)), (4, .int zd)]) hx hb dX11_matches_21 hl (by decide) rfl (fun ls hl => ?_)
        refine lv_aloadN hx hb dX11_matches_23 (lv_at hl 1 rfl) ?_
        refine lv_ifnullN (tgt := 33) hx hb dX11_matches_25 (by decide) ?_
        refine lv_iconst (v := (-1)) hx hb dX11_matches_33 (by decide) ?_
        exact et_iret hx hb hr hlk rfl hS ((-1), im) rfl (show Sb im im from Sb.rf) (subP hP [0, 1, 2, 3] rfl) (subD hD [0, 1, 2, 3] (by decide) rfl) (Nat.le_of_ble_eq_true rfl) (Nat.le_of_ble_eq_true rfl) dX11_matches_34
      · have hle_a_174 := h_179.le
        refine lv_aload_n hx hb dX11_matches_0 rfl (lv_at hl 0 rfl) ?_
        refine va_get (D := D) (ci := 11) (v := .ref st) (C := RX11) (T := TX11) (N := 7) hx hb hts inlX11 hown hK hP 0 rfl rfl 0 (by decide) (hts _ mw_15) (fun _ h9 => h9) rfl dX11_matches_1 ?_
        refine lv_iload_n hx hb dX11_matches_4 rfl (lv_at hl 1 rfl) ?_
        refine lv_iload_n hx hb dX11_matches_5 rfl (lv_at hl 2 rfl) ?_
        refine er_V (As := [.int za, .int zb]) (rest := []) hFX hKK hE hS (c_X6_stripOf_x l D κ κq st d sh vw ta sa n za zb (by assumption)) 2 gV_X11_189 hdV_X6_stripOf rfl rfl ⟨Nat.le_of_ble_eq_true rfl, Nat.le_of_ble_eq_true rfl⟩ rfl rfl (Nat.le_of_ble_eq_true rfl) dX11_matches_6 ⟨Nat.le_of_ble_eq_true rfl, Nat.le_of_ble_eq_true rfl⟩ hl.1 hP 1 6 rfl rfl rfl (subP0 hP [1] rfl) (fun _ hp_184 => ?_)
        refine W.eq (g2 := F0 m 9 ls [.null]) rfl ?_
        refine lv_astoreN (lv' := [(5, .null), (0, .ref xx), (1, .int za), (2, .int zb), (3, .int (nI t2)), (4, .int zd)]) hx hb dX11_matches_9 hl (by decide) rfl (fun ls hl => ?_)
        refine lv_aload_n hx hb dX11_matches_11 rfl (lv_at hl 1 rfl) ?_
        refine va_get (D := D) (ci := 11) (v := .ref st) (C := RX11) (T := TX11) (N := 7) hx hb hts inlX11 hown hK hP 0 rfl rfl 0 (by decide) (hts _ mw_15) (fun _ h9 => h9) rfl dX11_matches_12 ?_
        refine lv_iload_n hx hb dX11_matches_15 rfl (lv_at hl 4 rfl) ?_
        refine lv_iload hx hb dX11_matches_16 (lv_at hl 5 rfl) ?_
        refine et_VT (CR := [(xx, .inr (11, [.ref st, .ref tp, .ref ft, .ref rd, .ref wr, .ref st2, .int zi]))]) (As := [.int (nI t2), .int zd]) (rest := []) hFX hKK hE hP hD hS hA (c_X6_stripOf_s l D κ κq im st d sh vw ta sa n fs fv t2 a_174 R_175 w_176 v_178 d_177 zd (by omega) e_172 e_173 h_179 h_180) 2 gV_X11_189 hdV_X6_stripOf ⟨Nat.le_of_ble_eq_true rfl, Nat.le_of_ble_eq_true rfl⟩ rfl rfl (Nat.le_of_ble_eq_true rfl) dX11_matches_18 ⟨Nat.le_of_ble_eq_true rfl, Nat.le_of_ble_eq_true rfl⟩ hl.1 [1, 2, 3] [0] rfl rfl (by decide) (by decide) (by decide) hP 1 6 rfl rfl rfl (fun u_187 H locs hp_188 hP hD hS => ?_)
        refine W.widen (k := 1) (n := 4) (Nat.le_refl _) (Nat.le_refl _) ?_
        obtain ⟨r__185, im2__186⟩ := u_187
        replace hP : va_P D vwCl ([(xx, .inr (11, [.ref st, .ref tp, .ref ft, .ref rd, .ref wr, .ref st2, .int zi])), (st, .inr (6, [.ref d, .ref sh, .ref vw, .ref ta, .ref sa, .int (nI n)])), (sh, .inl (κ 4, 3, .inr (.inr (.inr (.inr fs))))), (vw, .inl (κ 5, 3, .inr (.inr (.inr (.inr fv)))))] ++ im2__186) H := subP (C := [(xx, .inr (11, [.ref st, .ref tp, .ref ft, .ref rd, .ref wr, .ref st2, .int zi])), (st, .inr (6, [.ref d, .ref sh, .ref vw, .ref ta, .ref sa, .int (nI n)])), (sh, .inl (κ 4, 3, .inr (.inr (.inr (.inr fs))))), (vw, .inl (κ 5, 3, .inr (.inr (.inr (.inr fv)))))]) hP [0, 1, 2, 3] rfl
        replace hD : va_D A ([(xx, .inr (11, [.ref st, .ref tp, .ref ft, .ref rd, .ref wr, .ref st2, .int zi])), (st, .inr (6, [.ref d, .ref sh, .ref vw, .ref ta, .ref sa, .int (nI n)])), (sh, .inl (κ 4, 3, .inr (.inr (.inr (.inr fs))))), (vw, .inl (κ 5, 3, .inr (.inr (.inr (.inr fv)))))] ++ im2__186) := subD (C := [(xx, .inr (11, [.ref st, .ref tp, .ref ft, .ref rd, .ref wr, .ref st2, .int zi])), (st, .inr (6, [.ref d, .ref sh, .ref vw, .ref ta, .ref sa, .int (nI n)])), (sh, .inl (κ 4, 3, .inr (.inr (.inr (.inr fs))))), (vw, .inl (κ 5, 3, .inr (.inr (.inr (.inr fv)))))]) hD [0, 1, 2, 3] (by decide) rfl
        replace hp_188 : Sb im im2__186 ∧ ((r__185 = none) ∨ (∃ (q : Nat), ∃ (co : Nat), ∃ (ra : Nat), ∃ (mq : Nat), ∃ (ty : Nat), r__185 = some q ∧ Sp κ im2__186 q a_174 R_175 w_176 co ra mq ty)) := hp_188
        obtain ⟨h_189, ha_190⟩ := hp_188
        replace htb := htb.up h_189
        replace h_179 := h_179.up h_189
        replace h_180 := h_180.up h_189
        rcases ha_190 with rfl | ⟨q__191, co__192, ra__193, mq__194, ty__195, rfl, a_196⟩
        · refine W.eq (g2 := F0 m 21 ls [.null]) rfl ?_
          refine lv_astoreN (lv' := [(6, .null), (5, .null), (0, .ref xx), (1, .int za), (2, .int zb), (3, .int (nI t2)), (4, .int zd)]) hx hb dX11_matches_21 hl (by decide) rfl (fun ls hl => ?_)
          refine lv_aloadN hx hb dX11_matches_23 (lv_at hl 1 rfl) ?_
          refine lv_ifnullN (tgt := 33) hx hb dX11_matches_25 (by decide) ?_
          refine lv_iconst (v := (-1)) hx hb dX11_matches_33 (by decide) ?_
          exact et_iret hx hb hr hlk rfl hS ((-1), im2__186) rfl (show Sb im im2__186 from h_189) (subP hP [0, 1, 2, 3] rfl) (subD hD [0, 1, 2, 3] (by decide) rfl) (Nat.le_of_ble_eq_true rfl) (Nat.le_of_ble_eq_true rfl) dX11_matches_34
        · refine W.eq (g2 := F0 m 21 ls [.ref q__191]) rfl ?_
          refine lv_astore (lv' := [(6, .ref q__191), (5, .null), (0, .ref xx), (1, .int za), (2, .int zb), (3, .int (nI t2)), (4, .int zd)]) hx hb dX11_matches_21 hl (by decide) rfl (fun ls hl => ?_)
          refine lv_aloadN hx hb dX11_matches_23 (lv_at hl 1 rfl) ?_
          refine lv_ifnullN (tgt := 33) hx hb dX11_matches_25 (by decide) ?_
          refine lv_iconst (v := (-1)) hx hb dX11_matches_33 (by decide) ?_
          exact et_iret hx hb hr hlk rfl hS ((-1), im2__186) rfl (show Sb im im2__186 from h_189) (subP hP [0, 1, 2, 3] rfl) (subD hD [0, 1, 2, 3] (by decide) rfl) (Nat.le_of_ble_eq_true rfl) (Nat.le_of_ble_eq_true rfl) dX11_matches_34
    · skip
      refine lv_aload_n hx hb dX11_matches_0 rfl (lv_at hl 0 rfl) ?_
      refine va_get (D := D) (ci := 11) (v := .ref st) (C := RX11) (T := TX11) (N := 7) hx hb hts inlX11 hown hK hP 0 rfl rfl 0 (by decide) (hts _ mw_15) (fun _ h9 => h9) rfl dX11_matches_1 ?_
      refine lv_iload_n hx hb dX11_matches_4 rfl (lv_at hl 1 rfl) ?_
      refine lv_iload_n hx hb dX11_matches_5 rfl (lv_at hl 2 rfl) ?_
      refine er_V (As := [.int za, .int zb]) (rest := []) hFX hKK hE hS (c_X6_stripOf_x l D κ κq st d sh vw ta sa n za zb (by assumption)) 2 gV_X11_189 hdV_X6_stripOf rfl rfl ⟨Nat.le_of_ble_eq_true rfl, Nat.le_of_ble_eq_true rfl⟩ rfl rfl (Nat.le_of_ble_eq_true rfl) dX11_matches_6 ⟨Nat.le_of_ble_eq_true rfl, Nat.le_of_ble_eq_true rfl⟩ hl.1 hP 1 6 rfl rfl rfl (subP0 hP [1] rfl) (fun _ hp_197 => ?_)
      refine W.eq (g2 := F0 m 9 ls [.null]) rfl ?_
      refine lv_astoreN (lv' := [(5, .null), (0, .ref xx), (1, .int za), (2, .int zb), (3, .int zc), (4, .int zd)]) hx hb dX11_matches_9 hl (by decide) rfl (fun ls hl => ?_)
      refine lv_aload_n hx hb dX11_matches_11 rfl (lv_at hl 1 rfl) ?_
      refine va_get (D := D) (ci := 11) (v := .ref st) (C := RX11) (T := TX11) (N := 7) hx hb hts inlX11 hown hK hP 0 rfl rfl 0 (by decide) (hts _ mw_15) (fun _ h9 => h9) rfl dX11_matches_12 ?_
      refine lv_iload_n hx hb dX11_matches_15 rfl (lv_at hl 4 rfl) ?_
      refine lv_iload hx hb dX11_matches_16 (lv_at hl 5 rfl) ?_
      refine er_V (As := [.int zc, .int zd]) (rest := []) hFX hKK hE hS (c_X6_stripOf_x l D κ κq st d sh vw ta sa n zc zd (by assumption)) 2 gV_X11_189 hdV_X6_stripOf rfl rfl ⟨Nat.le_of_ble_eq_true rfl, Nat.le_of_ble_eq_true rfl⟩ rfl rfl (Nat.le_of_ble_eq_true rfl) dX11_matches_18 ⟨Nat.le_of_ble_eq_true rfl, Nat.le_of_ble_eq_true rfl⟩ hl.1 hP 1 6 rfl rfl rfl (subP0 hP [1] rfl) (fun _ hp_198 => ?_)
      refine W.eq (g2 := F0 m 21 ls [.null]) rfl ?_
      refine lv_astoreN (lv' := [(6, .null), (5, .null), (0, .ref xx), (1, .int za), (2, .int zb), (3, .int zc), (4, .int zd)]) hx hb dX11_matches_21 hl (by decide) rfl (fun ls hl => ?_)
      refine lv_aloadN hx hb dX11_matches_23 (lv_at hl 1 rfl) ?_
      refine lv_ifnullN (tgt := 33) hx hb dX11_matches_25 (by decide) ?_
      refine lv_iconst (v := (-1)) hx hb dX11_matches_33 (by decide) ?_
      exact et_iret hx hb hr hlk rfl hS ((-1), im) rfl (show Sb im im from Sb.rf) (subP hP [0, 1, 2, 3] rfl) (subD hD [0, 1, 2, 3] (by decide) rfl) (Nat.le_of_ble_eq_true rfl) (Nat.le_of_ble_eq_true rfl) dX11_matches_34
set_option maxHeartbeats 4000000 in
set_option maxRecDepth 100000 in
theorem c_X11_write (l : Launch) (D : va_G) (κ : Nat → ClassId) (κq : Nat → Nat) (im : va_W) (xx : Nat) (tp : Nat) (ft : Nat) (rd : Nat) (wr : Nat) (st2 : Nat) (zi : Int32) (st : Nat) (d : Nat) (sh : Nat) (vw : Nat) (ta : Nat) (sa : Nat) (n : Nat) (fs : Nat → Option Nat) (fv : Nat → Option Nat) (dl : Nat → Int32) (wb : Nat) (Lw : Nat) (bf : Nat → Int32) (za : Int32) (htb : Tb κ im fs fv 3) (hLw : Lw ≤ 6000) : Et l yX11_write (wl yX11_write cX11_write 4 (some .int)) { frames := 4, cells := 0, slots := 0, locals := 93 } D κ κq [.ref xx, .int za] ([(xx, .inr (11, [.ref st, .ref tp, .ref ft, .ref rd, .ref wr, .ref st2, .int zi])), (st, .inr (6, [.ref d, .ref sh, .ref vw, .ref ta, .ref sa, .int (nI n)])), (sh, .inl (κ 4, 3, .inr (.inr (.inr (.inr fs))))), (vw, .inl (κ 5, 3, .inr (.inr (.inr (.inr fv))))), (d, .inl (κ 0, 6, .inl dl)), (wr, .inr (10, [.ref d, .ref wb, .int (nI Lw)])), (wb, .inl (κ 1, 6000, .inl bf))] ++ im) (fun u9 : Int32 × Nat × (Nat → Int32) => some (.int u9.1)) (fun u9 : Int32 × Nat × (Nat → Int32) => u9.2.1 ≤ 6000) (fun u9 : Int32 × Nat × (Nat → Int32) => ([(xx, .inr (11, [.ref st, .ref tp, .ref ft, .ref rd, .ref wr, .ref st2, .int zi])), (st, .inr (6, [.ref d, .ref sh, .ref vw, .ref ta, .ref sa, .int (nI n)])), (sh, .inl (κ 4, 3, .inr (.inr (.inr (.inr fs))))), (vw, .inl (κ 5, 3, .inr (.inr (.inr (.inr fv))))), (d, .inl (κ 0, 6, .inl dl)), (wr, .inr (10, [.ref d, .ref wb, .int (nI u9.2.1)])), (wb, .inl (κ 1, 6000, .inl u9.2.2))] ++ im)) := by
  refine et_of (by decide +kernel) (Nat.le_of_ble_eq_true rfl) ?_
  intro p e s m args below meth c A ls hx hb hr hml hts hown hlk hin hKK hK hA hP hD hS hE hl
  have hS : va_S A s.heap s.heap [] := hS
  have hP : va_P D vwCl ([(xx, .inr (11, [.ref st, .ref tp, .ref ft, .ref rd, .ref wr, .ref st2, .int zi])), (st, .inr (6, [.ref d, .ref sh, .ref vw, .ref ta, .ref sa, .int (nI n)])), (sh, .inl (κ 4, 3, .inr (.inr (.inr (.inr fs))))), (vw, .inl (κ 5, 3, .inr (.inr (.inr (.inr fv))))), (d, .inl (κ 0, 6, .inl dl)), (wr, .inr (10, [.ref d, .ref wb, .int (nI Lw)])), (wb, .inl (κ 1, 6000, .inl bf))] ++ im) s.heap := hP
  have hD : va_D A ([(xx, .inr (11, [.ref st, .ref tp, .ref ft, .ref rd, .ref wr, .ref st2, .int zi])), (st, .inr (6, [.ref d, .ref sh, .ref vw, .ref ta, .ref sa, .int (nI n)])), (sh, .inl (κ 4, 3, .inr (.inr (.inr (.inr fs))))), (vw, .inl (κ 5, 3, .inr (.inr (.inr (.inr fv))))), (d, .inl (κ 0, 6, .inl dl)), (wr, .inr (10, [.ref d, .ref wb, .int (nI Lw)])), (wb, .inl (κ 1, 6000, .inl bf))] ++ im) := hD
  have hFX : FX p s m args c cX11_write 4 RX11 := ⟨hx, hb, hml, hown, hts⟩
  have hl : lv_has ls 4 [(0, .ref xx), (1, .int za)] := hl
  rcases pl_cases za with ⟨t, ht_t, rfl⟩ | hnp_za
  · skip
    rcases htb t (by omega) with ⟨e_1, e_2⟩ | ⟨a_3, R_4, w_5, d_6, v_7, e_1, e_2, h_8, h_9, hd_10⟩
    · skip
      refine lv_aload_n hx hb dX11_write_0 rfl (lv_at hl 0 rfl) ?_
      refine va_get (D := D) (ci := 11) (v := .ref st) (C := RX11) (T := TX11) (N := 7) hx hb hts inlX11 hown hK hP 0 rfl rfl 0 (by decide) (hts _ mw_15) (fun _ h9 => h9) rfl dX11_write_1 ?_
      refine lv_iload_n hx hb dX11_write_4 rfl (lv_at hl 1 rfl) ?_
      refine er_V (As := [.int (nI t)]) (rest := []) hFX hKK hE hS (c_X6_sheetOf_n l D κ κq st d sh vw ta sa n fs t (by omega) e_1) 1 gV_X11_114 hdV_X6_sheetOf rfl rfl ⟨Nat.le_of_ble_eq_true rfl, Nat.le_of_ble_eq_true rfl⟩ rfl rfl (Nat.le_of_ble_eq_true rfl) dX11_write_5 ⟨Nat.le_of_ble_eq_true rfl, Nat.le_of_ble_eq_true rfl⟩ hl.1 hP 1 6 rfl rfl rfl (subP0 hP [1, 2] rfl) (fun _ hp_11 => ?_)
      refine W.eq (g2 := F0 m 8 ls [.null]) rfl ?_
      refine lv_astore_nN (lv' := [(2, .null), (0, .ref xx), (1, .int (nI t))]) hx hb dX11_write_8 rfl hl (by decide) rfl (fun ls hl => ?_)
      refine lv_aload_n hx hb dX11_write_9 rfl (lv_at hl 1 rfl) ?_
      refine va_get (D := D) (ci := 11) (v := .ref st) (C := RX11) (T := TX11) (N := 7) hx hb hts inlX11 hown hK hP 0 rfl rfl 0 (by decide) (hts _ mw_15) (fun _ h9 => h9) rfl dX11_write_10 ?_
      refine lv_iload_n hx hb dX11_write_13 rfl (lv_at hl 2 rfl) ?_
      refine er_V (As := [.int (nI t)]) (rest := []) hFX hKK hE hS (c_X6_topOf_n l D κ κq st d sh vw ta sa n fv t (by omega) e_2) 1 gV_X11_231 hdV_X6_topOf rfl rfl ⟨Nat.le_of_ble_eq_true rfl, Nat.le_of_ble_eq_true rfl⟩ rfl rfl (Nat.le_of_ble_eq_true rfl) dX11_write_14 ⟨Nat.le_of_ble_eq_true rfl, Nat.le_of_ble_eq_true rfl⟩ hl.1 hP 1 6 rfl rfl rfl (subP0 hP [1, 3] rfl) (fun _ hp_12 => ?_)
      refine W.eq (g2 := F0 m 17 ls [.null]) rfl ?_
      refine lv_astore_nN (lv' := [(3, .null), (2, .null), (0, .ref xx), (1, .int (nI t))]) hx hb dX11_write_17 rfl hl (by decide) rfl (fun ls hl => ?_)
      refine lv_aload_nN hx hb dX11_write_18 rfl (lv_at hl 1 rfl) ?_
      refine lv_ifnullN (tgt := 26) hx hb dX11_write_19 (by decide) ?_
      refine lv_iconst (v := (-1)) hx hb dX11_write_26 (by decide) ?_
      exact et_iret hx hb hr hlk rfl hS ((-1), Lw, bf) rfl (show Lw ≤ 6000 from (by first | assumption | omega | rfl | exact Or.inl (by assumption) | exact Or.inr (by assumption))) (subP hP [0, 1, 2, 3, 4, 5, 6] rfl) (subD hD [0, 1, 2, 3, 4, 5, 6] (by decide) rfl) (Nat.le_of_ble_eq_true rfl) (Nat.le_of_ble_eq_true rfl) dX11_write_27
    · have hle_a_3 := h_8.le
      refine lv_aload_n hx hb dX11_write_0 rfl (lv_at hl 0 rfl) ?_
      refine va_get (D := D) (ci := 11) (v := .ref st) (C := RX11) (T := TX11) (N := 7) hx hb hts inlX11 hown hK hP 0 rfl rfl 0 (by decide) (hts _ mw_15) (fun _ h9 => h9) rfl dX11_write_1 ?_
      refine lv_iload_n hx hb dX11_write_4 rfl (lv_at hl 1 rfl) ?_
      refine er_V (As := [.int (nI t)]) (rest := []) hFX hKK hE hS (c_X6_sheetOf_s l D κ κq st d sh vw ta sa n fs t a_3 (by omega) e_1) 1 gV_X11_114 hdV_X6_sheetOf rfl rfl ⟨Nat.le_of_ble_eq_true rfl, Nat.le_of_ble_eq_true rfl⟩ rfl rfl (Nat.le_of_ble_eq_true rfl) dX11_write_5 ⟨Nat.le_of_ble_eq_true rfl, Nat.le_of_ble_eq_true rfl⟩ hl.1 hP 1 6 rfl rfl rfl (subP0 hP [1, 2] rfl) (fun _ hp_13 => ?_)
      refine W.eq (g2 := F0 m 8 ls [.ref a_3]) rfl ?_
      refine lv_astore_n (lv' := [(2, .ref a_3), (0, .ref xx), (1, .int (nI t))]) hx hb dX11_write_8 rfl hl (by decide) rfl (fun ls hl => ?_)
      refine lv_aload_n hx hb dX11_write_9 rfl (lv_at hl 1 rfl) ?_
      refine va_get (D := D) (ci := 11) (v := .ref st) (C := RX11) (T := TX11) (N := 7) hx hb hts inlX11 hown hK hP 0 rfl rfl 0 (by decide) (hts _ mw_15) (fun _ h9 => h9) rfl dX11_write_10 ?_
      refine lv_iload_n hx hb dX11_write_13 rfl (lv_at hl 2 rfl) ?_
      refine er_V (As := [.int (nI t)]) (rest := []) hFX hKK hE hS (c_X6_topOf_s l D κ κq st d sh vw ta sa n fv t v_7 (by omega) e_2) 1 gV_X11_231 hdV_X6_topOf rfl rfl ⟨Nat.le_of_ble_eq_true rfl, Nat.le_of_ble_eq_true rfl⟩ rfl rfl (Nat.le_of_ble_eq_true rfl) dX11_write_14 ⟨Nat.le_of_ble_eq_true rfl, Nat.le_of_ble_eq_true rfl⟩ hl.1 hP 1 6 rfl rfl rfl (subP0 hP [1, 3] rfl) (fun _ hp_14 => ?_)
      refine W.eq (g2 := F0 m 17 ls [.ref v_7]) rfl ?_
      refine lv_astore_n (lv' := [(3, .ref v_7), (2, .ref a_3), (0, .ref xx), (1, .int (nI t))]) hx hb dX11_write_17 rfl hl (by decide) rfl (fun ls hl => ?_)
      refine lv_aload_n hx hb dX11_write_18 rfl (lv_at hl 1 rfl) ?_
      refine lv_ifnull hx hb dX11_write_19 ?_
      refine lv_aload_n hx hb dX11_write_22 rfl (lv_at hl 0 rfl) ?_
      refine lv_ifnonnull (tgt := 28) hx hb dX11_write_23 (by decide) ?_
      refine lv_aload_n hx hb dX11_write_28 rfl (lv_at hl 2 rfl) ?_
      refine va_get (D := D) (ci := 11) (v := .ref wr) (C := RX11) (T := TX11) (N := 7) hx hb hts inlX11 hown hK hP 0 rfl rfl 4 (by decide) (hts _ mw_32) (fun _ h9 => h9) rfl dX11_write_29 ?_
      refine lv_aload_n hx hb dX11_write_32 rfl (lv_at hl 1 rfl) ?_
      refine lv_aload_n hx hb dX11_write_33 rfl (lv_at hl 0 rfl) ?_
      obtain ⟨r_15, n_16, u_17, hm_18, ix_19⟩ := Vw_cell h_9
      refine va_get (D := D) (ci := 9) (v := .ref r_15) (C := RX9) (T := TX9) (N := 3) hx hb hts inlX9 hown hK (oneP (C := [(xx, .inr (11, [.ref st, .ref tp, .ref ft, .ref rd, .ref wr, .ref st2, .int zi])), (st, .inr (6, [.ref d, .ref sh, .ref vw, .ref ta, .ref sa, .int (nI n)])), (sh, .inl (κ 4, 3, .inr (.inr (.inr (.inr fs))))), (vw, .inl (κ 5, 3, .inr (.inr (.inr (.inr fv))))), (d, .inl (κ 0, 6, .inl dl)), (wr, .inr (10, [.ref d, .ref wb, .int (nI Lw)])), (wb, .inl (κ 1, 6000, .inl bf))]) hP hm_18) 0 rfl rfl 0 (by decide) (hts _ mw_1078) (fun _ h9 => h9) rfl dX11_write_34 ?_
      refine et_VT (CR := [(xx, .inr (11, [.ref st, .ref tp, .ref ft, .ref rd, .ref wr, .ref st2, .int zi])), (st, .inr (6, [.ref d, .ref sh, .ref vw, .ref ta, .ref sa, .int (nI n)])), (sh, .inl (κ 4, 3, .inr (.inr (.inr (.inr fs))))), (vw, .inl (κ 5, 3, .inr (.inr (.inr (.inr fv)))))]) (As := [.ref a_3, .ref r_15]) (rest := []) hFX hKK hE hP hD hS hA (c_X10_writeSheet l D κ κq im wr d wb Lw bf dl a_3 R_4 w_5 r_15 n_16 h_8 ix_19) 2 gV_X11_350 hdV_X10_writeSheet ⟨Nat.le_of_ble_eq_true rfl, Nat.le_of_ble_eq_true rfl⟩ rfl rfl (Nat.le_of_ble_eq_true rfl) dX11_write_37 ⟨Nat.le_of_ble_eq_true rfl, Nat.le_of_ble_eq_true rfl⟩ hl.1 [5, 4, 6] [0, 1, 2, 3] rfl rfl (by decide) (by decide) (by decide) hP 5 10 rfl rfl rfl (fun u_22 H locs hp_23 hP hD hS => ?_)
      refine W.widen (k := 0) (n := 0) (Nat.le_refl _) (Nat.le_refl _) ?_
      obtain ⟨y__20, g__21⟩ := u_22
      replace hP : va_P D vwCl ([(xx, .inr (11, [.ref st, .ref tp, .ref ft, .ref rd, .ref wr, .ref st2, .int zi])), (st, .inr (6, [.ref d, .ref sh, .ref vw, .ref ta, .ref sa, .int (nI n)])), (sh, .inl (κ 4, 3, .inr (.inr (.inr (.inr fs))))), (vw, .inl (κ 5, 3, .inr (.inr (.inr (.inr fv))))), (d, .inl (κ 0, 6, .inl dl)), (wr, .inr (10, [.ref d, .ref wb, .int (nI y__20)])), (wb, .inl (κ 1, 6000, .inl g__21))] ++ im) H := subP (C := [(xx, .inr (11, [.ref st, .ref tp, .ref ft, .ref rd, .ref wr, .ref st2, .int zi])), (st, .inr (6, [.ref d, .ref sh, .ref vw, .ref ta, .ref sa, .int (nI n)])), (sh, .inl (κ 4, 3, .inr (.inr (.inr (.inr fs))))), (vw, .inl (κ 5, 3, .inr (.inr (.inr (.inr fv))))), (wr, .inr (10, [.ref d, .ref wb, .int (nI y__20)])), (d, .inl (κ 0, 6, .inl dl)), (wb, .inl (κ 1, 6000, .inl g__21))]) hP [0, 1, 2, 3, 5, 4, 6] rfl
      replace hD : va_D A ([(xx, .inr (11, [.ref st, .ref tp, .ref ft, .ref rd, .ref wr, .ref st2, .int zi])), (st, .inr (6, [.ref d, .ref sh, .ref vw, .ref ta, .ref sa, .int (nI n)])), (sh, .inl (κ 4, 3, .inr (.inr (.inr (.inr fs))))), (vw, .inl (κ 5, 3, .inr (.inr (.inr (.inr fv))))), (d, .inl (κ 0, 6, .inl dl)), (wr, .inr (10, [.ref d, .ref wb, .int (nI y__20)])), (wb, .inl (κ 1, 6000, .inl g__21))] ++ im) := subD (C := [(xx, .inr (11, [.ref st, .ref tp, .ref ft, .ref rd, .ref wr, .ref st2, .int zi])), (st, .inr (6, [.ref d, .ref sh, .ref vw, .ref ta, .ref sa, .int (nI n)])), (sh, .inl (κ 4, 3, .inr (.inr (.inr (.inr fs))))), (vw, .inl (κ 5, 3, .inr (.inr (.inr (.inr fv))))), (wr, .inr (10, [.ref d, .ref wb, .int (nI y__20)])), (d, .inl (κ 0, 6, .inl dl)), (wb, .inl (κ 1, 6000, .inl g__21))]) hD [0, 1, 2, 3, 5, 4, 6] (by decide) rfl
      replace hp_23 : y__20 ≤ 6000 := hp_23
      have h_24 := hp_23
      clear hp_23
      refine W.eq (g2 := F0 m 40 ls []) rfl ?_
      refine lv_aload_n hx hb dX11_write_40 rfl (lv_at hl 2 rfl) ?_
      refine va_get (D := D) (ci := 11) (v := .ref wr) (C := RX11) (T := TX11) (N := 7) hx hb hts inlX11 hown hK hP 0 rfl rfl 4 (by decide) (hts _ mw_32) (fun _ h9 => h9) rfl dX11_write_41 ?_
      refine va_get (D := D) (ci := 10) (v := .int (nI y__20)) (C := RX10) (T := TX10) (N := 3) hx hb hts inlX10 hown hK hP 5 rfl rfl 2 (by decide) (hts _ mw_1405) (fun _ h9 => h9) rfl dX11_write_44 ?_
      exact et_iret hx hb hr hlk rfl hS (nI y__20, y__20, g__21) rfl (show y__20 ≤ 6000 from (by first | assumption | omega | rfl | exact Or.inl (by assumption) | exact Or.inr (by assumption))) (subP hP [0, 1, 2, 3, 4, 5, 6] rfl) (subD hD [0, 1, 2, 3, 4, 5, 6] (by decide) rfl) (Nat.le_of_ble_eq_true rfl) (Nat.le_of_ble_eq_true rfl) dX11_write_47
  · skip
    refine lv_aload_n hx hb dX11_write_0 rfl (lv_at hl 0 rfl) ?_
    refine va_get (D := D) (ci := 11) (v := .ref st) (C := RX11) (T := TX11) (N := 7) hx hb hts inlX11 hown hK hP 0 rfl rfl 0 (by decide) (hts _ mw_15) (fun _ h9 => h9) rfl dX11_write_1 ?_
    refine lv_iload_n hx hb dX11_write_4 rfl (lv_at hl 1 rfl) ?_
    refine er_V (As := [.int za]) (rest := []) hFX hKK hE hS (c_X6_sheetOf_x l D κ κq st d sh vw ta sa n za (by assumption)) 1 gV_X11_114 hdV_X6_sheetOf rfl rfl ⟨Nat.le_of_ble_eq_true rfl, Nat.le_of_ble_eq_true rfl⟩ rfl rfl (Nat.le_of_ble_eq_true rfl) dX11_write_5 ⟨Nat.le_of_ble_eq_true rfl, Nat.le_of_ble_eq_true rfl⟩ hl.1 hP 1 6 rfl rfl rfl (subP0 hP [1] rfl) (fun _ hp_25 => ?_)
    refine W.eq (g2 := F0 m 8 ls [.null]) rfl ?_
    refine lv_astore_nN (lv' := [(2, .null), (0, .ref xx), (1, .int za)]) hx hb dX11_write_8 rfl hl (by decide) rfl (fun ls hl => ?_)
    refine lv_aload_n hx hb dX11_write_9 rfl (lv_at hl 1 rfl) ?_
    refine va_get (D := D) (ci := 11) (v := .ref st) (C := RX11) (T := TX11) (N := 7) hx hb hts inlX11 hown hK hP 0 rfl rfl 0 (by decide) (hts _ mw_15) (fun _ h9 => h9) rfl dX11_write_10 ?_
    refine lv_iload_n hx hb dX11_write_13 rfl (lv_at hl 2 rfl) ?_
    refine er_V (As := [.int za]) (rest := []) hFX hKK hE hS (c_X6_topOf_x l D κ κq st d sh vw ta sa n za (by assumption)) 1 gV_X11_231 hdV_X6_topOf rfl rfl ⟨Nat.le_of_ble_eq_true rfl, Nat.le_of_ble_eq_true rfl⟩ rfl rfl (Nat.le_of_ble_eq_true rfl) dX11_write_14 ⟨Nat.le_of_ble_eq_true rfl, Nat.le_of_ble_eq_true rfl⟩ hl.1 hP 1 6 rfl rfl rfl (subP0 hP [1] rfl) (fun _ hp_26 => ?_)
    refine W.eq (g2 := F0 m 17 ls [.null]) rfl ?_
    refine lv_astore_nN (lv' := [(3, .null), (2, .null), (0, .ref xx), (1, .int za)]) hx hb dX11_write_17 rfl hl (by decide) rfl (fun ls hl => ?_)
    refine lv_aload_nN hx hb dX11_write_18 rfl (lv_at hl 1 rfl) ?_
    refine lv_ifnullN (tgt := 26) hx hb dX11_write_19 (by decide) ?_
    refine lv_iconst (v := (-1)) hx hb dX11_write_26 (by decide) ?_
    exact et_iret hx hb hr hlk rfl hS ((-1), Lw, bf) rfl (show Lw ≤ 6000 from (by first | assumption | omega | rfl | exact Or.inl (by assumption) | exact Or.inr (by assumption))) (subP hP [0, 1, 2, 3, 4, 5, 6] rfl) (subD hD [0, 1, 2, 3, 4, 5, 6] (by decide) rfl) (Nat.le_of_ble_eq_true rfl) (Nat.le_of_ble_eq_true rfl) dX11_write_27
set_option maxHeartbeats 4000000 in
set_option maxRecDepth 100000 in
theorem c_X11_image (l : Launch) (D : va_G) (κ : Nat → ClassId) (κq : Nat → Nat) (im : va_W) (xx : Nat) (tp : Nat) (ft : Nat) (rd : Nat) (wr : Nat) (zi : Int32) (st : Nat) (d : Nat) (sh : Nat) (vw : Nat) (ta : Nat) (sa : Nat) (n : Nat) (fs : Nat → Option Nat) (fv : Nat → Option Nat) (dl : Nat → Int32) (st2 : Nat) (d2 : Nat) (sh2 : Nat) (vw2 : Nat) (ta2 : Nat) (sa2 : Nat) (n2 : Nat) (fs2 : Nat → Option Nat) (fv2 : Nat → Option Nat) (dl2 : Nat → Int32) (za : Int32) (htb : Tb κ im fs fv 3) (htb2 : Tb κ im fs2 fv2 3) (hn6 : n ≤ 6) (hn62 : n2 ≤ 6) (hzi : zi = 0 ∨ zi = 1) : Et l yX11_image (wl yX11_image cX11_image 2 (some .boolean)) { frames := 2, cells := 0, slots := 0, locals := 40 } D κ κq [.ref xx, .int za] ([(xx, .inr (11, [.ref st, .ref tp, .ref ft, .ref rd, .ref wr, .ref st2, .int zi])), (st, .inr (6, [.ref d, .ref sh, .ref vw, .ref ta, .ref sa, .int (nI n)])), (d, .inl (κ 0, 6, .inl dl)), (sh, .inl (κ 4, 3, .inr (.inr (.inr (.inr fs))))), (vw, .inl (κ 5, 3, .inr (.inr (.inr (.inr fv))))), (st2, .inr (6, [.ref d2, .ref sh2, .ref vw2, .ref ta2, .ref sa2, .int (nI n2)])), (d2, .inl (κ 0, 6, .inl dl2)), (sh2, .inl (κ 4, 3, .inr (.inr (.inr (.inr fs2))))), (vw2, .inl (κ 5, 3, .inr (.inr (.inr (.inr fv2)))))] ++ im) (fun u9 : Int32 × Int32 × Nat × Nat × (Nat → Int32) × (Nat → Int32) × (Nat → Option Nat) × (Nat → Option Nat) × (Nat → Option Nat) × (Nat → Option Nat) => some (.int u9.1)) (fun u9 : Int32 × Int32 × Nat × Nat × (Nat → Int32) × (Nat → Int32) × (Nat → Option Nat) × (Nat → Option Nat) × (Nat → Option Nat) × (Nat → Option Nat) => u9.2.2.1 ≤ 6 ∧ u9.2.2.2.1 ≤ 6 ∧ Tb κ im u9.2.2.2.2.2.2.1 u9.2.2.2.2.2.2.2.1 3 ∧ Tb κ im u9.2.2.2.2.2.2.2.2.1 u9.2.2.2.2.2.2.2.2.2 3 ∧ ((u9.1 = 1 ∧ u9.2.1 = 1 ∧ (za ≠ 0 ∨ zi ≠ 0)) ∨ (u9.1 = 0 ∧ u9.2.1 = zi ∧ za = 0 ∧ zi = 0))) (fun u9 : Int32 × Int32 × Nat × Nat × (Nat → Int32) × (Nat → Int32) × (Nat → Option Nat) × (Nat → Option Nat) × (Nat → Option Nat) × (Nat → Option Nat) => ([(xx, .inr (11, [.ref st, .ref tp, .ref ft, .ref rd, .ref wr, .ref st2, .int u9.2.1])), (st, .inr (6, [.ref d, .ref sh, .ref vw, .ref ta, .ref sa, .int (nI u9.2.2.1)])), (d, .inl (κ 0, 6, .inl u9.2.2.2.2.1)), (sh, .inl (κ 4, 3, .inr (.inr (.inr (.inr u9.2.2.2.2.2.2.1))))), (vw, .inl (κ 5, 3, .inr (.inr (.inr (.inr u9.2.2.2.2.2.2.2.1))))), (st2, .inr (6, [.ref d2, .ref sh2, .ref vw2, .ref ta2, .ref sa2, .int (nI u9.2.2.2.1)])), (d2, .inl (κ 0, 6, .inl u9.2.2.2.2.2.1)), (sh2, .inl (κ 4, 3, .inr (.inr (.inr (.inr u9.2.2.2.2.2.2.2.2.1))))), (vw2, .inl (κ 5, 3, .inr (.inr (.inr (.inr u9.2.2.2.2.2.2.2.2.2)))))] ++ im)) := by
  refine et_of (by decide +kernel) (Nat.le_of_ble_eq_true rfl) ?_
  intro p e s m args below meth c A ls hx hb hr hml hts hown hlk hin hKK hK hA hP hD hS hE hl
  have hS : va_S A s.heap s.heap [] := hS
  have hP : va_P D vwCl ([(xx, .inr (11, [.ref st, .ref tp, .ref ft, .ref rd, .ref wr, .ref st2, .int zi])), (st, .inr (6, [.ref d, .ref sh, .ref vw, .ref ta, .ref sa, .int (nI n)])), (d, .inl (κ 0, 6, .inl dl)), (sh, .inl (κ 4, 3, .inr (.inr (.inr (.inr fs))))), (vw, .inl (κ 5, 3, .inr (.inr (.inr (.inr fv))))), (st2, .inr (6, [.ref d2, .ref sh2, .ref vw2, .ref ta2, .ref sa2, .int (nI n2)])), (d2, .inl (κ 0, 6, .inl dl2)), (sh2, .inl (κ 4, 3, .inr (.inr (.inr (.inr fs2))))), (vw2, .inl (κ 5, 3, .inr (.inr (.inr (.inr fv2)))))] ++ im) s.heap := hP
  have hD : va_D A ([(xx, .inr (11, [.ref st, .ref tp, .ref ft, .ref rd, .ref wr, .ref st2, .int zi])), (st, .inr (6, [.ref d, .ref sh, .ref vw, .ref ta, .ref sa, .int (nI n)])), (d, .inl (κ 0, 6, .inl dl)), (sh, .inl (κ 4, 3, .inr (.inr (.inr (.inr fs))))), (vw, .inl (κ 5, 3, .inr (.inr (.inr (.inr fv))))), (st2, .inr (6, [.ref d2, .ref sh2, .ref vw2, .ref ta2, .ref sa2, .int (nI n2)])), (d2, .inl (κ 0, 6, .inl dl2)), (sh2, .inl (κ 4, 3, .inr (.inr (.inr (.inr fs2))))), (vw2, .inl (κ 5, 3, .inr (.inr (.inr (.inr fv2)))))] ++ im) := hD
  have hFX : FX p s m args c cX11_image 2 RX11 := ⟨hx, hb, hml, hown, hts⟩
  have hl : lv_has ls 2 [(0, .ref xx), (1, .int za)] := hl
  rcases hzi with rfl | rfl
  · skip
    refine lv_iload_n hx hb dX11_image_0 rfl (lv_at hl 1 rfl) ?_
    refine lv_if_eq (tgt := 23) hx hb dX11_image_1 (by decide) (fun c_1 => ?_) (fun c_1 => ?_)
    · refine lv_aload_n hx hb dX11_image_23 rfl (lv_at hl 0 rfl) ?_
      refine va_get (D := D) (ci := 11) (v := .int 0) (C := RX11) (T := TX11) (N := 7) hx hb hts inlX11 hown hK hP 0 rfl rfl 6 (by decide) (hts _ mw_34) (fun _ h9 => h9) rfl dX11_image_24 ?_
      refine lv_if_eq (tgt := 41) hx hb dX11_image_27 (by decide) (fun c_2 => ?_) (fun c_2 => absurd (by decide) c_2)
      refine lv_aload_n hx hb dX11_image_41 rfl (lv_at hl 0 rfl) ?_
      refine va_get (D := D) (ci := 11) (v := .int 0) (C := RX11) (T := TX11) (N := 7) hx hb hts inlX11 hown hK hP 0 rfl rfl 6 (by decide) (hts _ mw_34) (fun _ h9 => h9) rfl dX11_image_42 ?_
      exact et_iret hx hb hr hlk rfl hS (0, 0, n, n2, dl, dl2, fs, fv, fs2, fv2) rfl ⟨(show n ≤ 6 from (by first | assumption | omega | rfl | exact Or.inl (by assumption) | exact Or.inr (by assumption))), (show n2 ≤ 6 from (by first | assumption | omega | rfl | exact Or.inl (by assumption) | exact Or.inr (by assumption))), (show Tb κ im fs fv 3 from htb), (show Tb κ im fs2 fv2 3 from htb2), (by exact Or.inr ((⟨rfl, (show (0 : Int32) = 0 from (by first | assumption | omega | rfl | exact Or.inl (by assumption) | exact Or.inr (by assumption))), (show za = 0 from (by first | assumption | omega | rfl | exact Or.inl (by assumption) | exact Or.inr (by assumption))), (show 0 = 0 from (by first | assumption | omega | rfl | exact Or.inl (by assumption) | exact Or.inr (by assumption)))⟩)))⟩ (subP hP [0, 1, 2, 3, 4, 5, 6, 7, 8] rfl) (subD hD [0, 1, 2, 3, 4, 5, 6, 7, 8] (by decide) rfl) (Nat.le_of_ble_eq_true rfl) (Nat.le_of_ble_eq_true rfl) dX11_image_45
    · refine lv_aload_n hx hb dX11_image_4 rfl (lv_at hl 0 rfl) ?_
      refine va_get (D := D) (ci := 11) (v := .ref st2) (C := RX11) (T := TX11) (N := 7) hx hb hts inlX11 hown hK hP 0 rfl rfl 5 (by decide) (hts _ mw_33) (fun _ h9 => h9) rfl dX11_image_5 ?_
      refine lv_aload_n hx hb dX11_image_8 rfl (lv_at hl 0 rfl) ?_
      refine va_get (D := D) (ci := 11) (v := .ref st) (C := RX11) (T := TX11) (N := 7) hx hb hts inlX11 hown hK hP 0 rfl rfl 0 (by decide) (hts _ mw_15) (fun _ h9 => h9) rfl dX11_image_9 ?_
      refine et_VT (CR := [(xx, .inr (11, [.ref st, .ref tp, .ref ft, .ref rd, .ref wr, .ref st2, .int 0]))]) (As := [.ref st]) (rest := []) hFX hKK hE hP hD hS hA (c_X6_copyFrom l D κ κq im st2 d2 sh2 vw2 ta2 sa2 n2 dl2 fs2 fv2 st d sh vw ta sa n fs fv dl htb) 1 gV_X11_356 hdV_X6_copyFrom ⟨Nat.le_of_ble_eq_true rfl, Nat.le_of_ble_eq_true rfl⟩ rfl rfl (Nat.le_of_ble_eq_true rfl) dX11_image_12 ⟨Nat.le_of_ble_eq_true rfl, Nat.le_of_ble_eq_true rfl⟩ hl.1 [5, 6, 7, 8, 1, 3, 4, 2] [0] rfl rfl (by decide) (by decide) (by decide) hP 5 6 rfl rfl rfl (fun u_6 H locs hp_7 hP hD hS => ?_)
      refine W.widen (k := 0) (n := 0) (Nat.le_refl _) (Nat.le_refl _) ?_
      obtain ⟨dg__3, gs__4, gv__5⟩ := u_6
      replace hP : va_P D vwCl ([(xx, .inr (11, [.ref st, .ref tp, .ref ft, .ref rd, .ref wr, .ref st2, .int 0])), (st, .inr (6, [.ref d, .ref sh, .ref vw, .ref ta, .ref sa, .int (nI n)])), (d, .inl (κ 0, 6, .inl dl)), (sh, .inl (κ 4, 3, .inr (.inr (.inr (.inr fs))))), (vw, .inl (κ 5, 3, .inr (.inr (.inr (.inr fv))))), (st2, .inr (6, [.ref d2, .ref sh2, .ref vw2, .ref ta2, .ref sa2, .int 0])), (d2, .inl (κ 0, 6, .inl dg__3)), (sh2, .inl (κ 4, 3, .inr (.inr (.inr (.inr gs__4))))), (vw2, .inl (κ 5, 3, .inr (.inr (.inr (.inr gv__5)))))] ++ im) H := subP (C := [(xx, .inr (11, [.ref st, .ref tp, .ref ft, .ref rd, .ref wr, .ref st2, .int 0])), (st2, .inr (6, [.ref d2, .ref sh2, .ref vw2, .ref ta2, .ref sa2, .int 0])), (d2, .inl (κ 0, 6, .inl dg__3)), (sh2, .inl (κ 4, 3, .inr (.inr (.inr (.inr gs__4))))), (vw2, .inl (κ 5, 3, .inr (.inr (.inr (.inr gv__5))))), (st, .inr (6, [.ref d, .ref sh, .ref vw, .ref ta, .ref sa, .int (nI n)])), (sh, .inl (κ 4, 3, .inr (.inr (.inr (.inr fs))))), (vw, .inl (κ 5, 3, .inr (.inr (.inr (.inr fv))))), (d, .inl (κ 0, 6, .inl dl))]) hP [0, 5, 8, 6, 7, 1, 2, 3, 4] rfl
      replace hD : va_D A ([(xx, .inr (11, [.ref st, .ref tp, .ref ft, .ref rd, .ref wr, .ref st2, .int 0])), (st, .inr (6, [.ref d, .ref sh, .ref vw, .ref ta, .ref sa, .int (nI n)])), (d, .inl (κ 0, 6, .inl dl)), (sh, .inl (κ 4, 3, .inr (.inr (.inr (.inr fs))))), (vw, .inl (κ 5, 3, .inr (.inr (.inr (.inr fv))))), (st2, .inr (6, [.ref d2, .ref sh2, .ref vw2, .ref ta2, .ref sa2, .int 0])), (d2, .inl (κ 0, 6, .inl dg__3)), (sh2, .inl (κ 4, 3, .inr (.inr (.inr (.inr gs__4))))), (vw2, .inl (κ 5, 3, .inr (.inr (.inr (.inr gv__5)))))] ++ im) := subD (C := [(xx, .inr (11, [.ref st, .ref tp, .ref ft, .ref rd, .ref wr, .ref st2, .int 0])), (st2, .inr (6, [.ref d2, .ref sh2, .ref vw2, .ref ta2, .ref sa2, .int 0])), (d2, .inl (κ 0, 6, .inl dg__3)), (sh2, .inl (κ 4, 3, .inr (.inr (.inr (.inr gs__4))))), (vw2, .inl (κ 5, 3, .inr (.inr (.inr (.inr gv__5))))), (st, .inr (6, [.ref d, .ref sh, .ref vw, .ref ta, .ref sa, .int (nI n)])), (sh, .inl (κ 4, 3, .inr (.inr (.inr (.inr fs))))), (vw, .inl (κ 5, 3, .inr (.inr (.inr (.inr fv))))), (d, .inl (κ 0, 6, .inl dl))]) hD [0, 5, 8, 6, 7, 1, 2, 3, 4] (by decide) rfl
      replace hp_7 : Tb κ im gs__4 gv__5 3 := hp_7
      have h_8 := hp_7
      clear hp_7
      refine W.eq (g2 := F0 m 15 ls []) rfl ?_
      refine lv_aload_n hx hb dX11_image_15 rfl (lv_at hl 0 rfl) ?_
      refine lv_iconst (v := 1) hx hb dX11_image_16 (by decide) ?_
      refine va_put (D := D) (ci := 11) (v := .int 1) (ty := tyX11 6) (C := RX11) (T := TX11) (N := 7) hx hb hts inlX11 tyX11 tyX11_ok nmX11 hown hK hP hD hS 0 rfl rfl 6 (by decide) (hts _ mw_34) (fun _ h9 => h9) rfl (tyX11_ok 6 (by decide)) rfl rfl (Nat.le_of_ble_eq_true rfl) dX11_image_17 (fun H locs hP hD hS => ?_)
      have hP : va_P D vwCl ([(xx, .inr (11, [.ref st, .ref tp, .ref ft, .ref rd, .ref wr, .ref st2, .int 1])), (st, .inr (6, [.ref d, .ref sh, .ref vw, .ref ta, .ref sa, .int (nI n)])), (d, .inl (κ 0, 6, .inl dl)), (sh, .inl (κ 4, 3, .inr (.inr (.inr (.inr fs))))), (vw, .inl (κ 5, 3, .inr (.inr (.inr (.inr fv))))), (st2, .inr (6, [.ref d2, .ref sh2, .ref vw2, .ref ta2, .ref sa2, .int 0])), (d2, .inl (κ 0, 6, .inl dg__3)), (sh2, .inl (κ 4, 3, .inr (.inr (.inr (.inr gs__4))))), (vw2, .inl (κ 5, 3, .inr (.inr (.inr (.inr gv__5)))))] ++ im) H := hP
      have hD : va_D A ([(xx, .inr (11, [.ref st, .ref tp, .ref ft, .ref rd, .ref wr, .ref st2, .int 1])), (st, .inr (6, [.ref d, .ref sh, .ref vw, .ref ta, .ref sa, .int (nI n)])), (d, .inl (κ 0, 6, .inl dl)), (sh, .inl (κ 4, 3, .inr (.inr (.inr (.inr fs))))), (vw, .inl (κ 5, 3, .inr (.inr (.inr (.inr fv))))), (st2, .inr (6, [.ref d2, .ref sh2, .ref vw2, .ref ta2, .ref sa2, .int 0])), (d2, .inl (κ 0, 6, .inl dg__3)), (sh2, .inl (κ 4, 3, .inr (.inr (.inr (.inr gs__4))))), (vw2, .inl (κ 5, 3, .inr (.inr (.inr (.inr gv__5)))))] ++ im) := hD
      refine lv_goto (tgt := 41) hx hb dX11_image_20 (by decide) ?_
      refine lv_aload_n hx hb dX11_image_41 rfl (lv_at hl 0 rfl) ?_
      refine va_get (D := D) (ci := 11) (v := .int 1) (C := RX11) (T := TX11) (N := 7) hx hb hts inlX11 hown hK hP 0 rfl rfl 6 (by decide) (hts _ mw_34) (fun _ h9 => h9) rfl dX11_image_42 ?_
      exact et_iret hx hb hr hlk rfl hS (1, 1, n, 0, dl, dg__3, fs, fv, gs__4, gv__5) rfl ⟨(show n ≤ 6 from (by first | assumption | omega | rfl | exact Or.inl (by assumption) | exact Or.inr (by assumption))), (show 0 ≤ 6 from (by first | assumption | omega | rfl | exact Or.inl (by assumption) | exact Or.inr (by assumption))), (show Tb κ im fs fv 3 from htb), (show Tb κ im gs__4 gv__5 3 from h_8), (by exact Or.inl (⟨rfl, (show (1 : Int32) = 1 from (by first | assumption | omega | rfl | exact Or.inl (by assumption) | exact Or.inr (by assumption))), (show za ≠ 0 ∨ 0 ≠ 0 from (by first | exact Or.inl c_1 | exact Or.inr (by decide)))⟩))⟩ (subP hP [0, 1, 2, 3, 4, 5, 6, 7, 8] rfl) (subD hD [0, 1, 2, 3, 4, 5, 6, 7, 8] (by decide) rfl) (Nat.le_of_ble_eq_true rfl) (Nat.le_of_ble_eq_true rfl) dX11_image_45
  · skip
    refine lv_iload_n hx hb dX11_image_0 rfl (lv_at hl 1 rfl) ?_
    refine lv_if_eq (tgt := 23) hx hb dX11_image_1 (by decide) (fun c_9 => ?_) (fun c_9 => ?_)
    · refine lv_aload_n hx hb dX11_image_23 rfl (lv_at hl 0 rfl) ?_
      refine va_get (D := D) (ci := 11) (v := .int 1) (C := RX11) (T := TX11) (N := 7) hx hb hts inlX11 hown hK hP 0 rfl rfl 6 (by decide) (hts _ mw_34) (fun _ h9 => h9) rfl dX11_image_24 ?_
      refine lv_if_eq (tgt := 41) hx hb dX11_image_27 (by decide) (fun c_10 => absurd c_10 (by decide)) (fun c_10 => ?_)
      refine lv_aload_n hx hb dX11_image_30 rfl (lv_at hl 0 rfl) ?_
      refine va_get (D := D) (ci := 11) (v := .ref st) (C := RX11) (T := TX11) (N := 7) hx hb hts inlX11 hown hK hP 0 rfl rfl 0 (by decide) (hts _ mw_15) (fun _ h9 => h9) rfl dX11_image_31 ?_
      refine lv_aload_n hx hb dX11_image_34 rfl (lv_at hl 0 rfl) ?_
      refine va_get (D := D) (ci := 11) (v := .ref st2) (C := RX11) (T := TX11) (N := 7) hx hb hts inlX11 hown hK hP 0 rfl rfl 5 (by decide) (hts _ mw_33) (fun _ h9 => h9) rfl dX11_image_35 ?_
      refine et_VT (CR := [(xx, .inr (11, [.ref st, .ref tp, .ref ft, .ref rd, .ref wr, .ref st2, .int 1]))]) (As := [.ref st2]) (rest := []) hFX hKK hE hP hD hS hA (c_X6_copyFrom l D κ κq im st d sh vw ta sa n dl fs fv st2 d2 sh2 vw2 ta2 sa2 n2 fs2 fv2 dl2 htb2) 1 gV_X11_356 hdV_X6_copyFrom ⟨Nat.le_of_ble_eq_true rfl, Nat.le_of_ble_eq_true rfl⟩ rfl rfl (Nat.le_of_ble_eq_true rfl) dX11_image_38 ⟨Nat.le_of_ble_eq_true rfl, Nat.le_of_ble_eq_true rfl⟩ hl.1 [1, 2, 3, 4, 5, 7, 8, 6] [0] rfl rfl (by decide) (by decide) (by decide) hP 1 6 rfl rfl rfl (fun u_14 H locs hp_15 hP hD hS => ?_)
      refine W.widen (k := 0) (n := 0) (Nat.le_refl _) (Nat.le_refl _) ?_
      obtain ⟨dg__11, gs__12, gv__13⟩ := u_14
      replace hP : va_P D vwCl ([(xx, .inr (11, [.ref st, .ref tp, .ref ft, .ref rd, .ref wr, .ref st2, .int 1])), (st, .inr (6, [.ref d, .ref sh, .ref vw, .ref ta, .ref sa, .int 0])), (d, .inl (κ 0, 6, .inl dg__11)), (sh, .inl (κ 4, 3, .inr (.inr (.inr (.inr gs__12))))), (vw, .inl (κ 5, 3, .inr (.inr (.inr (.inr gv__13))))), (st2, .inr (6, [.ref d2, .ref sh2, .ref vw2, .ref ta2, .ref sa2, .int (nI n2)])), (d2, .inl (κ 0, 6, .inl dl2)), (sh2, .inl (κ 4, 3, .inr (.inr (.inr (.inr fs2))))), (vw2, .inl (κ 5, 3, .inr (.inr (.inr (.inr fv2)))))] ++ im) H := subP (C := [(xx, .inr (11, [.ref st, .ref tp, .ref ft, .ref rd, .ref wr, .ref st2, .int 1])), (st, .inr (6, [.ref d, .ref sh, .ref vw, .ref ta, .ref sa, .int 0])), (d, .inl (κ 0, 6, .inl dg__11)), (sh, .inl (κ 4, 3, .inr (.inr (.inr (.inr gs__12))))), (vw, .inl (κ 5, 3, .inr (.inr (.inr (.inr gv__13))))), (st2, .inr (6, [.ref d2, .ref sh2, .ref vw2, .ref ta2, .ref sa2, .int (nI n2)])), (sh2, .inl (κ 4, 3, .inr (.inr (.inr (.inr fs2))))), (vw2, .inl (κ 5, 3, .inr (.inr (.inr (.inr fv2))))), (d2, .inl (κ 0, 6, .inl dl2))]) hP [0, 1, 2, 3, 4, 5, 8, 6, 7] rfl
      replace hD : va_D A ([(xx, .inr (11, [.ref st, .ref tp, .ref ft, .ref rd, .ref wr, .ref st2, .int 1])), (st, .inr (6, [.ref d, .ref sh, .ref vw, .ref ta, .ref sa, .int 0])), (d, .inl (κ 0, 6, .inl dg__11)), (sh, .inl (κ 4, 3, .inr (.inr (.inr (.inr gs__12))))), (vw, .inl (κ 5, 3, .inr (.inr (.inr (.inr gv__13))))), (st2, .inr (6, [.ref d2, .ref sh2, .ref vw2, .ref ta2, .ref sa2, .int (nI n2)])), (d2, .inl (κ 0, 6, .inl dl2)), (sh2, .inl (κ 4, 3, .inr (.inr (.inr (.inr fs2))))), (vw2, .inl (κ 5, 3, .inr (.inr (.inr (.inr fv2)))))] ++ im) := subD (C := [(xx, .inr (11, [.ref st, .ref tp, .ref ft, .ref rd, .ref wr, .ref st2, .int 1])), (st, .inr (6, [.ref d, .ref sh, .ref vw, .ref ta, .ref sa, .int 0])), (d, .inl (κ 0, 6, .inl dg__11)), (sh, .inl (κ 4, 3, .inr (.inr (.inr (.inr gs__12))))), (vw, .inl (κ 5, 3, .inr (.inr (.inr (.inr gv__13))))), (st2, .inr (6, [.ref d2, .ref sh2, .ref vw2, .ref ta2, .ref sa2, .int (nI n2)])), (sh2, .inl (κ 4, 3, .inr (.inr (.inr (.inr fs2))))), (vw2, .inl (κ 5, 3, .inr (.inr (.inr (.inr fv2))))), (d2, .inl (κ 0, 6, .inl dl2))]) hD [0, 1, 2, 3, 4, 5, 8, 6, 7] (by decide) rfl
      replace hp_15 : Tb κ im gs__12 gv__13 3 := hp_15
      have h_16 := hp_15
      clear hp_15
      refine W.eq (g2 := F0 m 41 ls []) rfl ?_
      refine lv_aload_n hx hb dX11_image_41 rfl (lv_at hl 0 rfl) ?_
      refine va_get (D := D) (ci := 11) (v := .int 1) (C := RX11) (T := TX11) (N := 7) hx hb hts inlX11 hown hK hP 0 rfl rfl 6 (by decide) (hts _ mw_34) (fun _ h9 => h9) rfl dX11_image_42 ?_
      exact et_iret hx hb hr hlk rfl hS (1, 1, 0, n2, dg__11, dl2, gs__12, gv__13, fs2, fv2) rfl ⟨(show 0 ≤ 6 from (by first | assumption | omega | rfl | exact Or.inl (by assumption) | exact Or.inr (by assumption))), (show n2 ≤ 6 from (by first | assumption | omega | rfl | exact Or.inl (by assumption) | exact Or.inr (by assumption))), (show Tb κ im gs__12 gv__13 3 from h_16), (show Tb κ im fs2 fv2 3 from htb2), (by exact Or.inl (⟨rfl, (show (1 : Int32) = 1 from (by first | assumption | omega | rfl | exact Or.inl (by assumption) | exact Or.inr (by assumption))), (show za ≠ 0 ∨ 1 ≠ 0 from (by first | exact Or.inl c_9 | exact Or.inr (by decide)))⟩))⟩ (subP hP [0, 1, 2, 3, 4, 5, 6, 7, 8] rfl) (subD hD [0, 1, 2, 3, 4, 5, 6, 7, 8] (by decide) rfl) (Nat.le_of_ble_eq_true rfl) (Nat.le_of_ble_eq_true rfl) dX11_image_45
    · refine lv_aload_n hx hb dX11_image_4 rfl (lv_at hl 0 rfl) ?_
      refine va_get (D := D) (ci := 11) (v := .ref st2) (C := RX11) (T := TX11) (N := 7) hx hb hts inlX11 hown hK hP 0 rfl rfl 5 (by decide) (hts _ mw_33) (fun _ h9 => h9) rfl dX11_image_5 ?_
      refine lv_aload_n hx hb dX11_image_8 rfl (lv_at hl 0 rfl) ?_
      refine va_get (D := D) (ci := 11) (v := .ref st) (C := RX11) (T := TX11) (N := 7) hx hb hts inlX11 hown hK hP 0 rfl rfl 0 (by decide) (hts _ mw_15) (fun _ h9 => h9) rfl dX11_image_9 ?_
      refine et_VT (CR := [(xx, .inr (11, [.ref st, .ref tp, .ref ft, .ref rd, .ref wr, .ref st2, .int 1]))]) (As := [.ref st]) (rest := []) hFX hKK hE hP hD hS hA (c_X6_copyFrom l D κ κq im st2 d2 sh2 vw2 ta2 sa2 n2 dl2 fs2 fv2 st d sh vw ta sa n fs fv dl htb) 1 gV_X11_356 hdV_X6_copyFrom ⟨Nat.le_of_ble_eq_true rfl, Nat.le_of_ble_eq_true rfl⟩ rfl rfl (Nat.le_of_ble_eq_true rfl) dX11_image_12 ⟨Nat.le_of_ble_eq_true rfl, Nat.le_of_ble_eq_true rfl⟩ hl.1 [5, 6, 7, 8, 1, 3, 4, 2] [0] rfl rfl (by decide) (by decide) (by decide) hP 5 6 rfl rfl rfl (fun u_20 H locs hp_21 hP hD hS => ?_)
      refine W.widen (k := 0) (n := 0) (Nat.le_refl _) (Nat.le_refl _) ?_
      obtain ⟨dg__17, gs__18, gv__19⟩ := u_20
      replace hP : va_P D vwCl ([(xx, .inr (11, [.ref st, .ref tp, .ref ft, .ref rd, .ref wr, .ref st2, .int 1])), (st, .inr (6, [.ref d, .ref sh, .ref vw, .ref ta, .ref sa, .int (nI n)])), (d, .inl (κ 0, 6, .inl dl)), (sh, .inl (κ 4, 3, .inr (.inr (.inr (.inr fs))))), (vw, .inl (κ 5, 3, .inr (.inr (.inr (.inr fv))))), (st2, .inr (6, [.ref d2, .ref sh2, .ref vw2, .ref ta2, .ref sa2, .int 0])), (d2, .inl (κ 0, 6, .inl dg__17)), (sh2, .inl (κ 4, 3, .inr (.inr (.inr (.inr gs__18))))), (vw2, .inl (κ 5, 3, .inr (.inr (.inr (.inr gv__19)))))] ++ im) H := subP (C := [(xx, .inr (11, [.ref st, .ref tp, .ref ft, .ref rd, .ref wr, .ref st2, .int 1])), (st2, .inr (6, [.ref d2, .ref sh2, .ref vw2, .ref ta2, .ref sa2, .int 0])), (d2, .inl (κ 0, 6, .inl dg__17)), (sh2, .inl (κ 4, 3, .inr (.inr (.inr (.inr gs__18))))), (vw2, .inl (κ 5, 3, .inr (.inr (.inr (.inr gv__19))))), (st, .inr (6, [.ref d, .ref sh, .ref vw, .ref ta, .ref sa, .int (nI n)])), (sh, .inl (κ 4, 3, .inr (.inr (.inr (.inr fs))))), (vw, .inl (κ 5, 3, .inr (.inr (.inr (.inr fv))))), (d, .inl (κ 0, 6, .inl dl))]) hP [0, 5, 8, 6, 7, 1, 2, 3, 4] rfl
      replace hD : va_D A ([(xx, .inr (11, [.ref st, .ref tp, .ref ft, .ref rd, .ref wr, .ref st2, .int 1])), (st, .inr (6, [.ref d, .ref sh, .ref vw, .ref ta, .ref sa, .int (nI n)])), (d, .inl (κ 0, 6, .inl dl)), (sh, .inl (κ 4, 3, .inr (.inr (.inr (.inr fs))))), (vw, .inl (κ 5, 3, .inr (.inr (.inr (.inr fv))))), (st2, .inr (6, [.ref d2, .ref sh2, .ref vw2, .ref ta2, .ref sa2, .int 0])), (d2, .inl (κ 0, 6, .inl dg__17)), (sh2, .inl (κ 4, 3, .inr (.inr (.inr (.inr gs__18))))), (vw2, .inl (κ 5, 3, .inr (.inr (.inr (.inr gv__19)))))] ++ im) := subD (C := [(xx, .inr (11, [.ref st, .ref tp, .ref ft, .ref rd, .ref wr, .ref st2, .int 1])), (st2, .inr (6, [.ref d2, .ref sh2, .ref vw2, .ref ta2, .ref sa2, .int 0])), (d2, .inl (κ 0, 6, .inl dg__17)), (sh2, .inl (κ 4, 3, .inr (.inr (.inr (.inr gs__18))))), (vw2, .inl (κ 5, 3, .inr (.inr (.inr (.inr gv__19))))), (st, .inr (6, [.ref d, .ref sh, .ref vw, .ref ta, .ref sa, .int (nI n)])), (sh, .inl (κ 4, 3, .inr (.inr (.inr (.inr fs))))), (vw, .inl (κ 5, 3, .inr (.inr (.inr (.inr fv))))), (d, .inl (κ 0, 6, .inl dl))]) hD [0, 5, 8, 6, 7, 1, 2, 3, 4] (by decide) rfl
      replace hp_21 : Tb κ im gs__18 gv__19 3 := hp_21
      have h_22 := hp_21
      clear hp_21
      refine W.eq (g2 := F0 m 15 ls []) rfl ?_
      refine lv_aload_n hx hb dX11_image_15 rfl (lv_at hl 0 rfl) ?_
      refine lv_iconst (v := 1) hx hb dX11_image_16 (by decide) ?_
      refine va_put (D := D) (ci := 11) (v := .int 1) (ty := tyX11 6) (C := RX11) (T := TX11) (N := 7) hx hb hts inlX11 tyX11 tyX11_ok nmX11 hown hK hP hD hS 0 rfl rfl 6 (by decide) (hts _ mw_34) (fun _ h9 => h9) rfl (tyX11_ok 6 (by decide)) rfl rfl (Nat.le_of_ble_eq_true rfl) dX11_image_17 (fun H locs hP hD hS => ?_)
      have hP : va_P D vwCl ([(xx, .inr (11, [.ref st, .ref tp, .ref ft, .ref rd, .ref wr, .ref st2, .int 1])), (st, .inr (6, [.ref d, .ref sh, .ref vw, .ref ta, .ref sa, .int (nI n)])), (d, .inl (κ 0, 6, .inl dl)), (sh, .inl (κ 4, 3, .inr (.inr (.inr (.inr fs))))), (vw, .inl (κ 5, 3, .inr (.inr (.inr (.inr fv))))), (st2, .inr (6, [.ref d2, .ref sh2, .ref vw2, .ref ta2, .ref sa2, .int 0])), (d2, .inl (κ 0, 6, .inl dg__17)), (sh2, .inl (κ 4, 3, .inr (.inr (.inr (.inr gs__18))))), (vw2, .inl (κ 5, 3, .inr (.inr (.inr (.inr gv__19)))))] ++ im) H := hP
      have hD : va_D A ([(xx, .inr (11, [.ref st, .ref tp, .ref ft, .ref rd, .ref wr, .ref st2, .int 1])), (st, .inr (6, [.ref d, .ref sh, .ref vw, .ref ta, .ref sa, .int (nI n)])), (d, .inl (κ 0, 6, .inl dl)), (sh, .inl (κ 4, 3, .inr (.inr (.inr (.inr fs))))), (vw, .inl (κ 5, 3, .inr (.inr (.inr (.inr fv))))), (st2, .inr (6, [.ref d2, .ref sh2, .ref vw2, .ref ta2, .ref sa2, .int 0])), (d2, .inl (κ 0, 6, .inl dg__17)), (sh2, .inl (κ 4, 3, .inr (.inr (.inr (.inr gs__18))))), (vw2, .inl (κ 5, 3, .inr (.inr (.inr (.inr gv__19)))))] ++ im) := hD
      refine lv_goto (tgt := 41) hx hb dX11_image_20 (by decide) ?_
      refine lv_aload_n hx hb dX11_image_41 rfl (lv_at hl 0 rfl) ?_
      refine va_get (D := D) (ci := 11) (v := .int 1) (C := RX11) (T := TX11) (N := 7) hx hb hts inlX11 hown hK hP 0 rfl rfl 6 (by decide) (hts _ mw_34) (fun _ h9 => h9) rfl dX11_image_42 ?_
      exact et_iret hx hb hr hlk rfl hS (1, 1, n, 0, dl, dg__17, fs, fv, gs__18, gv__19) rfl ⟨(show n ≤ 6 from (by first | assumption | omega | rfl | exact Or.inl (by assumption) | exact Or.inr (by assumption))), (show 0 ≤ 6 from (by first | assumption | omega | rfl | exact Or.inl (by assumption) | exact Or.inr (by assumption))), (show Tb κ im fs fv 3 from htb), (show Tb κ im gs__18 gv__19 3 from h_22), (by exact Or.inl (⟨rfl, (show (1 : Int32) = 1 from (by first | assumption | omega | rfl | exact Or.inl (by assumption) | exact Or.inr (by assumption))), (show za ≠ 0 ∨ 1 ≠ 0 from (by first | exact Or.inl c_9 | exact Or.inr (by decide)))⟩))⟩ (subP hP [0, 1, 2, 3, 4, 5, 6, 7, 8] rfl) (subD hD [0, 1, 2, 3, 4, 5, 6, 7, 8] (by decide) rfl) (Nat.le_of_ble_eq_true rfl) (Nat.le_of_ble_eq_true rfl) dX11_image_45
