theorem lim_fun {p B B2 : Nat} (h : lim p B) (h2 : lim p B2) : B = B2 := by
  obtain ⟨t, ht, h⟩ := h
  obtain ⟨t2, ht2, h2⟩ := h2
  rcases h with h | h | h | ⟨c, h⟩ | ⟨c, h⟩ | ⟨c, h⟩ | ⟨c, h⟩ | ⟨c, h⟩ <;> rcases h2 with h2 | h2 | h2 | ⟨d, h2⟩ | ⟨d, h2⟩ | ⟨d, h2⟩ | ⟨d, h2⟩ | ⟨d, h2⟩ <;> omega
theorem Pw_upd {w : Nat → Int32} {p B : Nat} {v : Int32} (hw : Pw w) (hl : lim p B) (hv : ∃ n9 : Nat, n9 ≤ B ∧ v = nI n9) : Pw (upd w p v) := by
  intro p2 B2 h2
  unfold upd
  by_cases e : p2 = p
  · subst e
    obtain rfl := lim_fun hl h2
    simpa using hv
  · simpa [e] using hw p2 B2 h2
/-- the fields that are laid have at most twenty bytes -/
def Pfd (f : Nat → Int32) : Prop := ∀ c : Nat, c < 9 → ∃ n9 : Nat, n9 ≤ 20 ∧ f (21 * c) = nI n9
theorem pfd {f : Nat → Int32} {p c : Nat} (h : Pfd f) (hc : c < 9) (hp : p = 21 * c) : ∃ n9 : Nat, n9 ≤ 20 ∧ f p = nI n9 := by
  subst hp
  exact h c hc
theorem Pfd_upd {f : Nat → Int32} {p c : Nat} {v : Int32} (h : Pfd f) (hp : p = 21 * c) (hv : ∃ n9 : Nat, n9 ≤ 20 ∧ v = nI n9) : Pfd (upd f p v) := by
  intro d hd
  unfold upd
  by_cases e : 21 * d = p
  · simpa [e] using hv
  · simpa [e] using h d hd
theorem Pfd_free {f : Nat → Int32} {p : Nat} {v : Int32} (h : Pfd f) (hp : ∀ c : Nat, c < 9 → 21 * c ≠ p) : Pfd (upd f p v) := by
  intro d hd
  unfold upd
  simpa [hp d hd] using h d hd
/-- a fault's place -/
def PF (x : Int32) : Prop := x.toInt ≤ 800
theorem PF_n {n : Nat} (h : n ≤ 800) : PF (nI n) := by
  unfold PF
  rw [nI_toInt (by omega)]
  omega
def Pq (f : Nat → Int32) : Prop := ∀ c : Nat, c < 9 → ∃ n9 : Nat, n9 ≤ 800 ∧ f c = nI n9
theorem Pq_upd {f : Nat → Int32} {p : Nat} {v : Int32} (h : Pq f) (hv : ∃ n9 : Nat, n9 ≤ 800 ∧ v = nI n9) : Pq (upd f p v) := by
  intro d hd
  unfold upd
  by_cases e : d = p
  · simpa [e] using hv
  · simpa [e] using h d hd
theorem Pw_free {w : Nat → Int32} {p : Nat} {v : Int32} (hw : Pw w) (hl : ∀ B, ¬ lim p B) : Pw (upd w p v) := by
  intro p2 B2 h2
  unfold upd
  by_cases e : p2 = p
  · subst e
    exact absurd h2 (hl B2)
  · simpa [e] using hw p2 B2 h2
theorem mw_540 : Cond.code yX12_viewsOff cX12_viewsOff 3 none ∈ wsL_law := List.mem_of_getElem? (i := 540) (by decide +kernel)
theorem dX12_viewsOff_0 : decode cX12_viewsOff 0 = .ok (.aload_n 0, 1) := by decide +kernel
theorem dX12_viewsOff_1 : decode cX12_viewsOff 1 = .ok (.getfield 9, 3) := by decide +kernel
theorem dX12_viewsOff_4 : decode cX12_viewsOff 4 = .ok (.iload_n 1, 1) := by decide +kernel
theorem dX12_viewsOff_5 : decode cX12_viewsOff 5 = .ok (.iconst 3, 1) := by decide +kernel
theorem dX12_viewsOff_6 : decode cX12_viewsOff 6 = .ok (.invokestatic 66, 3) := by decide +kernel
theorem dX12_viewsOff_9 : decode cX12_viewsOff 9 = .ok (.iconst 0, 1) := by decide +kernel
theorem dX12_viewsOff_10 : decode cX12_viewsOff 10 = .ok (.iastore, 1) := by decide +kernel
theorem dX12_viewsOff_11 : decode cX12_viewsOff 11 = .ok (.aload_n 0, 1) := by decide +kernel
theorem dX12_viewsOff_12 : decode cX12_viewsOff 12 = .ok (.getfield 9, 3) := by decide +kernel
theorem dX12_viewsOff_15 : decode cX12_viewsOff 15 = .ok (.iload_n 1, 1) := by decide +kernel
theorem dX12_viewsOff_16 : decode cX12_viewsOff 16 = .ok (.bipush 116, 2) := by decide +kernel
theorem dX12_viewsOff_18 : decode cX12_viewsOff 18 = .ok (.invokestatic 66, 3) := by decide +kernel
theorem dX12_viewsOff_21 : decode cX12_viewsOff 21 = .ok (.aload_n 0, 1) := by decide +kernel
theorem dX12_viewsOff_22 : decode cX12_viewsOff 22 = .ok (.getfield 9, 3) := by decide +kernel
theorem dX12_viewsOff_25 : decode cX12_viewsOff 25 = .ok (.iload_n 1, 1) := by decide +kernel
theorem dX12_viewsOff_26 : decode cX12_viewsOff 26 = .ok (.iconst 2, 1) := by decide +kernel
theorem dX12_viewsOff_27 : decode cX12_viewsOff 27 = .ok (.invokestatic 66, 3) := by decide +kernel
theorem dX12_viewsOff_30 : decode cX12_viewsOff 30 = .ok (.iaload, 1) := by decide +kernel
theorem dX12_viewsOff_31 : decode cX12_viewsOff 31 = .ok (.iastore, 1) := by decide +kernel
theorem dX12_viewsOff_32 : decode cX12_viewsOff 32 = .ok (.iconst 0, 1) := by decide +kernel
theorem dX12_viewsOff_33 : decode cX12_viewsOff 33 = .ok (.istore_n 2, 1) := by decide +kernel
theorem dX12_viewsOff_34 : decode cX12_viewsOff 34 = .ok (.iload_n 2, 1) := by decide +kernel
theorem dX12_viewsOff_35 : decode cX12_viewsOff 35 = .ok (.bipush 40, 2) := by decide +kernel
theorem dX12_viewsOff_37 : decode cX12_viewsOff 37 = .ok (.if_icmp .ge 23, 3) := by decide +kernel
theorem dX12_viewsOff_60 : decode cX12_viewsOff 60 = .ok (.return_, 1) := by decide +kernel
theorem dX12_viewsOff_40 : decode cX12_viewsOff 40 = .ok (.aload_n 0, 1) := by decide +kernel
theorem dX12_viewsOff_41 : decode cX12_viewsOff 41 = .ok (.getfield 9, 3) := by decide +kernel
theorem dX12_viewsOff_44 : decode cX12_viewsOff 44 = .ok (.iload_n 1, 1) := by decide +kernel
theorem dX12_viewsOff_45 : decode cX12_viewsOff 45 = .ok (.bipush 123, 2) := by decide +kernel
theorem dX12_viewsOff_47 : decode cX12_viewsOff 47 = .ok (.invokestatic 66, 3) := by decide +kernel
theorem dX12_viewsOff_50 : decode cX12_viewsOff 50 = .ok (.iload_n 2, 1) := by decide +kernel
theorem dX12_viewsOff_51 : decode cX12_viewsOff 51 = .ok (.iadd, 1) := by decide +kernel
theorem dX12_viewsOff_52 : decode cX12_viewsOff 52 = .ok (.iload_n 2, 1) := by decide +kernel
theorem dX12_viewsOff_53 : decode cX12_viewsOff 53 = .ok (.iastore, 1) := by decide +kernel
theorem dX12_viewsOff_54 : decode cX12_viewsOff 54 = .ok (.iinc 2 1, 3) := by decide +kernel
theorem dX12_viewsOff_57 : decode cX12_viewsOff 57 = .ok (.goto (-23), 3) := by decide +kernel
theorem mw_435 : Cond.code yX12_canBe cX12_canBe 3 (some .boolean) ∈ wsL_law := List.mem_of_getElem? (i := 435) (by decide +kernel)
theorem dX12_canBe_0 : decode cX12_canBe 0 = .ok (.iload_n 1, 1) := by decide +kernel
theorem dX12_canBe_1 : decode cX12_canBe 1 = .ok (.bipush 9, 2) := by decide +kernel
theorem dX12_canBe_3 : decode cX12_canBe 3 = .ok (.if_icmp .ne 26, 3) := by decide +kernel
theorem dX12_canBe_29 : decode cX12_canBe 29 = .ok (.iload_n 1, 1) := by decide +kernel
theorem dX12_canBe_30 : decode cX12_canBe 30 = .ok (.i2l, 1) := by decide +kernel
theorem dX12_canBe_31 : decode cX12_canBe 31 = .ok (.ldc2_w 202, 3) := by decide +kernel
theorem mw_436 : Cond.constantLong RX12 202 (32) ∈ wsL_law := List.mem_of_getElem? (i := 436) (by decide +kernel)
theorem dX12_canBe_34 : decode cX12_canBe 34 = .ok (.ldc2_w 204, 3) := by decide +kernel
theorem mw_437 : Cond.constantLong RX12 204 (126) ∈ wsL_law := List.mem_of_getElem? (i := 437) (by decide +kernel)
theorem dX12_canBe_37 : decode cX12_canBe 37 = .ok (.invokestatic 62, 3) := by decide +kernel
theorem dX12_canBe_40 : decode cX12_canBe 40 = .ok (.ifCond .ne 9, 3) := by decide +kernel
theorem dX12_canBe_49 : decode cX12_canBe 49 = .ok (.iconst 1, 1) := by decide +kernel
theorem dX12_canBe_50 : decode cX12_canBe 50 = .ok (.goto 4, 3) := by decide +kernel
theorem dX12_canBe_54 : decode cX12_canBe 54 = .ok (.ireturn, 1) := by decide +kernel
theorem dX12_canBe_43 : decode cX12_canBe 43 = .ok (.iload_n 1, 1) := by decide +kernel
theorem dX12_canBe_44 : decode cX12_canBe 44 = .ok (.bipush 10, 2) := by decide +kernel
theorem dX12_canBe_46 : decode cX12_canBe 46 = .ok (.if_icmp .ne 7, 3) := by decide +kernel
theorem dX12_canBe_53 : decode cX12_canBe 53 = .ok (.iconst 0, 1) := by decide +kernel
theorem dX12_canBe_6 : decode cX12_canBe 6 = .ok (.iload_n 2, 1) := by decide +kernel
theorem dX12_canBe_7 : decode cX12_canBe 7 = .ok (.ifCond .ne 20, 3) := by decide +kernel
theorem dX12_canBe_27 : decode cX12_canBe 27 = .ok (.iconst 0, 1) := by decide +kernel
theorem dX12_canBe_28 : decode cX12_canBe 28 = .ok (.ireturn, 1) := by decide +kernel
theorem dX12_canBe_10 : decode cX12_canBe 10 = .ok (.aload_n 0, 1) := by decide +kernel
theorem dX12_canBe_11 : decode cX12_canBe 11 = .ok (.getfield 9, 3) := by decide +kernel
theorem dX12_canBe_14 : decode cX12_canBe 14 = .ok (.sipush 21369, 3) := by decide +kernel
theorem dX12_canBe_17 : decode cX12_canBe 17 = .ok (.iaload, 1) := by decide +kernel
theorem dX12_canBe_18 : decode cX12_canBe 18 = .ok (.bipush 9, 2) := by decide +kernel
theorem dX12_canBe_20 : decode cX12_canBe 20 = .ok (.if_icmp .ne 7, 3) := by decide +kernel
theorem dX12_canBe_23 : decode cX12_canBe 23 = .ok (.iconst 1, 1) := by decide +kernel
theorem dX12_canBe_24 : decode cX12_canBe 24 = .ok (.goto 4, 3) := by decide +kernel
theorem mw_467 : Cond.code yX12_isOver cX12_isOver 1 (some .boolean) ∈ wsL_law := List.mem_of_getElem? (i := 467) (by decide +kernel)
theorem dX12_isOver_0 : decode cX12_isOver 0 = .ok (.aload_n 0, 1) := by decide +kernel
theorem dX12_isOver_1 : decode cX12_isOver 1 = .ok (.invokevirtual 198, 3) := by decide +kernel
theorem mw_468 : Cond.methodLink RX12 198 yX12_isEnd ∈ wsL_law := List.mem_of_getElem? (i := 468) (by decide +kernel)
theorem mw_469 : Cond.instanceMethod yX12_isEnd ∈ wsL_law := List.mem_of_getElem? (i := 469) (by decide +kernel)
theorem mw_470 : Cond.selects RX12 yX12_isEnd yX12_isEnd ∈ wsL_law := List.mem_of_getElem? (i := 470) (by decide +kernel)
theorem gV_X12_198 : GoodIn wsL_law (wsV RX12 198 RX12 yX12_isEnd (wl yX12_isEnd cX12_isEnd 1 (some .boolean))) := g_V mw_468 mw_469 mw_470 mw_5 mw_471
theorem hdV_X12_isEnd : yX12_isEnd.cls = RX12 ∧ okD yX12_isEnd 0 := by decide +kernel
theorem dX12_isOver_4 : decode cX12_isOver 4 = .ok (.ifCond .ne 23, 3) := by decide +kernel
theorem dX12_isOver_27 : decode cX12_isOver 27 = .ok (.iconst 1, 1) := by decide +kernel
theorem dX12_isOver_28 : decode cX12_isOver 28 = .ok (.goto 4, 3) := by decide +kernel
theorem dX12_isOver_32 : decode cX12_isOver 32 = .ok (.ireturn, 1) := by decide +kernel
theorem dX12_isOver_7 : decode cX12_isOver 7 = .ok (.aload_n 0, 1) := by decide +kernel
theorem dX12_isOver_8 : decode cX12_isOver 8 = .ok (.getfield 20, 3) := by decide +kernel
theorem dX12_isOver_11 : decode cX12_isOver 11 = .ok (.aload_n 0, 1) := by decide +kernel
theorem dX12_isOver_12 : decode cX12_isOver 12 = .ok (.getfield 195, 3) := by decide +kernel
theorem dX12_isOver_15 : decode cX12_isOver 15 = .ok (.iaload, 1) := by decide +kernel
theorem dX12_isOver_16 : decode cX12_isOver 16 = .ok (.aload_n 0, 1) := by decide +kernel
theorem dX12_isOver_17 : decode cX12_isOver 17 = .ok (.getfield 9, 3) := by decide +kernel
theorem dX12_isOver_20 : decode cX12_isOver 20 = .ok (.sipush 21369, 3) := by decide +kernel
theorem dX12_isOver_23 : decode cX12_isOver 23 = .ok (.iaload, 1) := by decide +kernel
theorem dX12_isOver_24 : decode cX12_isOver 24 = .ok (.if_icmp .ne 7, 3) := by decide +kernel
theorem dX12_isOver_31 : decode cX12_isOver 31 = .ok (.iconst 0, 1) := by decide +kernel
theorem mw_455 : Cond.code yX12_blanks cX12_blanks 1 none ∈ wsL_law := List.mem_of_getElem? (i := 455) (by decide +kernel)
theorem dX12_blanks_0 : decode cX12_blanks 0 = .ok (.aload_n 0, 1) := by decide +kernel
theorem dX12_blanks_1 : decode cX12_blanks 1 = .ok (.getfield 9, 3) := by decide +kernel
theorem dX12_blanks_4 : decode cX12_blanks 4 = .ok (.sipush 21372, 3) := by decide +kernel
theorem dX12_blanks_7 : decode cX12_blanks 7 = .ok (.iaload, 1) := by decide +kernel
theorem dX12_blanks_8 : decode cX12_blanks 8 = .ok (.iconst 1, 1) := by decide +kernel
theorem dX12_blanks_9 : decode cX12_blanks 9 = .ok (.if_icmp .ne 41, 3) := by decide +kernel
theorem dX12_blanks_50 : decode cX12_blanks 50 = .ok (.return_, 1) := by decide +kernel
theorem dX12_blanks_12 : decode cX12_blanks 12 = .ok (.aload_n 0, 1) := by decide +kernel
theorem dX12_blanks_13 : decode cX12_blanks 13 = .ok (.getfield 195, 3) := by decide +kernel
theorem dX12_blanks_16 : decode cX12_blanks 16 = .ok (.aload_n 0, 1) := by decide +kernel
theorem dX12_blanks_17 : decode cX12_blanks 17 = .ok (.getfield 83, 3) := by decide +kernel
theorem dX12_blanks_20 : decode cX12_blanks 20 = .ok (.if_icmp .ge 30, 3) := by decide +kernel
theorem dX12_blanks_23 : decode cX12_blanks 23 = .ok (.aload_n 0, 1) := by decide +kernel
theorem dX12_blanks_24 : decode cX12_blanks 24 = .ok (.getfield 20, 3) := by decide +kernel
theorem dX12_blanks_27 : decode cX12_blanks 27 = .ok (.aload_n 0, 1) := by decide +kernel
theorem dX12_blanks_28 : decode cX12_blanks 28 = .ok (.getfield 195, 3) := by decide +kernel
theorem dX12_blanks_31 : decode cX12_blanks 31 = .ok (.iaload, 1) := by decide +kernel
theorem dX12_blanks_32 : decode cX12_blanks 32 = .ok (.bipush 32, 2) := by decide +kernel
theorem dX12_blanks_34 : decode cX12_blanks 34 = .ok (.if_icmp .ne 16, 3) := by decide +kernel
theorem dX12_blanks_37 : decode cX12_blanks 37 = .ok (.aload_n 0, 1) := by decide +kernel
theorem dX12_blanks_38 : decode cX12_blanks 38 = .ok (.dup, 1) := by decide +kernel
theorem dX12_blanks_39 : decode cX12_blanks 39 = .ok (.getfield 195, 3) := by decide +kernel
theorem dX12_blanks_42 : decode cX12_blanks 42 = .ok (.iconst 1, 1) := by decide +kernel
theorem dX12_blanks_43 : decode cX12_blanks 43 = .ok (.iadd, 1) := by decide +kernel
theorem dX12_blanks_44 : decode cX12_blanks 44 = .ok (.putfield 195, 3) := by decide +kernel
theorem dX12_blanks_47 : decode cX12_blanks 47 = .ok (.goto (-47), 3) := by decide +kernel
theorem mw_441 : Cond.code yX12_wrong cX12_wrong 4 (some .boolean) ∈ wsL_law := List.mem_of_getElem? (i := 441) (by decide +kernel)
theorem dX12_wrong_0 : decode cX12_wrong 0 = .ok (.aload_n 0, 1) := by decide +kernel
theorem dX12_wrong_1 : decode cX12_wrong 1 = .ok (.iload_n 1, 1) := by decide +kernel
theorem dX12_wrong_2 : decode cX12_wrong 2 = .ok (.putfield 192, 3) := by decide +kernel
theorem mw_418 : Cond.fieldLink RX12 192 "TypedTablesModel" "faultKind" "I" ∈ wsL_law := List.mem_of_getElem? (i := 418) (by decide +kernel)
theorem dX12_wrong_5 : decode cX12_wrong 5 = .ok (.aload_n 0, 1) := by decide +kernel
theorem dX12_wrong_6 : decode cX12_wrong 6 = .ok (.iload_n 2, 1) := by decide +kernel
theorem dX12_wrong_7 : decode cX12_wrong 7 = .ok (.putfield 23, 3) := by decide +kernel
theorem mw_192 : Cond.fieldLink RX12 23 "TypedTablesModel" "faultPlace" "I" ∈ wsL_law := List.mem_of_getElem? (i := 192) (by decide +kernel)
theorem dX12_wrong_10 : decode cX12_wrong 10 = .ok (.aload_n 0, 1) := by decide +kernel
theorem dX12_wrong_11 : decode cX12_wrong 11 = .ok (.iload_n 3, 1) := by decide +kernel
theorem dX12_wrong_12 : decode cX12_wrong 12 = .ok (.putfield 27, 3) := by decide +kernel
theorem mw_193 : Cond.fieldLink RX12 27 "TypedTablesModel" "faultCause" "I" ∈ wsL_law := List.mem_of_getElem? (i := 193) (by decide +kernel)
theorem dX12_wrong_15 : decode cX12_wrong 15 = .ok (.iconst 0, 1) := by decide +kernel
theorem dX12_wrong_16 : decode cX12_wrong 16 = .ok (.ireturn, 1) := by decide +kernel
theorem mw_521 : Cond.code yX12_goesOn cX12_goesOn 1 none ∈ wsL_law := List.mem_of_getElem? (i := 521) (by decide +kernel)
theorem dX12_goesOn_0 : decode cX12_goesOn 0 = .ok (.aload_n 0, 1) := by decide +kernel
theorem dX12_goesOn_1 : decode cX12_goesOn 1 = .ok (.getfield 195, 3) := by decide +kernel
theorem dX12_goesOn_4 : decode cX12_goesOn 4 = .ok (.aload_n 0, 1) := by decide +kernel
theorem dX12_goesOn_5 : decode cX12_goesOn 5 = .ok (.getfield 83, 3) := by decide +kernel
theorem dX12_goesOn_8 : decode cX12_goesOn 8 = .ok (.if_icmp .ge 13, 3) := by decide +kernel
theorem dX12_goesOn_21 : decode cX12_goesOn 21 = .ok (.return_, 1) := by decide +kernel
theorem dX12_goesOn_11 : decode cX12_goesOn 11 = .ok (.aload_n 0, 1) := by decide +kernel
theorem dX12_goesOn_12 : decode cX12_goesOn 12 = .ok (.dup, 1) := by decide +kernel
theorem dX12_goesOn_13 : decode cX12_goesOn 13 = .ok (.getfield 195, 3) := by decide +kernel
theorem dX12_goesOn_16 : decode cX12_goesOn 16 = .ok (.iconst 1, 1) := by decide +kernel
theorem dX12_goesOn_17 : decode cX12_goesOn 17 = .ok (.iadd, 1) := by decide +kernel
theorem dX12_goesOn_18 : decode cX12_goesOn 18 = .ok (.putfield 195, 3) := by decide +kernel
theorem mw_463 : Cond.code yX12_adds cX12_adds 4 (some .boolean) ∈ wsL_law := List.mem_of_getElem? (i := 463) (by decide +kernel)
theorem dX12_adds_0 : decode cX12_adds 0 = .ok (.bipush 21, 2) := by decide +kernel
theorem dX12_adds_2 : decode cX12_adds 2 = .ok (.iload_n 1, 1) := by decide +kernel
theorem dX12_adds_3 : decode cX12_adds 3 = .ok (.imul, 1) := by decide +kernel
theorem dX12_adds_4 : decode cX12_adds 4 = .ok (.istore_n 3, 1) := by decide +kernel
theorem dX12_adds_5 : decode cX12_adds 5 = .ok (.aload_n 0, 1) := by decide +kernel
theorem dX12_adds_6 : decode cX12_adds 6 = .ok (.getfield 30, 3) := by decide +kernel
theorem mw_194 : Cond.fieldLink RX12 30 "TypedTablesModel" "field" "[I" ∈ wsL_law := List.mem_of_getElem? (i := 194) (by decide +kernel)
theorem dX12_adds_9 : decode cX12_adds 9 = .ok (.iload_n 3, 1) := by decide +kernel
theorem dX12_adds_10 : decode cX12_adds 10 = .ok (.iaload, 1) := by decide +kernel
theorem dX12_adds_11 : decode cX12_adds 11 = .ok (.bipush 20, 2) := by decide +kernel
theorem dX12_adds_13 : decode cX12_adds 13 = .ok (.if_icmp .ne 5, 3) := by decide +kernel
theorem dX12_adds_18 : decode cX12_adds 18 = .ok (.aload_n 0, 1) := by decide +kernel
theorem dX12_adds_19 : decode cX12_adds 19 = .ok (.getfield 30, 3) := by decide +kernel
theorem dX12_adds_22 : decode cX12_adds 22 = .ok (.iload_n 3, 1) := by decide +kernel
theorem dX12_adds_23 : decode cX12_adds 23 = .ok (.iconst 1, 1) := by decide +kernel
theorem dX12_adds_24 : decode cX12_adds 24 = .ok (.iadd, 1) := by decide +kernel
theorem dX12_adds_25 : decode cX12_adds 25 = .ok (.aload_n 0, 1) := by decide +kernel
theorem dX12_adds_26 : decode cX12_adds 26 = .ok (.getfield 30, 3) := by decide +kernel
theorem dX12_adds_29 : decode cX12_adds 29 = .ok (.iload_n 3, 1) := by decide +kernel
theorem dX12_adds_30 : decode cX12_adds 30 = .ok (.iaload, 1) := by decide +kernel
theorem dX12_adds_31 : decode cX12_adds 31 = .ok (.iadd, 1) := by decide +kernel
theorem dX12_adds_32 : decode cX12_adds 32 = .ok (.iload_n 2, 1) := by decide +kernel
theorem dX12_adds_33 : decode cX12_adds 33 = .ok (.iastore, 1) := by decide +kernel
theorem dX12_adds_34 : decode cX12_adds 34 = .ok (.aload_n 0, 1) := by decide +kernel
theorem dX12_adds_35 : decode cX12_adds 35 = .ok (.getfield 30, 3) := by decide +kernel
theorem dX12_adds_38 : decode cX12_adds 38 = .ok (.iload_n 3, 1) := by decide +kernel
theorem dX12_adds_39 : decode cX12_adds 39 = .ok (.dup2, 1) := by decide +kernel
theorem dX12_adds_40 : decode cX12_adds 40 = .ok (.iaload, 1) := by decide +kernel
theorem dX12_adds_41 : decode cX12_adds 41 = .ok (.iconst 1, 1) := by decide +kernel
theorem dX12_adds_42 : decode cX12_adds 42 = .ok (.iadd, 1) := by decide +kernel
theorem dX12_adds_43 : decode cX12_adds 43 = .ok (.iastore, 1) := by decide +kernel
theorem dX12_adds_44 : decode cX12_adds 44 = .ok (.iconst 1, 1) := by decide +kernel
theorem dX12_adds_45 : decode cX12_adds 45 = .ok (.ireturn, 1) := by decide +kernel
theorem dX12_adds_16 : decode cX12_adds 16 = .ok (.iconst 0, 1) := by decide +kernel
theorem dX12_adds_17 : decode cX12_adds 17 = .ok (.ireturn, 1) := by decide +kernel
theorem mw_427 : Cond.code yX12_passes cX12_passes 2 (some .boolean) ∈ wsL_law := List.mem_of_getElem? (i := 427) (by decide +kernel)
theorem dX12_passes_0 : decode cX12_passes 0 = .ok (.aload_n 0, 1) := by decide +kernel
theorem dX12_passes_1 : decode cX12_passes 1 = .ok (.getfield 195, 3) := by decide +kernel
theorem dX12_passes_4 : decode cX12_passes 4 = .ok (.aload_n 0, 1) := by decide +kernel
theorem dX12_passes_5 : decode cX12_passes 5 = .ok (.getfield 83, 3) := by decide +kernel
theorem dX12_passes_8 : decode cX12_passes 8 = .ok (.if_icmp .ge 122, 3) := by decide +kernel
theorem dX12_passes_130 : decode cX12_passes 130 = .ok (.iconst 0, 1) := by decide +kernel
theorem dX12_passes_131 : decode cX12_passes 131 = .ok (.ireturn, 1) := by decide +kernel
theorem dX12_passes_11 : decode cX12_passes 11 = .ok (.aload_n 0, 1) := by decide +kernel
theorem dX12_passes_12 : decode cX12_passes 12 = .ok (.getfield 20, 3) := by decide +kernel
theorem dX12_passes_15 : decode cX12_passes 15 = .ok (.aload_n 0, 1) := by decide +kernel
theorem dX12_passes_16 : decode cX12_passes 16 = .ok (.getfield 195, 3) := by decide +kernel
theorem dX12_passes_19 : decode cX12_passes 19 = .ok (.iaload, 1) := by decide +kernel
theorem dX12_passes_20 : decode cX12_passes 20 = .ok (.bipush 10, 2) := by decide +kernel
theorem dX12_passes_22 : decode cX12_passes 22 = .ok (.if_icmp .eq 34, 3) := by decide +kernel
theorem dX12_passes_56 : decode cX12_passes 56 = .ok (.iconst 1, 1) := by decide +kernel
theorem dX12_passes_57 : decode cX12_passes 57 = .ok (.goto 4, 3) := by decide +kernel
theorem dX12_passes_61 : decode cX12_passes 61 = .ok (.istore_n 1, 1) := by decide +kernel
theorem dX12_passes_62 : decode cX12_passes 62 = .ok (.iload_n 1, 1) := by decide +kernel
theorem dX12_passes_63 : decode cX12_passes 63 = .ok (.ifCond .ne 5, 3) := by decide +kernel
theorem dX12_passes_68 : decode cX12_passes 68 = .ok (.aload_n 0, 1) := by decide +kernel
theorem dX12_passes_69 : decode cX12_passes 69 = .ok (.getfield 195, 3) := by decide +kernel
theorem dX12_passes_72 : decode cX12_passes 72 = .ok (.aload_n 0, 1) := by decide +kernel
theorem dX12_passes_73 : decode cX12_passes 73 = .ok (.getfield 83, 3) := by decide +kernel
theorem dX12_passes_76 : decode cX12_passes 76 = .ok (.if_icmp .ge 30, 3) := by decide +kernel
theorem dX12_passes_106 : decode cX12_passes 106 = .ok (.aload_n 0, 1) := by decide +kernel
theorem dX12_passes_107 : decode cX12_passes 107 = .ok (.getfield 195, 3) := by decide +kernel
theorem dX12_passes_110 : decode cX12_passes 110 = .ok (.aload_n 0, 1) := by decide +kernel
theorem dX12_passes_111 : decode cX12_passes 111 = .ok (.getfield 83, 3) := by decide +kernel
theorem dX12_passes_114 : decode cX12_passes 114 = .ok (.if_icmp .ge 13, 3) := by decide +kernel
theorem dX12_passes_127 : decode cX12_passes 127 = .ok (.goto (-127), 3) := by decide +kernel
theorem dX12_passes_79 : decode cX12_passes 79 = .ok (.aload_n 0, 1) := by decide +kernel
theorem dX12_passes_80 : decode cX12_passes 80 = .ok (.getfield 20, 3) := by decide +kernel
theorem dX12_passes_83 : decode cX12_passes 83 = .ok (.aload_n 0, 1) := by decide +kernel
theorem dX12_passes_84 : decode cX12_passes 84 = .ok (.getfield 195, 3) := by decide +kernel
theorem dX12_passes_87 : decode cX12_passes 87 = .ok (.iaload, 1) := by decide +kernel
theorem dX12_passes_88 : decode cX12_passes 88 = .ok (.bipush 10, 2) := by decide +kernel
theorem dX12_passes_90 : decode cX12_passes 90 = .ok (.if_icmp .eq 16, 3) := by decide +kernel
theorem dX12_passes_117 : decode cX12_passes 117 = .ok (.aload_n 0, 1) := by decide +kernel
theorem dX12_passes_118 : decode cX12_passes 118 = .ok (.dup, 1) := by decide +kernel
theorem dX12_passes_119 : decode cX12_passes 119 = .ok (.getfield 195, 3) := by decide +kernel
theorem dX12_passes_122 : decode cX12_passes 122 = .ok (.iconst 1, 1) := by decide +kernel
theorem dX12_passes_123 : decode cX12_passes 123 = .ok (.iadd, 1) := by decide +kernel
theorem dX12_passes_124 : decode cX12_passes 124 = .ok (.putfield 195, 3) := by decide +kernel
theorem dX12_passes_93 : decode cX12_passes 93 = .ok (.aload_n 0, 1) := by decide +kernel
theorem dX12_passes_94 : decode cX12_passes 94 = .ok (.dup, 1) := by decide +kernel
theorem dX12_passes_95 : decode cX12_passes 95 = .ok (.getfield 195, 3) := by decide +kernel
theorem dX12_passes_98 : decode cX12_passes 98 = .ok (.iconst 1, 1) := by decide +kernel
theorem dX12_passes_99 : decode cX12_passes 99 = .ok (.iadd, 1) := by decide +kernel
theorem dX12_passes_100 : decode cX12_passes 100 = .ok (.putfield 195, 3) := by decide +kernel
theorem dX12_passes_103 : decode cX12_passes 103 = .ok (.goto (-35), 3) := by decide +kernel
theorem dX12_passes_25 : decode cX12_passes 25 = .ok (.aload_n 0, 1) := by decide +kernel
theorem dX12_passes_26 : decode cX12_passes 26 = .ok (.getfield 9, 3) := by decide +kernel
theorem dX12_passes_29 : decode cX12_passes 29 = .ok (.sipush 21374, 3) := by decide +kernel
theorem dX12_passes_32 : decode cX12_passes 32 = .ok (.iaload, 1) := by decide +kernel
theorem dX12_passes_33 : decode cX12_passes 33 = .ok (.ifCond .eq 27, 3) := by decide +kernel
theorem dX12_passes_60 : decode cX12_passes 60 = .ok (.iconst 0, 1) := by decide +kernel
theorem dX12_passes_66 : decode cX12_passes 66 = .ok (.iconst 1, 1) := by decide +kernel
theorem dX12_passes_67 : decode cX12_passes 67 = .ok (.ireturn, 1) := by decide +kernel
theorem dX12_passes_36 : decode cX12_passes 36 = .ok (.aload_n 0, 1) := by decide +kernel
theorem dX12_passes_37 : decode cX12_passes 37 = .ok (.getfield 20, 3) := by decide +kernel
theorem dX12_passes_40 : decode cX12_passes 40 = .ok (.aload_n 0, 1) := by decide +kernel
theorem dX12_passes_41 : decode cX12_passes 41 = .ok (.getfield 195, 3) := by decide +kernel
theorem dX12_passes_44 : decode cX12_passes 44 = .ok (.iaload, 1) := by decide +kernel
theorem dX12_passes_45 : decode cX12_passes 45 = .ok (.aload_n 0, 1) := by decide +kernel
theorem dX12_passes_46 : decode cX12_passes 46 = .ok (.getfield 9, 3) := by decide +kernel
theorem dX12_passes_49 : decode cX12_passes 49 = .ok (.sipush 21374, 3) := by decide +kernel
theorem dX12_passes_52 : decode cX12_passes 52 = .ok (.iaload, 1) := by decide +kernel
theorem dX12_passes_53 : decode cX12_passes 53 = .ok (.if_icmp .ne 7, 3) := by decide +kernel
theorem mw_475 : Cond.code yX12_plain cX12_plain 4 (some .boolean) ∈ wsL_law := List.mem_of_getElem? (i := 475) (by decide +kernel)
theorem dX12_plain_0 : decode cX12_plain 0 = .ok (.iconst 0, 1) := by decide +kernel
theorem dX12_plain_1 : decode cX12_plain 1 = .ok (.istore_n 2, 1) := by decide +kernel
theorem dX12_plain_2 : decode cX12_plain 2 = .ok (.aload_n 0, 1) := by decide +kernel
theorem dX12_plain_3 : decode cX12_plain 3 = .ok (.invokevirtual 220, 3) := by decide +kernel
theorem mw_464 : Cond.methodLink RX12 220 yX12_isOver ∈ wsL_law := List.mem_of_getElem? (i := 464) (by decide +kernel)
theorem mw_465 : Cond.instanceMethod yX12_isOver ∈ wsL_law := List.mem_of_getElem? (i := 465) (by decide +kernel)
theorem mw_466 : Cond.selects RX12 yX12_isOver yX12_isOver ∈ wsL_law := List.mem_of_getElem? (i := 466) (by decide +kernel)
theorem gV_X12_220 : GoodIn wsL_law (wsV RX12 220 RX12 yX12_isOver (wl yX12_isOver cX12_isOver 1 (some .boolean))) := g_V mw_464 mw_465 mw_466 mw_5 mw_467
theorem hdV_X12_isOver : yX12_isOver.cls = RX12 ∧ okD yX12_isOver 0 := by decide +kernel
theorem dX12_plain_6 : decode cX12_plain 6 = .ok (.ifCond .ne 144, 3) := by decide +kernel
theorem dX12_plain_150 : decode cX12_plain 150 = .ok (.iconst 1, 1) := by decide +kernel
theorem dX12_plain_151 : decode cX12_plain 151 = .ok (.ireturn, 1) := by decide +kernel
theorem dX12_plain_9 : decode cX12_plain 9 = .ok (.aload_n 0, 1) := by decide +kernel
theorem dX12_plain_10 : decode cX12_plain 10 = .ok (.getfield 20, 3) := by decide +kernel
theorem dX12_plain_13 : decode cX12_plain 13 = .ok (.aload_n 0, 1) := by decide +kernel
theorem dX12_plain_14 : decode cX12_plain 14 = .ok (.getfield 195, 3) := by decide +kernel
theorem dX12_plain_17 : decode cX12_plain 17 = .ok (.iaload, 1) := by decide +kernel
theorem dX12_plain_18 : decode cX12_plain 18 = .ok (.istore_n 3, 1) := by decide +kernel
theorem dX12_plain_19 : decode cX12_plain 19 = .ok (.aload_n 0, 1) := by decide +kernel
theorem dX12_plain_20 : decode cX12_plain 20 = .ok (.iload_n 3, 1) := by decide +kernel
theorem dX12_plain_21 : decode cX12_plain 21 = .ok (.iconst 0, 1) := by decide +kernel
theorem dX12_plain_22 : decode cX12_plain 22 = .ok (.invokevirtual 206, 3) := by decide +kernel
theorem mw_432 : Cond.methodLink RX12 206 yX12_canBe ∈ wsL_law := List.mem_of_getElem? (i := 432) (by decide +kernel)
theorem mw_433 : Cond.instanceMethod yX12_canBe ∈ wsL_law := List.mem_of_getElem? (i := 433) (by decide +kernel)
theorem mw_434 : Cond.selects RX12 yX12_canBe yX12_canBe ∈ wsL_law := List.mem_of_getElem? (i := 434) (by decide +kernel)
theorem gV_X12_206 : GoodIn wsL_law (wsV RX12 206 RX12 yX12_canBe (wl yX12_canBe cX12_canBe 3 (some .boolean))) := g_V mw_432 mw_433 mw_434 mw_5 mw_435
theorem hdV_X12_canBe : yX12_canBe.cls = RX12 ∧ okD yX12_canBe 2 := by decide +kernel
theorem dX12_plain_25 : decode cX12_plain 25 = .ok (.ifCond .ne 14, 3) := by decide +kernel
theorem dX12_plain_39 : decode cX12_plain 39 = .ok (.iload_n 3, 1) := by decide +kernel
theorem dX12_plain_40 : decode cX12_plain 40 = .ok (.aload_n 0, 1) := by decide +kernel
theorem dX12_plain_41 : decode cX12_plain 41 = .ok (.getfield 9, 3) := by decide +kernel
theorem dX12_plain_44 : decode cX12_plain 44 = .ok (.sipush 21370, 3) := by decide +kernel
theorem dX12_plain_47 : decode cX12_plain 47 = .ok (.iaload, 1) := by decide +kernel
theorem dX12_plain_48 : decode cX12_plain 48 = .ok (.if_icmp .ne 14, 3) := by decide +kernel
theorem dX12_plain_62 : decode cX12_plain 62 = .ok (.aload_n 0, 1) := by decide +kernel
theorem dX12_plain_63 : decode cX12_plain 63 = .ok (.getfield 9, 3) := by decide +kernel
theorem dX12_plain_66 : decode cX12_plain 66 = .ok (.sipush 21372, 3) := by decide +kernel
theorem dX12_plain_69 : decode cX12_plain 69 = .ok (.iaload, 1) := by decide +kernel
theorem dX12_plain_70 : decode cX12_plain 70 = .ok (.iconst 1, 1) := by decide +kernel
theorem dX12_plain_71 : decode cX12_plain 71 = .ok (.if_icmp .ne 15, 3) := by decide +kernel
theorem dX12_plain_86 : decode cX12_plain 86 = .ok (.iload_n 2, 1) := by decide +kernel
theorem dX12_plain_87 : decode cX12_plain 87 = .ok (.ifCond .le 30, 3) := by decide +kernel
theorem dX12_plain_117 : decode cX12_plain 117 = .ok (.aload_n 0, 1) := by decide +kernel
theorem dX12_plain_118 : decode cX12_plain 118 = .ok (.iload_n 1, 1) := by decide +kernel
theorem dX12_plain_119 : decode cX12_plain 119 = .ok (.iload_n 3, 1) := by decide +kernel
theorem dX12_plain_120 : decode cX12_plain 120 = .ok (.invokevirtual 214, 3) := by decide +kernel
theorem mw_460 : Cond.methodLink RX12 214 yX12_adds ∈ wsL_law := List.mem_of_getElem? (i := 460) (by decide +kernel)
theorem mw_461 : Cond.instanceMethod yX12_adds ∈ wsL_law := List.mem_of_getElem? (i := 461) (by decide +kernel)
theorem mw_462 : Cond.selects RX12 yX12_adds yX12_adds ∈ wsL_law := List.mem_of_getElem? (i := 462) (by decide +kernel)
theorem gV_X12_214 : GoodIn wsL_law (wsV RX12 214 RX12 yX12_adds (wl yX12_adds cX12_adds 4 (some .boolean))) := g_V mw_460 mw_461 mw_462 mw_5 mw_463
theorem hdV_X12_adds : yX12_adds.cls = RX12 ∧ okD yX12_adds 2 := by decide +kernel
theorem dX12_plain_123 : decode cX12_plain 123 = .ok (.ifCond .ne 14, 3) := by decide +kernel
theorem dX12_plain_137 : decode cX12_plain 137 = .ok (.aload_n 0, 1) := by decide +kernel
theorem dX12_plain_138 : decode cX12_plain 138 = .ok (.dup, 1) := by decide +kernel
theorem dX12_plain_139 : decode cX12_plain 139 = .ok (.getfield 195, 3) := by decide +kernel
theorem dX12_plain_142 : decode cX12_plain 142 = .ok (.iconst 1, 1) := by decide +kernel
theorem dX12_plain_143 : decode cX12_plain 143 = .ok (.iadd, 1) := by decide +kernel
theorem dX12_plain_144 : decode cX12_plain 144 = .ok (.putfield 195, 3) := by decide +kernel
theorem dX12_plain_147 : decode cX12_plain 147 = .ok (.goto (-145), 3) := by decide +kernel
theorem dX12_plain_126 : decode cX12_plain 126 = .ok (.aload_n 0, 1) := by decide +kernel
theorem dX12_plain_127 : decode cX12_plain 127 = .ok (.iconst 5, 1) := by decide +kernel
theorem dX12_plain_128 : decode cX12_plain 128 = .ok (.aload_n 0, 1) := by decide +kernel
theorem dX12_plain_129 : decode cX12_plain 129 = .ok (.getfield 195, 3) := by decide +kernel
theorem dX12_plain_132 : decode cX12_plain 132 = .ok (.iload_n 1, 1) := by decide +kernel
theorem dX12_plain_133 : decode cX12_plain 133 = .ok (.invokevirtual 210, 3) := by decide +kernel
theorem mw_438 : Cond.methodLink RX12 210 yX12_wrong ∈ wsL_law := List.mem_of_getElem? (i := 438) (by decide +kernel)
theorem mw_439 : Cond.instanceMethod yX12_wrong ∈ wsL_law := List.mem_of_getElem? (i := 439) (by decide +kernel)
theorem mw_440 : Cond.selects RX12 yX12_wrong yX12_wrong ∈ wsL_law := List.mem_of_getElem? (i := 440) (by decide +kernel)
theorem gV_X12_210 : GoodIn wsL_law (wsV RX12 210 RX12 yX12_wrong (wl yX12_wrong cX12_wrong 4 (some .boolean))) := g_V mw_438 mw_439 mw_440 mw_5 mw_441
theorem hdV_X12_wrong : yX12_wrong.cls = RX12 ∧ okD yX12_wrong 3 := by decide +kernel
theorem dX12_plain_136 : decode cX12_plain 136 = .ok (.ireturn, 1) := by decide +kernel
theorem dX12_plain_90 : decode cX12_plain 90 = .ok (.aload_n 0, 1) := by decide +kernel
theorem dX12_plain_91 : decode cX12_plain 91 = .ok (.iload_n 1, 1) := by decide +kernel
theorem dX12_plain_92 : decode cX12_plain 92 = .ok (.bipush 32, 2) := by decide +kernel
theorem dX12_plain_94 : decode cX12_plain 94 = .ok (.invokevirtual 214, 3) := by decide +kernel
theorem dX12_plain_97 : decode cX12_plain 97 = .ok (.ifCond .ne 14, 3) := by decide +kernel
theorem dX12_plain_111 : decode cX12_plain 111 = .ok (.iinc 2 (-1), 3) := by decide +kernel
theorem dX12_plain_114 : decode cX12_plain 114 = .ok (.goto (-28), 3) := by decide +kernel
theorem dX12_plain_100 : decode cX12_plain 100 = .ok (.aload_n 0, 1) := by decide +kernel
theorem dX12_plain_101 : decode cX12_plain 101 = .ok (.iconst 5, 1) := by decide +kernel
theorem dX12_plain_102 : decode cX12_plain 102 = .ok (.aload_n 0, 1) := by decide +kernel
theorem dX12_plain_103 : decode cX12_plain 103 = .ok (.getfield 195, 3) := by decide +kernel
theorem dX12_plain_106 : decode cX12_plain 106 = .ok (.iload_n 1, 1) := by decide +kernel
theorem dX12_plain_107 : decode cX12_plain 107 = .ok (.invokevirtual 210, 3) := by decide +kernel
theorem dX12_plain_110 : decode cX12_plain 110 = .ok (.ireturn, 1) := by decide +kernel
theorem dX12_plain_74 : decode cX12_plain 74 = .ok (.iload_n 3, 1) := by decide +kernel
theorem dX12_plain_75 : decode cX12_plain 75 = .ok (.bipush 32, 2) := by decide +kernel
theorem dX12_plain_77 : decode cX12_plain 77 = .ok (.if_icmp .ne 9, 3) := by decide +kernel
theorem dX12_plain_80 : decode cX12_plain 80 = .ok (.iinc 2 1, 3) := by decide +kernel
theorem dX12_plain_83 : decode cX12_plain 83 = .ok (.goto 54, 3) := by decide +kernel
theorem dX12_plain_51 : decode cX12_plain 51 = .ok (.aload_n 0, 1) := by decide +kernel
theorem dX12_plain_52 : decode cX12_plain 52 = .ok (.iconst 2, 1) := by decide +kernel
theorem dX12_plain_53 : decode cX12_plain 53 = .ok (.aload_n 0, 1) := by decide +kernel
theorem dX12_plain_54 : decode cX12_plain 54 = .ok (.getfield 195, 3) := by decide +kernel
theorem dX12_plain_57 : decode cX12_plain 57 = .ok (.iload_n 1, 1) := by decide +kernel
theorem dX12_plain_58 : decode cX12_plain 58 = .ok (.invokevirtual 210, 3) := by decide +kernel
theorem dX12_plain_61 : decode cX12_plain 61 = .ok (.ireturn, 1) := by decide +kernel
theorem dX12_plain_28 : decode cX12_plain 28 = .ok (.aload_n 0, 1) := by decide +kernel
theorem dX12_plain_29 : decode cX12_plain 29 = .ok (.iconst 1, 1) := by decide +kernel
theorem dX12_plain_30 : decode cX12_plain 30 = .ok (.aload_n 0, 1) := by decide +kernel
theorem dX12_plain_31 : decode cX12_plain 31 = .ok (.getfield 195, 3) := by decide +kernel
theorem dX12_plain_34 : decode cX12_plain 34 = .ok (.iload_n 1, 1) := by decide +kernel
theorem dX12_plain_35 : decode cX12_plain 35 = .ok (.invokevirtual 210, 3) := by decide +kernel
theorem dX12_plain_38 : decode cX12_plain 38 = .ok (.ireturn, 1) := by decide +kernel
theorem mw_459 : Cond.code yX12_quoted cX12_quoted 3 (some .boolean) ∈ wsL_law := List.mem_of_getElem? (i := 459) (by decide +kernel)
theorem dX12_quoted_0 : decode cX12_quoted 0 = .ok (.aload_n 0, 1) := by decide +kernel
theorem dX12_quoted_1 : decode cX12_quoted 1 = .ok (.dup, 1) := by decide +kernel
theorem dX12_quoted_2 : decode cX12_quoted 2 = .ok (.getfield 195, 3) := by decide +kernel
theorem dX12_quoted_5 : decode cX12_quoted 5 = .ok (.iconst 1, 1) := by decide +kernel
theorem dX12_quoted_6 : decode cX12_quoted 6 = .ok (.iadd, 1) := by decide +kernel
theorem dX12_quoted_7 : decode cX12_quoted 7 = .ok (.putfield 195, 3) := by decide +kernel
theorem dX12_quoted_10 : decode cX12_quoted 10 = .ok (.aload_n 0, 1) := by decide +kernel
theorem dX12_quoted_11 : decode cX12_quoted 11 = .ok (.getfield 195, 3) := by decide +kernel
theorem dX12_quoted_14 : decode cX12_quoted 14 = .ok (.aload_n 0, 1) := by decide +kernel
theorem dX12_quoted_15 : decode cX12_quoted 15 = .ok (.getfield 83, 3) := by decide +kernel
theorem dX12_quoted_18 : decode cX12_quoted 18 = .ok (.if_icmp .ge 126, 3) := by decide +kernel
theorem dX12_quoted_144 : decode cX12_quoted 144 = .ok (.aload_n 0, 1) := by decide +kernel
theorem dX12_quoted_145 : decode cX12_quoted 145 = .ok (.getfield 195, 3) := by decide +kernel
theorem dX12_quoted_148 : decode cX12_quoted 148 = .ok (.aload_n 0, 1) := by decide +kernel
theorem dX12_quoted_149 : decode cX12_quoted 149 = .ok (.getfield 83, 3) := by decide +kernel
theorem dX12_quoted_152 : decode cX12_quoted 152 = .ok (.if_icmp .ne 14, 3) := by decide +kernel
theorem dX12_quoted_166 : decode cX12_quoted 166 = .ok (.aload_n 0, 1) := by decide +kernel
theorem dX12_quoted_167 : decode cX12_quoted 167 = .ok (.dup, 1) := by decide +kernel
theorem dX12_quoted_168 : decode cX12_quoted 168 = .ok (.getfield 195, 3) := by decide +kernel
theorem dX12_quoted_171 : decode cX12_quoted 171 = .ok (.iconst 1, 1) := by decide +kernel
theorem dX12_quoted_172 : decode cX12_quoted 172 = .ok (.iadd, 1) := by decide +kernel
theorem dX12_quoted_173 : decode cX12_quoted 173 = .ok (.putfield 195, 3) := by decide +kernel
theorem dX12_quoted_176 : decode cX12_quoted 176 = .ok (.aload_n 0, 1) := by decide +kernel
theorem dX12_quoted_177 : decode cX12_quoted 177 = .ok (.invokevirtual 217, 3) := by decide +kernel
theorem mw_452 : Cond.methodLink RX12 217 yX12_blanks ∈ wsL_law := List.mem_of_getElem? (i := 452) (by decide +kernel)
theorem mw_453 : Cond.instanceMethod yX12_blanks ∈ wsL_law := List.mem_of_getElem? (i := 453) (by decide +kernel)
theorem mw_454 : Cond.selects RX12 yX12_blanks yX12_blanks ∈ wsL_law := List.mem_of_getElem? (i := 454) (by decide +kernel)
theorem gV_X12_217 : GoodIn wsL_law (wsV RX12 217 RX12 yX12_blanks (wl yX12_blanks cX12_blanks 1 none)) := g_V mw_452 mw_453 mw_454 mw_5 mw_455
theorem hdV_X12_blanks : yX12_blanks.cls = RX12 ∧ okD yX12_blanks 0 := by decide +kernel
theorem dX12_quoted_180 : decode cX12_quoted 180 = .ok (.aload_n 0, 1) := by decide +kernel
theorem dX12_quoted_181 : decode cX12_quoted 181 = .ok (.invokevirtual 220, 3) := by decide +kernel
theorem dX12_quoted_184 : decode cX12_quoted 184 = .ok (.ifCond .eq 5, 3) := by decide +kernel
theorem dX12_quoted_187 : decode cX12_quoted 187 = .ok (.iconst 1, 1) := by decide +kernel
theorem dX12_quoted_188 : decode cX12_quoted 188 = .ok (.ireturn, 1) := by decide +kernel
theorem dX12_quoted_189 : decode cX12_quoted 189 = .ok (.aload_n 0, 1) := by decide +kernel
theorem dX12_quoted_190 : decode cX12_quoted 190 = .ok (.aload_n 0, 1) := by decide +kernel
theorem dX12_quoted_191 : decode cX12_quoted 191 = .ok (.aload_n 0, 1) := by decide +kernel
theorem dX12_quoted_192 : decode cX12_quoted 192 = .ok (.getfield 20, 3) := by decide +kernel
theorem dX12_quoted_195 : decode cX12_quoted 195 = .ok (.aload_n 0, 1) := by decide +kernel
theorem dX12_quoted_196 : decode cX12_quoted 196 = .ok (.getfield 195, 3) := by decide +kernel
theorem dX12_quoted_199 : decode cX12_quoted 199 = .ok (.iaload, 1) := by decide +kernel
theorem dX12_quoted_200 : decode cX12_quoted 200 = .ok (.iconst 0, 1) := by decide +kernel
theorem dX12_quoted_201 : decode cX12_quoted 201 = .ok (.invokevirtual 206, 3) := by decide +kernel
theorem dX12_quoted_204 : decode cX12_quoted 204 = .ok (.ifCond .eq 7, 3) := by decide +kernel
theorem dX12_quoted_207 : decode cX12_quoted 207 = .ok (.iconst 3, 1) := by decide +kernel
theorem dX12_quoted_208 : decode cX12_quoted 208 = .ok (.goto 4, 3) := by decide +kernel
theorem dX12_quoted_212 : decode cX12_quoted 212 = .ok (.aload_n 0, 1) := by decide +kernel
theorem dX12_quoted_213 : decode cX12_quoted 213 = .ok (.getfield 195, 3) := by decide +kernel
theorem dX12_quoted_216 : decode cX12_quoted 216 = .ok (.iload_n 1, 1) := by decide +kernel
theorem dX12_quoted_217 : decode cX12_quoted 217 = .ok (.invokevirtual 210, 3) := by decide +kernel
theorem dX12_quoted_220 : decode cX12_quoted 220 = .ok (.ireturn, 1) := by decide +kernel
theorem dX12_quoted_211 : decode cX12_quoted 211 = .ok (.iconst 1, 1) := by decide +kernel
theorem dX12_quoted_155 : decode cX12_quoted 155 = .ok (.aload_n 0, 1) := by decide +kernel
theorem dX12_quoted_156 : decode cX12_quoted 156 = .ok (.iconst 4, 1) := by decide +kernel
theorem dX12_quoted_157 : decode cX12_quoted 157 = .ok (.aload_n 0, 1) := by decide +kernel
theorem dX12_quoted_158 : decode cX12_quoted 158 = .ok (.getfield 195, 3) := by decide +kernel
theorem dX12_quoted_161 : decode cX12_quoted 161 = .ok (.iload_n 1, 1) := by decide +kernel
theorem dX12_quoted_162 : decode cX12_quoted 162 = .ok (.invokevirtual 210, 3) := by decide +kernel
theorem dX12_quoted_165 : decode cX12_quoted 165 = .ok (.ireturn, 1) := by decide +kernel
theorem dX12_quoted_21 : decode cX12_quoted 21 = .ok (.aload_n 0, 1) := by decide +kernel
theorem dX12_quoted_22 : decode cX12_quoted 22 = .ok (.getfield 20, 3) := by decide +kernel
theorem dX12_quoted_25 : decode cX12_quoted 25 = .ok (.aload_n 0, 1) := by decide +kernel
theorem dX12_quoted_26 : decode cX12_quoted 26 = .ok (.getfield 195, 3) := by decide +kernel
theorem dX12_quoted_29 : decode cX12_quoted 29 = .ok (.iaload, 1) := by decide +kernel
theorem dX12_quoted_30 : decode cX12_quoted 30 = .ok (.istore_n 2, 1) := by decide +kernel
theorem dX12_quoted_31 : decode cX12_quoted 31 = .ok (.iload_n 2, 1) := by decide +kernel
theorem dX12_quoted_32 : decode cX12_quoted 32 = .ok (.aload_n 0, 1) := by decide +kernel
theorem dX12_quoted_33 : decode cX12_quoted 33 = .ok (.getfield 9, 3) := by decide +kernel
theorem dX12_quoted_36 : decode cX12_quoted 36 = .ok (.sipush 21370, 3) := by decide +kernel
theorem dX12_quoted_39 : decode cX12_quoted 39 = .ok (.iaload, 1) := by decide +kernel
theorem dX12_quoted_40 : decode cX12_quoted 40 = .ok (.if_icmp .ne 51, 3) := by decide +kernel
theorem dX12_quoted_91 : decode cX12_quoted 91 = .ok (.aload_n 0, 1) := by decide +kernel
theorem dX12_quoted_92 : decode cX12_quoted 92 = .ok (.iload_n 2, 1) := by decide +kernel
theorem dX12_quoted_93 : decode cX12_quoted 93 = .ok (.iconst 1, 1) := by decide +kernel
theorem dX12_quoted_94 : decode cX12_quoted 94 = .ok (.invokevirtual 206, 3) := by decide +kernel
theorem dX12_quoted_97 : decode cX12_quoted 97 = .ok (.ifCond .ne 14, 3) := by decide +kernel
theorem dX12_quoted_111 : decode cX12_quoted 111 = .ok (.aload_n 0, 1) := by decide +kernel
theorem dX12_quoted_112 : decode cX12_quoted 112 = .ok (.iload_n 1, 1) := by decide +kernel
theorem dX12_quoted_113 : decode cX12_quoted 113 = .ok (.iload_n 2, 1) := by decide +kernel
theorem dX12_quoted_114 : decode cX12_quoted 114 = .ok (.invokevirtual 214, 3) := by decide +kernel
theorem dX12_quoted_117 : decode cX12_quoted 117 = .ok (.ifCond .ne 14, 3) := by decide +kernel
theorem dX12_quoted_131 : decode cX12_quoted 131 = .ok (.aload_n 0, 1) := by decide +kernel
theorem dX12_quoted_132 : decode cX12_quoted 132 = .ok (.dup, 1) := by decide +kernel
theorem dX12_quoted_133 : decode cX12_quoted 133 = .ok (.getfield 195, 3) := by decide +kernel
theorem dX12_quoted_136 : decode cX12_quoted 136 = .ok (.iconst 1, 1) := by decide +kernel
theorem dX12_quoted_137 : decode cX12_quoted 137 = .ok (.iadd, 1) := by decide +kernel
theorem dX12_quoted_138 : decode cX12_quoted 138 = .ok (.putfield 195, 3) := by decide +kernel
theorem dX12_quoted_141 : decode cX12_quoted 141 = .ok (.goto (-131), 3) := by decide +kernel
theorem dX12_quoted_120 : decode cX12_quoted 120 = .ok (.aload_n 0, 1) := by decide +kernel
theorem dX12_quoted_121 : decode cX12_quoted 121 = .ok (.iconst 5, 1) := by decide +kernel
theorem dX12_quoted_122 : decode cX12_quoted 122 = .ok (.aload_n 0, 1) := by decide +kernel
theorem dX12_quoted_123 : decode cX12_quoted 123 = .ok (.getfield 195, 3) := by decide +kernel
theorem dX12_quoted_126 : decode cX12_quoted 126 = .ok (.iload_n 1, 1) := by decide +kernel
theorem dX12_quoted_127 : decode cX12_quoted 127 = .ok (.invokevirtual 210, 3) := by decide +kernel
theorem dX12_quoted_130 : decode cX12_quoted 130 = .ok (.ireturn, 1) := by decide +kernel
theorem dX12_quoted_100 : decode cX12_quoted 100 = .ok (.aload_n 0, 1) := by decide +kernel
theorem dX12_quoted_101 : decode cX12_quoted 101 = .ok (.iconst 1, 1) := by decide +kernel
theorem dX12_quoted_102 : decode cX12_quoted 102 = .ok (.aload_n 0, 1) := by decide +kernel
theorem dX12_quoted_103 : decode cX12_quoted 103 = .ok (.getfield 195, 3) := by decide +kernel
theorem dX12_quoted_106 : decode cX12_quoted 106 = .ok (.iload_n 1, 1) := by decide +kernel
theorem dX12_quoted_107 : decode cX12_quoted 107 = .ok (.invokevirtual 210, 3) := by decide +kernel
theorem dX12_quoted_110 : decode cX12_quoted 110 = .ok (.ireturn, 1) := by decide +kernel
theorem dX12_quoted_43 : decode cX12_quoted 43 = .ok (.aload_n 0, 1) := by decide +kernel
theorem dX12_quoted_44 : decode cX12_quoted 44 = .ok (.getfield 195, 3) := by decide +kernel
theorem dX12_quoted_47 : decode cX12_quoted 47 = .ok (.iconst 1, 1) := by decide +kernel
theorem dX12_quoted_48 : decode cX12_quoted 48 = .ok (.iadd, 1) := by decide +kernel
theorem dX12_quoted_49 : decode cX12_quoted 49 = .ok (.aload_n 0, 1) := by decide +kernel
theorem dX12_quoted_50 : decode cX12_quoted 50 = .ok (.getfield 83, 3) := by decide +kernel
theorem dX12_quoted_53 : decode cX12_quoted 53 = .ok (.if_icmp .eq 91, 3) := by decide +kernel
theorem dX12_quoted_56 : decode cX12_quoted 56 = .ok (.aload_n 0, 1) := by decide +kernel
theorem dX12_quoted_57 : decode cX12_quoted 57 = .ok (.getfield 20, 3) := by decide +kernel
theorem dX12_quoted_60 : decode cX12_quoted 60 = .ok (.aload_n 0, 1) := by decide +kernel
theorem dX12_quoted_61 : decode cX12_quoted 61 = .ok (.getfield 195, 3) := by decide +kernel
theorem dX12_quoted_64 : decode cX12_quoted 64 = .ok (.iconst 1, 1) := by decide +kernel
theorem dX12_quoted_65 : decode cX12_quoted 65 = .ok (.iadd, 1) := by decide +kernel
theorem dX12_quoted_66 : decode cX12_quoted 66 = .ok (.iaload, 1) := by decide +kernel
theorem dX12_quoted_67 : decode cX12_quoted 67 = .ok (.aload_n 0, 1) := by decide +kernel
theorem dX12_quoted_68 : decode cX12_quoted 68 = .ok (.getfield 9, 3) := by decide +kernel
theorem dX12_quoted_71 : decode cX12_quoted 71 = .ok (.sipush 21370, 3) := by decide +kernel
theorem dX12_quoted_74 : decode cX12_quoted 74 = .ok (.iaload, 1) := by decide +kernel
theorem dX12_quoted_75 : decode cX12_quoted 75 = .ok (.if_icmp .eq 6, 3) := by decide +kernel
theorem dX12_quoted_81 : decode cX12_quoted 81 = .ok (.aload_n 0, 1) := by decide +kernel
theorem dX12_quoted_82 : decode cX12_quoted 82 = .ok (.dup, 1) := by decide +kernel
theorem dX12_quoted_83 : decode cX12_quoted 83 = .ok (.getfield 195, 3) := by decide +kernel
theorem dX12_quoted_86 : decode cX12_quoted 86 = .ok (.iconst 1, 1) := by decide +kernel
theorem dX12_quoted_87 : decode cX12_quoted 87 = .ok (.iadd, 1) := by decide +kernel
theorem dX12_quoted_88 : decode cX12_quoted 88 = .ok (.putfield 195, 3) := by decide +kernel
theorem dX12_quoted_78 : decode cX12_quoted 78 = .ok (.goto 66, 3) := by decide +kernel
theorem mw_451 : Cond.code yX12_reads cX12_reads 2 (some .boolean) ∈ wsL_law := List.mem_of_getElem? (i := 451) (by decide +kernel)
theorem dX12_reads_0 : decode cX12_reads 0 = .ok (.aload_n 0, 1) := by decide +kernel
theorem dX12_reads_1 : decode cX12_reads 1 = .ok (.getfield 33, 3) := by decide +kernel
theorem mw_195 : Cond.fieldLink RX12 33 "TypedTablesModel" "fieldAt" "[I" ∈ wsL_law := List.mem_of_getElem? (i := 195) (by decide +kernel)
theorem dX12_reads_4 : decode cX12_reads 4 = .ok (.iload_n 1, 1) := by decide +kernel
theorem dX12_reads_5 : decode cX12_reads 5 = .ok (.aload_n 0, 1) := by decide +kernel
theorem dX12_reads_6 : decode cX12_reads 6 = .ok (.getfield 195, 3) := by decide +kernel
theorem dX12_reads_9 : decode cX12_reads 9 = .ok (.iastore, 1) := by decide +kernel
theorem dX12_reads_10 : decode cX12_reads 10 = .ok (.aload_n 0, 1) := by decide +kernel
theorem dX12_reads_11 : decode cX12_reads 11 = .ok (.getfield 30, 3) := by decide +kernel
theorem dX12_reads_14 : decode cX12_reads 14 = .ok (.bipush 21, 2) := by decide +kernel
theorem dX12_reads_16 : decode cX12_reads 16 = .ok (.iload_n 1, 1) := by decide +kernel
theorem dX12_reads_17 : decode cX12_reads 17 = .ok (.imul, 1) := by decide +kernel
theorem dX12_reads_18 : decode cX12_reads 18 = .ok (.iconst 0, 1) := by decide +kernel
theorem dX12_reads_19 : decode cX12_reads 19 = .ok (.iastore, 1) := by decide +kernel
theorem dX12_reads_20 : decode cX12_reads 20 = .ok (.aload_n 0, 1) := by decide +kernel
theorem dX12_reads_21 : decode cX12_reads 21 = .ok (.invokevirtual 217, 3) := by decide +kernel
theorem dX12_reads_24 : decode cX12_reads 24 = .ok (.aload_n 0, 1) := by decide +kernel
theorem dX12_reads_25 : decode cX12_reads 25 = .ok (.getfield 195, 3) := by decide +kernel
theorem dX12_reads_28 : decode cX12_reads 28 = .ok (.aload_n 0, 1) := by decide +kernel
theorem dX12_reads_29 : decode cX12_reads 29 = .ok (.getfield 83, 3) := by decide +kernel
theorem dX12_reads_32 : decode cX12_reads 32 = .ok (.if_icmp .ge 31, 3) := by decide +kernel
theorem dX12_reads_63 : decode cX12_reads 63 = .ok (.aload_n 0, 1) := by decide +kernel
theorem dX12_reads_64 : decode cX12_reads 64 = .ok (.iload_n 1, 1) := by decide +kernel
theorem dX12_reads_65 : decode cX12_reads 65 = .ok (.invokevirtual 226, 3) := by decide +kernel
theorem mw_472 : Cond.methodLink RX12 226 yX12_plain ∈ wsL_law := List.mem_of_getElem? (i := 472) (by decide +kernel)
theorem mw_473 : Cond.instanceMethod yX12_plain ∈ wsL_law := List.mem_of_getElem? (i := 473) (by decide +kernel)
theorem mw_474 : Cond.selects RX12 yX12_plain yX12_plain ∈ wsL_law := List.mem_of_getElem? (i := 474) (by decide +kernel)
theorem gV_X12_226 : GoodIn wsL_law (wsV RX12 226 RX12 yX12_plain (wl yX12_plain cX12_plain 4 (some .boolean))) := g_V mw_472 mw_473 mw_474 mw_5 mw_475
theorem hdV_X12_plain : yX12_plain.cls = RX12 ∧ okD yX12_plain 1 := by decide +kernel
theorem dX12_reads_68 : decode cX12_reads 68 = .ok (.ireturn, 1) := by decide +kernel
theorem dX12_reads_35 : decode cX12_reads 35 = .ok (.aload_n 0, 1) := by decide +kernel
theorem dX12_reads_36 : decode cX12_reads 36 = .ok (.getfield 20, 3) := by decide +kernel
theorem dX12_reads_39 : decode cX12_reads 39 = .ok (.aload_n 0, 1) := by decide +kernel
theorem dX12_reads_40 : decode cX12_reads 40 = .ok (.getfield 195, 3) := by decide +kernel
theorem dX12_reads_43 : decode cX12_reads 43 = .ok (.iaload, 1) := by decide +kernel
theorem dX12_reads_44 : decode cX12_reads 44 = .ok (.aload_n 0, 1) := by decide +kernel
theorem dX12_reads_45 : decode cX12_reads 45 = .ok (.getfield 9, 3) := by decide +kernel
theorem dX12_reads_48 : decode cX12_reads 48 = .ok (.sipush 21370, 3) := by decide +kernel
theorem dX12_reads_51 : decode cX12_reads 51 = .ok (.iaload, 1) := by decide +kernel
theorem dX12_reads_52 : decode cX12_reads 52 = .ok (.if_icmp .ne 11, 3) := by decide +kernel
theorem dX12_reads_55 : decode cX12_reads 55 = .ok (.aload_n 0, 1) := by decide +kernel
theorem dX12_reads_56 : decode cX12_reads 56 = .ok (.iload_n 1, 1) := by decide +kernel
theorem dX12_reads_57 : decode cX12_reads 57 = .ok (.invokevirtual 223, 3) := by decide +kernel
theorem mw_456 : Cond.methodLink RX12 223 yX12_quoted ∈ wsL_law := List.mem_of_getElem? (i := 456) (by decide +kernel)
theorem mw_457 : Cond.instanceMethod yX12_quoted ∈ wsL_law := List.mem_of_getElem? (i := 457) (by decide +kernel)
theorem mw_458 : Cond.selects RX12 yX12_quoted yX12_quoted ∈ wsL_law := List.mem_of_getElem? (i := 458) (by decide +kernel)
theorem gV_X12_223 : GoodIn wsL_law (wsV RX12 223 RX12 yX12_quoted (wl yX12_quoted cX12_quoted 3 (some .boolean))) := g_V mw_456 mw_457 mw_458 mw_5 mw_459
theorem hdV_X12_quoted : yX12_quoted.cls = RX12 ∧ okD yX12_quoted 1 := by decide +kernel
theorem dX12_reads_60 : decode cX12_reads 60 = .ok (.goto 8, 3) := by decide +kernel
set_option maxHeartbeats 4000000 in
set_option maxRecDepth 100000 in
theorem s_X12_viewsOff (l : Launch) (D : va_G) (κ : Nat → ClassId) (m0 : Nat) (a0 : Nat) (a1 : Nat) (a2 : Nat) (u3 : Nat) (f4 : Int32) (a5 : Nat) (u6 : Nat) (f7 : Int32) (f8 : Int32) (f9 : Int32) (f10 : Int32) (u11 : Nat) (u12 : Nat) (u13 : Nat) (a14 : Nat) (a15 : Nat) (a16 : Nat) (a17 : Nat) (f18 : Int32) (f19 : Int32) (a20 : Nat) (a21 : Nat) (u22 : Nat) (a23 : Nat) (a24 : Nat) (a25 : Nat) (u26 : Nat) (f27 : Int32) (a28 : Nat) (u29 : Nat) (w : Nat → Int32) (a : Nat) (hw : Pw w) (ht : a < 3) : Ct l yX12_viewsOff (wl yX12_viewsOff cX12_viewsOff 3 none) { frames := 1, cells := 0, slots := 0, locals := 21 } D κ [.ref m0, .int (nI a)] [(m0, .inr (12, [.ref a0, .ref a1, .ref a2, .int (nI u3), .int f4, .ref a5, .int (nI u6), .int f7, .int f8, .int f9, .int f10, .int (nI u11), .int (nI u12), .int (nI u13), .ref a14, .ref a15, .ref a16, .ref a17, .int f18, .int f19, .ref a20, .ref a21, .int (nI u22), .ref a23, .ref a24, .ref a25, .int (nI u26), .int f27, .ref a28, .int (nI u29)])), (a0, .inl (κ 0, 21375, .inl w))] (fun _ => True) (fun g : Nat → Int32 => none) (fun g : Nat → Int32 => Pw g) (fun g : Nat → Int32 => [(m0, .inr (12, [.ref a0, .ref a1, .ref a2, .int (nI u3), .int f4, .ref a5, .int (nI u6), .int f7, .int f8, .int f9, .int f10, .int (nI u11), .int (nI u12), .int (nI u13), .ref a14, .ref a15, .ref a16, .ref a17, .int f18, .int f19, .ref a20, .ref a21, .int (nI u22), .ref a23, .ref a24, .ref a25, .int (nI u26), .int f27, .ref a28, .int (nI u29)])), (a0, .inl (κ 0, 21375, .inl g))]) (fun _ _ => True) := by
  refine ct_of (by decide +kernel) (Nat.le_of_ble_eq_true rfl) ?_
  intro p e s m args below meth c A ls hx hb hr hml hts hown hlk hin hKK hK hA hP hD hS hI hl
  have hS : va_S A s.heap s.heap [] := hS
  have hFX : FX p s m args c cX12_viewsOff 3 RX12 := ⟨hx, hb, hml, hown, hts⟩
  have hl : lv_has ls 3 [(0, .ref m0), (1, .int (nI a))] := hl
  refine lv_aload_n hx hb dX12_viewsOff_0 rfl (lv_at hl 0 rfl) ?_
  refine va_get (D := D) (ci := 12) (v := .ref a0) (C := RX12) (T := TX12) (N := 30) hx hb hts inlX12 hown hK hP 0 rfl rfl 0 (by decide) (hts _ mw_187) (fun _ h9 => h9) rfl dX12_viewsOff_1 ?_
  refine lv_iload_n hx hb dX12_viewsOff_4 rfl (lv_at hl 1 rfl) ?_
  refine lv_iconst (v := 3) hx hb dX12_viewsOff_5 (by decide) ?_
  refine cr_S (As := [.int (nI a), .int 3]) (rest := [.ref a0]) hFX hKK (s_X12_at l D κ a 3) 2 gS_X12_66 hdS_X12_at rfl rfl ⟨Nat.le_of_ble_eq_true rfl, Nat.le_of_ble_eq_true rfl⟩ rfl rfl (Nat.le_of_ble_eq_true rfl) dX12_viewsOff_6 ⟨Nat.le_of_ble_eq_true rfl, Nat.le_of_ble_eq_true rfl⟩ hl.1 (hP.sub [] rfl) (fun _ hp_1 => ?_)
  refine W.eq (g2 := F0 m 9 ls [.int (nI (7123 * a + 3)), .ref a0]) rfl ?_
  refine lv_iconst (v := 0) hx hb dX12_viewsOff_9 (by decide) ?_
  refine va_iast hx hb hK hP hD hS 1 0 rfl rfl (i := nI (7123 * a + 3)) (x := 0) (vp_in_nI (n := (7123 * a + 3)) (by omega) (by omega)) dX12_viewsOff_10 (fun H locs hP hD hS => ?_)
  rw [nI_clamp (by omega)] at hP hD
  have hP : va_P D vwCl [(m0, .inr (12, [.ref a0, .ref a1, .ref a2, .int (nI u3), .int f4, .ref a5, .int (nI u6), .int f7, .int f8, .int f9, .int f10, .int (nI u11), .int (nI u12), .int (nI u13), .ref a14, .ref a15, .ref a16, .ref a17, .int f18, .int f19, .ref a20, .ref a21, .int (nI u22), .ref a23, .ref a24, .ref a25, .int (nI u26), .int f27, .ref a28, .int (nI u29)])), (a0, .inl (κ 0, 21375, .inl (upd w (7123 * a + 3) 0)))] H := hP
  have hD : va_D A [(m0, .inr (12, [.ref a0, .ref a1, .ref a2, .int (nI u3), .int f4, .ref a5, .int (nI u6), .int f7, .int f8, .int f9, .int f10, .int (nI u11), .int (nI u12), .int (nI u13), .ref a14, .ref a15, .ref a16, .ref a17, .int f18, .int f19, .ref a20, .ref a21, .int (nI u22), .ref a23, .ref a24, .ref a25, .int (nI u26), .int f27, .ref a28, .int (nI u29)])), (a0, .inl (κ 0, 21375, .inl (upd w (7123 * a + 3) 0)))] := hD
  have hw9 : Pw (upd w (7123 * a + 3) 0) := (Pw_upd hw (B := 6) ⟨a, by omega, Or.inr (Or.inr (Or.inl ⟨by omega, rfl⟩))⟩ ⟨0, by omega, rfl⟩)
  generalize upd w (7123 * a + 3) 0 = w_2 at hP hD hw9
  have hw : Pw w_2 := hw9
  refine lv_aload_n hx hb dX12_viewsOff_11 rfl (lv_at hl 0 rfl) ?_
  refine va_get (D := D) (ci := 12) (v := .ref a0) (C := RX12) (T := TX12) (N := 30) hx hb hts inlX12 hown hK hP 0 rfl rfl 0 (by decide) (hts _ mw_187) (fun _ h9 => h9) rfl dX12_viewsOff_12 ?_
  refine lv_iload_n hx hb dX12_viewsOff_15 rfl (lv_at hl 1 rfl) ?_
  refine lv_bipush (v := 116) hx hb dX12_viewsOff_16 (by decide) ?_
  refine cr_S (As := [.int (nI a), .int 116]) (rest := [.ref a0]) hFX hKK (s_X12_at l D κ a 116) 2 gS_X12_66 hdS_X12_at rfl rfl ⟨Nat.le_of_ble_eq_true rfl, Nat.le_of_ble_eq_true rfl⟩ rfl rfl (Nat.le_of_ble_eq_true rfl) dX12_viewsOff_18 ⟨Nat.le_of_ble_eq_true rfl, Nat.le_of_ble_eq_true rfl⟩ hl.1 (hP.sub [] rfl) (fun _ hp_3 => ?_)
  refine W.eq (g2 := F0 m 21 ls [.int (nI (7123 * a + 116)), .ref a0]) rfl ?_
  refine lv_aload_n hx hb dX12_viewsOff_21 rfl (lv_at hl 0 rfl) ?_
  refine va_get (D := D) (ci := 12) (v := .ref a0) (C := RX12) (T := TX12) (N := 30) hx hb hts inlX12 hown hK hP 0 rfl rfl 0 (by decide) (hts _ mw_187) (fun _ h9 => h9) rfl dX12_viewsOff_22 ?_
  refine lv_iload_n hx hb dX12_viewsOff_25 rfl (lv_at hl 1 rfl) ?_
  refine lv_iconst (v := 2) hx hb dX12_viewsOff_26 (by decide) ?_
  refine cr_S (As := [.int (nI a), .int 2]) (rest := [.ref a0, .int (nI (7123 * a + 116)), .ref a0]) hFX hKK (s_X12_at l D κ a 2) 2 gS_X12_66 hdS_X12_at rfl rfl ⟨Nat.le_of_ble_eq_true rfl, Nat.le_of_ble_eq_true rfl⟩ rfl rfl (Nat.le_of_ble_eq_true rfl) dX12_viewsOff_27 ⟨Nat.le_of_ble_eq_true rfl, Nat.le_of_ble_eq_true rfl⟩ hl.1 (hP.sub [] rfl) (fun _ hp_4 => ?_)
  refine W.eq (g2 := F0 m 30 ls [.int (nI (7123 * a + 2)), .ref a0, .int (nI (7123 * a + 116)), .ref a0]) rfl ?_
  refine va_iald hx hb hK hP 1 0 rfl rfl (i := nI (7123 * a + 2)) (vp_in_nI (n := (7123 * a + 2)) (by omega) (by omega)) dX12_viewsOff_30 ?_
  refine kv (v := .int (w_2 (7123 * a + 2))) (by rw [nI_clamp (by omega)]) ?_
  obtain ⟨n_5, hn_5, en_5⟩ : ∃ n9 : Nat, n9 ≤ 40 ∧ w_2 (7123 * a + 2) = nI n9 := id ((pMANY hw (t := a) (by omega) rfl))
  refine kv (v := .int (nI n_5)) (congrArg Value.int en_5) ?_
  refine va_iast hx hb hK hP hD hS 1 0 rfl rfl (i := nI (7123 * a + 116)) (x := nI n_5) (vp_in_nI (n := (7123 * a + 116)) (by omega) (by omega)) dX12_viewsOff_31 (fun H locs hP hD hS => ?_)
  rw [nI_clamp (by omega)] at hP hD
  have hP : va_P D vwCl [(m0, .inr (12, [.ref a0, .ref a1, .ref a2, .int (nI u3), .int f4, .ref a5, .int (nI u6), .int f7, .int f8, .int f9, .int f10, .int (nI u11), .int (nI u12), .int (nI u13), .ref a14, .ref a15, .ref a16, .ref a17, .int f18, .int f19, .ref a20, .ref a21, .int (nI u22), .ref a23, .ref a24, .ref a25, .int (nI u26), .int f27, .ref a28, .int (nI u29)])), (a0, .inl (κ 0, 21375, .inl (upd w_2 (7123 * a + 116) (nI n_5))))] H := hP
  have hD : va_D A [(m0, .inr (12, [.ref a0, .ref a1, .ref a2, .int (nI u3), .int f4, .ref a5, .int (nI u6), .int f7, .int f8, .int f9, .int f10, .int (nI u11), .int (nI u12), .int (nI u13), .ref a14, .ref a15, .ref a16, .ref a17, .int f18, .int f19, .ref a20, .ref a21, .int (nI u22), .ref a23, .ref a24, .ref a25, .int (nI u26), .int f27, .ref a28, .int (nI u29)])), (a0, .inl (κ 0, 21375, .inl (upd w_2 (7123 * a + 116) (nI n_5))))] := hD
  have hw9 : Pw (upd w_2 (7123 * a + 116) (nI n_5)) := (Pw_upd hw (B := 40) ⟨a, by omega, Or.inr (Or.inr (Or.inr (Or.inr (Or.inr (Or.inl ⟨(7123 * a + 116) - (7123 * a + 116), by omega, by omega, rfl⟩)))))⟩ ⟨n_5, by omega, rfl⟩)
  generalize upd w_2 (7123 * a + 116) (nI n_5) = w_6 at hP hD hw9
  have hw : Pw w_6 := hw9
  refine lv_iconst (v := 0) hx hb dX12_viewsOff_32 (by decide) ?_
  refine lv_istore_n (lv' := [(2, .int 0), (0, .ref m0), (1, .int (nI a))]) hx hb dX12_viewsOff_33 rfl hl (by decide) rfl (fun ls hl => ?_)
  refine loop_dn (fun k9 H locs ls => ∃ (k : Nat), ∃ (g : Nat → Int32), (k ≤ 40) ∧ (Pw g) ∧ 40 - k = k9 ∧ va_P D vwCl [(m0, .inr (12, [.ref a0, .ref a1, .ref a2, .int (nI u3), .int f4, .ref a5, .int (nI u6), .int f7, .int f8, .int f9, .int f10, .int (nI u11), .int (nI u12), .int (nI u13), .ref a14, .ref a15, .ref a16, .ref a17, .int f18, .int f19, .ref a20, .ref a21, .int (nI u22), .ref a23, .ref a24, .ref a25, .int (nI u26), .int f27, .ref a28, .int (nI u29)])), (a0, .inl (κ 0, 21375, .inl g))] H ∧ va_D A [(m0, .inr (12, [.ref a0, .ref a1, .ref a2, .int (nI u3), .int f4, .ref a5, .int (nI u6), .int f7, .int f8, .int f9, .int f10, .int (nI u11), .int (nI u12), .int (nI u13), .ref a14, .ref a15, .ref a16, .ref a17, .int f18, .int f19, .ref a20, .ref a21, .int (nI u22), .ref a23, .ref a24, .ref a25, .int (nI u26), .int f27, .ref a28, .int (nI u29)])), (a0, .inl (κ 0, 21375, .inl g))] ∧ va_S A s.heap H locs ∧ lv_has ls 3 [(2, .int (nI k)), (0, .ref m0), (1, .int (nI a))]) (fun k9 H locs ls hI34 ih34 => ?_) (40 - 0) _ _ _ ⟨0, w_6, (by omega), hw, rfl, hP, hD, hS, lv_sub hl [0, 1, 2] rfl⟩
  obtain ⟨k, g, hn0, hw, hm34, hP, hD, hS, hl⟩ := hI34
  refine lv_iload_n hx hb dX12_viewsOff_34 rfl (lv_at hl 0 rfl) ?_
  refine lv_bipush (v := 40) hx hb dX12_viewsOff_35 (by decide) ?_
  refine lv_icmp_ge (tgt := 60) hx hb dX12_viewsOff_37 (by decide) (fun c_7 => ?_) (fun c_7 => ?_)
  · have nc_7 := cv_le (a := 40) (b := k) (by omega) (by omega) c_7
    exact ct_vret hx hb hr hlk hS hP hD g rfl hw [0, 1] rfl (by decide) trivial (Nat.le_of_ble_eq_true rfl) (Nat.le_of_ble_eq_true rfl) dX12_viewsOff_60
  · have nc_7 := cv_nle (a := 40) (b := k) (by omega) (by omega) c_7
    refine lv_aload_n hx hb dX12_viewsOff_40 rfl (lv_at hl 1 rfl) ?_
    refine va_get (D := D) (ci := 12) (v := .ref a0) (C := RX12) (T := TX12) (N := 30) hx hb hts inlX12 hown hK hP 0 rfl rfl 0 (by decide) (hts _ mw_187) (fun _ h9 => h9) rfl dX12_viewsOff_41 ?_
    refine lv_iload_n hx hb dX12_viewsOff_44 rfl (lv_at hl 2 rfl) ?_
    refine lv_bipush (v := 123) hx hb dX12_viewsOff_45 (by decide) ?_
    refine cr_S (As := [.int (nI a), .int 123]) (rest := [.ref a0]) hFX hKK (s_X12_at l D κ a 123) 2 gS_X12_66 hdS_X12_at rfl rfl ⟨Nat.le_of_ble_eq_true rfl, Nat.le_of_ble_eq_true rfl⟩ rfl rfl (Nat.le_of_ble_eq_true rfl) dX12_viewsOff_47 ⟨Nat.le_of_ble_eq_true rfl, Nat.le_of_ble_eq_true rfl⟩ hl.1 (hP.sub [] rfl) (fun _ hp_8 => ?_)
    refine W.eq (g2 := F0 m 50 ls [.int (nI (7123 * a + 123)), .ref a0]) rfl ?_
    refine lv_iload_n hx hb dX12_viewsOff_50 rfl (lv_at hl 0 rfl) ?_
    refine lv_iadd hx hb dX12_viewsOff_51 ?_
    refine ki (v := (nI (7123 * a + 123 + k))) (nI_add (7123 * a + 123) k) ?_
    refine lv_iload_n hx hb dX12_viewsOff_52 rfl (lv_at hl 0 rfl) ?_
    refine va_iast hx hb hK hP hD hS 1 0 rfl rfl (i := nI (7123 * a + 123 + k)) (x := nI k) (vp_in_nI (n := (7123 * a + 123 + k)) (by omega) (by omega)) dX12_viewsOff_53 (fun H locs hP hD hS => ?_)
    rw [nI_clamp (by omega)] at hP hD
    have hP : va_P D vwCl [(m0, .inr (12, [.ref a0, .ref a1, .ref a2, .int (nI u3), .int f4, .ref a5, .int (nI u6), .int f7, .int f8, .int f9, .int f10, .int (nI u11), .int (nI u12), .int (nI u13), .ref a14, .ref a15, .ref a16, .ref a17, .int f18, .int f19, .ref a20, .ref a21, .int (nI u22), .ref a23, .ref a24, .ref a25, .int (nI u26), .int f27, .ref a28, .int (nI u29)])), (a0, .inl (κ 0, 21375, .inl (upd g (7123 * a + 123 + k) (nI k))))] H := hP
    have hD : va_D A [(m0, .inr (12, [.ref a0, .ref a1, .ref a2, .int (nI u3), .int f4, .ref a5, .int (nI u6), .int f7, .int f8, .int f9, .int f10, .int (nI u11), .int (nI u12), .int (nI u13), .ref a14, .ref a15, .ref a16, .ref a17, .int f18, .int f19, .ref a20, .ref a21, .int (nI u22), .ref a23, .ref a24, .ref a25, .int (nI u26), .int f27, .ref a28, .int (nI u29)])), (a0, .inl (κ 0, 21375, .inl (upd g (7123 * a + 123 + k) (nI k))))] := hD
    have hw9 : Pw (upd g (7123 * a + 123 + k) (nI k)) := (Pw_upd hw (B := 39) ⟨a, by omega, Or.inr (Or.inr (Or.inr (Or.inr (Or.inr (Or.inr (Or.inl ⟨(7123 * a + 123 + k) - (7123 * a + 123), by omega, by omega, rfl⟩))))))⟩ ⟨k, by omega, rfl⟩)
    generalize upd g (7123 * a + 123 + k) (nI k) = w_9 at hP hD hw9
    have hw : Pw w_9 := hw9
    refine lv_iinc (v := (nI (k + 1))) (lv' := [(2, .int (nI (k + 1))), (0, .ref m0), (1, .int (nI a))]) hx hb dX12_viewsOff_54 hl (k := 0) rfl (nI_i k) (by decide) rfl (fun ls hl => ?_)
    refine lv_goto (tgt := 34) hx hb dX12_viewsOff_57 (by decide) ?_
    exact ih34 _ _ _ _ (by omega) ⟨(k + 1), w_9, (by omega), hw, rfl, hP, hD, hS, lv_sub hl [0, 1, 2] rfl⟩
set_option maxHeartbeats 4000000 in
set_option maxRecDepth 100000 in
theorem s_X12_canBe (l : Launch) (D : va_G) (κ : Nat → ClassId) (m0 : Nat) (a0 : Nat) (a1 : Nat) (a2 : Nat) (u3 : Nat) (f4 : Int32) (a5 : Nat) (u6 : Nat) (f7 : Int32) (f8 : Int32) (f9 : Int32) (f10 : Int32) (u11 : Nat) (u12 : Nat) (u13 : Nat) (a14 : Nat) (a15 : Nat) (a16 : Nat) (a17 : Nat) (f18 : Int32) (f19 : Int32) (a20 : Nat) (a21 : Nat) (u22 : Nat) (a23 : Nat) (a24 : Nat) (a25 : Nat) (u26 : Nat) (f27 : Int32) (a28 : Nat) (u29 : Nat) (w : Nat → Int32) (za : Int32) (zb : Int32) : Cr l yX12_canBe (wl yX12_canBe cX12_canBe 3 (some .boolean)) { frames := 1, cells := 0, slots := 0, locals := 25 } D κ [.ref m0, .int za, .int zb] (va_P D vwCl [(m0, .inr (12, [.ref a0, .ref a1, .ref a2, .int (nI u3), .int f4, .ref a5, .int (nI u6), .int f7, .int f8, .int f9, .int f10, .int (nI u11), .int (nI u12), .int (nI u13), .ref a14, .ref a15, .ref a16, .ref a17, .int f18, .int f19, .ref a20, .ref a21, .int (nI u22), .ref a23, .ref a24, .ref a25, .int (nI u26), .int f27, .ref a28, .int (nI u29)])), (a0, .inl (κ 0, 21375, .inl w))]) (fun r : Int32 => some (.int r)) (fun r : Int32 => (r = 1) ∨ (r = 0)) := by
  refine cr_of (by decide +kernel) (Nat.le_of_ble_eq_true rfl) ?_
  intro p e s m args below meth c ls hx hb hr hml hts hown hlk hKK hK hI hl
  have hP : va_P D vwCl [(m0, .inr (12, [.ref a0, .ref a1, .ref a2, .int (nI u3), .int f4, .ref a5, .int (nI u6), .int f7, .int f8, .int f9, .int f10, .int (nI u11), .int (nI u12), .int (nI u13), .ref a14, .ref a15, .ref a16, .ref a17, .int f18, .int f19, .ref a20, .ref a21, .int (nI u22), .ref a23, .ref a24, .ref a25, .int (nI u26), .int f27, .ref a28, .int (nI u29)])), (a0, .inl (κ 0, 21375, .inl w))] s.heap := hI
  have hFX : FX p s m args c cX12_canBe 3 RX12 := ⟨hx, hb, hml, hown, hts⟩
  have hl : lv_has ls 3 [(0, .ref m0), (1, .int za), (2, .int zb)] := hl
  refine lv_iload_n hx hb dX12_canBe_0 rfl (lv_at hl 1 rfl) ?_
  refine lv_bipush (v := 9) hx hb dX12_canBe_1 (by decide) ?_
  refine lv_icmp_ne (tgt := 29) hx hb dX12_canBe_3 (by decide) (fun c_1 => ?_) (fun c_1 => ?_)
  · refine lv_iload_n hx hb dX12_canBe_29 rfl (lv_at hl 1 rfl) ?_
    refine lv_i2l (v := za.toInt64) hx hb dX12_canBe_30 rfl ?_
    refine lv_ldc2 hx hb hown (hts _ mw_436) dX12_canBe_31 ?_
    refine lv_ldc2 hx hb hown (hts _ mw_437) dX12_canBe_34 ?_
    refine cr_S (As := [.long za.toInt64, .long 32, .long 126]) (rest := []) hFX hKK (s_X12_isIn l D κ za.toInt64 32 126) 3 gS_X12_62 hdS_X12_isIn rfl rfl ⟨Nat.le_of_ble_eq_true rfl, Nat.le_of_ble_eq_true rfl⟩ rfl rfl (Nat.le_of_ble_eq_true rfl) dX12_canBe_37 ⟨Nat.le_of_ble_eq_true rfl, Nat.le_of_ble_eq_true rfl⟩ hl.1 (hP.sub [] rfl) (fun r_2 hp_3 => ?_)
    have hp_3 : (r_2 = 1 ∧ ¬ lg_cmp za.toInt64 (32 : Int64) < 0 ∧ ¬ 0 < lg_cmp za.toInt64 (126 : Int64)) ∨ (r_2 = 0 ∧ (lg_cmp za.toInt64 (32 : Int64) < 0 ∨ 0 < lg_cmp za.toInt64 (126 : Int64))) := hp_3
    rcases hp_3 with ⟨rfl, a_4, a_5⟩ | ⟨rfl, a_6⟩
    · refine W.eq (g2 := F0 m 40 ls [.int 1]) rfl ?_
      refine lv_if_ne (tgt := 49) hx hb dX12_canBe_40 (by decide) (fun c_7 => ?_) (fun c_7 => absurd c_7 (by decide))
      refine lv_iconst (v := 1) hx hb dX12_canBe_49 (by decide) ?_
      refine lv_goto (tgt := 54) hx hb dX12_canBe_50 (by decide) ?_
      exact cr_iret hx hb hr hlk rfl 1 rfl (by first | exact Or.inl (rfl)) dX12_canBe_54
    · refine W.eq (g2 := F0 m 40 ls [.int 0]) rfl ?_
      refine lv_if_ne (tgt := 49) hx hb dX12_canBe_40 (by decide) (fun c_8 => absurd (by decide) c_8) (fun c_8 => ?_)
      refine lv_iload_n hx hb dX12_canBe_43 rfl (lv_at hl 1 rfl) ?_
      refine lv_bipush (v := 10) hx hb dX12_canBe_44 (by decide) ?_
      refine lv_icmp_ne (tgt := 53) hx hb dX12_canBe_46 (by decide) (fun c_9 => ?_) (fun c_9 => ?_)
      · refine lv_iconst (v := 0) hx hb dX12_canBe_53 (by decide) ?_
        exact cr_iret hx hb hr hlk rfl 0 rfl (by first | exact Or.inr ((rfl))) dX12_canBe_54
      · refine lv_iconst (v := 1) hx hb dX12_canBe_49 (by decide) ?_
        refine lv_goto (tgt := 54) hx hb dX12_canBe_50 (by decide) ?_
        exact cr_iret hx hb hr hlk rfl 1 rfl (by first | exact Or.inl (rfl)) dX12_canBe_54
  · refine lv_iload_n hx hb dX12_canBe_6 rfl (lv_at hl 2 rfl) ?_
    refine lv_if_ne (tgt := 27) hx hb dX12_canBe_7 (by decide) (fun c_10 => ?_) (fun c_10 => ?_)
    · refine lv_iconst (v := 0) hx hb dX12_canBe_27 (by decide) ?_
      exact cr_iret hx hb hr hlk rfl 0 rfl (by first | exact Or.inr ((rfl))) dX12_canBe_28
    · refine lv_aload_n hx hb dX12_canBe_10 rfl (lv_at hl 0 rfl) ?_
      refine va_get (D := D) (ci := 12) (v := .ref a0) (C := RX12) (T := TX12) (N := 30) hx hb hts inlX12 hown hK hP 0 rfl rfl 0 (by decide) (hts _ mw_187) (fun _ h9 => h9) rfl dX12_canBe_11 ?_
      refine lv_sipush (v := 21369) hx hb dX12_canBe_14 (by decide) ?_
      refine va_iald hx hb hK hP 1 0 rfl rfl (i := 21369) (vp_k (by decide)) dX12_canBe_17 ?_
      refine lv_topi (fun x_11 ex_11 => ?_)
      refine lv_bipush (v := 9) hx hb dX12_canBe_18 (by decide) ?_
      refine lv_icmp_ne (tgt := 27) hx hb dX12_canBe_20 (by decide) (fun c_12 => ?_) (fun c_12 => ?_)
      · refine lv_iconst (v := 0) hx hb dX12_canBe_27 (by decide) ?_
        exact cr_iret hx hb hr hlk rfl 0 rfl (by first | exact Or.inr ((rfl))) dX12_canBe_28
      · refine lv_iconst (v := 1) hx hb dX12_canBe_23 (by decide) ?_
        refine lv_goto (tgt := 28) hx hb dX12_canBe_24 (by decide) ?_
        exact cr_iret hx hb hr hlk rfl 1 rfl (by first | exact Or.inl (rfl)) dX12_canBe_28
set_option maxHeartbeats 4000000 in
set_option maxRecDepth 100000 in
theorem s_X12_isOver (l : Launch) (D : va_G) (κ : Nat → ClassId) (m0 : Nat) (a0 : Nat) (a1 : Nat) (a2 : Nat) (u3 : Nat) (f4 : Int32) (a5 : Nat) (u6 : Nat) (f7 : Int32) (f8 : Int32) (f9 : Int32) (f10 : Int32) (u11 : Nat) (u12 : Nat) (u13 : Nat) (a14 : Nat) (a15 : Nat) (a16 : Nat) (a17 : Nat) (f18 : Int32) (f19 : Int32) (a20 : Nat) (a21 : Nat) (u22 : Nat) (a23 : Nat) (a24 : Nat) (a25 : Nat) (u26 : Nat) (f27 : Int32) (a28 : Nat) (u29 : Nat) (w : Nat → Int32) (tp : Nat → Int32) (h6 : u6 ≤ 800) (h11 : u11 ≤ u6) : Cr l yX12_isOver (wl yX12_isOver cX12_isOver 1 (some .boolean)) { frames := 1, cells := 0, slots := 0, locals := 20 } D κ [.ref m0] (va_P D vwCl [(m0, .inr (12, [.ref a0, .ref a1, .ref a2, .int (nI u3), .int f4, .ref a5, .int (nI u6), .int f7, .int f8, .int f9, .int f10, .int (nI u11), .int (nI u12), .int (nI u13), .ref a14, .ref a15, .ref a16, .ref a17, .int f18, .int f19, .ref a20, .ref a21, .int (nI u22), .ref a23, .ref a24, .ref a25, .int (nI u26), .int f27, .ref a28, .int (nI u29)])), (a0, .inl (κ 0, 21375, .inl w)), (a5, .inl (κ 0, 800, .inl tp))]) (fun r : Int32 => some (.int r)) (fun r : Int32 => (r = 1) ∨ (r = 0 ∧ u11 < u6)) := by
  refine cr_of (by decide +kernel) (Nat.le_of_ble_eq_true rfl) ?_
  intro p e s m args below meth c ls hx hb hr hml hts hown hlk hKK hK hI hl
  have hP : va_P D vwCl [(m0, .inr (12, [.ref a0, .ref a1, .ref a2, .int (nI u3), .int f4, .ref a5, .int (nI u6), .int f7, .int f8, .int f9, .int f10, .int (nI u11), .int (nI u12), .int (nI u13), .ref a14, .ref a15, .ref a16, .ref a17, .int f18, .int f19, .ref a20, .ref a21, .int (nI u22), .ref a23, .ref a24, .ref a25, .int (nI u26), .int f27, .ref a28, .int (nI u29)])), (a0, .inl (κ 0, 21375, .inl w)), (a5, .inl (κ 0, 800, .inl tp))] s.heap := hI
  have hFX : FX p s m args c cX12_isOver 1 RX12 := ⟨hx, hb, hml, hown, hts⟩
  have hl : lv_has ls 1 [(0, .ref m0)] := hl
  refine lv_aload_n hx hb dX12_isOver_0 rfl (lv_at hl 0 rfl) ?_
  refine cr_V (As := []) (rest := []) hFX hKK (s_X12_isEnd l D κ m0 a0 a1 a2 u3 f4 a5 u6 f7 f8 f9 f10 u11 u12 u13 a14 a15 a16 a17 f18 f19 a20 a21 u22 a23 a24 a25 u26 f27 a28 u29 tp (by omega) (by omega)) 0 gV_X12_198 hdV_X12_isEnd rfl rfl ⟨Nat.le_of_ble_eq_true rfl, Nat.le_of_ble_eq_true rfl⟩ rfl rfl (Nat.le_of_ble_eq_true rfl) dX12_isOver_1 ⟨Nat.le_of_ble_eq_true rfl, Nat.le_of_ble_eq_true rfl⟩ hl.1 hP 0 12 rfl rfl rfl (hP.sub [0, 2] rfl) (fun r_1 hp_2 => ?_)
  have hp_2 : (r_1 = 1) ∨ (r_1 = 0 ∧ u11 < u6) := hp_2
  rcases hp_2 with rfl | ⟨rfl, a_3⟩
  · refine W.eq (g2 := F0 m 4 ls [.int 1]) rfl ?_
    refine lv_if_ne (tgt := 27) hx hb dX12_isOver_4 (by decide) (fun c_4 => ?_) (fun c_4 => absurd c_4 (by decide))
    refine lv_iconst (v := 1) hx hb dX12_isOver_27 (by decide) ?_
    refine lv_goto (tgt := 32) hx hb dX12_isOver_28 (by decide) ?_
    exact cr_iret hx hb hr hlk rfl 1 rfl (by first | exact Or.inl (rfl)) dX12_isOver_32
  · refine W.eq (g2 := F0 m 4 ls [.int 0]) rfl ?_
    refine lv_if_ne (tgt := 27) hx hb dX12_isOver_4 (by decide) (fun c_5 => absurd (by decide) c_5) (fun c_5 => ?_)
    refine lv_aload_n hx hb dX12_isOver_7 rfl (lv_at hl 0 rfl) ?_
    refine va_get (D := D) (ci := 12) (v := .ref a5) (C := RX12) (T := TX12) (N := 30) hx hb hts inlX12 hown hK hP 0 rfl rfl 5 (by decide) (hts _ mw_191) (fun _ h9 => h9) rfl dX12_isOver_8 ?_
    refine lv_aload_n hx hb dX12_isOver_11 rfl (lv_at hl 0 rfl) ?_
    refine va_get (D := D) (ci := 12) (v := .int (nI u11)) (C := RX12) (T := TX12) (N := 30) hx hb hts inlX12 hown hK hP 0 rfl rfl 11 (by decide) (hts _ mw_423) (fun _ h9 => h9) rfl dX12_isOver_12 ?_
    refine va_iald hx hb hK hP 2 0 rfl rfl (i := nI u11) (vp_in_nI (n := u11) (by omega) (by omega)) dX12_isOver_15 ?_
    refine kv (v := .int (tp u11)) (by rw [nI_clamp (by omega)]) ?_
    refine lv_topi (fun x_6 ex_6 => ?_)
    refine lv_aload_n hx hb dX12_isOver_16 rfl (lv_at hl 0 rfl) ?_
    refine va_get (D := D) (ci := 12) (v := .ref a0) (C := RX12) (T := TX12) (N := 30) hx hb hts inlX12 hown hK hP 0 rfl rfl 0 (by decide) (hts _ mw_187) (fun _ h9 => h9) rfl dX12_isOver_17 ?_
    refine lv_sipush (v := 21369) hx hb dX12_isOver_20 (by decide) ?_
    refine va_iald hx hb hK hP 1 0 rfl rfl (i := 21369) (vp_k (by decide)) dX12_isOver_23 ?_
    refine lv_topi (fun x_7 ex_7 => ?_)
    refine lv_icmp_ne (tgt := 31) hx hb dX12_isOver_24 (by decide) (fun c_8 => ?_) (fun c_8 => ?_)
    · refine lv_iconst (v := 0) hx hb dX12_isOver_31 (by decide) ?_
      exact cr_iret hx hb hr hlk rfl 0 rfl (by first | exact Or.inr ((⟨rfl, (by first | assumption | exact Or.inl (by assumption) | exact Or.inr (by assumption) | exact out_ne (by assumption) (by decide) (by decide) | exact ⟨_, (by assumption), rfl⟩ | omega)⟩))) dX12_isOver_32
    · refine lv_iconst (v := 1) hx hb dX12_isOver_27 (by decide) ?_
      refine lv_goto (tgt := 32) hx hb dX12_isOver_28 (by decide) ?_
      exact cr_iret hx hb hr hlk rfl 1 rfl (by first | exact Or.inl (rfl)) dX12_isOver_32
set_option maxHeartbeats 4000000 in
set_option maxRecDepth 100000 in
theorem s_X12_blanks (l : Launch) (D : va_G) (κ : Nat → ClassId) (m0 : Nat) (a0 : Nat) (a1 : Nat) (a2 : Nat) (u3 : Nat) (f4 : Int32) (a5 : Nat) (u6 : Nat) (f7 : Int32) (f8 : Int32) (f9 : Int32) (f10 : Int32) (u11 : Nat) (u12 : Nat) (u13 : Nat) (a14 : Nat) (a15 : Nat) (a16 : Nat) (a17 : Nat) (f18 : Int32) (f19 : Int32) (a20 : Nat) (a21 : Nat) (u22 : Nat) (a23 : Nat) (a24 : Nat) (a25 : Nat) (u26 : Nat) (f27 : Int32) (a28 : Nat) (u29 : Nat) (w : Nat → Int32) (tp : Nat → Int32) (h6 : u6 ≤ 800) (h11 : u11 ≤ u6) : Ct l yX12_blanks (wl yX12_blanks cX12_blanks 1 none) { frames := 0, cells := 0, slots := 0, locals := 0 } D κ [.ref m0] [(m0, .inr (12, [.ref a0, .ref a1, .ref a2, .int (nI u3), .int f4, .ref a5, .int (nI u6), .int f7, .int f8, .int f9, .int f10, .int (nI u11), .int (nI u12), .int (nI u13), .ref a14, .ref a15, .ref a16, .ref a17, .int f18, .int f19, .ref a20, .ref a21, .int (nI u22), .ref a23, .ref a24, .ref a25, .int (nI u26), .int f27, .ref a28, .int (nI u29)])), (a0, .inl (κ 0, 21375, .inl w)), (a5, .inl (κ 0, 800, .inl tp))] (fun _ => True) (fun n : Nat => none) (fun n : Nat => u11 ≤ n ∧ n ≤ u6) (fun n : Nat => [(m0, .inr (12, [.ref a0, .ref a1, .ref a2, .int (nI u3), .int f4, .ref a5, .int (nI u6), .int f7, .int f8, .int f9, .int f10, .int (nI n), .int (nI u12), .int (nI u13), .ref a14, .ref a15, .ref a16, .ref a17, .int f18, .int f19, .ref a20, .ref a21, .int (nI u22), .ref a23, .ref a24, .ref a25, .int (nI u26), .int f27, .ref a28, .int (nI u29)])), (a0, .inl (κ 0, 21375, .inl w)), (a5, .inl (κ 0, 800, .inl tp))]) (fun _ _ => True) := by
  refine ct_of (by decide +kernel) (Nat.le_of_ble_eq_true rfl) ?_
  intro p e s m args below meth c A ls hx hb hr hml hts hown hlk hin hKK hK hA hP hD hS hI hl
  have hS : va_S A s.heap s.heap [] := hS
  have hFX : FX p s m args c cX12_blanks 1 RX12 := ⟨hx, hb, hml, hown, hts⟩
  have hl : lv_has ls 1 [(0, .ref m0)] := hl
  refine loop_dn (fun k9 H locs ls => ∃ (n : Nat), (u11 ≤ n) ∧ (n ≤ u6) ∧ u6 - n = k9 ∧ va_P D vwCl [(m0, .inr (12, [.ref a0, .ref a1, .ref a2, .int (nI u3), .int f4, .ref a5, .int (nI u6), .int f7, .int f8, .int f9, .int f10, .int (nI n), .int (nI u12), .int (nI u13), .ref a14, .ref a15, .ref a16, .ref a17, .int f18, .int f19, .ref a20, .ref a21, .int (nI u22), .ref a23, .ref a24, .ref a25, .int (nI u26), .int f27, .ref a28, .int (nI u29)])), (a0, .inl (κ 0, 21375, .inl w)), (a5, .inl (κ 0, 800, .inl tp))] H ∧ va_D A [(m0, .inr (12, [.ref a0, .ref a1, .ref a2, .int (nI u3), .int f4, .ref a5, .int (nI u6), .int f7, .int f8, .int f9, .int f10, .int (nI n), .int (nI u12), .int (nI u13), .ref a14, .ref a15, .ref a16, .ref a17, .int f18, .int f19, .ref a20, .ref a21, .int (nI u22), .ref a23, .ref a24, .ref a25, .int (nI u26), .int f27, .ref a28, .int (nI u29)])), (a0, .inl (κ 0, 21375, .inl w)), (a5, .inl (κ 0, 800, .inl tp))] ∧ va_S A s.heap H locs ∧ lv_has ls 1 [(0, .ref m0)]) (fun k9 H locs ls hI0 ih0 => ?_) (u6 - u11) _ _ _ ⟨u11, (by omega), (by omega), rfl, hP, hD, hS, lv_sub hl [0] rfl⟩
  obtain ⟨n, hn0, hn1, hm0, hP, hD, hS, hl⟩ := hI0
  refine lv_aload_n hx hb dX12_blanks_0 rfl (lv_at hl 0 rfl) ?_
  refine va_get (D := D) (ci := 12) (v := .ref a0) (C := RX12) (T := TX12) (N := 30) hx hb hts inlX12 hown hK hP 0 rfl rfl 0 (by decide) (hts _ mw_187) (fun _ h9 => h9) rfl dX12_blanks_1 ?_
  refine lv_sipush (v := 21372) hx hb dX12_blanks_4 (by decide) ?_
  refine va_iald hx hb hK hP 1 0 rfl rfl (i := 21372) (vp_k (by decide)) dX12_blanks_7 ?_
  refine lv_topi (fun x_1 ex_1 => ?_)
  refine lv_iconst (v := 1) hx hb dX12_blanks_8 (by decide) ?_
  refine lv_icmp_ne (tgt := 50) hx hb dX12_blanks_9 (by decide) (fun c_2 => ?_) (fun c_2 => ?_)
  · exact ct_vret hx hb hr hlk hS hP hD n rfl ⟨by omega, by omega⟩ [0, 1, 2] rfl (by decide) trivial (Nat.le_of_ble_eq_true rfl) (Nat.le_of_ble_eq_true rfl) dX12_blanks_50
  · refine lv_aload_n hx hb dX12_blanks_12 rfl (lv_at hl 0 rfl) ?_
    refine va_get (D := D) (ci := 12) (v := .int (nI n)) (C := RX12) (T := TX12) (N := 30) hx hb hts inlX12 hown hK hP 0 rfl rfl 11 (by decide) (hts _ mw_423) (fun _ h9 => h9) rfl dX12_blanks_13 ?_
    refine lv_aload_n hx hb dX12_blanks_16 rfl (lv_at hl 0 rfl) ?_
    refine va_get (D := D) (ci := 12) (v := .int (nI u6)) (C := RX12) (T := TX12) (N := 30) hx hb hts inlX12 hown hK hP 0 rfl rfl 6 (by decide) (hts _ mw_236) (fun _ h9 => h9) rfl dX12_blanks_17 ?_
    refine lv_icmp_ge (tgt := 50) hx hb dX12_blanks_20 (by decide) (fun c_3 => ?_) (fun c_3 => ?_)
    · have nc_3 := cv_le (a := u6) (b := n) (by omega) (by omega) c_3
      exact ct_vret hx hb hr hlk hS hP hD n rfl ⟨by omega, by omega⟩ [0, 1, 2] rfl (by decide) trivial (Nat.le_of_ble_eq_true rfl) (Nat.le_of_ble_eq_true rfl) dX12_blanks_50
    · have nc_3 := cv_nle (a := u6) (b := n) (by omega) (by omega) c_3
      refine lv_aload_n hx hb dX12_blanks_23 rfl (lv_at hl 0 rfl) ?_
      refine va_get (D := D) (ci := 12) (v := .ref a5) (C := RX12) (T := TX12) (N := 30) hx hb hts inlX12 hown hK hP 0 rfl rfl 5 (by decide) (hts _ mw_191) (fun _ h9 => h9) rfl dX12_blanks_24 ?_
      refine lv_aload_n hx hb dX12_blanks_27 rfl (lv_at hl 0 rfl) ?_
      refine va_get (D := D) (ci := 12) (v := .int (nI n)) (C := RX12) (T := TX12) (N := 30) hx hb hts inlX12 hown hK hP 0 rfl rfl 11 (by decide) (hts _ mw_423) (fun _ h9 => h9) rfl dX12_blanks_28 ?_
      refine va_iald hx hb hK hP 2 0 rfl rfl (i := nI n) (vp_in_nI (n := n) (by omega) (by omega)) dX12_blanks_31 ?_
      refine kv (v := .int (tp n)) (by rw [nI_clamp (by omega)]) ?_
      refine lv_topi (fun x_4 ex_4 => ?_)
      refine lv_bipush (v := 32) hx hb dX12_blanks_32 (by decide) ?_
      refine lv_icmp_ne (tgt := 50) hx hb dX12_blanks_34 (by decide) (fun c_5 => ?_) (fun c_5 => ?_)
      · exact ct_vret hx hb hr hlk hS hP hD n rfl ⟨by omega, by omega⟩ [0, 1, 2] rfl (by decide) trivial (Nat.le_of_ble_eq_true rfl) (Nat.le_of_ble_eq_true rfl) dX12_blanks_50
      · refine lv_aload_n hx hb dX12_blanks_37 rfl (lv_at hl 0 rfl) ?_
        refine lv_dup hx hb dX12_blanks_38 rfl ?_
        refine va_get (D := D) (ci := 12) (v := .int (nI n)) (C := RX12) (T := TX12) (N := 30) hx hb hts inlX12 hown hK hP 0 rfl rfl 11 (by decide) (hts _ mw_423) (fun _ h9 => h9) rfl dX12_blanks_39 ?_
        refine lv_iconst (v := 1) hx hb dX12_blanks_42 (by decide) ?_
        refine lv_iadd hx hb dX12_blanks_43 ?_
        refine ki (v := (nI (n + 1))) (nI_add n 1) ?_
        refine va_put (D := D) (ci := 12) (v := .int (nI (n + 1))) (ty := tyX12 11) (C := RX12) (T := TX12) (N := 30) hx hb hts inlX12 tyX12 tyX12_ok nmX12 hown hK hP hD hS 0 rfl rfl 11 (by decide) (hts _ mw_423) (fun _ h9 => h9) rfl (tyX12_ok 11 (by decide)) rfl rfl (Nat.le_of_ble_eq_true rfl) dX12_blanks_44 (fun H locs hP hD hS => ?_)
        have hP : va_P D vwCl [(m0, .inr (12, [.ref a0, .ref a1, .ref a2, .int (nI u3), .int f4, .ref a5, .int (nI u6), .int f7, .int f8, .int f9, .int f10, .int (nI (n + 1)), .int (nI u12), .int (nI u13), .ref a14, .ref a15, .ref a16, .ref a17, .int f18, .int f19, .ref a20, .ref a21, .int (nI u22), .ref a23, .ref a24, .ref a25, .int (nI u26), .int f27, .ref a28, .int (nI u29)])), (a0, .inl (κ 0, 21375, .inl w)), (a5, .inl (κ 0, 800, .inl tp))] H := hP
        have hD : va_D A [(m0, .inr (12, [.ref a0, .ref a1, .ref a2, .int (nI u3), .int f4, .ref a5, .int (nI u6), .int f7, .int f8, .int f9, .int f10, .int (nI (n + 1)), .int (nI u12), .int (nI u13), .ref a14, .ref a15, .ref a16, .ref a17, .int f18, .int f19, .ref a20, .ref a21, .int (nI u22), .ref a23, .ref a24, .ref a25, .int (nI u26), .int f27, .ref a28, .int (nI u29)])), (a0, .inl (κ 0, 21375, .inl w)), (a5, .inl (κ 0, 800, .inl tp))] := hD
        refine lv_goto (tgt := 0) hx hb dX12_blanks_47 (by decide) ?_
        exact ih0 _ _ _ _ (by omega) ⟨(n + 1), (by omega), (by omega), rfl, hP, hD, hS, lv_sub hl [0] rfl⟩
set_option maxHeartbeats 4000000 in
set_option maxRecDepth 100000 in
theorem s_X12_wrong (l : Launch) (D : va_G) (κ : Nat → ClassId) (m0 : Nat) (a0 : Nat) (a1 : Nat) (a2 : Nat) (u3 : Nat) (f4 : Int32) (a5 : Nat) (u6 : Nat) (f7 : Int32) (f8 : Int32) (f9 : Int32) (f10 : Int32) (u11 : Nat) (u12 : Nat) (u13 : Nat) (a14 : Nat) (a15 : Nat) (a16 : Nat) (a17 : Nat) (f18 : Int32) (f19 : Int32) (a20 : Nat) (a21 : Nat) (u22 : Nat) (a23 : Nat) (a24 : Nat) (a25 : Nat) (u26 : Nat) (f27 : Int32) (a28 : Nat) (u29 : Nat) (za : Int32) (zb : Int32) (zc : Int32) : Ct l yX12_wrong (wl yX12_wrong cX12_wrong 4 (some .boolean)) { frames := 0, cells := 0, slots := 0, locals := 0 } D κ [.ref m0, .int za, .int zb, .int zc] [(m0, .inr (12, [.ref a0, .ref a1, .ref a2, .int (nI u3), .int f4, .ref a5, .int (nI u6), .int f7, .int f8, .int f9, .int f10, .int (nI u11), .int (nI u12), .int (nI u13), .ref a14, .ref a15, .ref a16, .ref a17, .int f18, .int f19, .ref a20, .ref a21, .int (nI u22), .ref a23, .ref a24, .ref a25, .int (nI u26), .int f27, .ref a28, .int (nI u29)]))] (fun _ => True) (fun _ : Unit => some (.int 0)) (fun _ : Unit => True) (fun _ : Unit => [(m0, .inr (12, [.ref a0, .ref a1, .ref a2, .int (nI u3), .int f4, .ref a5, .int (nI u6), .int za, .int zb, .int zc, .int f10, .int (nI u11), .int (nI u12), .int (nI u13), .ref a14, .ref a15, .ref a16, .ref a17, .int f18, .int f19, .ref a20, .ref a21, .int (nI u22), .ref a23, .ref a24, .ref a25, .int (nI u26), .int f27, .ref a28, .int (nI u29)]))]) (fun _ _ => True) := by
  refine ct_of (by decide +kernel) (Nat.le_of_ble_eq_true rfl) ?_
  intro p e s m args below meth c A ls hx hb hr hml hts hown hlk hin hKK hK hA hP hD hS hI hl
  have hS : va_S A s.heap s.heap [] := hS
  have hFX : FX p s m args c cX12_wrong 4 RX12 := ⟨hx, hb, hml, hown, hts⟩
  have hl : lv_has ls 4 [(0, .ref m0), (1, .int za), (2, .int zb), (3, .int zc)] := hl
  refine lv_aload_n hx hb dX12_wrong_0 rfl (lv_at hl 0 rfl) ?_
  refine lv_iload_n hx hb dX12_wrong_1 rfl (lv_at hl 1 rfl) ?_
  refine va_put (D := D) (ci := 12) (v := .int za) (ty := tyX12 7) (C := RX12) (T := TX12) (N := 30) hx hb hts inlX12 tyX12 tyX12_ok nmX12 hown hK hP hD hS 0 rfl rfl 7 (by decide) (hts _ mw_418) (fun _ h9 => h9) rfl (tyX12_ok 7 (by decide)) rfl rfl (Nat.le_of_ble_eq_true rfl) dX12_wrong_2 (fun H locs hP hD hS => ?_)
  have hP : va_P D vwCl [(m0, .inr (12, [.ref a0, .ref a1, .ref a2, .int (nI u3), .int f4, .ref a5, .int (nI u6), .int za, .int f8, .int f9, .int f10, .int (nI u11), .int (nI u12), .int (nI u13), .ref a14, .ref a15, .ref a16, .ref a17, .int f18, .int f19, .ref a20, .ref a21, .int (nI u22), .ref a23, .ref a24, .ref a25, .int (nI u26), .int f27, .ref a28, .int (nI u29)]))] H := hP
  have hD : va_D A [(m0, .inr (12, [.ref a0, .ref a1, .ref a2, .int (nI u3), .int f4, .ref a5, .int (nI u6), .int za, .int f8, .int f9, .int f10, .int (nI u11), .int (nI u12), .int (nI u13), .ref a14, .ref a15, .ref a16, .ref a17, .int f18, .int f19, .ref a20, .ref a21, .int (nI u22), .ref a23, .ref a24, .ref a25, .int (nI u26), .int f27, .ref a28, .int (nI u29)]))] := hD
  refine lv_aload_n hx hb dX12_wrong_5 rfl (lv_at hl 0 rfl) ?_
  refine lv_iload_n hx hb dX12_wrong_6 rfl (lv_at hl 2 rfl) ?_
  refine va_put (D := D) (ci := 12) (v := .int zb) (ty := tyX12 8) (C := RX12) (T := TX12) (N := 30) hx hb hts inlX12 tyX12 tyX12_ok nmX12 hown hK hP hD hS 0 rfl rfl 8 (by decide) (hts _ mw_192) (fun _ h9 => h9) rfl (tyX12_ok 8 (by decide)) rfl rfl (Nat.le_of_ble_eq_true rfl) dX12_wrong_7 (fun H locs hP hD hS => ?_)
  have hP : va_P D vwCl [(m0, .inr (12, [.ref a0, .ref a1, .ref a2, .int (nI u3), .int f4, .ref a5, .int (nI u6), .int za, .int zb, .int f9, .int f10, .int (nI u11), .int (nI u12), .int (nI u13), .ref a14, .ref a15, .ref a16, .ref a17, .int f18, .int f19, .ref a20, .ref a21, .int (nI u22), .ref a23, .ref a24, .ref a25, .int (nI u26), .int f27, .ref a28, .int (nI u29)]))] H := hP
  have hD : va_D A [(m0, .inr (12, [.ref a0, .ref a1, .ref a2, .int (nI u3), .int f4, .ref a5, .int (nI u6), .int za, .int zb, .int f9, .int f10, .int (nI u11), .int (nI u12), .int (nI u13), .ref a14, .ref a15, .ref a16, .ref a17, .int f18, .int f19, .ref a20, .ref a21, .int (nI u22), .ref a23, .ref a24, .ref a25, .int (nI u26), .int f27, .ref a28, .int (nI u29)]))] := hD
  refine lv_aload_n hx hb dX12_wrong_10 rfl (lv_at hl 0 rfl) ?_
  refine lv_iload_n hx hb dX12_wrong_11 rfl (lv_at hl 3 rfl) ?_
  refine va_put (D := D) (ci := 12) (v := .int zc) (ty := tyX12 9) (C := RX12) (T := TX12) (N := 30) hx hb hts inlX12 tyX12 tyX12_ok nmX12 hown hK hP hD hS 0 rfl rfl 9 (by decide) (hts _ mw_193) (fun _ h9 => h9) rfl (tyX12_ok 9 (by decide)) rfl rfl (Nat.le_of_ble_eq_true rfl) dX12_wrong_12 (fun H locs hP hD hS => ?_)
  have hP : va_P D vwCl [(m0, .inr (12, [.ref a0, .ref a1, .ref a2, .int (nI u3), .int f4, .ref a5, .int (nI u6), .int za, .int zb, .int zc, .int f10, .int (nI u11), .int (nI u12), .int (nI u13), .ref a14, .ref a15, .ref a16, .ref a17, .int f18, .int f19, .ref a20, .ref a21, .int (nI u22), .ref a23, .ref a24, .ref a25, .int (nI u26), .int f27, .ref a28, .int (nI u29)]))] H := hP
  have hD : va_D A [(m0, .inr (12, [.ref a0, .ref a1, .ref a2, .int (nI u3), .int f4, .ref a5, .int (nI u6), .int za, .int zb, .int zc, .int f10, .int (nI u11), .int (nI u12), .int (nI u13), .ref a14, .ref a15, .ref a16, .ref a17, .int f18, .int f19, .ref a20, .ref a21, .int (nI u22), .ref a23, .ref a24, .ref a25, .int (nI u26), .int f27, .ref a28, .int (nI u29)]))] := hD
  refine lv_iconst (v := 0) hx hb dX12_wrong_15 (by decide) ?_
  exact ct_iret hx hb hr hlk rfl hS hP hD () rfl trivial [0] rfl (by decide) trivial (Nat.le_of_ble_eq_true rfl) (Nat.le_of_ble_eq_true rfl) dX12_wrong_16
set_option maxHeartbeats 4000000 in
set_option maxRecDepth 100000 in
theorem s_X12_goesOn (l : Launch) (D : va_G) (κ : Nat → ClassId) (m0 : Nat) (a0 : Nat) (a1 : Nat) (a2 : Nat) (u3 : Nat) (f4 : Int32) (a5 : Nat) (u6 : Nat) (f7 : Int32) (f8 : Int32) (f9 : Int32) (f10 : Int32) (u11 : Nat) (u12 : Nat) (u13 : Nat) (a14 : Nat) (a15 : Nat) (a16 : Nat) (a17 : Nat) (f18 : Int32) (f19 : Int32) (a20 : Nat) (a21 : Nat) (u22 : Nat) (a23 : Nat) (a24 : Nat) (a25 : Nat) (u26 : Nat) (f27 : Int32) (a28 : Nat) (u29 : Nat) (h6 : u6 ≤ 800) (h11 : u11 ≤ u6) : Ct l yX12_goesOn (wl yX12_goesOn cX12_goesOn 1 none) { frames := 0, cells := 0, slots := 0, locals := 0 } D κ [.ref m0] [(m0, .inr (12, [.ref a0, .ref a1, .ref a2, .int (nI u3), .int f4, .ref a5, .int (nI u6), .int f7, .int f8, .int f9, .int f10, .int (nI u11), .int (nI u12), .int (nI u13), .ref a14, .ref a15, .ref a16, .ref a17, .int f18, .int f19, .ref a20, .ref a21, .int (nI u22), .ref a23, .ref a24, .ref a25, .int (nI u26), .int f27, .ref a28, .int (nI u29)]))] (fun _ => True) (fun n : Nat => none) (fun n : Nat => u11 ≤ n ∧ n ≤ u6) (fun n : Nat => [(m0, .inr (12, [.ref a0, .ref a1, .ref a2, .int (nI u3), .int f4, .ref a5, .int (nI u6), .int f7, .int f8, .int f9, .int f10, .int (nI n), .int (nI u12), .int (nI u13), .ref a14, .ref a15, .ref a16, .ref a17, .int f18, .int f19, .ref a20, .ref a21, .int (nI u22), .ref a23, .ref a24, .ref a25, .int (nI u26), .int f27, .ref a28, .int (nI u29)]))]) (fun _ _ => True) := by
  refine ct_of (by decide +kernel) (Nat.le_of_ble_eq_true rfl) ?_
  intro p e s m args below meth c A ls hx hb hr hml hts hown hlk hin hKK hK hA hP hD hS hI hl
  have hS : va_S A s.heap s.heap [] := hS
  have hFX : FX p s m args c cX12_goesOn 1 RX12 := ⟨hx, hb, hml, hown, hts⟩
  have hl : lv_has ls 1 [(0, .ref m0)] := hl
  refine lv_aload_n hx hb dX12_goesOn_0 rfl (lv_at hl 0 rfl) ?_
  refine va_get (D := D) (ci := 12) (v := .int (nI u11)) (C := RX12) (T := TX12) (N := 30) hx hb hts inlX12 hown hK hP 0 rfl rfl 11 (by decide) (hts _ mw_423) (fun _ h9 => h9) rfl dX12_goesOn_1 ?_
  refine lv_aload_n hx hb dX12_goesOn_4 rfl (lv_at hl 0 rfl) ?_
  refine va_get (D := D) (ci := 12) (v := .int (nI u6)) (C := RX12) (T := TX12) (N := 30) hx hb hts inlX12 hown hK hP 0 rfl rfl 6 (by decide) (hts _ mw_236) (fun _ h9 => h9) rfl dX12_goesOn_5 ?_
  refine lv_icmp_ge (tgt := 21) hx hb dX12_goesOn_8 (by decide) (fun c_1 => ?_) (fun c_1 => ?_)
  · have nc_1 := cv_le (a := u6) (b := u11) (by omega) (by omega) c_1
    exact ct_vret hx hb hr hlk hS hP hD u11 rfl ⟨by omega, by omega⟩ [0] rfl (by decide) trivial (Nat.le_of_ble_eq_true rfl) (Nat.le_of_ble_eq_true rfl) dX12_goesOn_21
  · have nc_1 := cv_nle (a := u6) (b := u11) (by omega) (by omega) c_1
    refine lv_aload_n hx hb dX12_goesOn_11 rfl (lv_at hl 0 rfl) ?_
    refine lv_dup hx hb dX12_goesOn_12 rfl ?_
    refine va_get (D := D) (ci := 12) (v := .int (nI u11)) (C := RX12) (T := TX12) (N := 30) hx hb hts inlX12 hown hK hP 0 rfl rfl 11 (by decide) (hts _ mw_423) (fun _ h9 => h9) rfl dX12_goesOn_13 ?_
    refine lv_iconst (v := 1) hx hb dX12_goesOn_16 (by decide) ?_
    refine lv_iadd hx hb dX12_goesOn_17 ?_
    refine ki (v := (nI (u11 + 1))) (nI_add u11 1) ?_
    refine va_put (D := D) (ci := 12) (v := .int (nI (u11 + 1))) (ty := tyX12 11) (C := RX12) (T := TX12) (N := 30) hx hb hts inlX12 tyX12 tyX12_ok nmX12 hown hK hP hD hS 0 rfl rfl 11 (by decide) (hts _ mw_423) (fun _ h9 => h9) rfl (tyX12_ok 11 (by decide)) rfl rfl (Nat.le_of_ble_eq_true rfl) dX12_goesOn_18 (fun H locs hP hD hS => ?_)
    have hP : va_P D vwCl [(m0, .inr (12, [.ref a0, .ref a1, .ref a2, .int (nI u3), .int f4, .ref a5, .int (nI u6), .int f7, .int f8, .int f9, .int f10, .int (nI (u11 + 1)), .int (nI u12), .int (nI u13), .ref a14, .ref a15, .ref a16, .ref a17, .int f18, .int f19, .ref a20, .ref a21, .int (nI u22), .ref a23, .ref a24, .ref a25, .int (nI u26), .int f27, .ref a28, .int (nI u29)]))] H := hP
    have hD : va_D A [(m0, .inr (12, [.ref a0, .ref a1, .ref a2, .int (nI u3), .int f4, .ref a5, .int (nI u6), .int f7, .int f8, .int f9, .int f10, .int (nI (u11 + 1)), .int (nI u12), .int (nI u13), .ref a14, .ref a15, .ref a16, .ref a17, .int f18, .int f19, .ref a20, .ref a21, .int (nI u22), .ref a23, .ref a24, .ref a25, .int (nI u26), .int f27, .ref a28, .int (nI u29)]))] := hD
    exact ct_vret hx hb hr hlk hS hP hD (u11 + 1) rfl ⟨by omega, by omega⟩ [0] rfl (by decide) trivial (Nat.le_of_ble_eq_true rfl) (Nat.le_of_ble_eq_true rfl) dX12_goesOn_21
set_option maxHeartbeats 4000000 in
set_option maxRecDepth 100000 in
theorem s_X12_adds (l : Launch) (D : va_G) (κ : Nat → ClassId) (m0 : Nat) (a0 : Nat) (a1 : Nat) (a2 : Nat) (u3 : Nat) (f4 : Int32) (a5 : Nat) (u6 : Nat) (f7 : Int32) (f8 : Int32) (f9 : Int32) (f10 : Int32) (u11 : Nat) (u12 : Nat) (u13 : Nat) (a14 : Nat) (a15 : Nat) (a16 : Nat) (a17 : Nat) (f18 : Int32) (f19 : Int32) (a20 : Nat) (a21 : Nat) (u22 : Nat) (a23 : Nat) (a24 : Nat) (a25 : Nat) (u26 : Nat) (f27 : Int32) (a28 : Nat) (u29 : Nat) (fd : Nat → Int32) (a : Nat) (zb : Int32) (hfd : Pfd fd) (ha : a < 9) : Ct l yX12_adds (wl yX12_adds cX12_adds 4 (some .boolean)) { frames := 0, cells := 0, slots := 0, locals := 0 } D κ [.ref m0, .int (nI a), .int zb] [(m0, .inr (12, [.ref a0, .ref a1, .ref a2, .int (nI u3), .int f4, .ref a5, .int (nI u6), .int f7, .int f8, .int f9, .int f10, .int (nI u11), .int (nI u12), .int (nI u13), .ref a14, .ref a15, .ref a16, .ref a17, .int f18, .int f19, .ref a20, .ref a21, .int (nI u22), .ref a23, .ref a24, .ref a25, .int (nI u26), .int f27, .ref a28, .int (nI u29)])), (a14, .inl (κ 0, 189, .inl fd))] (fun _ => True) (fun u9 : Int32 × (Nat → Int32) => some (.int u9.1)) (fun u9 : Int32 × (Nat → Int32) => (u9.1 = 1 ∨ u9.1 = 0) ∧ Pfd u9.2) (fun u9 : Int32 × (Nat → Int32) => [(m0, .inr (12, [.ref a0, .ref a1, .ref a2, .int (nI u3), .int f4, .ref a5, .int (nI u6), .int f7, .int f8, .int f9, .int f10, .int (nI u11), .int (nI u12), .int (nI u13), .ref a14, .ref a15, .ref a16, .ref a17, .int f18, .int f19, .ref a20, .ref a21, .int (nI u22), .ref a23, .ref a24, .ref a25, .int (nI u26), .int f27, .ref a28, .int (nI u29)])), (a14, .inl (κ 0, 189, .inl u9.2))]) (fun _ _ => True) := by
  refine ct_of (by decide +kernel) (Nat.le_of_ble_eq_true rfl) ?_
  intro p e s m args below meth c A ls hx hb hr hml hts hown hlk hin hKK hK hA hP hD hS hI hl
  have hS : va_S A s.heap s.heap [] := hS
  have hFX : FX p s m args c cX12_adds 4 RX12 := ⟨hx, hb, hml, hown, hts⟩
  have hl : lv_has ls 4 [(0, .ref m0), (1, .int (nI a)), (2, .int zb)] := hl
  refine lv_bipush (v := 21) hx hb dX12_adds_0 (by decide) ?_
  refine lv_iload_n hx hb dX12_adds_2 rfl (lv_at hl 1 rfl) ?_
  refine lv_imul hx hb dX12_adds_3 ?_
  refine ki (v := (nI (21 * a))) (pk_mul 21 a) ?_
  refine lv_istore_n (lv' := [(3, .int (nI (21 * a))), (0, .ref m0), (1, .int (nI a)), (2, .int zb)]) hx hb dX12_adds_4 rfl hl (by decide) rfl (fun ls hl => ?_)
  refine lv_aload_n hx hb dX12_adds_5 rfl (lv_at hl 1 rfl) ?_
  refine va_get (D := D) (ci := 12) (v := .ref a14) (C := RX12) (T := TX12) (N := 30) hx hb hts inlX12 hown hK hP 0 rfl rfl 14 (by decide) (hts _ mw_194) (fun _ h9 => h9) rfl dX12_adds_6 ?_
  refine lv_iload_n hx hb dX12_adds_9 rfl (lv_at hl 0 rfl) ?_
  refine va_iald hx hb hK hP 1 0 rfl rfl (i := nI (21 * a)) (vp_in_nI (n := (21 * a)) (by omega) (by omega)) dX12_adds_10 ?_
  refine kv (v := .int (fd (21 * a))) (by rw [nI_clamp (by omega)]) ?_
  obtain ⟨n_1, hn_1, en_1⟩ : ∃ n9 : Nat, n9 ≤ 20 ∧ fd (21 * a) = nI n9 := id ((pfd hfd (c := (21 * a) / 21) (by omega) (by omega)))
  refine kv (v := .int (nI n_1)) (congrArg Value.int en_1) ?_
  refine lv_bipush (v := 20) hx hb dX12_adds_11 (by decide) ?_
  refine lv_icmp_ne (tgt := 18) hx hb dX12_adds_13 (by decide) (fun c_2 => ?_) (fun c_2 => ?_)
  · have nc_2 := cv_ne (a := n_1) (b := 20) (by omega) (by omega) c_2
    refine lv_aload_n hx hb dX12_adds_18 rfl (lv_at hl 1 rfl) ?_
    refine va_get (D := D) (ci := 12) (v := .ref a14) (C := RX12) (T := TX12) (N := 30) hx hb hts inlX12 hown hK hP 0 rfl rfl 14 (by decide) (hts _ mw_194) (fun _ h9 => h9) rfl dX12_adds_19 ?_
    refine lv_iload_n hx hb dX12_adds_22 rfl (lv_at hl 0 rfl) ?_
    refine lv_iconst (v := 1) hx hb dX12_adds_23 (by decide) ?_
    refine lv_iadd hx hb dX12_adds_24 ?_
    refine ki (v := (nI (21 * a + 1))) (nI_add (21 * a) 1) ?_
    refine lv_aload_n hx hb dX12_adds_25 rfl (lv_at hl 1 rfl) ?_
    refine va_get (D := D) (ci := 12) (v := .ref a14) (C := RX12) (T := TX12) (N := 30) hx hb hts inlX12 hown hK hP 0 rfl rfl 14 (by decide) (hts _ mw_194) (fun _ h9 => h9) rfl dX12_adds_26 ?_
    refine lv_iload_n hx hb dX12_adds_29 rfl (lv_at hl 0 rfl) ?_
    refine va_iald hx hb hK hP 1 0 rfl rfl (i := nI (21 * a)) (vp_in_nI (n := (21 * a)) (by omega) (by omega)) dX12_adds_30 ?_
    refine kv (v := .int (fd (21 * a))) (by rw [nI_clamp (by omega)]) ?_
    obtain ⟨n_3, hn_3, en_3⟩ : ∃ n9 : Nat, n9 ≤ 20 ∧ fd (21 * a) = nI n9 := id ((pfd hfd (c := (21 * a) / 21) (by omega) (by omega)))
    refine kv (v := .int (nI n_3)) (congrArg Value.int en_3) ?_
    refine lv_iadd hx hb dX12_adds_31 ?_
    refine ki (v := (nI (21 * a + 1 + n_3))) (nI_add (21 * a + 1) n_3) ?_
    refine lv_iload_n hx hb dX12_adds_32 rfl (lv_at hl 3 rfl) ?_
    refine va_iast hx hb hK hP hD hS 1 0 rfl rfl (i := nI (21 * a + 1 + n_3)) (x := zb) (vp_in_nI (n := (21 * a + 1 + n_3)) (by omega) (by omega)) dX12_adds_33 (fun H locs hP hD hS => ?_)
    rw [nI_clamp (by omega)] at hP hD
    have hP : va_P D vwCl [(m0, .inr (12, [.ref a0, .ref a1, .ref a2, .int (nI u3), .int f4, .ref a5, .int (nI u6), .int f7, .int f8, .int f9, .int f10, .int (nI u11), .int (nI u12), .int (nI u13), .ref a14, .ref a15, .ref a16, .ref a17, .int f18, .int f19, .ref a20, .ref a21, .int (nI u22), .ref a23, .ref a24, .ref a25, .int (nI u26), .int f27, .ref a28, .int (nI u29)])), (a14, .inl (κ 0, 189, .inl (upd fd (21 * a + 1 + n_3) zb)))] H := hP
    have hD : va_D A [(m0, .inr (12, [.ref a0, .ref a1, .ref a2, .int (nI u3), .int f4, .ref a5, .int (nI u6), .int f7, .int f8, .int f9, .int f10, .int (nI u11), .int (nI u12), .int (nI u13), .ref a14, .ref a15, .ref a16, .ref a17, .int f18, .int f19, .ref a20, .ref a21, .int (nI u22), .ref a23, .ref a24, .ref a25, .int (nI u26), .int f27, .ref a28, .int (nI u29)])), (a14, .inl (κ 0, 189, .inl (upd fd (21 * a + 1 + n_3) zb)))] := hD
    have hfd9 : Pfd (upd fd (21 * a + 1 + n_3) zb) := (Pfd_free hfd (by intro c hc; omega))
    generalize upd fd (21 * a + 1 + n_3) zb = fd_4 at hP hD hfd9
    have hfd : Pfd fd_4 := hfd9
    refine lv_aload_n hx hb dX12_adds_34 rfl (lv_at hl 1 rfl) ?_
    refine va_get (D := D) (ci := 12) (v := .ref a14) (C := RX12) (T := TX12) (N := 30) hx hb hts inlX12 hown hK hP 0 rfl rfl 14 (by decide) (hts _ mw_194) (fun _ h9 => h9) rfl dX12_adds_35 ?_
    refine lv_iload_n hx hb dX12_adds_38 rfl (lv_at hl 0 rfl) ?_
    refine lv_dup2_11 hx hb dX12_adds_39 rfl rfl ?_
    refine va_iald hx hb hK hP 1 0 rfl rfl (i := nI (21 * a)) (vp_in_nI (n := (21 * a)) (by omega) (by omega)) dX12_adds_40 ?_
    refine kv (v := .int (fd_4 (21 * a))) (by rw [nI_clamp (by omega)]) ?_
    obtain ⟨n_5, hn_5, en_5⟩ : ∃ n9 : Nat, n9 ≤ 20 ∧ fd_4 (21 * a) = nI n9 := id ((pfd hfd (c := (21 * a) / 21) (by omega) (by omega)))
    refine kv (v := .int (nI n_5)) (congrArg Value.int en_5) ?_
    refine lv_iconst (v := 1) hx hb dX12_adds_41 (by decide) ?_
    refine lv_iadd hx hb dX12_adds_42 ?_
    refine ki (v := (nI (n_5 + 1))) (nI_add n_5 1) ?_
    refine va_iast hx hb hK hP hD hS 1 0 rfl rfl (i := nI (21 * a)) (x := nI (n_5 + 1)) (vp_in_nI (n := (21 * a)) (by omega) (by omega)) dX12_adds_43 (fun H locs hP hD hS => ?_)
    rw [nI_clamp (by omega)] at hP hD
    have hP : va_P D vwCl [(m0, .inr (12, [.ref a0, .ref a1, .ref a2, .int (nI u3), .int f4, .ref a5, .int (nI u6), .int f7, .int f8, .int f9, .int f10, .int (nI u11), .int (nI u12), .int (nI u13), .ref a14, .ref a15, .ref a16, .ref a17, .int f18, .int f19, .ref a20, .ref a21, .int (nI u22), .ref a23, .ref a24, .ref a25, .int (nI u26), .int f27, .ref a28, .int (nI u29)])), (a14, .inl (κ 0, 189, .inl (upd fd_4 (21 * a) (nI (n_5 + 1)))))] H := hP
    have hD : va_D A [(m0, .inr (12, [.ref a0, .ref a1, .ref a2, .int (nI u3), .int f4, .ref a5, .int (nI u6), .int f7, .int f8, .int f9, .int f10, .int (nI u11), .int (nI u12), .int (nI u13), .ref a14, .ref a15, .ref a16, .ref a17, .int f18, .int f19, .ref a20, .ref a21, .int (nI u22), .ref a23, .ref a24, .ref a25, .int (nI u26), .int f27, .ref a28, .int (nI u29)])), (a14, .inl (κ 0, 189, .inl (upd fd_4 (21 * a) (nI (n_5 + 1)))))] := hD
    have hfd9 : Pfd (upd fd_4 (21 * a) (nI (n_5 + 1))) := (Pfd_upd hfd (c := (21 * a) / 21) (by omega) ⟨n_5 + 1, by omega, rfl⟩)
    generalize upd fd_4 (21 * a) (nI (n_5 + 1)) = fd_6 at hP hD hfd9
    have hfd : Pfd fd_6 := hfd9
    refine lv_iconst (v := 1) hx hb dX12_adds_44 (by decide) ?_
    exact ct_iret hx hb hr hlk rfl hS hP hD (1, fd_6) rfl ⟨(by first | exact Or.inl rfl | exact Or.inr rfl), hfd⟩ [0, 1] rfl (by decide) trivial (Nat.le_of_ble_eq_true rfl) (Nat.le_of_ble_eq_true rfl) dX12_adds_45
  · have nc_2 := cv_eq (a := n_1) (b := 20) (by omega) (by omega) c_2
    refine lv_iconst (v := 0) hx hb dX12_adds_16 (by decide) ?_
    exact ct_iret hx hb hr hlk rfl hS hP hD (0, fd) rfl ⟨(by first | exact Or.inl rfl | exact Or.inr rfl), hfd⟩ [0, 1] rfl (by decide) trivial (Nat.le_of_ble_eq_true rfl) (Nat.le_of_ble_eq_true rfl) dX12_adds_17
set_option maxHeartbeats 4000000 in
set_option maxRecDepth 100000 in
theorem s_X12_passes (l : Launch) (D : va_G) (κ : Nat → ClassId) (m0 : Nat) (a0 : Nat) (a1 : Nat) (a2 : Nat) (u3 : Nat) (f4 : Int32) (a5 : Nat) (u6 : Nat) (f7 : Int32) (f8 : Int32) (f9 : Int32) (f10 : Int32) (u11 : Nat) (u12 : Nat) (u13 : Nat) (a14 : Nat) (a15 : Nat) (a16 : Nat) (a17 : Nat) (f18 : Int32) (f19 : Int32) (a20 : Nat) (a21 : Nat) (u22 : Nat) (a23 : Nat) (a24 : Nat) (a25 : Nat) (u26 : Nat) (f27 : Int32) (a28 : Nat) (u29 : Nat) (w : Nat → Int32) (tp : Nat → Int32) (h6 : u6 ≤ 800) (h11 : u11 ≤ u6) : Ct l yX12_passes (wl yX12_passes cX12_passes 2 (some .boolean)) { frames := 0, cells := 0, slots := 0, locals := 0 } D κ [.ref m0] [(m0, .inr (12, [.ref a0, .ref a1, .ref a2, .int (nI u3), .int f4, .ref a5, .int (nI u6), .int f7, .int f8, .int f9, .int f10, .int (nI u11), .int (nI u12), .int (nI u13), .ref a14, .ref a15, .ref a16, .ref a17, .int f18, .int f19, .ref a20, .ref a21, .int (nI u22), .ref a23, .ref a24, .ref a25, .int (nI u26), .int f27, .ref a28, .int (nI u29)])), (a0, .inl (κ 0, 21375, .inl w)), (a5, .inl (κ 0, 800, .inl tp))] (fun _ => True) (fun u9 : Int32 × Nat => some (.int u9.1)) (fun u9 : Int32 × Nat => ((u9.1 = 1 ∧ u9.2 < u6) ∨ u9.1 = 0) ∧ u11 ≤ u9.2 ∧ u9.2 ≤ u6) (fun u9 : Int32 × Nat => [(m0, .inr (12, [.ref a0, .ref a1, .ref a2, .int (nI u3), .int f4, .ref a5, .int (nI u6), .int f7, .int f8, .int f9, .int f10, .int (nI u9.2), .int (nI u12), .int (nI u13), .ref a14, .ref a15, .ref a16, .ref a17, .int f18, .int f19, .ref a20, .ref a21, .int (nI u22), .ref a23, .ref a24, .ref a25, .int (nI u26), .int f27, .ref a28, .int (nI u29)])), (a0, .inl (κ 0, 21375, .inl w)), (a5, .inl (κ 0, 800, .inl tp))]) (fun _ _ => True) := by
  refine ct_of (by decide +kernel) (Nat.le_of_ble_eq_true rfl) ?_
  intro p e s m args below meth c A ls hx hb hr hml hts hown hlk hin hKK hK hA hP hD hS hI hl
  have hS : va_S A s.heap s.heap [] := hS
  have hFX : FX p s m args c cX12_passes 2 RX12 := ⟨hx, hb, hml, hown, hts⟩
  have hl : lv_has ls 2 [(0, .ref m0)] := hl
  refine loop_dn (fun k9 H locs ls => ∃ (n : Nat), (u11 ≤ n) ∧ (n ≤ u6) ∧ u6 - n = k9 ∧ va_P D vwCl [(m0, .inr (12, [.ref a0, .ref a1, .ref a2, .int (nI u3), .int f4, .ref a5, .int (nI u6), .int f7, .int f8, .int f9, .int f10, .int (nI n), .int (nI u12), .int (nI u13), .ref a14, .ref a15, .ref a16, .ref a17, .int f18, .int f19, .ref a20, .ref a21, .int (nI u22), .ref a23, .ref a24, .ref a25, .int (nI u26), .int f27, .ref a28, .int (nI u29)])), (a0, .inl (κ 0, 21375, .inl w)), (a5, .inl (κ 0, 800, .inl tp))] H ∧ va_D A [(m0, .inr (12, [.ref a0, .ref a1, .ref a2, .int (nI u3), .int f4, .ref a5, .int (nI u6), .int f7, .int f8, .int f9, .int f10, .int (nI n), .int (nI u12), .int (nI u13), .ref a14, .ref a15, .ref a16, .ref a17, .int f18, .int f19, .ref a20, .ref a21, .int (nI u22), .ref a23, .ref a24, .ref a25, .int (nI u26), .int f27, .ref a28, .int (nI u29)])), (a0, .inl (κ 0, 21375, .inl w)), (a5, .inl (κ 0, 800, .inl tp))] ∧ va_S A s.heap H locs ∧ lv_has ls 2 [(0, .ref m0)]) (fun k9 H locs ls hI0 ih0 => ?_) (u6 - u11) _ _ _ ⟨u11, (by omega), (by omega), rfl, hP, hD, hS, lv_sub hl [0] rfl⟩
  obtain ⟨n, hn0, hn1, hm0, hP, hD, hS, hl⟩ := hI0
  refine lv_aload_n hx hb dX12_passes_0 rfl (lv_at hl 0 rfl) ?_
  refine va_get (D := D) (ci := 12) (v := .int (nI n)) (C := RX12) (T := TX12) (N := 30) hx hb hts inlX12 hown hK hP 0 rfl rfl 11 (by decide) (hts _ mw_423) (fun _ h9 => h9) rfl dX12_passes_1 ?_
  refine lv_aload_n hx hb dX12_passes_4 rfl (lv_at hl 0 rfl) ?_
  refine va_get (D := D) (ci := 12) (v := .int (nI u6)) (C := RX12) (T := TX12) (N := 30) hx hb hts inlX12 hown hK hP 0 rfl rfl 6 (by decide) (hts _ mw_236) (fun _ h9 => h9) rfl dX12_passes_5 ?_
  refine lv_icmp_ge (tgt := 130) hx hb dX12_passes_8 (by decide) (fun c_1 => ?_) (fun c_1 => ?_)
  · have nc_1 := cv_le (a := u6) (b := n) (by omega) (by omega) c_1
    refine lv_iconst (v := 0) hx hb dX12_passes_130 (by decide) ?_
    exact ct_iret hx hb hr hlk rfl hS hP hD (0, n) rfl ⟨by first | exact Or.inl ⟨rfl, by omega⟩ | exact Or.inr rfl, by omega, by omega⟩ [0, 1, 2] rfl (by decide) trivial (Nat.le_of_ble_eq_true rfl) (Nat.le_of_ble_eq_true rfl) dX12_passes_131
  · have nc_1 := cv_nle (a := u6) (b := n) (by omega) (by omega) c_1
    refine lv_aload_n hx hb dX12_passes_11 rfl (lv_at hl 0 rfl) ?_
    refine va_get (D := D) (ci := 12) (v := .ref a5) (C := RX12) (T := TX12) (N := 30) hx hb hts inlX12 hown hK hP 0 rfl rfl 5 (by decide) (hts _ mw_191) (fun _ h9 => h9) rfl dX12_passes_12 ?_
    refine lv_aload_n hx hb dX12_passes_15 rfl (lv_at hl 0 rfl) ?_
    refine va_get (D := D) (ci := 12) (v := .int (nI n)) (C := RX12) (T := TX12) (N := 30) hx hb hts inlX12 hown hK hP 0 rfl rfl 11 (by decide) (hts _ mw_423) (fun _ h9 => h9) rfl dX12_passes_16 ?_
    refine va_iald hx hb hK hP 2 0 rfl rfl (i := nI n) (vp_in_nI (n := n) (by omega) (by omega)) dX12_passes_19 ?_
    refine kv (v := .int (tp n)) (by rw [nI_clamp (by omega)]) ?_
    refine lv_topi (fun x_2 ex_2 => ?_)
    refine lv_bipush (v := 10) hx hb dX12_passes_20 (by decide) ?_
    refine lv_icmp_eq (tgt := 56) hx hb dX12_passes_22 (by decide) (fun c_3 => ?_) (fun c_3 => ?_)
    · refine lv_iconst (v := 1) hx hb dX12_passes_56 (by decide) ?_
      refine lv_goto (tgt := 61) hx hb dX12_passes_57 (by decide) ?_
      refine lv_istore_n (lv' := [(1, .int 1), (0, .ref m0)]) hx hb dX12_passes_61 rfl hl (by decide) rfl (fun ls hl => ?_)
      refine lv_iload_n hx hb dX12_passes_62 rfl (lv_at hl 0 rfl) ?_
      refine lv_if_ne (tgt := 68) hx hb dX12_passes_63 (by decide) (fun c_4 => ?_) (fun c_4 => absurd c_4 (by decide))
      refine loop_dn (fun k9 H locs ls => ∃ (n2 : Nat), (n ≤ n2) ∧ (n2 ≤ u6) ∧ u6 - n2 = k9 ∧ va_P D vwCl [(m0, .inr (12, [.ref a0, .ref a1, .ref a2, .int (nI u3), .int f4, .ref a5, .int (nI u6), .int f7, .int f8, .int f9, .int f10, .int (nI n2), .int (nI u12), .int (nI u13), .ref a14, .ref a15, .ref a16, .ref a17, .int f18, .int f19, .ref a20, .ref a21, .int (nI u22), .ref a23, .ref a24, .ref a25, .int (nI u26), .int f27, .ref a28, .int (nI u29)])), (a0, .inl (κ 0, 21375, .inl w)), (a5, .inl (κ 0, 800, .inl tp))] H ∧ va_D A [(m0, .inr (12, [.ref a0, .ref a1, .ref a2, .int (nI u3), .int f4, .ref a5, .int (nI u6), .int f7, .int f8, .int f9, .int f10, .int (nI n2), .int (nI u12), .int (nI u13), .ref a14, .ref a15, .ref a16, .ref a17, .int f18, .int f19, .ref a20, .ref a21, .int (nI u22), .ref a23, .ref a24, .ref a25, .int (nI u26), .int f27, .ref a28, .int (nI u29)])), (a0, .inl (κ 0, 21375, .inl w)), (a5, .inl (κ 0, 800, .inl tp))] ∧ va_S A s.heap H locs ∧ lv_has ls 2 [(0, .ref m0)]) (fun k9 H locs ls hI68 ih68 => ?_) (u6 - n) _ _ _ ⟨n, (by omega), (by omega), rfl, hP, hD, hS, lv_sub hl [1] rfl⟩
      obtain ⟨n2, hn2, hn3, hm68, hP, hD, hS, hl⟩ := hI68
      refine lv_aload_n hx hb dX12_passes_68 rfl (lv_at hl 0 rfl) ?_
      refine va_get (D := D) (ci := 12) (v := .int (nI n2)) (C := RX12) (T := TX12) (N := 30) hx hb hts inlX12 hown hK hP 0 rfl rfl 11 (by decide) (hts _ mw_423) (fun _ h9 => h9) rfl dX12_passes_69 ?_
      refine lv_aload_n hx hb dX12_passes_72 rfl (lv_at hl 0 rfl) ?_
      refine va_get (D := D) (ci := 12) (v := .int (nI u6)) (C := RX12) (T := TX12) (N := 30) hx hb hts inlX12 hown hK hP 0 rfl rfl 6 (by decide) (hts _ mw_236) (fun _ h9 => h9) rfl dX12_passes_73 ?_
      refine lv_icmp_ge (tgt := 106) hx hb dX12_passes_76 (by decide) (fun c_5 => ?_) (fun c_5 => ?_)
      · have nc_5 := cv_le (a := u6) (b := n2) (by omega) (by omega) c_5
        refine lv_aload_n hx hb dX12_passes_106 rfl (lv_at hl 0 rfl) ?_
        refine va_get (D := D) (ci := 12) (v := .int (nI n2)) (C := RX12) (T := TX12) (N := 30) hx hb hts inlX12 hown hK hP 0 rfl rfl 11 (by decide) (hts _ mw_423) (fun _ h9 => h9) rfl dX12_passes_107 ?_
        refine lv_aload_n hx hb dX12_passes_110 rfl (lv_at hl 0 rfl) ?_
        refine va_get (D := D) (ci := 12) (v := .int (nI u6)) (C := RX12) (T := TX12) (N := 30) hx hb hts inlX12 hown hK hP 0 rfl rfl 6 (by decide) (hts _ mw_236) (fun _ h9 => h9) rfl dX12_passes_111 ?_
        refine lv_icmp_ge (tgt := 127) hx hb dX12_passes_114 (by decide) (fun c_6 => ?_) (fun c_6 => absurd c_5 c_6)
        refine lv_goto (tgt := 0) hx hb dX12_passes_127 (by decide) ?_
        exact ih0 _ _ _ _ (by omega) ⟨n2, (by omega), (by omega), rfl, hP, hD, hS, lv_sub hl [0] rfl⟩
      · have nc_5 := cv_nle (a := u6) (b := n2) (by omega) (by omega) c_5
        refine lv_aload_n hx hb dX12_passes_79 rfl (lv_at hl 0 rfl) ?_
        refine va_get (D := D) (ci := 12) (v := .ref a5) (C := RX12) (T := TX12) (N := 30) hx hb hts inlX12 hown hK hP 0 rfl rfl 5 (by decide) (hts _ mw_191) (fun _ h9 => h9) rfl dX12_passes_80 ?_
        refine lv_aload_n hx hb dX12_passes_83 rfl (lv_at hl 0 rfl) ?_
        refine va_get (D := D) (ci := 12) (v := .int (nI n2)) (C := RX12) (T := TX12) (N := 30) hx hb hts inlX12 hown hK hP 0 rfl rfl 11 (by decide) (hts _ mw_423) (fun _ h9 => h9) rfl dX12_passes_84 ?_
        refine va_iald hx hb hK hP 2 0 rfl rfl (i := nI n2) (vp_in_nI (n := n2) (by omega) (by omega)) dX12_passes_87 ?_
        refine kv (v := .int (tp n2)) (by rw [nI_clamp (by omega)]) ?_
        refine lv_topi (fun x_7 ex_7 => ?_)
        refine lv_bipush (v := 10) hx hb dX12_passes_88 (by decide) ?_
        refine lv_icmp_eq (tgt := 106) hx hb dX12_passes_90 (by decide) (fun c_8 => ?_) (fun c_8 => ?_)
        · refine lv_aload_n hx hb dX12_passes_106 rfl (lv_at hl 0 rfl) ?_
          refine va_get (D := D) (ci := 12) (v := .int (nI n2)) (C := RX12) (T := TX12) (N := 30) hx hb hts inlX12 hown hK hP 0 rfl rfl 11 (by decide) (hts _ mw_423) (fun _ h9 => h9) rfl dX12_passes_107 ?_
          refine lv_aload_n hx hb dX12_passes_110 rfl (lv_at hl 0 rfl) ?_
          refine va_get (D := D) (ci := 12) (v := .int (nI u6)) (C := RX12) (T := TX12) (N := 30) hx hb hts inlX12 hown hK hP 0 rfl rfl 6 (by decide) (hts _ mw_236) (fun _ h9 => h9) rfl dX12_passes_111 ?_
          refine lv_icmp_ge (tgt := 127) hx hb dX12_passes_114 (by decide) (fun c_9 => absurd c_9 c_5) (fun c_9 => ?_)
          refine lv_aload_n hx hb dX12_passes_117 rfl (lv_at hl 0 rfl) ?_
          refine lv_dup hx hb dX12_passes_118 rfl ?_
          refine va_get (D := D) (ci := 12) (v := .int (nI n2)) (C := RX12) (T := TX12) (N := 30) hx hb hts inlX12 hown hK hP 0 rfl rfl 11 (by decide) (hts _ mw_423) (fun _ h9 => h9) rfl dX12_passes_119 ?_
          refine lv_iconst (v := 1) hx hb dX12_passes_122 (by decide) ?_
          refine lv_iadd hx hb dX12_passes_123 ?_
          refine ki (v := (nI (n2 + 1))) (nI_add n2 1) ?_
          refine va_put (D := D) (ci := 12) (v := .int (nI (n2 + 1))) (ty := tyX12 11) (C := RX12) (T := TX12) (N := 30) hx hb hts inlX12 tyX12 tyX12_ok nmX12 hown hK hP hD hS 0 rfl rfl 11 (by decide) (hts _ mw_423) (fun _ h9 => h9) rfl (tyX12_ok 11 (by decide)) rfl rfl (Nat.le_of_ble_eq_true rfl) dX12_passes_124 (fun H locs hP hD hS => ?_)
          have hP : va_P D vwCl [(m0, .inr (12, [.ref a0, .ref a1, .ref a2, .int (nI u3), .int f4, .ref a5, .int (nI u6), .int f7, .int f8, .int f9, .int f10, .int (nI (n2 + 1)), .int (nI u12), .int (nI u13), .ref a14, .ref a15, .ref a16, .ref a17, .int f18, .int f19, .ref a20, .ref a21, .int (nI u22), .ref a23, .ref a24, .ref a25, .int (nI u26), .int f27, .ref a28, .int (nI u29)])), (a0, .inl (κ 0, 21375, .inl w)), (a5, .inl (κ 0, 800, .inl tp))] H := hP
          have hD : va_D A [(m0, .inr (12, [.ref a0, .ref a1, .ref a2, .int (nI u3), .int f4, .ref a5, .int (nI u6), .int f7, .int f8, .int f9, .int f10, .int (nI (n2 + 1)), .int (nI u12), .int (nI u13), .ref a14, .ref a15, .ref a16, .ref a17, .int f18, .int f19, .ref a20, .ref a21, .int (nI u22), .ref a23, .ref a24, .ref a25, .int (nI u26), .int f27, .ref a28, .int (nI u29)])), (a0, .inl (κ 0, 21375, .inl w)), (a5, .inl (κ 0, 800, .inl tp))] := hD
          refine lv_goto (tgt := 0) hx hb dX12_passes_127 (by decide) ?_
          exact ih0 _ _ _ _ (by omega) ⟨(n2 + 1), (by omega), (by omega), rfl, hP, hD, hS, lv_sub hl [0] rfl⟩
        · refine lv_aload_n hx hb dX12_passes_93 rfl (lv_at hl 0 rfl) ?_
          refine lv_dup hx hb dX12_passes_94 rfl ?_
          refine va_get (D := D) (ci := 12) (v := .int (nI n2)) (C := RX12) (T := TX12) (N := 30) hx hb hts inlX12 hown hK hP 0 rfl rfl 11 (by decide) (hts _ mw_423) (fun _ h9 => h9) rfl dX12_passes_95 ?_
          refine lv_iconst (v := 1) hx hb dX12_passes_98 (by decide) ?_
          refine lv_iadd hx hb dX12_passes_99 ?_
          refine ki (v := (nI (n2 + 1))) (nI_add n2 1) ?_
          refine va_put (D := D) (ci := 12) (v := .int (nI (n2 + 1))) (ty := tyX12 11) (C := RX12) (T := TX12) (N := 30) hx hb hts inlX12 tyX12 tyX12_ok nmX12 hown hK hP hD hS 0 rfl rfl 11 (by decide) (hts _ mw_423) (fun _ h9 => h9) rfl (tyX12_ok 11 (by decide)) rfl rfl (Nat.le_of_ble_eq_true rfl) dX12_passes_100 (fun H locs hP hD hS => ?_)
          have hP : va_P D vwCl [(m0, .inr (12, [.ref a0, .ref a1, .ref a2, .int (nI u3), .int f4, .ref a5, .int (nI u6), .int f7, .int f8, .int f9, .int f10, .int (nI (n2 + 1)), .int (nI u12), .int (nI u13), .ref a14, .ref a15, .ref a16, .ref a17, .int f18, .int f19, .ref a20, .ref a21, .int (nI u22), .ref a23, .ref a24, .ref a25, .int (nI u26), .int f27, .ref a28, .int (nI u29)])), (a0, .inl (κ 0, 21375, .inl w)), (a5, .inl (κ 0, 800, .inl tp))] H := hP
          have hD : va_D A [(m0, .inr (12, [.ref a0, .ref a1, .ref a2, .int (nI u3), .int f4, .ref a5, .int (nI u6), .int f7, .int f8, .int f9, .int f10, .int (nI (n2 + 1)), .int (nI u12), .int (nI u13), .ref a14, .ref a15, .ref a16, .ref a17, .int f18, .int f19, .ref a20, .ref a21, .int (nI u22), .ref a23, .ref a24, .ref a25, .int (nI u26), .int f27, .ref a28, .int (nI u29)])), (a0, .inl (κ 0, 21375, .inl w)), (a5, .inl (κ 0, 800, .inl tp))] := hD
          refine lv_goto (tgt := 68) hx hb dX12_passes_103 (by decide) ?_
          exact ih68 _ _ _ _ (by omega) ⟨(n2 + 1), (by omega), (by omega), rfl, hP, hD, hS, lv_sub hl [0] rfl⟩
    · refine lv_aload_n hx hb dX12_passes_25 rfl (lv_at hl 0 rfl) ?_
      refine va_get (D := D) (ci := 12) (v := .ref a0) (C := RX12) (T := TX12) (N := 30) hx hb hts inlX12 hown hK hP 0 rfl rfl 0 (by decide) (hts _ mw_187) (fun _ h9 => h9) rfl dX12_passes_26 ?_
      refine lv_sipush (v := 21374) hx hb dX12_passes_29 (by decide) ?_
      refine va_iald hx hb hK hP 1 0 rfl rfl (i := 21374) (vp_k (by decide)) dX12_passes_32 ?_
      refine lv_topi (fun x_10 ex_10 => ?_)
      refine lv_if_eq (tgt := 60) hx hb dX12_passes_33 (by decide) (fun c_11 => ?_) (fun c_11 => ?_)
      · refine lv_iconst (v := 0) hx hb dX12_passes_60 (by decide) ?_
        refine lv_istore_n (lv' := [(1, .int 0), (0, .ref m0)]) hx hb dX12_passes_61 rfl hl (by decide) rfl (fun ls hl => ?_)
        refine lv_iload_n hx hb dX12_passes_62 rfl (lv_at hl 0 rfl) ?_
        refine lv_if_ne (tgt := 68) hx hb dX12_passes_63 (by decide) (fun c_12 => absurd (by decide) c_12) (fun c_12 => ?_)
        refine lv_iconst (v := 1) hx hb dX12_passes_66 (by decide) ?_
        exact ct_iret hx hb hr hlk rfl hS hP hD (1, n) rfl ⟨by first | exact Or.inl ⟨rfl, by omega⟩ | exact Or.inr rfl, by omega, by omega⟩ [0, 1, 2] rfl (by decide) trivial (Nat.le_of_ble_eq_true rfl) (Nat.le_of_ble_eq_true rfl) dX12_passes_67
      · refine lv_aload_n hx hb dX12_passes_36 rfl (lv_at hl 0 rfl) ?_
        refine va_get (D := D) (ci := 12) (v := .ref a5) (C := RX12) (T := TX12) (N := 30) hx hb hts inlX12 hown hK hP 0 rfl rfl 5 (by decide) (hts _ mw_191) (fun _ h9 => h9) rfl dX12_passes_37 ?_
        refine lv_aload_n hx hb dX12_passes_40 rfl (lv_at hl 0 rfl) ?_
        refine va_get (D := D) (ci := 12) (v := .int (nI n)) (C := RX12) (T := TX12) (N := 30) hx hb hts inlX12 hown hK hP 0 rfl rfl 11 (by decide) (hts _ mw_423) (fun _ h9 => h9) rfl dX12_passes_41 ?_
        refine va_iald hx hb hK hP 2 0 rfl rfl (i := nI n) (vp_in_nI (n := n) (by omega) (by omega)) dX12_passes_44 ?_
        refine kv (v := .int (tp n)) (by rw [nI_clamp (by omega)]) ?_
        refine lv_topi (fun x_13 ex_13 => ?_)
        refine lv_aload_n hx hb dX12_passes_45 rfl (lv_at hl 0 rfl) ?_
        refine va_get (D := D) (ci := 12) (v := .ref a0) (C := RX12) (T := TX12) (N := 30) hx hb hts inlX12 hown hK hP 0 rfl rfl 0 (by decide) (hts _ mw_187) (fun _ h9 => h9) rfl dX12_passes_46 ?_
        refine lv_sipush (v := 21374) hx hb dX12_passes_49 (by decide) ?_
        refine va_iald hx hb hK hP 1 0 rfl rfl (i := 21374) (vp_k (by decide)) dX12_passes_52 ?_
        refine lv_topi (fun x_14 ex_14 => ?_)
        refine lv_icmp_ne (tgt := 60) hx hb dX12_passes_53 (by decide) (fun c_15 => ?_) (fun c_15 => ?_)
        · refine lv_iconst (v := 0) hx hb dX12_passes_60 (by decide) ?_
          refine lv_istore_n (lv' := [(1, .int 0), (0, .ref m0)]) hx hb dX12_passes_61 rfl hl (by decide) rfl (fun ls hl => ?_)
          refine lv_iload_n hx hb dX12_passes_62 rfl (lv_at hl 0 rfl) ?_
          refine lv_if_ne (tgt := 68) hx hb dX12_passes_63 (by decide) (fun c_16 => absurd (by decide) c_16) (fun c_16 => ?_)
          refine lv_iconst (v := 1) hx hb dX12_passes_66 (by decide) ?_
          exact ct_iret hx hb hr hlk rfl hS hP hD (1, n) rfl ⟨by first | exact Or.inl ⟨rfl, by omega⟩ | exact Or.inr rfl, by omega, by omega⟩ [0, 1, 2] rfl (by decide) trivial (Nat.le_of_ble_eq_true rfl) (Nat.le_of_ble_eq_true rfl) dX12_passes_67
        · refine lv_iconst (v := 1) hx hb dX12_passes_56 (by decide) ?_
          refine lv_goto (tgt := 61) hx hb dX12_passes_57 (by decide) ?_
          refine lv_istore_n (lv' := [(1, .int 1), (0, .ref m0)]) hx hb dX12_passes_61 rfl hl (by decide) rfl (fun ls hl => ?_)
          refine lv_iload_n hx hb dX12_passes_62 rfl (lv_at hl 0 rfl) ?_
          refine lv_if_ne (tgt := 68) hx hb dX12_passes_63 (by decide) (fun c_17 => ?_) (fun c_17 => absurd c_17 (by decide))
          refine loop_dn (fun k9 H locs ls => ∃ (n2 : Nat), (n ≤ n2) ∧ (n2 ≤ u6) ∧ u6 - n2 = k9 ∧ va_P D vwCl [(m0, .inr (12, [.ref a0, .ref a1, .ref a2, .int (nI u3), .int f4, .ref a5, .int (nI u6), .int f7, .int f8, .int f9, .int f10, .int (nI n2), .int (nI u12), .int (nI u13), .ref a14, .ref a15, .ref a16, .ref a17, .int f18, .int f19, .ref a20, .ref a21, .int (nI u22), .ref a23, .ref a24, .ref a25, .int (nI u26), .int f27, .ref a28, .int (nI u29)])), (a0, .inl (κ 0, 21375, .inl w)), (a5, .inl (κ 0, 800, .inl tp))] H ∧ va_D A [(m0, .inr (12, [.ref a0, .ref a1, .ref a2, .int (nI u3), .int f4, .ref a5, .int (nI u6), .int f7, .int f8, .int f9, .int f10, .int (nI n2), .int (nI u12), .int (nI u13), .ref a14, .ref a15, .ref a16, .ref a17, .int f18, .int f19, .ref a20, .ref a21, .int (nI u22), .ref a23, .ref a24, .ref a25, .int (nI u26), .int f27, .ref a28, .int (nI u29)])), (a0, .inl (κ 0, 21375, .inl w)), (a5, .inl (κ 0, 800, .inl tp))] ∧ va_S A s.heap H locs ∧ lv_has ls 2 [(0, .ref m0)]) (fun k9 H locs ls hI68 ih68 => ?_) (u6 - n) _ _ _ ⟨n, (by omega), (by omega), rfl, hP, hD, hS, lv_sub hl [1] rfl⟩
          obtain ⟨n2, hn2, hn3, hm68, hP, hD, hS, hl⟩ := hI68
          refine lv_aload_n hx hb dX12_passes_68 rfl (lv_at hl 0 rfl) ?_
          refine va_get (D := D) (ci := 12) (v := .int (nI n2)) (C := RX12) (T := TX12) (N := 30) hx hb hts inlX12 hown hK hP 0 rfl rfl 11 (by decide) (hts _ mw_423) (fun _ h9 => h9) rfl dX12_passes_69 ?_
          refine lv_aload_n hx hb dX12_passes_72 rfl (lv_at hl 0 rfl) ?_
          refine va_get (D := D) (ci := 12) (v := .int (nI u6)) (C := RX12) (T := TX12) (N := 30) hx hb hts inlX12 hown hK hP 0 rfl rfl 6 (by decide) (hts _ mw_236) (fun _ h9 => h9) rfl dX12_passes_73 ?_
          refine lv_icmp_ge (tgt := 106) hx hb dX12_passes_76 (by decide) (fun c_18 => ?_) (fun c_18 => ?_)
          · have nc_18 := cv_le (a := u6) (b := n2) (by omega) (by omega) c_18
            refine lv_aload_n hx hb dX12_passes_106 rfl (lv_at hl 0 rfl) ?_
            refine va_get (D := D) (ci := 12) (v := .int (nI n2)) (C := RX12) (T := TX12) (N := 30) hx hb hts inlX12 hown hK hP 0 rfl rfl 11 (by decide) (hts _ mw_423) (fun _ h9 => h9) rfl dX12_passes_107 ?_
            refine lv_aload_n hx hb dX12_passes_110 rfl (lv_at hl 0 rfl) ?_
            refine va_get (D := D) (ci := 12) (v := .int (nI u6)) (C := RX12) (T := TX12) (N := 30) hx hb hts inlX12 hown hK hP 0 rfl rfl 6 (by decide) (hts _ mw_236) (fun _ h9 => h9) rfl dX12_passes_111 ?_
            refine lv_icmp_ge (tgt := 127) hx hb dX12_passes_114 (by decide) (fun c_19 => ?_) (fun c_19 => absurd c_18 c_19)
            refine lv_goto (tgt := 0) hx hb dX12_passes_127 (by decide) ?_
            exact ih0 _ _ _ _ (by omega) ⟨n2, (by omega), (by omega), rfl, hP, hD, hS, lv_sub hl [0] rfl⟩
          · have nc_18 := cv_nle (a := u6) (b := n2) (by omega) (by omega) c_18
            refine lv_aload_n hx hb dX12_passes_79 rfl (lv_at hl 0 rfl) ?_
            refine va_get (D := D) (ci := 12) (v := .ref a5) (C := RX12) (T := TX12) (N := 30) hx hb hts inlX12 hown hK hP 0 rfl rfl 5 (by decide) (hts _ mw_191) (fun _ h9 => h9) rfl dX12_passes_80 ?_
            refine lv_aload_n hx hb dX12_passes_83 rfl (lv_at hl 0 rfl) ?_
            refine va_get (D := D) (ci := 12) (v := .int (nI n2)) (C := RX12) (T := TX12) (N := 30) hx hb hts inlX12 hown hK hP 0 rfl rfl 11 (by decide) (hts _ mw_423) (fun _ h9 => h9) rfl dX12_passes_84 ?_
            refine va_iald hx hb hK hP 2 0 rfl rfl (i := nI n2) (vp_in_nI (n := n2) (by omega) (by omega)) dX12_passes_87 ?_
            refine kv (v := .int (tp n2)) (by rw [nI_clamp (by omega)]) ?_
            refine lv_topi (fun x_20 ex_20 => ?_)
            refine lv_bipush (v := 10) hx hb dX12_passes_88 (by decide) ?_
            refine lv_icmp_eq (tgt := 106) hx hb dX12_passes_90 (by decide) (fun c_21 => ?_) (fun c_21 => ?_)
            · refine lv_aload_n hx hb dX12_passes_106 rfl (lv_at hl 0 rfl) ?_
              refine va_get (D := D) (ci := 12) (v := .int (nI n2)) (C := RX12) (T := TX12) (N := 30) hx hb hts inlX12 hown hK hP 0 rfl rfl 11 (by decide) (hts _ mw_423) (fun _ h9 => h9) rfl dX12_passes_107 ?_
              refine lv_aload_n hx hb dX12_passes_110 rfl (lv_at hl 0 rfl) ?_
              refine va_get (D := D) (ci := 12) (v := .int (nI u6)) (C := RX12) (T := TX12) (N := 30) hx hb hts inlX12 hown hK hP 0 rfl rfl 6 (by decide) (hts _ mw_236) (fun _ h9 => h9) rfl dX12_passes_111 ?_
              refine lv_icmp_ge (tgt := 127) hx hb dX12_passes_114 (by decide) (fun c_22 => absurd c_22 c_18) (fun c_22 => ?_)
              refine lv_aload_n hx hb dX12_passes_117 rfl (lv_at hl 0 rfl) ?_
              refine lv_dup hx hb dX12_passes_118 rfl ?_
              refine va_get (D := D) (ci := 12) (v := .int (nI n2)) (C := RX12) (T := TX12) (N := 30) hx hb hts inlX12 hown hK hP 0 rfl rfl 11 (by decide) (hts _ mw_423) (fun _ h9 => h9) rfl dX12_passes_119 ?_
              refine lv_iconst (v := 1) hx hb dX12_passes_122 (by decide) ?_
              refine lv_iadd hx hb dX12_passes_123 ?_
              refine ki (v := (nI (n2 + 1))) (nI_add n2 1) ?_
              refine va_put (D := D) (ci := 12) (v := .int (nI (n2 + 1))) (ty := tyX12 11) (C := RX12) (T := TX12) (N := 30) hx hb hts inlX12 tyX12 tyX12_ok nmX12 hown hK hP hD hS 0 rfl rfl 11 (by decide) (hts _ mw_423) (fun _ h9 => h9) rfl (tyX12_ok 11 (by decide)) rfl rfl (Nat.le_of_ble_eq_true rfl) dX12_passes_124 (fun H locs hP hD hS => ?_)
              have hP : va_P D vwCl [(m0, .inr (12, [.ref a0, .ref a1, .ref a2, .int (nI u3), .int f4, .ref a5, .int (nI u6), .int f7, .int f8, .int f9, .int f10, .int (nI (n2 + 1)), .int (nI u12), .int (nI u13), .ref a14, .ref a15, .ref a16, .ref a17, .int f18, .int f19, .ref a20, .ref a21, .int (nI u22), .ref a23, .ref a24, .ref a25, .int (nI u26), .int f27, .ref a28, .int (nI u29)])), (a0, .inl (κ 0, 21375, .inl w)), (a5, .inl (κ 0, 800, .inl tp))] H := hP
              have hD : va_D A [(m0, .inr (12, [.ref a0, .ref a1, .ref a2, .int (nI u3), .int f4, .ref a5, .int (nI u6), .int f7, .int f8, .int f9, .int f10, .int (nI (n2 + 1)), .int (nI u12), .int (nI u13), .ref a14, .ref a15, .ref a16, .ref a17, .int f18, .int f19, .ref a20, .ref a21, .int (nI u22), .ref a23, .ref a24, .ref a25, .int (nI u26), .int f27, .ref a28, .int (nI u29)])), (a0, .inl (κ 0, 21375, .inl w)), (a5, .inl (κ 0, 800, .inl tp))] := hD
              refine lv_goto (tgt := 0) hx hb dX12_passes_127 (by decide) ?_
              exact ih0 _ _ _ _ (by omega) ⟨(n2 + 1), (by omega), (by omega), rfl, hP, hD, hS, lv_sub hl [0] rfl⟩
            · refine lv_aload_n hx hb dX12_passes_93 rfl (lv_at hl 0 rfl) ?_
              refine lv_dup hx hb dX12_passes_94 rfl ?_
              refine va_get (D := D) (ci := 12) (v := .int (nI n2)) (C := RX12) (T := TX12) (N := 30) hx hb hts inlX12 hown hK hP 0 rfl rfl 11 (by decide) (hts _ mw_423) (fun _ h9 => h9) rfl dX12_passes_95 ?_
              refine lv_iconst (v := 1) hx hb dX12_passes_98 (by decide) ?_
              refine lv_iadd hx hb dX12_passes_99 ?_
              refine ki (v := (nI (n2 + 1))) (nI_add n2 1) ?_
              refine va_put (D := D) (ci := 12) (v := .int (nI (n2 + 1))) (ty := tyX12 11) (C := RX12) (T := TX12) (N := 30) hx hb hts inlX12 tyX12 tyX12_ok nmX12 hown hK hP hD hS 0 rfl rfl 11 (by decide) (hts _ mw_423) (fun _ h9 => h9) rfl (tyX12_ok 11 (by decide)) rfl rfl (Nat.le_of_ble_eq_true rfl) dX12_passes_100 (fun H locs hP hD hS => ?_)
              have hP : va_P D vwCl [(m0, .inr (12, [.ref a0, .ref a1, .ref a2, .int (nI u3), .int f4, .ref a5, .int (nI u6), .int f7, .int f8, .int f9, .int f10, .int (nI (n2 + 1)), .int (nI u12), .int (nI u13), .ref a14, .ref a15, .ref a16, .ref a17, .int f18, .int f19, .ref a20, .ref a21, .int (nI u22), .ref a23, .ref a24, .ref a25, .int (nI u26), .int f27, .ref a28, .int (nI u29)])), (a0, .inl (κ 0, 21375, .inl w)), (a5, .inl (κ 0, 800, .inl tp))] H := hP
              have hD : va_D A [(m0, .inr (12, [.ref a0, .ref a1, .ref a2, .int (nI u3), .int f4, .ref a5, .int (nI u6), .int f7, .int f8, .int f9, .int f10, .int (nI (n2 + 1)), .int (nI u12), .int (nI u13), .ref a14, .ref a15, .ref a16, .ref a17, .int f18, .int f19, .ref a20, .ref a21, .int (nI u22), .ref a23, .ref a24, .ref a25, .int (nI u26), .int f27, .ref a28, .int (nI u29)])), (a0, .inl (κ 0, 21375, .inl w)), (a5, .inl (κ 0, 800, .inl tp))] := hD
              refine lv_goto (tgt := 68) hx hb dX12_passes_103 (by decide) ?_
              exact ih68 _ _ _ _ (by omega) ⟨(n2 + 1), (by omega), (by omega), rfl, hP, hD, hS, lv_sub hl [0] rfl⟩
set_option maxHeartbeats 4000000 in
set_option maxRecDepth 100000 in
theorem s_X12_plain (l : Launch) (D : va_G) (κ : Nat → ClassId) (m0 : Nat) (a0 : Nat) (a1 : Nat) (a2 : Nat) (u3 : Nat) (f4 : Int32) (a5 : Nat) (u6 : Nat) (f7 : Int32) (f8 : Int32) (f9 : Int32) (f10 : Int32) (u11 : Nat) (u12 : Nat) (u13 : Nat) (a14 : Nat) (a15 : Nat) (a16 : Nat) (a17 : Nat) (f18 : Int32) (f19 : Int32) (a20 : Nat) (a21 : Nat) (u22 : Nat) (a23 : Nat) (a24 : Nat) (a25 : Nat) (u26 : Nat) (f27 : Int32) (a28 : Nat) (u29 : Nat) (w : Nat → Int32) (tp : Nat → Int32) (fd : Nat → Int32) (a : Nat) (h6 : u6 ≤ 800) (h11 : u11 ≤ u6) (hfd : Pfd fd) (hpf : PF f8) (ha : a < 9) : Ct l yX12_plain (wl yX12_plain cX12_plain 4 (some .boolean)) { frames := 2, cells := 0, slots := 0, locals := 47 } D κ [.ref m0, .int (nI a)] [(m0, .inr (12, [.ref a0, .ref a1, .ref a2, .int (nI u3), .int f4, .ref a5, .int (nI u6), .int f7, .int f8, .int f9, .int f10, .int (nI u11), .int (nI u12), .int (nI u13), .ref a14, .ref a15, .ref a16, .ref a17, .int f18, .int f19, .ref a20, .ref a21, .int (nI u22), .ref a23, .ref a24, .ref a25, .int (nI u26), .int f27, .ref a28, .int (nI u29)])), (a0, .inl (κ 0, 21375, .inl w)), (a5, .inl (κ 0, 800, .inl tp)), (a14, .inl (κ 0, 189, .inl fd))] (fun _ => True) (fun u9 : Int32 × Nat × Int32 × Int32 × Int32 × (Nat → Int32) => some (.int u9.1)) (fun u9 : Int32 × Nat × Int32 × Int32 × Int32 × (Nat → Int32) => (u9.1 = 1 ∨ u9.1 = 0) ∧ u11 ≤ u9.2.1 ∧ u9.2.1 ≤ u6 ∧ PF u9.2.2.2.1 ∧ Pfd u9.2.2.2.2.2) (fun u9 : Int32 × Nat × Int32 × Int32 × Int32 × (Nat → Int32) => [(m0, .inr (12, [.ref a0, .ref a1, .ref a2, .int (nI u3), .int f4, .ref a5, .int (nI u6), .int u9.2.2.1, .int u9.2.2.2.1, .int u9.2.2.2.2.1, .int f10, .int (nI u9.2.1), .int (nI u12), .int (nI u13), .ref a14, .ref a15, .ref a16, .ref a17, .int f18, .int f19, .ref a20, .ref a21, .int (nI u22), .ref a23, .ref a24, .ref a25, .int (nI u26), .int f27, .ref a28, .int (nI u29)])), (a0, .inl (κ 0, 21375, .inl w)), (a5, .inl (κ 0, 800, .inl tp)), (a14, .inl (κ 0, 189, .inl u9.2.2.2.2.2))]) (fun _ _ => True) := by
  refine ct_of (by decide +kernel) (Nat.le_of_ble_eq_true rfl) ?_
  intro p e s m args below meth c A ls hx hb hr hml hts hown hlk hin hKK hK hA hP hD hS hI hl
  have hS : va_S A s.heap s.heap [] := hS
  have hFX : FX p s m args c cX12_plain 4 RX12 := ⟨hx, hb, hml, hown, hts⟩
  have hl : lv_has ls 4 [(0, .ref m0), (1, .int (nI a))] := hl
  refine lv_iconst (v := 0) hx hb dX12_plain_0 (by decide) ?_
  refine lv_istore_n (lv' := [(2, .int 0), (0, .ref m0), (1, .int (nI a))]) hx hb dX12_plain_1 rfl hl (by decide) rfl (fun ls hl => ?_)
  refine loop_dn (fun k9 H locs ls => ∃ (n : Nat), ∃ (k : Nat), ∃ (g : Nat → Int32), (u11 ≤ n) ∧ (n ≤ u6) ∧ (k ≤ n) ∧ (Pfd g) ∧ u6 - n = k9 ∧ va_P D vwCl [(m0, .inr (12, [.ref a0, .ref a1, .ref a2, .int (nI u3), .int f4, .ref a5, .int (nI u6), .int f7, .int f8, .int f9, .int f10, .int (nI n), .int (nI u12), .int (nI u13), .ref a14, .ref a15, .ref a16, .ref a17, .int f18, .int f19, .ref a20, .ref a21, .int (nI u22), .ref a23, .ref a24, .ref a25, .int (nI u26), .int f27, .ref a28, .int (nI u29)])), (a0, .inl (κ 0, 21375, .inl w)), (a5, .inl (κ 0, 800, .inl tp)), (a14, .inl (κ 0, 189, .inl g))] H ∧ va_D A [(m0, .inr (12, [.ref a0, .ref a1, .ref a2, .int (nI u3), .int f4, .ref a5, .int (nI u6), .int f7, .int f8, .int f9, .int f10, .int (nI n), .int (nI u12), .int (nI u13), .ref a14, .ref a15, .ref a16, .ref a17, .int f18, .int f19, .ref a20, .ref a21, .int (nI u22), .ref a23, .ref a24, .ref a25, .int (nI u26), .int f27, .ref a28, .int (nI u29)])), (a0, .inl (κ 0, 21375, .inl w)), (a5, .inl (κ 0, 800, .inl tp)), (a14, .inl (κ 0, 189, .inl g))] ∧ va_S A s.heap H locs ∧ lv_has ls 4 [(2, .int (nI k)), (0, .ref m0), (1, .int (nI a))]) (fun k9 H locs ls hI2 ih2 => ?_) (u6 - u11) _ _ _ ⟨u11, 0, fd, (by omega), (by omega), (by omega), (by assumption), rfl, hP, hD, hS, lv_sub hl [0, 1, 2] rfl⟩
  obtain ⟨n, k, g, hn0, hn1, hn2, hfd, hm2, hP, hD, hS, hl⟩ := hI2
  refine lv_aload_n hx hb dX12_plain_2 rfl (lv_at hl 1 rfl) ?_
  refine cr_V (As := []) (rest := []) hFX hKK (s_X12_isOver l D κ m0 a0 a1 a2 u3 f4 a5 u6 f7 f8 f9 f10 n u12 u13 a14 a15 a16 a17 f18 f19 a20 a21 u22 a23 a24 a25 u26 f27 a28 u29 w tp (by omega) (by omega)) 0 gV_X12_220 hdV_X12_isOver rfl rfl ⟨Nat.le_of_ble_eq_true rfl, Nat.le_of_ble_eq_true rfl⟩ rfl rfl (Nat.le_of_ble_eq_true rfl) dX12_plain_3 ⟨Nat.le_of_ble_eq_true rfl, Nat.le_of_ble_eq_true rfl⟩ hl.1 hP 0 12 rfl rfl rfl (hP.sub [0, 1, 2] rfl) (fun r_1 hp_2 => ?_)
  have hp_2 : (r_1 = 1) ∨ (r_1 = 0 ∧ n < u6) := hp_2
  rcases hp_2 with rfl | ⟨rfl, a_3⟩
  · refine W.eq (g2 := F0 m 6 ls [.int 1]) rfl ?_
    refine lv_if_ne (tgt := 150) hx hb dX12_plain_6 (by decide) (fun c_4 => ?_) (fun c_4 => absurd c_4 (by decide))
    refine lv_iconst (v := 1) hx hb dX12_plain_150 (by decide) ?_
    exact ct_iret hx hb hr hlk rfl hS hP hD (1, n, f7, f8, f9, g) rfl ⟨(by first | exact Or.inl rfl | exact Or.inr rfl), by omega, by omega, (by first | assumption | exact PF_n (by omega)), by assumption⟩ [0, 1, 2, 3] rfl (by decide) trivial (Nat.le_of_ble_eq_true rfl) (Nat.le_of_ble_eq_true rfl) dX12_plain_151
  · refine W.eq (g2 := F0 m 6 ls [.int 0]) rfl ?_
    refine lv_if_ne (tgt := 150) hx hb dX12_plain_6 (by decide) (fun c_5 => absurd (by decide) c_5) (fun c_5 => ?_)
    refine lv_aload_n hx hb dX12_plain_9 rfl (lv_at hl 1 rfl) ?_
    refine va_get (D := D) (ci := 12) (v := .ref a5) (C := RX12) (T := TX12) (N := 30) hx hb hts inlX12 hown hK hP 0 rfl rfl 5 (by decide) (hts _ mw_191) (fun _ h9 => h9) rfl dX12_plain_10 ?_
    refine lv_aload_n hx hb dX12_plain_13 rfl (lv_at hl 1 rfl) ?_
    refine va_get (D := D) (ci := 12) (v := .int (nI n)) (C := RX12) (T := TX12) (N := 30) hx hb hts inlX12 hown hK hP 0 rfl rfl 11 (by decide) (hts _ mw_423) (fun _ h9 => h9) rfl dX12_plain_14 ?_
    refine va_iald hx hb hK hP 2 0 rfl rfl (i := nI n) (vp_in_nI (n := n) (by omega) (by omega)) dX12_plain_17 ?_
    refine kv (v := .int (tp n)) (by rw [nI_clamp (by omega)]) ?_
    refine lv_topi (fun x_6 ex_6 => ?_)
    refine lv_istore_n (lv' := [(3, .int x_6), (2, .int (nI k)), (0, .ref m0), (1, .int (nI a))]) hx hb dX12_plain_18 rfl hl (by decide) rfl (fun ls hl => ?_)
    refine lv_aload_n hx hb dX12_plain_19 rfl (lv_at hl 2 rfl) ?_
    refine lv_iload_n hx hb dX12_plain_20 rfl (lv_at hl 0 rfl) ?_
    refine lv_iconst (v := 0) hx hb dX12_plain_21 (by decide) ?_
    refine cr_V (As := [.int x_6, .int 0]) (rest := []) hFX hKK (s_X12_canBe l D κ m0 a0 a1 a2 u3 f4 a5 u6 f7 f8 f9 f10 n u12 u13 a14 a15 a16 a17 f18 f19 a20 a21 u22 a23 a24 a25 u26 f27 a28 u29 w x_6 0) 2 gV_X12_206 hdV_X12_canBe rfl rfl ⟨Nat.le_of_ble_eq_true rfl, Nat.le_of_ble_eq_true rfl⟩ rfl rfl (Nat.le_of_ble_eq_true rfl) dX12_plain_22 ⟨Nat.le_of_ble_eq_true rfl, Nat.le_of_ble_eq_true rfl⟩ hl.1 hP 0 12 rfl rfl rfl (hP.sub [0, 1] rfl) (fun r_7 hp_8 => ?_)
    have hp_8 : (r_7 = 1) ∨ (r_7 = 0) := hp_8
    rcases hp_8 with rfl | rfl
    · refine W.eq (g2 := F0 m 25 ls [.int 1]) rfl ?_
      refine lv_if_ne (tgt := 39) hx hb dX12_plain_25 (by decide) (fun c_9 => ?_) (fun c_9 => absurd c_9 (by decide))
      refine lv_iload_n hx hb dX12_plain_39 rfl (lv_at hl 0 rfl) ?_
      refine lv_aload_n hx hb dX12_plain_40 rfl (lv_at hl 2 rfl) ?_
      refine va_get (D := D) (ci := 12) (v := .ref a0) (C := RX12) (T := TX12) (N := 30) hx hb hts inlX12 hown hK hP 0 rfl rfl 0 (by decide) (hts _ mw_187) (fun _ h9 => h9) rfl dX12_plain_41 ?_
      refine lv_sipush (v := 21370) hx hb dX12_plain_44 (by decide) ?_
      refine va_iald hx hb hK hP 1 0 rfl rfl (i := 21370) (vp_k (by decide)) dX12_plain_47 ?_
      refine lv_topi (fun x_10 ex_10 => ?_)
      refine lv_icmp_ne (tgt := 62) hx hb dX12_plain_48 (by decide) (fun c_11 => ?_) (fun c_11 => ?_)
      · refine lv_aload_n hx hb dX12_plain_62 rfl (lv_at hl 2 rfl) ?_
        refine va_get (D := D) (ci := 12) (v := .ref a0) (C := RX12) (T := TX12) (N := 30) hx hb hts inlX12 hown hK hP 0 rfl rfl 0 (by decide) (hts _ mw_187) (fun _ h9 => h9) rfl dX12_plain_63 ?_
        refine lv_sipush (v := 21372) hx hb dX12_plain_66 (by decide) ?_
        refine va_iald hx hb hK hP 1 0 rfl rfl (i := 21372) (vp_k (by decide)) dX12_plain_69 ?_
        refine lv_topi (fun x_12 ex_12 => ?_)
        refine lv_iconst (v := 1) hx hb dX12_plain_70 (by decide) ?_
        refine lv_icmp_ne (tgt := 86) hx hb dX12_plain_71 (by decide) (fun c_13 => ?_) (fun c_13 => ?_)
        · refine loop_dn (fun k9 H locs ls => ∃ (k2 : Nat), ∃ (g2 : Nat → Int32), ∃ (z : Int32), (k2 ≤ n) ∧ (Pfd g2) ∧ k2 = k9 ∧ va_P D vwCl [(m0, .inr (12, [.ref a0, .ref a1, .ref a2, .int (nI u3), .int f4, .ref a5, .int (nI u6), .int f7, .int f8, .int f9, .int f10, .int (nI n), .int (nI u12), .int (nI u13), .ref a14, .ref a15, .ref a16, .ref a17, .int f18, .int f19, .ref a20, .ref a21, .int (nI u22), .ref a23, .ref a24, .ref a25, .int (nI u26), .int f27, .ref a28, .int (nI u29)])), (a0, .inl (κ 0, 21375, .inl w)), (a5, .inl (κ 0, 800, .inl tp)), (a14, .inl (κ 0, 189, .inl g2))] H ∧ va_D A [(m0, .inr (12, [.ref a0, .ref a1, .ref a2, .int (nI u3), .int f4, .ref a5, .int (nI u6), .int f7, .int f8, .int f9, .int f10, .int (nI n), .int (nI u12), .int (nI u13), .ref a14, .ref a15, .ref a16, .ref a17, .int f18, .int f19, .ref a20, .ref a21, .int (nI u22), .ref a23, .ref a24, .ref a25, .int (nI u26), .int f27, .ref a28, .int (nI u29)])), (a0, .inl (κ 0, 21375, .inl w)), (a5, .inl (κ 0, 800, .inl tp)), (a14, .inl (κ 0, 189, .inl g2))] ∧ va_S A s.heap H locs ∧ lv_has ls 4 [(2, .int (nI k2)), (3, .int z), (0, .ref m0), (1, .int (nI a))]) (fun k9 H locs ls hI86 ih86 => ?_) (k) _ _ _ ⟨k, g, x_6, (by omega), (by assumption), rfl, hP, hD, hS, lv_sub hl [1, 0, 2, 3] rfl⟩
          obtain ⟨k2, g2, z, hn4, hfd, hm86, hP, hD, hS, hl⟩ := hI86
          refine lv_iload_n hx hb dX12_plain_86 rfl (lv_at hl 0 rfl) ?_
          refine lv_if_le (tgt := 117) hx hb dX12_plain_87 (by decide) (fun c_14 => ?_) (fun c_14 => ?_)
          · have nc_14 := cv_le (a := k2) (b := 0) (by omega) (by omega) c_14
            refine lv_aload_n hx hb dX12_plain_117 rfl (lv_at hl 2 rfl) ?_
            refine lv_iload_n hx hb dX12_plain_118 rfl (lv_at hl 3 rfl) ?_
            refine lv_iload_n hx hb dX12_plain_119 rfl (lv_at hl 1 rfl) ?_
            refine ct_V (wr := [(a0, .inl (κ 0, 21375, .inl w)), (a5, .inl (κ 0, 800, .inl tp))]) (As := [.int (nI a), .int z]) (rest := []) hFX hKK hP hD hS hA (s_X12_adds l D κ m0 a0 a1 a2 u3 f4 a5 u6 f7 f8 f9 f10 n u12 u13 a14 a15 a16 a17 f18 f19 a20 a21 u22 a23 a24 a25 u26 f27 a28 u29 g2 a z (by assumption) (by omega)) 2 gV_X12_214 hdV_X12_adds ⟨Nat.le_of_ble_eq_true rfl, Nat.le_of_ble_eq_true rfl⟩ rfl rfl (Nat.le_of_ble_eq_true rfl) dX12_plain_120 ⟨Nat.le_of_ble_eq_true rfl, Nat.le_of_ble_eq_true rfl⟩ hl.1 [0, 3] [1, 2] rfl rfl (by decide) (by decide) (by decide) 0 12 rfl rfl rfl trivial (fun u_17 H locs hp_18 _ hP hD hS hz_ hk_ => ?_)
            obtain ⟨r_15, g_16⟩ := u_17
            have hP : va_P D vwCl [(a0, .inl (κ 0, 21375, .inl w)), (a5, .inl (κ 0, 800, .inl tp)), (m0, .inr (12, [.ref a0, .ref a1, .ref a2, .int (nI u3), .int f4, .ref a5, .int (nI u6), .int f7, .int f8, .int f9, .int f10, .int (nI n), .int (nI u12), .int (nI u13), .ref a14, .ref a15, .ref a16, .ref a17, .int f18, .int f19, .ref a20, .ref a21, .int (nI u22), .ref a23, .ref a24, .ref a25, .int (nI u26), .int f27, .ref a28, .int (nI u29)])), (a14, .inl (κ 0, 189, .inl g_16))] H := hP
            have hD : va_D A [(a0, .inl (κ 0, 21375, .inl w)), (a5, .inl (κ 0, 800, .inl tp)), (m0, .inr (12, [.ref a0, .ref a1, .ref a2, .int (nI u3), .int f4, .ref a5, .int (nI u6), .int f7, .int f8, .int f9, .int f10, .int (nI n), .int (nI u12), .int (nI u13), .ref a14, .ref a15, .ref a16, .ref a17, .int f18, .int f19, .ref a20, .ref a21, .int (nI u22), .ref a23, .ref a24, .ref a25, .int (nI u26), .int f27, .ref a28, .int (nI u29)])), (a14, .inl (κ 0, 189, .inl g_16))] := hD
            have hp_18 : (r_15 = 1 ∨ r_15 = 0) ∧ Pfd g_16 := hp_18
            obtain ⟨hbs, hfd⟩ := hp_18
            rcases hbs with rfl | rfl
            · refine W.eq (g2 := F0 m 123 ls [.int 1]) rfl ?_
              refine lv_if_ne (tgt := 137) hx hb dX12_plain_123 (by decide) (fun c_19 => ?_) (fun c_19 => absurd c_19 (by decide))
              refine lv_aload_n hx hb dX12_plain_137 rfl (lv_at hl 2 rfl) ?_
              refine lv_dup hx hb dX12_plain_138 rfl ?_
              refine va_get (D := D) (ci := 12) (v := .int (nI n)) (C := RX12) (T := TX12) (N := 30) hx hb hts inlX12 hown hK hP 2 rfl rfl 11 (by decide) (hts _ mw_423) (fun _ h9 => h9) rfl dX12_plain_139 ?_
              refine lv_iconst (v := 1) hx hb dX12_plain_142 (by decide) ?_
              refine lv_iadd hx hb dX12_plain_143 ?_
              refine ki (v := (nI (n + 1))) (nI_add n 1) ?_
              refine va_put (D := D) (ci := 12) (v := .int (nI (n + 1))) (ty := tyX12 11) (C := RX12) (T := TX12) (N := 30) hx hb hts inlX12 tyX12 tyX12_ok nmX12 hown hK hP hD hS 2 rfl rfl 11 (by decide) (hts _ mw_423) (fun _ h9 => h9) rfl (tyX12_ok 11 (by decide)) rfl rfl (Nat.le_of_ble_eq_true rfl) dX12_plain_144 (fun H locs hP hD hS => ?_)
              have hP : va_P D vwCl [(a0, .inl (κ 0, 21375, .inl w)), (a5, .inl (κ 0, 800, .inl tp)), (m0, .inr (12, [.ref a0, .ref a1, .ref a2, .int (nI u3), .int f4, .ref a5, .int (nI u6), .int f7, .int f8, .int f9, .int f10, .int (nI (n + 1)), .int (nI u12), .int (nI u13), .ref a14, .ref a15, .ref a16, .ref a17, .int f18, .int f19, .ref a20, .ref a21, .int (nI u22), .ref a23, .ref a24, .ref a25, .int (nI u26), .int f27, .ref a28, .int (nI u29)])), (a14, .inl (κ 0, 189, .inl g_16))] H := hP
              have hD : va_D A [(a0, .inl (κ 0, 21375, .inl w)), (a5, .inl (κ 0, 800, .inl tp)), (m0, .inr (12, [.ref a0, .ref a1, .ref a2, .int (nI u3), .int f4, .ref a5, .int (nI u6), .int f7, .int f8, .int f9, .int f10, .int (nI (n + 1)), .int (nI u12), .int (nI u13), .ref a14, .ref a15, .ref a16, .ref a17, .int f18, .int f19, .ref a20, .ref a21, .int (nI u22), .ref a23, .ref a24, .ref a25, .int (nI u26), .int f27, .ref a28, .int (nI u29)])), (a14, .inl (κ 0, 189, .inl g_16))] := hD
              refine lv_goto (tgt := 2) hx hb dX12_plain_147 (by decide) ?_
              exact ih2 _ _ _ _ (by omega) ⟨(n + 1), k2, g_16, (by omega), (by omega), (by omega), (by assumption), rfl, hP, hD, hS, lv_sub hl [0, 2, 3] rfl⟩
            · refine W.eq (g2 := F0 m 123 ls [.int 0]) rfl ?_
              refine lv_if_ne (tgt := 137) hx hb dX12_plain_123 (by decide) (fun c_20 => absurd (by decide) c_20) (fun c_20 => ?_)
              refine lv_aload_n hx hb dX12_plain_126 rfl (lv_at hl 2 rfl) ?_
              refine lv_iconst (v := 5) hx hb dX12_plain_127 (by decide) ?_
              refine lv_aload_n hx hb dX12_plain_128 rfl (lv_at hl 2 rfl) ?_
              refine va_get (D := D) (ci := 12) (v := .int (nI n)) (C := RX12) (T := TX12) (N := 30) hx hb hts inlX12 hown hK hP 2 rfl rfl 11 (by decide) (hts _ mw_423) (fun _ h9 => h9) rfl dX12_plain_129 ?_
              refine lv_iload_n hx hb dX12_plain_132 rfl (lv_at hl 3 rfl) ?_
              refine ct_V (wr := [(a0, .inl (κ 0, 21375, .inl w)), (a5, .inl (κ 0, 800, .inl tp)), (a14, .inl (κ 0, 189, .inl g_16))]) (As := [.int 5, .int (nI n), .int (nI a)]) (rest := []) hFX hKK hP hD hS hA (s_X12_wrong l D κ m0 a0 a1 a2 u3 f4 a5 u6 f7 f8 f9 f10 n u12 u13 a14 a15 a16 a17 f18 f19 a20 a21 u22 a23 a24 a25 u26 f27 a28 u29 5 (nI n) (nI a)) 3 gV_X12_210 hdV_X12_wrong ⟨Nat.le_of_ble_eq_true rfl, Nat.le_of_ble_eq_true rfl⟩ rfl rfl (Nat.le_of_ble_eq_true rfl) dX12_plain_133 ⟨Nat.le_of_ble_eq_true rfl, Nat.le_of_ble_eq_true rfl⟩ hl.1 [2] [0, 1, 3] rfl rfl (by decide) (by decide) (by decide) 2 12 rfl rfl rfl trivial (fun _ H locs hp_21 _ hP hD hS hz_ hk_ => ?_)
              have hP : va_P D vwCl [(a0, .inl (κ 0, 21375, .inl w)), (a5, .inl (κ 0, 800, .inl tp)), (a14, .inl (κ 0, 189, .inl g_16)), (m0, .inr (12, [.ref a0, .ref a1, .ref a2, .int (nI u3), .int f4, .ref a5, .int (nI u6), .int 5, .int (nI n), .int (nI a), .int f10, .int (nI n), .int (nI u12), .int (nI u13), .ref a14, .ref a15, .ref a16, .ref a17, .int f18, .int f19, .ref a20, .ref a21, .int (nI u22), .ref a23, .ref a24, .ref a25, .int (nI u26), .int f27, .ref a28, .int (nI u29)]))] H := hP
              have hD : va_D A [(a0, .inl (κ 0, 21375, .inl w)), (a5, .inl (κ 0, 800, .inl tp)), (a14, .inl (κ 0, 189, .inl g_16)), (m0, .inr (12, [.ref a0, .ref a1, .ref a2, .int (nI u3), .int f4, .ref a5, .int (nI u6), .int 5, .int (nI n), .int (nI a), .int f10, .int (nI n), .int (nI u12), .int (nI u13), .ref a14, .ref a15, .ref a16, .ref a17, .int f18, .int f19, .ref a20, .ref a21, .int (nI u22), .ref a23, .ref a24, .ref a25, .int (nI u26), .int f27, .ref a28, .int (nI u29)]))] := hD
              refine W.eq (g2 := F0 m 136 ls [.int 0]) rfl ?_
              exact ct_iret hx hb hr hlk rfl hS hP hD (0, n, 5, nI n, nI a, g_16) rfl ⟨(by first | exact Or.inl rfl | exact Or.inr rfl), by omega, by omega, (by first | assumption | exact PF_n (by omega)), by assumption⟩ [3, 0, 1, 2] rfl (by decide) trivial (Nat.le_of_ble_eq_true rfl) (Nat.le_of_ble_eq_true rfl) dX12_plain_136
          · have nc_14 := cv_nle (a := k2) (b := 0) (by omega) (by omega) c_14
            refine lv_aload_n hx hb dX12_plain_90 rfl (lv_at hl 2 rfl) ?_
            refine lv_iload_n hx hb dX12_plain_91 rfl (lv_at hl 3 rfl) ?_
            refine lv_bipush (v := 32) hx hb dX12_plain_92 (by decide) ?_
            refine ct_V (wr := [(a0, .inl (κ 0, 21375, .inl w)), (a5, .inl (κ 0, 800, .inl tp))]) (As := [.int (nI a), .int 32]) (rest := []) hFX hKK hP hD hS hA (s_X12_adds l D κ m0 a0 a1 a2 u3 f4 a5 u6 f7 f8 f9 f10 n u12 u13 a14 a15 a16 a17 f18 f19 a20 a21 u22 a23 a24 a25 u26 f27 a28 u29 g2 a 32 (by assumption) (by omega)) 2 gV_X12_214 hdV_X12_adds ⟨Nat.le_of_ble_eq_true rfl, Nat.le_of_ble_eq_true rfl⟩ rfl rfl (Nat.le_of_ble_eq_true rfl) dX12_plain_94 ⟨Nat.le_of_ble_eq_true rfl, Nat.le_of_ble_eq_true rfl⟩ hl.1 [0, 3] [1, 2] rfl rfl (by decide) (by decide) (by decide) 0 12 rfl rfl rfl trivial (fun u_24 H locs hp_25 _ hP hD hS hz_ hk_ => ?_)
            obtain ⟨r_22, g_23⟩ := u_24
            have hP : va_P D vwCl [(a0, .inl (κ 0, 21375, .inl w)), (a5, .inl (κ 0, 800, .inl tp)), (m0, .inr (12, [.ref a0, .ref a1, .ref a2, .int (nI u3), .int f4, .ref a5, .int (nI u6), .int f7, .int f8, .int f9, .int f10, .int (nI n), .int (nI u12), .int (nI u13), .ref a14, .ref a15, .ref a16, .ref a17, .int f18, .int f19, .ref a20, .ref a21, .int (nI u22), .ref a23, .ref a24, .ref a25, .int (nI u26), .int f27, .ref a28, .int (nI u29)])), (a14, .inl (κ 0, 189, .inl g_23))] H := hP
            have hD : va_D A [(a0, .inl (κ 0, 21375, .inl w)), (a5, .inl (κ 0, 800, .inl tp)), (m0, .inr (12, [.ref a0, .ref a1, .ref a2, .int (nI u3), .int f4, .ref a5, .int (nI u6), .int f7, .int f8, .int f9, .int f10, .int (nI n), .int (nI u12), .int (nI u13), .ref a14, .ref a15, .ref a16, .ref a17, .int f18, .int f19, .ref a20, .ref a21, .int (nI u22), .ref a23, .ref a24, .ref a25, .int (nI u26), .int f27, .ref a28, .int (nI u29)])), (a14, .inl (κ 0, 189, .inl g_23))] := hD
            have hp_25 : (r_22 = 1 ∨ r_22 = 0) ∧ Pfd g_23 := hp_25
            obtain ⟨hbs, hfd⟩ := hp_25
            rcases hbs with rfl | rfl
            · refine W.eq (g2 := F0 m 97 ls [.int 1]) rfl ?_
              refine lv_if_ne (tgt := 111) hx hb dX12_plain_97 (by decide) (fun c_26 => ?_) (fun c_26 => absurd c_26 (by decide))
              refine lv_iinc (v := (nI (k2 - 1))) (lv' := [(2, .int (nI (k2 - 1))), (3, .int z), (0, .ref m0), (1, .int (nI a))]) hx hb dX12_plain_111 hl (k := 0) rfl (nI_d (by omega)) (by decide) rfl (fun ls hl => ?_)
              refine lv_goto (tgt := 86) hx hb dX12_plain_114 (by decide) ?_
              exact ih86 _ _ _ _ (by omega) ⟨(k2 - 1), g_23, z, (by omega), (by assumption), rfl, hP, hD, hS, lv_sub hl [0, 1, 2, 3] rfl⟩
            · refine W.eq (g2 := F0 m 97 ls [.int 0]) rfl ?_
              refine lv_if_ne (tgt := 111) hx hb dX12_plain_97 (by decide) (fun c_28 => absurd (by decide) c_28) (fun c_28 => ?_)
              refine lv_aload_n hx hb dX12_plain_100 rfl (lv_at hl 2 rfl) ?_
              refine lv_iconst (v := 5) hx hb dX12_plain_101 (by decide) ?_
              refine lv_aload_n hx hb dX12_plain_102 rfl (lv_at hl 2 rfl) ?_
              refine va_get (D := D) (ci := 12) (v := .int (nI n)) (C := RX12) (T := TX12) (N := 30) hx hb hts inlX12 hown hK hP 2 rfl rfl 11 (by decide) (hts _ mw_423) (fun _ h9 => h9) rfl dX12_plain_103 ?_
              refine lv_iload_n hx hb dX12_plain_106 rfl (lv_at hl 3 rfl) ?_
              refine ct_V (wr := [(a0, .inl (κ 0, 21375, .inl w)), (a5, .inl (κ 0, 800, .inl tp)), (a14, .inl (κ 0, 189, .inl g_23))]) (As := [.int 5, .int (nI n), .int (nI a)]) (rest := []) hFX hKK hP hD hS hA (s_X12_wrong l D κ m0 a0 a1 a2 u3 f4 a5 u6 f7 f8 f9 f10 n u12 u13 a14 a15 a16 a17 f18 f19 a20 a21 u22 a23 a24 a25 u26 f27 a28 u29 5 (nI n) (nI a)) 3 gV_X12_210 hdV_X12_wrong ⟨Nat.le_of_ble_eq_true rfl, Nat.le_of_ble_eq_true rfl⟩ rfl rfl (Nat.le_of_ble_eq_true rfl) dX12_plain_107 ⟨Nat.le_of_ble_eq_true rfl, Nat.le_of_ble_eq_true rfl⟩ hl.1 [2] [0, 1, 3] rfl rfl (by decide) (by decide) (by decide) 2 12 rfl rfl rfl trivial (fun _ H locs hp_29 _ hP hD hS hz_ hk_ => ?_)
              have hP : va_P D vwCl [(a0, .inl (κ 0, 21375, .inl w)), (a5, .inl (κ 0, 800, .inl tp)), (a14, .inl (κ 0, 189, .inl g_23)), (m0, .inr (12, [.ref a0, .ref a1, .ref a2, .int (nI u3), .int f4, .ref a5, .int (nI u6), .int 5, .int (nI n), .int (nI a), .int f10, .int (nI n), .int (nI u12), .int (nI u13), .ref a14, .ref a15, .ref a16, .ref a17, .int f18, .int f19, .ref a20, .ref a21, .int (nI u22), .ref a23, .ref a24, .ref a25, .int (nI u26), .int f27, .ref a28, .int (nI u29)]))] H := hP
              have hD : va_D A [(a0, .inl (κ 0, 21375, .inl w)), (a5, .inl (κ 0, 800, .inl tp)), (a14, .inl (κ 0, 189, .inl g_23)), (m0, .inr (12, [.ref a0, .ref a1, .ref a2, .int (nI u3), .int f4, .ref a5, .int (nI u6), .int 5, .int (nI n), .int (nI a), .int f10, .int (nI n), .int (nI u12), .int (nI u13), .ref a14, .ref a15, .ref a16, .ref a17, .int f18, .int f19, .ref a20, .ref a21, .int (nI u22), .ref a23, .ref a24, .ref a25, .int (nI u26), .int f27, .ref a28, .int (nI u29)]))] := hD
              refine W.eq (g2 := F0 m 110 ls [.int 0]) rfl ?_
              exact ct_iret hx hb hr hlk rfl hS hP hD (0, n, 5, nI n, nI a, g_23) rfl ⟨(by first | exact Or.inl rfl | exact Or.inr rfl), by omega, by omega, (by first | assumption | exact PF_n (by omega)), by assumption⟩ [3, 0, 1, 2] rfl (by decide) trivial (Nat.le_of_ble_eq_true rfl) (Nat.le_of_ble_eq_true rfl) dX12_plain_110
        · refine lv_iload_n hx hb dX12_plain_74 rfl (lv_at hl 0 rfl) ?_
          refine lv_bipush (v := 32) hx hb dX12_plain_75 (by decide) ?_
          refine lv_icmp_ne (tgt := 86) hx hb dX12_plain_77 (by decide) (fun c_30 => ?_) (fun c_30 => ?_)
          · refine loop_dn (fun k9 H locs ls => ∃ (k2 : Nat), ∃ (g2 : Nat → Int32), ∃ (z : Int32), (k2 ≤ n) ∧ (Pfd g2) ∧ k2 = k9 ∧ va_P D vwCl [(m0, .inr (12, [.ref a0, .ref a1, .ref a2, .int (nI u3), .int f4, .ref a5, .int (nI u6), .int f7, .int f8, .int f9, .int f10, .int (nI n), .int (nI u12), .int (nI u13), .ref a14, .ref a15, .ref a16, .ref a17, .int f18, .int f19, .ref a20, .ref a21, .int (nI u22), .ref a23, .ref a24, .ref a25, .int (nI u26), .int f27, .ref a28, .int (nI u29)])), (a0, .inl (κ 0, 21375, .inl w)), (a5, .inl (κ 0, 800, .inl tp)), (a14, .inl (κ 0, 189, .inl g2))] H ∧ va_D A [(m0, .inr (12, [.ref a0, .ref a1, .ref a2, .int (nI u3), .int f4, .ref a5, .int (nI u6), .int f7, .int f8, .int f9, .int f10, .int (nI n), .int (nI u12), .int (nI u13), .ref a14, .ref a15, .ref a16, .ref a17, .int f18, .int f19, .ref a20, .ref a21, .int (nI u22), .ref a23, .ref a24, .ref a25, .int (nI u26), .int f27, .ref a28, .int (nI u29)])), (a0, .inl (κ 0, 21375, .inl w)), (a5, .inl (κ 0, 800, .inl tp)), (a14, .inl (κ 0, 189, .inl g2))] ∧ va_S A s.heap H locs ∧ lv_has ls 4 [(2, .int (nI k2)), (3, .int z), (0, .ref m0), (1, .int (nI a))]) (fun k9 H locs ls hI86 ih86 => ?_) (k) _ _ _ ⟨k, g, x_6, (by omega), (by assumption), rfl, hP, hD, hS, lv_sub hl [1, 0, 2, 3] rfl⟩
            obtain ⟨k2, g2, z, hn4, hfd, hm86, hP, hD, hS, hl⟩ := hI86
            refine lv_iload_n hx hb dX12_plain_86 rfl (lv_at hl 0 rfl) ?_
            refine lv_if_le (tgt := 117) hx hb dX12_plain_87 (by decide) (fun c_31 => ?_) (fun c_31 => ?_)
            · have nc_31 := cv_le (a := k2) (b := 0) (by omega) (by omega) c_31
              refine lv_aload_n hx hb dX12_plain_117 rfl (lv_at hl 2 rfl) ?_
              refine lv_iload_n hx hb dX12_plain_118 rfl (lv_at hl 3 rfl) ?_
              refine lv_iload_n hx hb dX12_plain_119 rfl (lv_at hl 1 rfl) ?_
              refine ct_V (wr := [(a0, .inl (κ 0, 21375, .inl w)), (a5, .inl (κ 0, 800, .inl tp))]) (As := [.int (nI a), .int z]) (rest := []) hFX hKK hP hD hS hA (s_X12_adds l D κ m0 a0 a1 a2 u3 f4 a5 u6 f7 f8 f9 f10 n u12 u13 a14 a15 a16 a17 f18 f19 a20 a21 u22 a23 a24 a25 u26 f27 a28 u29 g2 a z (by assumption) (by omega)) 2 gV_X12_214 hdV_X12_adds ⟨Nat.le_of_ble_eq_true rfl, Nat.le_of_ble_eq_true rfl⟩ rfl rfl (Nat.le_of_ble_eq_true rfl) dX12_plain_120 ⟨Nat.le_of_ble_eq_true rfl, Nat.le_of_ble_eq_true rfl⟩ hl.1 [0, 3] [1, 2] rfl rfl (by decide) (by decide) (by decide) 0 12 rfl rfl rfl trivial (fun u_34 H locs hp_35 _ hP hD hS hz_ hk_ => ?_)
              obtain ⟨r_32, g_33⟩ := u_34
              have hP : va_P D vwCl [(a0, .inl (κ 0, 21375, .inl w)), (a5, .inl (κ 0, 800, .inl tp)), (m0, .inr (12, [.ref a0, .ref a1, .ref a2, .int (nI u3), .int f4, .ref a5, .int (nI u6), .int f7, .int f8, .int f9, .int f10, .int (nI n), .int (nI u12), .int (nI u13), .ref a14, .ref a15, .ref a16, .ref a17, .int f18, .int f19, .ref a20, .ref a21, .int (nI u22), .ref a23, .ref a24, .ref a25, .int (nI u26), .int f27, .ref a28, .int (nI u29)])), (a14, .inl (κ 0, 189, .inl g_33))] H := hP
              have hD : va_D A [(a0, .inl (κ 0, 21375, .inl w)), (a5, .inl (κ 0, 800, .inl tp)), (m0, .inr (12, [.ref a0, .ref a1, .ref a2, .int (nI u3), .int f4, .ref a5, .int (nI u6), .int f7, .int f8, .int f9, .int f10, .int (nI n), .int (nI u12), .int (nI u13), .ref a14, .ref a15, .ref a16, .ref a17, .int f18, .int f19, .ref a20, .ref a21, .int (nI u22), .ref a23, .ref a24, .ref a25, .int (nI u26), .int f27, .ref a28, .int (nI u29)])), (a14, .inl (κ 0, 189, .inl g_33))] := hD
              have hp_35 : (r_32 = 1 ∨ r_32 = 0) ∧ Pfd g_33 := hp_35
              obtain ⟨hbs, hfd⟩ := hp_35
              rcases hbs with rfl | rfl
              · refine W.eq (g2 := F0 m 123 ls [.int 1]) rfl ?_
                refine lv_if_ne (tgt := 137) hx hb dX12_plain_123 (by decide) (fun c_36 => ?_) (fun c_36 => absurd c_36 (by decide))
                refine lv_aload_n hx hb dX12_plain_137 rfl (lv_at hl 2 rfl) ?_
                refine lv_dup hx hb dX12_plain_138 rfl ?_
                refine va_get (D := D) (ci := 12) (v := .int (nI n)) (C := RX12) (T := TX12) (N := 30) hx hb hts inlX12 hown hK hP 2 rfl rfl 11 (by decide) (hts _ mw_423) (fun _ h9 => h9) rfl dX12_plain_139 ?_
                refine lv_iconst (v := 1) hx hb dX12_plain_142 (by decide) ?_
                refine lv_iadd hx hb dX12_plain_143 ?_
                refine ki (v := (nI (n + 1))) (nI_add n 1) ?_
                refine va_put (D := D) (ci := 12) (v := .int (nI (n + 1))) (ty := tyX12 11) (C := RX12) (T := TX12) (N := 30) hx hb hts inlX12 tyX12 tyX12_ok nmX12 hown hK hP hD hS 2 rfl rfl 11 (by decide) (hts _ mw_423) (fun _ h9 => h9) rfl (tyX12_ok 11 (by decide)) rfl rfl (Nat.le_of_ble_eq_true rfl) dX12_plain_144 (fun H locs hP hD hS => ?_)
                have hP : va_P D vwCl [(a0, .inl (κ 0, 21375, .inl w)), (a5, .inl (κ 0, 800, .inl tp)), (m0, .inr (12, [.ref a0, .ref a1, .ref a2, .int (nI u3), .int f4, .ref a5, .int (nI u6), .int f7, .int f8, .int f9, .int f10, .int (nI (n + 1)), .int (nI u12), .int (nI u13), .ref a14, .ref a15, .ref a16, .ref a17, .int f18, .int f19, .ref a20, .ref a21, .int (nI u22), .ref a23, .ref a24, .ref a25, .int (nI u26), .int f27, .ref a28, .int (nI u29)])), (a14, .inl (κ 0, 189, .inl g_33))] H := hP
                have hD : va_D A [(a0, .inl (κ 0, 21375, .inl w)), (a5, .inl (κ 0, 800, .inl tp)), (m0, .inr (12, [.ref a0, .ref a1, .ref a2, .int (nI u3), .int f4, .ref a5, .int (nI u6), .int f7, .int f8, .int f9, .int f10, .int (nI (n + 1)), .int (nI u12), .int (nI u13), .ref a14, .ref a15, .ref a16, .ref a17, .int f18, .int f19, .ref a20, .ref a21, .int (nI u22), .ref a23, .ref a24, .ref a25, .int (nI u26), .int f27, .ref a28, .int (nI u29)])), (a14, .inl (κ 0, 189, .inl g_33))] := hD
                refine lv_goto (tgt := 2) hx hb dX12_plain_147 (by decide) ?_
                exact ih2 _ _ _ _ (by omega) ⟨(n + 1), k2, g_33, (by omega), (by omega), (by omega), (by assumption), rfl, hP, hD, hS, lv_sub hl [0, 2, 3] rfl⟩
              · refine W.eq (g2 := F0 m 123 ls [.int 0]) rfl ?_
                refine lv_if_ne (tgt := 137) hx hb dX12_plain_123 (by decide) (fun c_37 => absurd (by decide) c_37) (fun c_37 => ?_)
                refine lv_aload_n hx hb dX12_plain_126 rfl (lv_at hl 2 rfl) ?_
                refine lv_iconst (v := 5) hx hb dX12_plain_127 (by decide) ?_
                refine lv_aload_n hx hb dX12_plain_128 rfl (lv_at hl 2 rfl) ?_
                refine va_get (D := D) (ci := 12) (v := .int (nI n)) (C := RX12) (T := TX12) (N := 30) hx hb hts inlX12 hown hK hP 2 rfl rfl 11 (by decide) (hts _ mw_423) (fun _ h9 => h9) rfl dX12_plain_129 ?_
                refine lv_iload_n hx hb dX12_plain_132 rfl (lv_at hl 3 rfl) ?_
                refine ct_V (wr := [(a0, .inl (κ 0, 21375, .inl w)), (a5, .inl (κ 0, 800, .inl tp)), (a14, .inl (κ 0, 189, .inl g_33))]) (As := [.int 5, .int (nI n), .int (nI a)]) (rest := []) hFX hKK hP hD hS hA (s_X12_wrong l D κ m0 a0 a1 a2 u3 f4 a5 u6 f7 f8 f9 f10 n u12 u13 a14 a15 a16 a17 f18 f19 a20 a21 u22 a23 a24 a25 u26 f27 a28 u29 5 (nI n) (nI a)) 3 gV_X12_210 hdV_X12_wrong ⟨Nat.le_of_ble_eq_true rfl, Nat.le_of_ble_eq_true rfl⟩ rfl rfl (Nat.le_of_ble_eq_true rfl) dX12_plain_133 ⟨Nat.le_of_ble_eq_true rfl, Nat.le_of_ble_eq_true rfl⟩ hl.1 [2] [0, 1, 3] rfl rfl (by decide) (by decide) (by decide) 2 12 rfl rfl rfl trivial (fun _ H locs hp_38 _ hP hD hS hz_ hk_ => ?_)
                have hP : va_P D vwCl [(a0, .inl (κ 0, 21375, .inl w)), (a5, .inl (κ 0, 800, .inl tp)), (a14, .inl (κ 0, 189, .inl g_33)), (m0, .inr (12, [.ref a0, .ref a1, .ref a2, .int (nI u3), .int f4, .ref a5, .int (nI u6), .int 5, .int (nI n), .int (nI a), .int f10, .int (nI n), .int (nI u12), .int (nI u13), .ref a14, .ref a15, .ref a16, .ref a17, .int f18, .int f19, .ref a20, .ref a21, .int (nI u22), .ref a23, .ref a24, .ref a25, .int (nI u26), .int f27, .ref a28, .int (nI u29)]))] H := hP
                have hD : va_D A [(a0, .inl (κ 0, 21375, .inl w)), (a5, .inl (κ 0, 800, .inl tp)), (a14, .inl (κ 0, 189, .inl g_33)), (m0, .inr (12, [.ref a0, .ref a1, .ref a2, .int (nI u3), .int f4, .ref a5, .int (nI u6), .int 5, .int (nI n), .int (nI a), .int f10, .int (nI n), .int (nI u12), .int (nI u13), .ref a14, .ref a15, .ref a16, .ref a17, .int f18, .int f19, .ref a20, .ref a21, .int (nI u22), .ref a23, .ref a24, .ref a25, .int (nI u26), .int f27, .ref a28, .int (nI u29)]))] := hD
                refine W.eq (g2 := F0 m 136 ls [.int 0]) rfl ?_
                exact ct_iret hx hb hr hlk rfl hS hP hD (0, n, 5, nI n, nI a, g_33) rfl ⟨(by first | exact Or.inl rfl | exact Or.inr rfl), by omega, by omega, (by first | assumption | exact PF_n (by omega)), by assumption⟩ [3, 0, 1, 2] rfl (by decide) trivial (Nat.le_of_ble_eq_true rfl) (Nat.le_of_ble_eq_true rfl) dX12_plain_136
            · have nc_31 := cv_nle (a := k2) (b := 0) (by omega) (by omega) c_31
              refine lv_aload_n hx hb dX12_plain_90 rfl (lv_at hl 2 rfl) ?_
              refine lv_iload_n hx hb dX12_plain_91 rfl (lv_at hl 3 rfl) ?_
              refine lv_bipush (v := 32) hx hb dX12_plain_92 (by decide) ?_
              refine ct_V (wr := [(a0, .inl (κ 0, 21375, .inl w)), (a5, .inl (κ 0, 800, .inl tp))]) (As := [.int (nI a), .int 32]) (rest := []) hFX hKK hP hD hS hA (s_X12_adds l D κ m0 a0 a1 a2 u3 f4 a5 u6 f7 f8 f9 f10 n u12 u13 a14 a15 a16 a17 f18 f19 a20 a21 u22 a23 a24 a25 u26 f27 a28 u29 g2 a 32 (by assumption) (by omega)) 2 gV_X12_214 hdV_X12_adds ⟨Nat.le_of_ble_eq_true rfl, Nat.le_of_ble_eq_true rfl⟩ rfl rfl (Nat.le_of_ble_eq_true rfl) dX12_plain_94 ⟨Nat.le_of_ble_eq_true rfl, Nat.le_of_ble_eq_true rfl⟩ hl.1 [0, 3] [1, 2] rfl rfl (by decide) (by decide) (by decide) 0 12 rfl rfl rfl trivial (fun u_41 H locs hp_42 _ hP hD hS hz_ hk_ => ?_)
              obtain ⟨r_39, g_40⟩ := u_41
              have hP : va_P D vwCl [(a0, .inl (κ 0, 21375, .inl w)), (a5, .inl (κ 0, 800, .inl tp)), (m0, .inr (12, [.ref a0, .ref a1, .ref a2, .int (nI u3), .int f4, .ref a5, .int (nI u6), .int f7, .int f8, .int f9, .int f10, .int (nI n), .int (nI u12), .int (nI u13), .ref a14, .ref a15, .ref a16, .ref a17, .int f18, .int f19, .ref a20, .ref a21, .int (nI u22), .ref a23, .ref a24, .ref a25, .int (nI u26), .int f27, .ref a28, .int (nI u29)])), (a14, .inl (κ 0, 189, .inl g_40))] H := hP
              have hD : va_D A [(a0, .inl (κ 0, 21375, .inl w)), (a5, .inl (κ 0, 800, .inl tp)), (m0, .inr (12, [.ref a0, .ref a1, .ref a2, .int (nI u3), .int f4, .ref a5, .int (nI u6), .int f7, .int f8, .int f9, .int f10, .int (nI n), .int (nI u12), .int (nI u13), .ref a14, .ref a15, .ref a16, .ref a17, .int f18, .int f19, .ref a20, .ref a21, .int (nI u22), .ref a23, .ref a24, .ref a25, .int (nI u26), .int f27, .ref a28, .int (nI u29)])), (a14, .inl (κ 0, 189, .inl g_40))] := hD
              have hp_42 : (r_39 = 1 ∨ r_39 = 0) ∧ Pfd g_40 := hp_42
              obtain ⟨hbs, hfd⟩ := hp_42
              rcases hbs with rfl | rfl
              · refine W.eq (g2 := F0 m 97 ls [.int 1]) rfl ?_
                refine lv_if_ne (tgt := 111) hx hb dX12_plain_97 (by decide) (fun c_43 => ?_) (fun c_43 => absurd c_43 (by decide))
                refine lv_iinc (v := (nI (k2 - 1))) (lv' := [(2, .int (nI (k2 - 1))), (3, .int z), (0, .ref m0), (1, .int (nI a))]) hx hb dX12_plain_111 hl (k := 0) rfl (nI_d (by omega)) (by decide) rfl (fun ls hl => ?_)
                refine lv_goto (tgt := 86) hx hb dX12_plain_114 (by decide) ?_
                exact ih86 _ _ _ _ (by omega) ⟨(k2 - 1), g_40, z, (by omega), (by assumption), rfl, hP, hD, hS, lv_sub hl [0, 1, 2, 3] rfl⟩
              · refine W.eq (g2 := F0 m 97 ls [.int 0]) rfl ?_
                refine lv_if_ne (tgt := 111) hx hb dX12_plain_97 (by decide) (fun c_45 => absurd (by decide) c_45) (fun c_45 => ?_)
                refine lv_aload_n hx hb dX12_plain_100 rfl (lv_at hl 2 rfl) ?_
                refine lv_iconst (v := 5) hx hb dX12_plain_101 (by decide) ?_
                refine lv_aload_n hx hb dX12_plain_102 rfl (lv_at hl 2 rfl) ?_
                refine va_get (D := D) (ci := 12) (v := .int (nI n)) (C := RX12) (T := TX12) (N := 30) hx hb hts inlX12 hown hK hP 2 rfl rfl 11 (by decide) (hts _ mw_423) (fun _ h9 => h9) rfl dX12_plain_103 ?_
                refine lv_iload_n hx hb dX12_plain_106 rfl (lv_at hl 3 rfl) ?_
                refine ct_V (wr := [(a0, .inl (κ 0, 21375, .inl w)), (a5, .inl (κ 0, 800, .inl tp)), (a14, .inl (κ 0, 189, .inl g_40))]) (As := [.int 5, .int (nI n), .int (nI a)]) (rest := []) hFX hKK hP hD hS hA (s_X12_wrong l D κ m0 a0 a1 a2 u3 f4 a5 u6 f7 f8 f9 f10 n u12 u13 a14 a15 a16 a17 f18 f19 a20 a21 u22 a23 a24 a25 u26 f27 a28 u29 5 (nI n) (nI a)) 3 gV_X12_210 hdV_X12_wrong ⟨Nat.le_of_ble_eq_true rfl, Nat.le_of_ble_eq_true rfl⟩ rfl rfl (Nat.le_of_ble_eq_true rfl) dX12_plain_107 ⟨Nat.le_of_ble_eq_true rfl, Nat.le_of_ble_eq_true rfl⟩ hl.1 [2] [0, 1, 3] rfl rfl (by decide) (by decide) (by decide) 2 12 rfl rfl rfl trivial (fun _ H locs hp_46 _ hP hD hS hz_ hk_ => ?_)
                have hP : va_P D vwCl [(a0, .inl (κ 0, 21375, .inl w)), (a5, .inl (κ 0, 800, .inl tp)), (a14, .inl (κ 0, 189, .inl g_40)), (m0, .inr (12, [.ref a0, .ref a1, .ref a2, .int (nI u3), .int f4, .ref a5, .int (nI u6), .int 5, .int (nI n), .int (nI a), .int f10, .int (nI n), .int (nI u12), .int (nI u13), .ref a14, .ref a15, .ref a16, .ref a17, .int f18, .int f19, .ref a20, .ref a21, .int (nI u22), .ref a23, .ref a24, .ref a25, .int (nI u26), .int f27, .ref a28, .int (nI u29)]))] H := hP
                have hD : va_D A [(a0, .inl (κ 0, 21375, .inl w)), (a5, .inl (κ 0, 800, .inl tp)), (a14, .inl (κ 0, 189, .inl g_40)), (m0, .inr (12, [.ref a0, .ref a1, .ref a2, .int (nI u3), .int f4, .ref a5, .int (nI u6), .int 5, .int (nI n), .int (nI a), .int f10, .int (nI n), .int (nI u12), .int (nI u13), .ref a14, .ref a15, .ref a16, .ref a17, .int f18, .int f19, .ref a20, .ref a21, .int (nI u22), .ref a23, .ref a24, .ref a25, .int (nI u26), .int f27, .ref a28, .int (nI u29)]))] := hD
                refine W.eq (g2 := F0 m 110 ls [.int 0]) rfl ?_
                exact ct_iret hx hb hr hlk rfl hS hP hD (0, n, 5, nI n, nI a, g_40) rfl ⟨(by first | exact Or.inl rfl | exact Or.inr rfl), by omega, by omega, (by first | assumption | exact PF_n (by omega)), by assumption⟩ [3, 0, 1, 2] rfl (by decide) trivial (Nat.le_of_ble_eq_true rfl) (Nat.le_of_ble_eq_true rfl) dX12_plain_110
          · refine lv_iinc (v := (nI (k + 1))) (lv' := [(2, .int (nI (k + 1))), (3, .int x_6), (0, .ref m0), (1, .int (nI a))]) hx hb dX12_plain_80 hl (k := 1) rfl (nI_i k) (by decide) rfl (fun ls hl => ?_)
            refine lv_goto (tgt := 137) hx hb dX12_plain_83 (by decide) ?_
            refine lv_aload_n hx hb dX12_plain_137 rfl (lv_at hl 2 rfl) ?_
            refine lv_dup hx hb dX12_plain_138 rfl ?_
            refine va_get (D := D) (ci := 12) (v := .int (nI n)) (C := RX12) (T := TX12) (N := 30) hx hb hts inlX12 hown hK hP 0 rfl rfl 11 (by decide) (hts _ mw_423) (fun _ h9 => h9) rfl dX12_plain_139 ?_
            refine lv_iconst (v := 1) hx hb dX12_plain_142 (by decide) ?_
            refine lv_iadd hx hb dX12_plain_143 ?_
            refine ki (v := (nI (n + 1))) (nI_add n 1) ?_
            refine va_put (D := D) (ci := 12) (v := .int (nI (n + 1))) (ty := tyX12 11) (C := RX12) (T := TX12) (N := 30) hx hb hts inlX12 tyX12 tyX12_ok nmX12 hown hK hP hD hS 0 rfl rfl 11 (by decide) (hts _ mw_423) (fun _ h9 => h9) rfl (tyX12_ok 11 (by decide)) rfl rfl (Nat.le_of_ble_eq_true rfl) dX12_plain_144 (fun H locs hP hD hS => ?_)
            have hP : va_P D vwCl [(m0, .inr (12, [.ref a0, .ref a1, .ref a2, .int (nI u3), .int f4, .ref a5, .int (nI u6), .int f7, .int f8, .int f9, .int f10, .int (nI (n + 1)), .int (nI u12), .int (nI u13), .ref a14, .ref a15, .ref a16, .ref a17, .int f18, .int f19, .ref a20, .ref a21, .int (nI u22), .ref a23, .ref a24, .ref a25, .int (nI u26), .int f27, .ref a28, .int (nI u29)])), (a0, .inl (κ 0, 21375, .inl w)), (a5, .inl (κ 0, 800, .inl tp)), (a14, .inl (κ 0, 189, .inl g))] H := hP
            have hD : va_D A [(m0, .inr (12, [.ref a0, .ref a1, .ref a2, .int (nI u3), .int f4, .ref a5, .int (nI u6), .int f7, .int f8, .int f9, .int f10, .int (nI (n + 1)), .int (nI u12), .int (nI u13), .ref a14, .ref a15, .ref a16, .ref a17, .int f18, .int f19, .ref a20, .ref a21, .int (nI u22), .ref a23, .ref a24, .ref a25, .int (nI u26), .int f27, .ref a28, .int (nI u29)])), (a0, .inl (κ 0, 21375, .inl w)), (a5, .inl (κ 0, 800, .inl tp)), (a14, .inl (κ 0, 189, .inl g))] := hD
            refine lv_goto (tgt := 2) hx hb dX12_plain_147 (by decide) ?_
            exact ih2 _ _ _ _ (by omega) ⟨(n + 1), (k + 1), g, (by omega), (by omega), (by omega), (by assumption), rfl, hP, hD, hS, lv_sub hl [0, 2, 3] rfl⟩
      · refine lv_aload_n hx hb dX12_plain_51 rfl (lv_at hl 2 rfl) ?_
        refine lv_iconst (v := 2) hx hb dX12_plain_52 (by decide) ?_
        refine lv_aload_n hx hb dX12_plain_53 rfl (lv_at hl 2 rfl) ?_
        refine va_get (D := D) (ci := 12) (v := .int (nI n)) (C := RX12) (T := TX12) (N := 30) hx hb hts inlX12 hown hK hP 0 rfl rfl 11 (by decide) (hts _ mw_423) (fun _ h9 => h9) rfl dX12_plain_54 ?_
        refine lv_iload_n hx hb dX12_plain_57 rfl (lv_at hl 3 rfl) ?_
        refine ct_V (wr := [(a0, .inl (κ 0, 21375, .inl w)), (a5, .inl (κ 0, 800, .inl tp)), (a14, .inl (κ 0, 189, .inl g))]) (As := [.int 2, .int (nI n), .int (nI a)]) (rest := []) hFX hKK hP hD hS hA (s_X12_wrong l D κ m0 a0 a1 a2 u3 f4 a5 u6 f7 f8 f9 f10 n u12 u13 a14 a15 a16 a17 f18 f19 a20 a21 u22 a23 a24 a25 u26 f27 a28 u29 2 (nI n) (nI a)) 3 gV_X12_210 hdV_X12_wrong ⟨Nat.le_of_ble_eq_true rfl, Nat.le_of_ble_eq_true rfl⟩ rfl rfl (Nat.le_of_ble_eq_true rfl) dX12_plain_58 ⟨Nat.le_of_ble_eq_true rfl, Nat.le_of_ble_eq_true rfl⟩ hl.1 [0] [1, 2, 3] rfl rfl (by decide) (by decide) (by decide) 0 12 rfl rfl rfl trivial (fun _ H locs hp_48 _ hP hD hS hz_ hk_ => ?_)
        have hP : va_P D vwCl [(a0, .inl (κ 0, 21375, .inl w)), (a5, .inl (κ 0, 800, .inl tp)), (a14, .inl (κ 0, 189, .inl g)), (m0, .inr (12, [.ref a0, .ref a1, .ref a2, .int (nI u3), .int f4, .ref a5, .int (nI u6), .int 2, .int (nI n), .int (nI a), .int f10, .int (nI n), .int (nI u12), .int (nI u13), .ref a14, .ref a15, .ref a16, .ref a17, .int f18, .int f19, .ref a20, .ref a21, .int (nI u22), .ref a23, .ref a24, .ref a25, .int (nI u26), .int f27, .ref a28, .int (nI u29)]))] H := hP
        have hD : va_D A [(a0, .inl (κ 0, 21375, .inl w)), (a5, .inl (κ 0, 800, .inl tp)), (a14, .inl (κ 0, 189, .inl g)), (m0, .inr (12, [.ref a0, .ref a1, .ref a2, .int (nI u3), .int f4, .ref a5, .int (nI u6), .int 2, .int (nI n), .int (nI a), .int f10, .int (nI n), .int (nI u12), .int (nI u13), .ref a14, .ref a15, .ref a16, .ref a17, .int f18, .int f19, .ref a20, .ref a21, .int (nI u22), .ref a23, .ref a24, .ref a25, .int (nI u26), .int f27, .ref a28, .int (nI u29)]))] := hD
        refine W.eq (g2 := F0 m 61 ls [.int 0]) rfl ?_
        exact ct_iret hx hb hr hlk rfl hS hP hD (0, n, 2, nI n, nI a, g) rfl ⟨(by first | exact Or.inl rfl | exact Or.inr rfl), by omega, by omega, (by first | assumption | exact PF_n (by omega)), by assumption⟩ [3, 0, 1, 2] rfl (by decide) trivial (Nat.le_of_ble_eq_true rfl) (Nat.le_of_ble_eq_true rfl) dX12_plain_61
    · refine W.eq (g2 := F0 m 25 ls [.int 0]) rfl ?_
      refine lv_if_ne (tgt := 39) hx hb dX12_plain_25 (by decide) (fun c_49 => absurd (by decide) c_49) (fun c_49 => ?_)
      refine lv_aload_n hx hb dX12_plain_28 rfl (lv_at hl 2 rfl) ?_
      refine lv_iconst (v := 1) hx hb dX12_plain_29 (by decide) ?_
      refine lv_aload_n hx hb dX12_plain_30 rfl (lv_at hl 2 rfl) ?_
      refine va_get (D := D) (ci := 12) (v := .int (nI n)) (C := RX12) (T := TX12) (N := 30) hx hb hts inlX12 hown hK hP 0 rfl rfl 11 (by decide) (hts _ mw_423) (fun _ h9 => h9) rfl dX12_plain_31 ?_
      refine lv_iload_n hx hb dX12_plain_34 rfl (lv_at hl 3 rfl) ?_
      refine ct_V (wr := [(a0, .inl (κ 0, 21375, .inl w)), (a5, .inl (κ 0, 800, .inl tp)), (a14, .inl (κ 0, 189, .inl g))]) (As := [.int 1, .int (nI n), .int (nI a)]) (rest := []) hFX hKK hP hD hS hA (s_X12_wrong l D κ m0 a0 a1 a2 u3 f4 a5 u6 f7 f8 f9 f10 n u12 u13 a14 a15 a16 a17 f18 f19 a20 a21 u22 a23 a24 a25 u26 f27 a28 u29 1 (nI n) (nI a)) 3 gV_X12_210 hdV_X12_wrong ⟨Nat.le_of_ble_eq_true rfl, Nat.le_of_ble_eq_true rfl⟩ rfl rfl (Nat.le_of_ble_eq_true rfl) dX12_plain_35 ⟨Nat.le_of_ble_eq_true rfl, Nat.le_of_ble_eq_true rfl⟩ hl.1 [0] [1, 2, 3] rfl rfl (by decide) (by decide) (by decide) 0 12 rfl rfl rfl trivial (fun _ H locs hp_50 _ hP hD hS hz_ hk_ => ?_)
      have hP : va_P D vwCl [(a0, .inl (κ 0, 21375, .inl w)), (a5, .inl (κ 0, 800, .inl tp)), (a14, .inl (κ 0, 189, .inl g)), (m0, .inr (12, [.ref a0, .ref a1, .ref a2, .int (nI u3), .int f4, .ref a5, .int (nI u6), .int 1, .int (nI n), .int (nI a), .int f10, .int (nI n), .int (nI u12), .int (nI u13), .ref a14, .ref a15, .ref a16, .ref a17, .int f18, .int f19, .ref a20, .ref a21, .int (nI u22), .ref a23, .ref a24, .ref a25, .int (nI u26), .int f27, .ref a28, .int (nI u29)]))] H := hP
      have hD : va_D A [(a0, .inl (κ 0, 21375, .inl w)), (a5, .inl (κ 0, 800, .inl tp)), (a14, .inl (κ 0, 189, .inl g)), (m0, .inr (12, [.ref a0, .ref a1, .ref a2, .int (nI u3), .int f4, .ref a5, .int (nI u6), .int 1, .int (nI n), .int (nI a), .int f10, .int (nI n), .int (nI u12), .int (nI u13), .ref a14, .ref a15, .ref a16, .ref a17, .int f18, .int f19, .ref a20, .ref a21, .int (nI u22), .ref a23, .ref a24, .ref a25, .int (nI u26), .int f27, .ref a28, .int (nI u29)]))] := hD
      refine W.eq (g2 := F0 m 38 ls [.int 0]) rfl ?_
      exact ct_iret hx hb hr hlk rfl hS hP hD (0, n, 1, nI n, nI a, g) rfl ⟨(by first | exact Or.inl rfl | exact Or.inr rfl), by omega, by omega, (by first | assumption | exact PF_n (by omega)), by assumption⟩ [3, 0, 1, 2] rfl (by decide) trivial (Nat.le_of_ble_eq_true rfl) (Nat.le_of_ble_eq_true rfl) dX12_plain_38
set_option maxHeartbeats 4000000 in
set_option maxRecDepth 100000 in
theorem s_X12_quoted (l : Launch) (D : va_G) (κ : Nat → ClassId) (m0 : Nat) (a0 : Nat) (a1 : Nat) (a2 : Nat) (u3 : Nat) (f4 : Int32) (a5 : Nat) (u6 : Nat) (f7 : Int32) (f8 : Int32) (f9 : Int32) (f10 : Int32) (u11 : Nat) (u12 : Nat) (u13 : Nat) (a14 : Nat) (a15 : Nat) (a16 : Nat) (a17 : Nat) (f18 : Int32) (f19 : Int32) (a20 : Nat) (a21 : Nat) (u22 : Nat) (a23 : Nat) (a24 : Nat) (a25 : Nat) (u26 : Nat) (f27 : Int32) (a28 : Nat) (u29 : Nat) (w : Nat → Int32) (tp : Nat → Int32) (fd : Nat → Int32) (a : Nat) (h6 : u6 ≤ 800) (h11 : u11 < u6) (hfd : Pfd fd) (hpf : PF f8) (ha : a < 9) : Ct l yX12_quoted (wl yX12_quoted cX12_quoted 3 (some .boolean)) { frames := 2, cells := 0, slots := 0, locals := 47 } D κ [.ref m0, .int (nI a)] [(m0, .inr (12, [.ref a0, .ref a1, .ref a2, .int (nI u3), .int f4, .ref a5, .int (nI u6), .int f7, .int f8, .int f9, .int f10, .int (nI u11), .int (nI u12), .int (nI u13), .ref a14, .ref a15, .ref a16, .ref a17, .int f18, .int f19, .ref a20, .ref a21, .int (nI u22), .ref a23, .ref a24, .ref a25, .int (nI u26), .int f27, .ref a28, .int (nI u29)])), (a0, .inl (κ 0, 21375, .inl w)), (a5, .inl (κ 0, 800, .inl tp)), (a14, .inl (κ 0, 189, .inl fd))] (fun _ => True) (fun u9 : Int32 × Nat × Int32 × Int32 × Int32 × (Nat → Int32) => some (.int u9.1)) (fun u9 : Int32 × Nat × Int32 × Int32 × Int32 × (Nat → Int32) => (u9.1 = 1 ∨ u9.1 = 0) ∧ u11 ≤ u9.2.1 ∧ u9.2.1 ≤ u6 ∧ PF u9.2.2.2.1 ∧ Pfd u9.2.2.2.2.2) (fun u9 : Int32 × Nat × Int32 × Int32 × Int32 × (Nat → Int32) => [(m0, .inr (12, [.ref a0, .ref a1, .ref a2, .int (nI u3), .int f4, .ref a5, .int (nI u6), .int u9.2.2.1, .int u9.2.2.2.1, .int u9.2.2.2.2.1, .int f10, .int (nI u9.2.1), .int (nI u12), .int (nI u13), .ref a14, .ref a15, .ref a16, .ref a17, .int f18, .int f19, .ref a20, .ref a21, .int (nI u22), .ref a23, .ref a24, .ref a25, .int (nI u26), .int f27, .ref a28, .int (nI u29)])), (a0, .inl (κ 0, 21375, .inl w)), (a5, .inl (κ 0, 800, .inl tp)), (a14, .inl (κ 0, 189, .inl u9.2.2.2.2.2))]) (fun _ _ => True) := by
  refine ct_of (by decide +kernel) (Nat.le_of_ble_eq_true rfl) ?_
  intro p e s m args below meth c A ls hx hb hr hml hts hown hlk hin hKK hK hA hP hD hS hI hl
  have hS : va_S A s.heap s.heap [] := hS
  have hFX : FX p s m args c cX12_quoted 3 RX12 := ⟨hx, hb, hml, hown, hts⟩
  have hl : lv_has ls 3 [(0, .ref m0), (1, .int (nI a))] := hl
  refine lv_aload_n hx hb dX12_quoted_0 rfl (lv_at hl 0 rfl) ?_
  refine lv_dup hx hb dX12_quoted_1 rfl ?_
  refine va_get (D := D) (ci := 12) (v := .int (nI u11)) (C := RX12) (T := TX12) (N := 30) hx hb hts inlX12 hown hK hP 0 rfl rfl 11 (by decide) (hts _ mw_423) (fun _ h9 => h9) rfl dX12_quoted_2 ?_
  refine lv_iconst (v := 1) hx hb dX12_quoted_5 (by decide) ?_
  refine lv_iadd hx hb dX12_quoted_6 ?_
  refine ki (v := (nI (u11 + 1))) (nI_add u11 1) ?_
  refine va_put (D := D) (ci := 12) (v := .int (nI (u11 + 1))) (ty := tyX12 11) (C := RX12) (T := TX12) (N := 30) hx hb hts inlX12 tyX12 tyX12_ok nmX12 hown hK hP hD hS 0 rfl rfl 11 (by decide) (hts _ mw_423) (fun _ h9 => h9) rfl (tyX12_ok 11 (by decide)) rfl rfl (Nat.le_of_ble_eq_true rfl) dX12_quoted_7 (fun H locs hP hD hS => ?_)
  have hP : va_P D vwCl [(m0, .inr (12, [.ref a0, .ref a1, .ref a2, .int (nI u3), .int f4, .ref a5, .int (nI u6), .int f7, .int f8, .int f9, .int f10, .int (nI (u11 + 1)), .int (nI u12), .int (nI u13), .ref a14, .ref a15, .ref a16, .ref a17, .int f18, .int f19, .ref a20, .ref a21, .int (nI u22), .ref a23, .ref a24, .ref a25, .int (nI u26), .int f27, .ref a28, .int (nI u29)])), (a0, .inl (κ 0, 21375, .inl w)), (a5, .inl (κ 0, 800, .inl tp)), (a14, .inl (κ 0, 189, .inl fd))] H := hP
  have hD : va_D A [(m0, .inr (12, [.ref a0, .ref a1, .ref a2, .int (nI u3), .int f4, .ref a5, .int (nI u6), .int f7, .int f8, .int f9, .int f10, .int (nI (u11 + 1)), .int (nI u12), .int (nI u13), .ref a14, .ref a15, .ref a16, .ref a17, .int f18, .int f19, .ref a20, .ref a21, .int (nI u22), .ref a23, .ref a24, .ref a25, .int (nI u26), .int f27, .ref a28, .int (nI u29)])), (a0, .inl (κ 0, 21375, .inl w)), (a5, .inl (κ 0, 800, .inl tp)), (a14, .inl (κ 0, 189, .inl fd))] := hD
  refine loop_dn (fun k9 H locs ls => ∃ (n : Nat), ∃ (g : Nat → Int32), (u11 ≤ n) ∧ (n ≤ u6) ∧ (Pfd g) ∧ u6 - n = k9 ∧ va_P D vwCl [(m0, .inr (12, [.ref a0, .ref a1, .ref a2, .int (nI u3), .int f4, .ref a5, .int (nI u6), .int f7, .int f8, .int f9, .int f10, .int (nI n), .int (nI u12), .int (nI u13), .ref a14, .ref a15, .ref a16, .ref a17, .int f18, .int f19, .ref a20, .ref a21, .int (nI u22), .ref a23, .ref a24, .ref a25, .int (nI u26), .int f27, .ref a28, .int (nI u29)])), (a0, .inl (κ 0, 21375, .inl w)), (a5, .inl (κ 0, 800, .inl tp)), (a14, .inl (κ 0, 189, .inl g))] H ∧ va_D A [(m0, .inr (12, [.ref a0, .ref a1, .ref a2, .int (nI u3), .int f4, .ref a5, .int (nI u6), .int f7, .int f8, .int f9, .int f10, .int (nI n), .int (nI u12), .int (nI u13), .ref a14, .ref a15, .ref a16, .ref a17, .int f18, .int f19, .ref a20, .ref a21, .int (nI u22), .ref a23, .ref a24, .ref a25, .int (nI u26), .int f27, .ref a28, .int (nI u29)])), (a0, .inl (κ 0, 21375, .inl w)), (a5, .inl (κ 0, 800, .inl tp)), (a14, .inl (κ 0, 189, .inl g))] ∧ va_S A s.heap H locs ∧ lv_has ls 3 [(0, .ref m0), (1, .int (nI a))]) (fun k9 H locs ls hI10 ih10 => ?_) (u6 - (u11 + 1)) _ _ _ ⟨(u11 + 1), fd, (by omega), (by omega), (by assumption), rfl, hP, hD, hS, lv_sub hl [0, 1] rfl⟩
  obtain ⟨n, g, hn0, hn1, hfd, hm10, hP, hD, hS, hl⟩ := hI10
  refine lv_aload_n hx hb dX12_quoted_10 rfl (lv_at hl 0 rfl) ?_
  refine va_get (D := D) (ci := 12) (v := .int (nI n)) (C := RX12) (T := TX12) (N := 30) hx hb hts inlX12 hown hK hP 0 rfl rfl 11 (by decide) (hts _ mw_423) (fun _ h9 => h9) rfl dX12_quoted_11 ?_
  refine lv_aload_n hx hb dX12_quoted_14 rfl (lv_at hl 0 rfl) ?_
  refine va_get (D := D) (ci := 12) (v := .int (nI u6)) (C := RX12) (T := TX12) (N := 30) hx hb hts inlX12 hown hK hP 0 rfl rfl 6 (by decide) (hts _ mw_236) (fun _ h9 => h9) rfl dX12_quoted_15 ?_
  refine lv_icmp_ge (tgt := 144) hx hb dX12_quoted_18 (by decide) (fun c_1 => ?_) (fun c_1 => ?_)
  · have nc_1 := cv_le (a := u6) (b := n) (by omega) (by omega) c_1
    refine lv_aload_n hx hb dX12_quoted_144 rfl (lv_at hl 0 rfl) ?_
    refine va_get (D := D) (ci := 12) (v := .int (nI n)) (C := RX12) (T := TX12) (N := 30) hx hb hts inlX12 hown hK hP 0 rfl rfl 11 (by decide) (hts _ mw_423) (fun _ h9 => h9) rfl dX12_quoted_145 ?_
    refine lv_aload_n hx hb dX12_quoted_148 rfl (lv_at hl 0 rfl) ?_
    refine va_get (D := D) (ci := 12) (v := .int (nI u6)) (C := RX12) (T := TX12) (N := 30) hx hb hts inlX12 hown hK hP 0 rfl rfl 6 (by decide) (hts _ mw_236) (fun _ h9 => h9) rfl dX12_quoted_149 ?_
    refine lv_icmp_ne (tgt := 166) hx hb dX12_quoted_152 (by decide) (fun c_2 => ?_) (fun c_2 => ?_)
    · have nc_2 := cv_ne (a := n) (b := u6) (by omega) (by omega) c_2
      refine lv_aload_n hx hb dX12_quoted_166 rfl (lv_at hl 0 rfl) ?_
      refine lv_dup hx hb dX12_quoted_167 rfl ?_
      refine va_get (D := D) (ci := 12) (v := .int (nI n)) (C := RX12) (T := TX12) (N := 30) hx hb hts inlX12 hown hK hP 0 rfl rfl 11 (by decide) (hts _ mw_423) (fun _ h9 => h9) rfl dX12_quoted_168 ?_
      refine lv_iconst (v := 1) hx hb dX12_quoted_171 (by decide) ?_
      refine lv_iadd hx hb dX12_quoted_172 ?_
      refine ki (v := (nI (n + 1))) (nI_add n 1) ?_
      refine va_put (D := D) (ci := 12) (v := .int (nI (n + 1))) (ty := tyX12 11) (C := RX12) (T := TX12) (N := 30) hx hb hts inlX12 tyX12 tyX12_ok nmX12 hown hK hP hD hS 0 rfl rfl 11 (by decide) (hts _ mw_423) (fun _ h9 => h9) rfl (tyX12_ok 11 (by decide)) rfl rfl (Nat.le_of_ble_eq_true rfl) dX12_quoted_173 (fun H locs hP hD hS => ?_)
      have hP : va_P D vwCl [(m0, .inr (12, [.ref a0, .ref a1, .ref a2, .int (nI u3), .int f4, .ref a5, .int (nI u6), .int f7, .int f8, .int f9, .int f10, .int (nI (n + 1)), .int (nI u12), .int (nI u13), .ref a14, .ref a15, .ref a16, .ref a17, .int f18, .int f19, .ref a20, .ref a21, .int (nI u22), .ref a23, .ref a24, .ref a25, .int (nI u26), .int f27, .ref a28, .int (nI u29)])), (a0, .inl (κ 0, 21375, .inl w)), (a5, .inl (κ 0, 800, .inl tp)), (a14, .inl (κ 0, 189, .inl g))] H := hP
      have hD : va_D A [(m0, .inr (12, [.ref a0, .ref a1, .ref a2, .int (nI u3), .int f4, .ref a5, .int (nI u6), .int f7, .int f8, .int f9, .int f10, .int (nI (n + 1)), .int (nI u12), .int (nI u13), .ref a14, .ref a15, .ref a16, .ref a17, .int f18, .int f19, .ref a20, .ref a21, .int (nI u22), .ref a23, .ref a24, .ref a25, .int (nI u26), .int f27, .ref a28, .int (nI u29)])), (a0, .inl (κ 0, 21375, .inl w)), (a5, .inl (κ 0, 800, .inl tp)), (a14, .inl (κ 0, 189, .inl g))] := hD
      refine lv_aload_n hx hb dX12_quoted_176 rfl (lv_at hl 0 rfl) ?_
      refine ct_V (wr := [(a14, .inl (κ 0, 189, .inl g))]) (As := []) (rest := []) hFX hKK hP hD hS hA (s_X12_blanks l D κ m0 a0 a1 a2 u3 f4 a5 u6 f7 f8 f9 f10 (n + 1) u12 u13 a14 a15 a16 a17 f18 f19 a20 a21 u22 a23 a24 a25 u26 f27 a28 u29 w tp (by omega) (by omega)) 0 gV_X12_217 hdV_X12_blanks ⟨Nat.le_of_ble_eq_true rfl, Nat.le_of_ble_eq_true rfl⟩ rfl rfl (Nat.le_of_ble_eq_true rfl) dX12_quoted_177 ⟨Nat.le_of_ble_eq_true rfl, Nat.le_of_ble_eq_true rfl⟩ hl.1 [0, 1, 2] [3] rfl rfl (by decide) (by decide) (by decide) 0 12 rfl rfl rfl trivial (fun n_3 H locs hp_4 _ hP hD hS hz_ hk_ => ?_)
      have hP : va_P D vwCl [(a14, .inl (κ 0, 189, .inl g)), (m0, .inr (12, [.ref a0, .ref a1, .ref a2, .int (nI u3), .int f4, .ref a5, .int (nI u6), .int f7, .int f8, .int f9, .int f10, .int (nI n_3), .int (nI u12), .int (nI u13), .ref a14, .ref a15, .ref a16, .ref a17, .int f18, .int f19, .ref a20, .ref a21, .int (nI u22), .ref a23, .ref a24, .ref a25, .int (nI u26), .int f27, .ref a28, .int (nI u29)])), (a0, .inl (κ 0, 21375, .inl w)), (a5, .inl (κ 0, 800, .inl tp))] H := hP
      have hD : va_D A [(a14, .inl (κ 0, 189, .inl g)), (m0, .inr (12, [.ref a0, .ref a1, .ref a2, .int (nI u3), .int f4, .ref a5, .int (nI u6), .int f7, .int f8, .int f9, .int f10, .int (nI n_3), .int (nI u12), .int (nI u13), .ref a14, .ref a15, .ref a16, .ref a17, .int f18, .int f19, .ref a20, .ref a21, .int (nI u22), .ref a23, .ref a24, .ref a25, .int (nI u26), .int f27, .ref a28, .int (nI u29)])), (a0, .inl (κ 0, 21375, .inl w)), (a5, .inl (κ 0, 800, .inl tp))] := hD
      have hp_4 : (n + 1) ≤ n_3 ∧ n_3 ≤ u6 := hp_4
      obtain ⟨hb1, hb2⟩ := hp_4
      refine W.eq (g2 := F0 m 180 ls []) rfl ?_
      refine lv_aload_n hx hb dX12_quoted_180 rfl (lv_at hl 0 rfl) ?_
      refine cr_V (As := []) (rest := []) hFX hKK (s_X12_isOver l D κ m0 a0 a1 a2 u3 f4 a5 u6 f7 f8 f9 f10 n_3 u12 u13 a14 a15 a16 a17 f18 f19 a20 a21 u22 a23 a24 a25 u26 f27 a28 u29 w tp (by omega) (by omega)) 0 gV_X12_220 hdV_X12_isOver rfl rfl ⟨Nat.le_of_ble_eq_true rfl, Nat.le_of_ble_eq_true rfl⟩ rfl rfl (Nat.le_of_ble_eq_true rfl) dX12_quoted_181 ⟨Nat.le_of_ble_eq_true rfl, Nat.le_of_ble_eq_true rfl⟩ hl.1 hP 1 12 rfl rfl rfl (hP.sub [1, 2, 3] rfl) (fun r_5 hp_6 => ?_)
      have hp_6 : (r_5 = 1) ∨ (r_5 = 0 ∧ n_3 < u6) := hp_6
      rcases hp_6 with rfl | ⟨rfl, a_7⟩
      · refine W.eq (g2 := F0 m 184 ls [.int 1]) rfl ?_
        refine lv_if_eq (tgt := 189) hx hb dX12_quoted_184 (by decide) (fun c_8 => absurd c_8 (by decide)) (fun c_8 => ?_)
        refine lv_iconst (v := 1) hx hb dX12_quoted_187 (by decide) ?_
        exact ct_iret hx hb hr hlk rfl hS hP hD (1, n_3, f7, f8, f9, g) rfl ⟨(by first | exact Or.inl rfl | exact Or.inr rfl), by omega, by omega, (by first | assumption | exact PF_n (by omega)), by assumption⟩ [1, 2, 3, 0] rfl (by decide) trivial (Nat.le_of_ble_eq_true rfl) (Nat.le_of_ble_eq_true rfl) dX12_quoted_188
      · refine W.eq (g2 := F0 m 184 ls [.int 0]) rfl ?_
        refine lv_if_eq (tgt := 189) hx hb dX12_quoted_184 (by decide) (fun c_9 => ?_) (fun c_9 => absurd (by decide) c_9)
        refine lv_aload_n hx hb dX12_quoted_189 rfl (lv_at hl 0 rfl) ?_
        refine lv_aload_n hx hb dX12_quoted_190 rfl (lv_at hl 0 rfl) ?_
        refine lv_aload_n hx hb dX12_quoted_191 rfl (lv_at hl 0 rfl) ?_
        refine va_get (D := D) (ci := 12) (v := .ref a5) (C := RX12) (T := TX12) (N := 30) hx hb hts inlX12 hown hK hP 1 rfl rfl 5 (by decide) (hts _ mw_191) (fun _ h9 => h9) rfl dX12_quoted_192 ?_
        refine lv_aload_n hx hb dX12_quoted_195 rfl (lv_at hl 0 rfl) ?_
        refine va_get (D := D) (ci := 12) (v := .int (nI n_3)) (C := RX12) (T := TX12) (N := 30) hx hb hts inlX12 hown hK hP 1 rfl rfl 11 (by decide) (hts _ mw_423) (fun _ h9 => h9) rfl dX12_quoted_196 ?_
        refine va_iald hx hb hK hP 3 0 rfl rfl (i := nI n_3) (vp_in_nI (n := n_3) (by omega) (by omega)) dX12_quoted_199 ?_
        refine kv (v := .int (tp n_3)) (by rw [nI_clamp (by omega)]) ?_
        refine lv_topi (fun x_10 ex_10 => ?_)
        refine lv_iconst (v := 0) hx hb dX12_quoted_200 (by decide) ?_
        refine cr_V (As := [.int x_10, .int 0]) (rest := [.ref m0]) hFX hKK (s_X12_canBe l D κ m0 a0 a1 a2 u3 f4 a5 u6 f7 f8 f9 f10 n_3 u12 u13 a14 a15 a16 a17 f18 f19 a20 a21 u22 a23 a24 a25 u26 f27 a28 u29 w x_10 0) 2 gV_X12_206 hdV_X12_canBe rfl rfl ⟨Nat.le_of_ble_eq_true rfl, Nat.le_of_ble_eq_true rfl⟩ rfl rfl (Nat.le_of_ble_eq_true rfl) dX12_quoted_201 ⟨Nat.le_of_ble_eq_true rfl, Nat.le_of_ble_eq_true rfl⟩ hl.1 hP 1 12 rfl rfl rfl (hP.sub [1, 2] rfl) (fun r_11 hp_12 => ?_)
        have hp_12 : (r_11 = 1) ∨ (r_11 = 0) := hp_12
        rcases hp_12 with rfl | rfl
        · refine W.eq (g2 := F0 m 204 ls [.int 1, .ref m0]) rfl ?_
          refine lv_if_eq (tgt := 211) hx hb dX12_quoted_204 (by decide) (fun c_13 => absurd c_13 (by decide)) (fun c_13 => ?_)
          refine lv_iconst (v := 3) hx hb dX12_quoted_207 (by decide) ?_
          refine lv_goto (tgt := 212) hx hb dX12_quoted_208 (by decide) ?_
          refine lv_aload_n hx hb dX12_quoted_212 rfl (lv_at hl 0 rfl) ?_
          refine va_get (D := D) (ci := 12) (v := .int (nI n_3)) (C := RX12) (T := TX12) (N := 30) hx hb hts inlX12 hown hK hP 1 rfl rfl 11 (by decide) (hts _ mw_423) (fun _ h9 => h9) rfl dX12_quoted_213 ?_
          refine lv_iload_n hx hb dX12_quoted_216 rfl (lv_at hl 1 rfl) ?_
          refine ct_V (wr := [(a14, .inl (κ 0, 189, .inl g)), (a0, .inl (κ 0, 21375, .inl w)), (a5, .inl (κ 0, 800, .inl tp))]) (As := [.int 3, .int (nI n_3), .int (nI a)]) (rest := []) hFX hKK hP hD hS hA (s_X12_wrong l D κ m0 a0 a1 a2 u3 f4 a5 u6 f7 f8 f9 f10 n_3 u12 u13 a14 a15 a16 a17 f18 f19 a20 a21 u22 a23 a24 a25 u26 f27 a28 u29 3 (nI n_3) (nI a)) 3 gV_X12_210 hdV_X12_wrong ⟨Nat.le_of_ble_eq_true rfl, Nat.le_of_ble_eq_true rfl⟩ rfl rfl (Nat.le_of_ble_eq_true rfl) dX12_quoted_217 ⟨Nat.le_of_ble_eq_true rfl, Nat.le_of_ble_eq_true rfl⟩ hl.1 [1] [0, 2, 3] rfl rfl (by decide) (by decide) (by decide) 1 12 rfl rfl rfl trivial (fun _ H locs hp_14 _ hP hD hS hz_ hk_ => ?_)
          have hP : va_P D vwCl [(a14, .inl (κ 0, 189, .inl g)), (a0, .inl (κ 0, 21375, .inl w)), (a5, .inl (κ 0, 800, .inl tp)), (m0, .inr (12, [.ref a0, .ref a1, .ref a2, .int (nI u3), .int f4, .ref a5, .int (nI u6), .int 3, .int (nI n_3), .int (nI a), .int f10, .int (nI n_3), .int (nI u12), .int (nI u13), .ref a14, .ref a15, .ref a16, .ref a17, .int f18, .int f19, .ref a20, .ref a21, .int (nI u22), .ref a23, .ref a24, .ref a25, .int (nI u26), .int f27, .ref a28, .int (nI u29)]))] H := hP
          have hD : va_D A [(a14, .inl (κ 0, 189, .inl g)), (a0, .inl (κ 0, 21375, .inl w)), (a5, .inl (κ 0, 800, .inl tp)), (m0, .inr (12, [.ref a0, .ref a1, .ref a2, .int (nI u3), .int f4, .ref a5, .int (nI u6), .int 3, .int (nI n_3), .int (nI a), .int f10, .int (nI n_3), .int (nI u12), .int (nI u13), .ref a14, .ref a15, .ref a16, .ref a17, .int f18, .int f19, .ref a20, .ref a21, .int (nI u22), .ref a23, .ref a24, .ref a25, .int (nI u26), .int f27, .ref a28, .int (nI u29)]))] := hD
          refine W.eq (g2 := F0 m 220 ls [.int 0]) rfl ?_
          exact ct_iret hx hb hr hlk rfl hS hP hD (0, n_3, 3, nI n_3, nI a, g) rfl ⟨(by first | exact Or.inl rfl | exact Or.inr rfl), by omega, by omega, (by first | assumption | exact PF_n (by omega)), by assumption⟩ [3, 1, 2, 0] rfl (by decide) trivial (Nat.le_of_ble_eq_true rfl) (Nat.le_of_ble_eq_true rfl) dX12_quoted_220
        · refine W.eq (g2 := F0 m 204 ls [.int 0, .ref m0]) rfl ?_
          refine lv_if_eq (tgt := 211) hx hb dX12_quoted_204 (by decide) (fun c_15 => ?_) (fun c_15 => absurd (by decide) c_15)
          refine lv_iconst (v := 1) hx hb dX12_quoted_211 (by decide) ?_
          refine lv_aload_n hx hb dX12_quoted_212 rfl (lv_at hl 0 rfl) ?_
          refine va_get (D := D) (ci := 12) (v := .int (nI n_3)) (C := RX12) (T := TX12) (N := 30) hx hb hts inlX12 hown hK hP 1 rfl rfl 11 (by decide) (hts _ mw_423) (fun _ h9 => h9) rfl dX12_quoted_213 ?_
          refine lv_iload_n hx hb dX12_quoted_216 rfl (lv_at hl 1 rfl) ?_
          refine ct_V (wr := [(a14, .inl (κ 0, 189, .inl g)), (a0, .inl (κ 0, 21375, .inl w)), (a5, .inl (κ 0, 800, .inl tp))]) (As := [.int 1, .int (nI n_3), .int (nI a)]) (rest := []) hFX hKK hP hD hS hA (s_X12_wrong l D κ m0 a0 a1 a2 u3 f4 a5 u6 f7 f8 f9 f10 n_3 u12 u13 a14 a15 a16 a17 f18 f19 a20 a21 u22 a23 a24 a25 u26 f27 a28 u29 1 (nI n_3) (nI a)) 3 gV_X12_210 hdV_X12_wrong ⟨Nat.le_of_ble_eq_true rfl, Nat.le_of_ble_eq_true rfl⟩ rfl rfl (Nat.le_of_ble_eq_true rfl) dX12_quoted_217 ⟨Nat.le_of_ble_eq_true rfl, Nat.le_of_ble_eq_true rfl⟩ hl.1 [1] [0, 2, 3] rfl rfl (by decide) (by decide) (by decide) 1 12 rfl rfl rfl trivial (fun _ H locs hp_16 _ hP hD hS hz_ hk_ => ?_)
          have hP : va_P D vwCl [(a14, .inl (κ 0, 189, .inl g)), (a0, .inl (κ 0, 21375, .inl w)), (a5, .inl (κ 0, 800, .inl tp)), (m0, .inr (12, [.ref a0, .ref a1, .ref a2, .int (nI u3), .int f4, .ref a5, .int (nI u6), .int 1, .int (nI n_3), .int (nI a), .int f10, .int (nI n_3), .int (nI u12), .int (nI u13), .ref a14, .ref a15, .ref a16, .ref a17, .int f18, .int f19, .ref a20, .ref a21, .int (nI u22), .ref a23, .ref a24, .ref a25, .int (nI u26), .int f27, .ref a28, .int (nI u29)]))] H := hP
          have hD : va_D A [(a14, .inl (κ 0, 189, .inl g)), (a0, .inl (κ 0, 21375, .inl w)), (a5, .inl (κ 0, 800, .inl tp)), (m0, .inr (12, [.ref a0, .ref a1, .ref a2, .int (nI u3), .int f4, .ref a5, .int (nI u6), .int 1, .int (nI n_3), .int (nI a), .int f10, .int (nI n_3), .int (nI u12), .int (nI u13), .ref a14, .ref a15, .ref a16, .ref a17, .int f18, .int f19, .ref a20, .ref a21, .int (nI u22), .ref a23, .ref a24, .ref a25, .int (nI u26), .int f27, .ref a28, .int (nI u29)]))] := hD
          refine W.eq (g2 := F0 m 220 ls [.int 0]) rfl ?_
          exact ct_iret hx hb hr hlk rfl hS hP hD (0, n_3, 1, nI n_3, nI a, g) rfl ⟨(by first | exact Or.inl rfl | exact Or.inr rfl), by omega, by omega, (by first | assumption | exact PF_n (by omega)), by assumption⟩ [3, 1, 2, 0] rfl (by decide) trivial (Nat.le_of_ble_eq_true rfl) (Nat.le_of_ble_eq_true rfl) dX12_quoted_220
    · have nc_2 := cv_eq (a := n) (b := u6) (by omega) (by omega) c_2
      refine lv_aload_n hx hb dX12_quoted_155 rfl (lv_at hl 0 rfl) ?_
      refine lv_iconst (v := 4) hx hb dX12_quoted_156 (by decide) ?_
      refine lv_aload_n hx hb dX12_quoted_157 rfl (lv_at hl 0 rfl) ?_
      refine va_get (D := D) (ci := 12) (v := .int (nI n)) (C := RX12) (T := TX12) (N := 30) hx hb hts inlX12 hown hK hP 0 rfl rfl 11 (by decide) (hts _ mw_423) (fun _ h9 => h9) rfl dX12_quoted_158 ?_
      refine lv_iload_n hx hb dX12_quoted_161 rfl (lv_at hl 1 rfl) ?_
      refine ct_V (wr := [(a0, .inl (κ 0, 21375, .inl w)), (a5, .inl (κ 0, 800, .inl tp)), (a14, .inl (κ 0, 189, .inl g))]) (As := [.int 4, .int (nI n), .int (nI a)]) (rest := []) hFX hKK hP hD hS hA (s_X12_wrong l D κ m0 a0 a1 a2 u3 f4 a5 u6 f7 f8 f9 f10 n u12 u13 a14 a15 a16 a17 f18 f19 a20 a21 u22 a23 a24 a25 u26 f27 a28 u29 4 (nI n) (nI a)) 3 gV_X12_210 hdV_X12_wrong ⟨Nat.le_of_ble_eq_true rfl, Nat.le_of_ble_eq_true rfl⟩ rfl rfl (Nat.le_of_ble_eq_true rfl) dX12_quoted_162 ⟨Nat.le_of_ble_eq_true rfl, Nat.le_of_ble_eq_true rfl⟩ hl.1 [0] [1, 2, 3] rfl rfl (by decide) (by decide) (by decide) 0 12 rfl rfl rfl trivial (fun _ H locs hp_17 _ hP hD hS hz_ hk_ => ?_)
      have hP : va_P D vwCl [(a0, .inl (κ 0, 21375, .inl w)), (a5, .inl (κ 0, 800, .inl tp)), (a14, .inl (κ 0, 189, .inl g)), (m0, .inr (12, [.ref a0, .ref a1, .ref a2, .int (nI u3), .int f4, .ref a5, .int (nI u6), .int 4, .int (nI n), .int (nI a), .int f10, .int (nI n), .int (nI u12), .int (nI u13), .ref a14, .ref a15, .ref a16, .ref a17, .int f18, .int f19, .ref a20, .ref a21, .int (nI u22), .ref a23, .ref a24, .ref a25, .int (nI u26), .int f27, .ref a28, .int (nI u29)]))] H := hP
      have hD : va_D A [(a0, .inl (κ 0, 21375, .inl w)), (a5, .inl (κ 0, 800, .inl tp)), (a14, .inl (κ 0, 189, .inl g)), (m0, .inr (12, [.ref a0, .ref a1, .ref a2, .int (nI u3), .int f4, .ref a5, .int (nI u6), .int 4, .int (nI n), .int (nI a), .int f10, .int (nI n), .int (nI u12), .int (nI u13), .ref a14, .ref a15, .ref a16, .ref a17, .int f18, .int f19, .ref a20, .ref a21, .int (nI u22), .ref a23, .ref a24, .ref a25, .int (nI u26), .int f27, .ref a28, .int (nI u29)]))] := hD
      refine W.eq (g2 := F0 m 165 ls [.int 0]) rfl ?_
      exact ct_iret hx hb hr hlk rfl hS hP hD (0, n, 4, nI n, nI a, g) rfl ⟨(by first | exact Or.inl rfl | exact Or.inr rfl), by omega, by omega, (by first | assumption | exact PF_n (by omega)), by assumption⟩ [3, 0, 1, 2] rfl (by decide) trivial (Nat.le_of_ble_eq_true rfl) (Nat.le_of_ble_eq_true rfl) dX12_quoted_165
  · have nc_1 := cv_nle (a := u6) (b := n) (by omega) (by omega) c_1
    refine lv_aload_n hx hb dX12_quoted_21 rfl (lv_at hl 0 rfl) ?_
    refine va_get (D := D) (ci := 12) (v := .ref a5) (C := RX12) (T := TX12) (N := 30) hx hb hts inlX12 hown hK hP 0 rfl rfl 5 (by decide) (hts _ mw_191) (fun _ h9 => h9) rfl dX12_quoted_22 ?_
    refine lv_aload_n hx hb dX12_quoted_25 rfl (lv_at hl 0 rfl) ?_
    refine va_get (D := D) (ci := 12) (v := .int (nI n)) (C := RX12) (T := TX12) (N := 30) hx hb hts inlX12 hown hK hP 0 rfl rfl 11 (by decide) (hts _ mw_423) (fun _ h9 => h9) rfl dX12_quoted_26 ?_
    refine va_iald hx hb hK hP 2 0 rfl rfl (i := nI n) (vp_in_nI (n := n) (by omega) (by omega)) dX12_quoted_29 ?_
    refine kv (v := .int (tp n)) (by rw [nI_clamp (by omega)]) ?_
    refine lv_topi (fun x_18 ex_18 => ?_)
    refine lv_istore_n (lv' := [(2, .int x_18), (0, .ref m0), (1, .int (nI a))]) hx hb dX12_quoted_30 rfl hl (by decide) rfl (fun ls hl => ?_)
    refine lv_iload_n hx hb dX12_quoted_31 rfl (lv_at hl 0 rfl) ?_
    refine lv_aload_n hx hb dX12_quoted_32 rfl (lv_at hl 1 rfl) ?_
    refine va_get (D := D) (ci := 12) (v := .ref a0) (C := RX12) (T := TX12) (N := 30) hx hb hts inlX12 hown hK hP 0 rfl rfl 0 (by decide) (hts _ mw_187) (fun _ h9 => h9) rfl dX12_quoted_33 ?_
    refine lv_sipush (v := 21370) hx hb dX12_quoted_36 (by decide) ?_
    refine va_iald hx hb hK hP 1 0 rfl rfl (i := 21370) (vp_k (by decide)) dX12_quoted_39 ?_
    refine lv_topi (fun x_19 ex_19 => ?_)
    refine lv_icmp_ne (tgt := 91) hx hb dX12_quoted_40 (by decide) (fun c_20 => ?_) (fun c_20 => ?_)
    · refine lv_aload_n hx hb dX12_quoted_91 rfl (lv_at hl 1 rfl) ?_
      refine lv_iload_n hx hb dX12_quoted_92 rfl (lv_at hl 0 rfl) ?_
      refine lv_iconst (v := 1) hx hb dX12_quoted_93 (by decide) ?_
      refine cr_V (As := [.int x_18, .int 1]) (rest := []) hFX hKK (s_X12_canBe l D κ m0 a0 a1 a2 u3 f4 a5 u6 f7 f8 f9 f10 n u12 u13 a14 a15 a16 a17 f18 f19 a20 a21 u22 a23 a24 a25 u26 f27 a28 u29 w x_18 1) 2 gV_X12_206 hdV_X12_canBe rfl rfl ⟨Nat.le_of_ble_eq_true rfl, Nat.le_of_ble_eq_true rfl⟩ rfl rfl (Nat.le_of_ble_eq_true rfl) dX12_quoted_94 ⟨Nat.le_of_ble_eq_true rfl, Nat.le_of_ble_eq_true rfl⟩ hl.1 hP 0 12 rfl rfl rfl (hP.sub [0, 1] rfl) (fun r_21 hp_22 => ?_)
      have hp_22 : (r_21 = 1) ∨ (r_21 = 0) := hp_22
      rcases hp_22 with rfl | rfl
      · refine W.eq (g2 := F0 m 97 ls [.int 1]) rfl ?_
        refine lv_if_ne (tgt := 111) hx hb dX12_quoted_97 (by decide) (fun c_23 => ?_) (fun c_23 => absurd c_23 (by decide))
        refine lv_aload_n hx hb dX12_quoted_111 rfl (lv_at hl 1 rfl) ?_
        refine lv_iload_n hx hb dX12_quoted_112 rfl (lv_at hl 2 rfl) ?_
        refine lv_iload_n hx hb dX12_quoted_113 rfl (lv_at hl 0 rfl) ?_
        refine ct_V (wr := [(a0, .inl (κ 0, 21375, .inl w)), (a5, .inl (κ 0, 800, .inl tp))]) (As := [.int (nI a), .int x_18]) (rest := []) hFX hKK hP hD hS hA (s_X12_adds l D κ m0 a0 a1 a2 u3 f4 a5 u6 f7 f8 f9 f10 n u12 u13 a14 a15 a16 a17 f18 f19 a20 a21 u22 a23 a24 a25 u26 f27 a28 u29 g a x_18 (by assumption) (by omega)) 2 gV_X12_214 hdV_X12_adds ⟨Nat.le_of_ble_eq_true rfl, Nat.le_of_ble_eq_true rfl⟩ rfl rfl (Nat.le_of_ble_eq_true rfl) dX12_quoted_114 ⟨Nat.le_of_ble_eq_true rfl, Nat.le_of_ble_eq_true rfl⟩ hl.1 [0, 3] [1, 2] rfl rfl (by decide) (by decide) (by decide) 0 12 rfl rfl rfl trivial (fun u_26 H locs hp_27 _ hP hD hS hz_ hk_ => ?_)
        obtain ⟨r_24, g_25⟩ := u_26
        have hP : va_P D vwCl [(a0, .inl (κ 0, 21375, .inl w)), (a5, .inl (κ 0, 800, .inl tp)), (m0, .inr (12, [.ref a0, .ref a1, .ref a2, .int (nI u3), .int f4, .ref a5, .int (nI u6), .int f7, .int f8, .int f9, .int f10, .int (nI n), .int (nI u12), .int (nI u13), .ref a14, .ref a15, .ref a16, .ref a17, .int f18, .int f19, .ref a20, .ref a21, .int (nI u22), .ref a23, .ref a24, .ref a25, .int (nI u26), .int f27, .ref a28, .int (nI u29)])), (a14, .inl (κ 0, 189, .inl g_25))] H := hP
        have hD : va_D A [(a0, .inl (κ 0, 21375, .inl w)), (a5, .inl (κ 0, 800, .inl tp)), (m0, .inr (12, [.ref a0, .ref a1, .ref a2, .int (nI u3), .int f4, .ref a5, .int (nI u6), .int f7, .int f8, .int f9, .int f10, .int (nI n), .int (nI u12), .int (nI u13), .ref a14, .ref a15, .ref a16, .ref a17, .int f18, .int f19, .ref a20, .ref a21, .int (nI u22), .ref a23, .ref a24, .ref a25, .int (nI u26), .int f27, .ref a28, .int (nI u29)])), (a14, .inl (κ 0, 189, .inl g_25))] := hD
        have hp_27 : (r_24 = 1 ∨ r_24 = 0) ∧ Pfd g_25 := hp_27
        obtain ⟨hbs, hfd⟩ := hp_27
        rcases hbs with rfl | rfl
        · refine W.eq (g2 := F0 m 117 ls [.int 1]) rfl ?_
          refine lv_if_ne (tgt := 131) hx hb dX12_quoted_117 (by decide) (fun c_28 => ?_) (fun c_28 => absurd c_28 (by decide))
          refine lv_aload_n hx hb dX12_quoted_131 rfl (lv_at hl 1 rfl) ?_
          refine lv_dup hx hb dX12_quoted_132 rfl ?_
          refine va_get (D := D) (ci := 12) (v := .int (nI n)) (C := RX12) (T := TX12) (N := 30) hx hb hts inlX12 hown hK hP 2 rfl rfl 11 (by decide) (hts _ mw_423) (fun _ h9 => h9) rfl dX12_quoted_133 ?_
          refine lv_iconst (v := 1) hx hb dX12_quoted_136 (by decide) ?_
          refine lv_iadd hx hb dX12_quoted_137 ?_
          refine ki (v := (nI (n + 1))) (nI_add n 1) ?_
          refine va_put (D := D) (ci := 12) (v := .int (nI (n + 1))) (ty := tyX12 11) (C := RX12) (T := TX12) (N := 30) hx hb hts inlX12 tyX12 tyX12_ok nmX12 hown hK hP hD hS 2 rfl rfl 11 (by decide) (hts _ mw_423) (fun _ h9 => h9) rfl (tyX12_ok 11 (by decide)) rfl rfl (Nat.le_of_ble_eq_true rfl) dX12_quoted_138 (fun H locs hP hD hS => ?_)
          have hP : va_P D vwCl [(a0, .inl (κ 0, 21375, .inl w)), (a5, .inl (κ 0, 800, .inl tp)), (m0, .inr (12, [.ref a0, .ref a1, .ref a2, .int (nI u3), .int f4, .ref a5, .int (nI u6), .int f7, .int f8, .int f9, .int f10, .int (nI (n + 1)), .int (nI u12), .int (nI u13), .ref a14, .ref a15, .ref a16, .ref a17, .int f18, .int f19, .ref a20, .ref a21, .int (nI u22), .ref a23, .ref a24, .ref a25, .int (nI u26), .int f27, .ref a28, .int (nI u29)])), (a14, .inl (κ 0, 189, .inl g_25))] H := hP
          have hD : va_D A [(a0, .inl (κ 0, 21375, .inl w)), (a5, .inl (κ 0, 800, .inl tp)), (m0, .inr (12, [.ref a0, .ref a1, .ref a2, .int (nI u3), .int f4, .ref a5, .int (nI u6), .int f7, .int f8, .int f9, .int f10, .int (nI (n + 1)), .int (nI u12), .int (nI u13), .ref a14, .ref a15, .ref a16, .ref a17, .int f18, .int f19, .ref a20, .ref a21, .int (nI u22), .ref a23, .ref a24, .ref a25, .int (nI u26), .int f27, .ref a28, .int (nI u29)])), (a14, .inl (κ 0, 189, .inl g_25))] := hD
          refine lv_goto (tgt := 10) hx hb dX12_quoted_141 (by decide) ?_
          exact ih10 _ _ _ _ (by omega) ⟨(n + 1), g_25, (by omega), (by omega), (by assumption), rfl, hP, hD, hS, lv_sub hl [1, 2] rfl⟩
        · refine W.eq (g2 := F0 m 117 ls [.int 0]) rfl ?_
          refine lv_if_ne (tgt := 131) hx hb dX12_quoted_117 (by decide) (fun c_29 => absurd (by decide) c_29) (fun c_29 => ?_)
          refine lv_aload_n hx hb dX12_quoted_120 rfl (lv_at hl 1 rfl) ?_
          refine lv_iconst (v := 5) hx hb dX12_quoted_121 (by decide) ?_
          refine lv_aload_n hx hb dX12_quoted_122 rfl (lv_at hl 1 rfl) ?_
          refine va_get (D := D) (ci := 12) (v := .int (nI n)) (C := RX12) (T := TX12) (N := 30) hx hb hts inlX12 hown hK hP 2 rfl rfl 11 (by decide) (hts _ mw_423) (fun _ h9 => h9) rfl dX12_quoted_123 ?_
          refine lv_iload_n hx hb dX12_quoted_126 rfl (lv_at hl 2 rfl) ?_
          refine ct_V (wr := [(a0, .inl (κ 0, 21375, .inl w)), (a5, .inl (κ 0, 800, .inl tp)), (a14, .inl (κ 0, 189, .inl g_25))]) (As := [.int 5, .int (nI n), .int (nI a)]) (rest := []) hFX hKK hP hD hS hA (s_X12_wrong l D κ m0 a0 a1 a2 u3 f4 a5 u6 f7 f8 f9 f10 n u12 u13 a14 a15 a16 a17 f18 f19 a20 a21 u22 a23 a24 a25 u26 f27 a28 u29 5 (nI n) (nI a)) 3 gV_X12_210 hdV_X12_wrong ⟨Nat.le_of_ble_eq_true rfl, Nat.le_of_ble_eq_true rfl⟩ rfl rfl (Nat.le_of_ble_eq_true rfl) dX12_quoted_127 ⟨Nat.le_of_ble_eq_true rfl, Nat.le_of_ble_eq_true rfl⟩ hl.1 [2] [0, 1, 3] rfl rfl (by decide) (by decide) (by decide) 2 12 rfl rfl rfl trivial (fun _ H locs hp_30 _ hP hD hS hz_ hk_ => ?_)
          have hP : va_P D vwCl [(a0, .inl (κ 0, 21375, .inl w)), (a5, .inl (κ 0, 800, .inl tp)), (a14, .inl (κ 0, 189, .inl g_25)), (m0, .inr (12, [.ref a0, .ref a1, .ref a2, .int (nI u3), .int f4, .ref a5, .int (nI u6), .int 5, .int (nI n), .int (nI a), .int f10, .int (nI n), .int (nI u12), .int (nI u13), .ref a14, .ref a15, .ref a16, .ref a17, .int f18, .int f19, .ref a20, .ref a21, .int (nI u22), .ref a23, .ref a24, .ref a25, .int (nI u26), .int f27, .ref a28, .int (nI u29)]))] H := hP
          have hD : va_D A [(a0, .inl (κ 0, 21375, .inl w)), (a5, .inl (κ 0, 800, .inl tp)), (a14, .inl (κ 0, 189, .inl g_25)), (m0, .inr (12, [.ref a0, .ref a1, .ref a2, .int (nI u3), .int f4, .ref a5, .int (nI u6), .int 5, .int (nI n), .int (nI a), .int f10, .int (nI n), .int (nI u12), .int (nI u13), .ref a14, .ref a15, .ref a16, .ref a17, .int f18, .int f19, .ref a20, .ref a21, .int (nI u22), .ref a23, .ref a24, .ref a25, .int (nI u26), .int f27, .ref a28, .int (nI u29)]))] := hD
          refine W.eq (g2 := F0 m 130 ls [.int 0]) rfl ?_
          exact ct_iret hx hb hr hlk rfl hS hP hD (0, n, 5, nI n, nI a, g_25) rfl ⟨(by first | exact Or.inl rfl | exact Or.inr rfl), by omega, by omega, (by first | assumption | exact PF_n (by omega)), by assumption⟩ [3, 0, 1, 2] rfl (by decide) trivial (Nat.le_of_ble_eq_true rfl) (Nat.le_of_ble_eq_true rfl) dX12_quoted_130
      · refine W.eq (g2 := F0 m 97 ls [.int 0]) rfl ?_
        refine lv_if_ne (tgt := 111) hx hb dX12_quoted_97 (by decide) (fun c_31 => absurd (by decide) c_31) (fun c_31 => ?_)
        refine lv_aload_n hx hb dX12_quoted_100 rfl (lv_at hl 1 rfl) ?_
        refine lv_iconst (v := 1) hx hb dX12_quoted_101 (by decide) ?_
        refine lv_aload_n hx hb dX12_quoted_102 rfl (lv_at hl 1 rfl) ?_
        refine va_get (D := D) (ci := 12) (v := .int (nI n)) (C := RX12) (T := TX12) (N := 30) hx hb hts inlX12 hown hK hP 0 rfl rfl 11 (by decide) (hts _ mw_423) (fun _ h9 => h9) rfl dX12_quoted_103 ?_
        refine lv_iload_n hx hb dX12_quoted_106 rfl (lv_at hl 2 rfl) ?_
        refine ct_V (wr := [(a0, .inl (κ 0, 21375, .inl w)), (a5, .inl (κ 0, 800, .inl tp)), (a14, .inl (κ 0, 189, .inl g))]) (As := [.int 1, .int (nI n), .int (nI a)]) (rest := []) hFX hKK hP hD hS hA (s_X12_wrong l D κ m0 a0 a1 a2 u3 f4 a5 u6 f7 f8 f9 f10 n u12 u13 a14 a15 a16 a17 f18 f19 a20 a21 u22 a23 a24 a25 u26 f27 a28 u29 1 (nI n) (nI a)) 3 gV_X12_210 hdV_X12_wrong ⟨Nat.le_of_ble_eq_true rfl, Nat.le_of_ble_eq_true rfl⟩ rfl rfl (Nat.le_of_ble_eq_true rfl) dX12_quoted_107 ⟨Nat.le_of_ble_eq_true rfl, Nat.le_of_ble_eq_true rfl⟩ hl.1 [0] [1, 2, 3] rfl rfl (by decide) (by decide) (by decide) 0 12 rfl rfl rfl trivial (fun _ H locs hp_32 _ hP hD hS hz_ hk_ => ?_)
        have hP : va_P D vwCl [(a0, .inl (κ 0, 21375, .inl w)), (a5, .inl (κ 0, 800, .inl tp)), (a14, .inl (κ 0, 189, .inl g)), (m0, .inr (12, [.ref a0, .ref a1, .ref a2, .int (nI u3), .int f4, .ref a5, .int (nI u6), .int 1, .int (nI n), .int (nI a), .int f10, .int (nI n), .int (nI u12), .int (nI u13), .ref a14, .ref a15, .ref a16, .ref a17, .int f18, .int f19, .ref a20, .ref a21, .int (nI u22), .ref a23, .ref a24, .ref a25, .int (nI u26), .int f27, .ref a28, .int (nI u29)]))] H := hP
        have hD : va_D A [(a0, .inl (κ 0, 21375, .inl w)), (a5, .inl (κ 0, 800, .inl tp)), (a14, .inl (κ 0, 189, .inl g)), (m0, .inr (12, [.ref a0, .ref a1, .ref a2, .int (nI u3), .int f4, .ref a5, .int (nI u6), .int 1, .int (nI n), .int (nI a), .int f10, .int (nI n), .int (nI u12), .int (nI u13), .ref a14, .ref a15, .ref a16, .ref a17, .int f18, .int f19, .ref a20, .ref a21, .int (nI u22), .ref a23, .ref a24, .ref a25, .int (nI u26), .int f27, .ref a28, .int (nI u29)]))] := hD
        refine W.eq (g2 := F0 m 110 ls [.int 0]) rfl ?_
        exact ct_iret hx hb hr hlk rfl hS hP hD (0, n, 1, nI n, nI a, g) rfl ⟨(by first | exact Or.inl rfl | exact Or.inr rfl), by omega, by omega, (by first | assumption | exact PF_n (by omega)), by assumption⟩ [3, 0, 1, 2] rfl (by decide) trivial (Nat.le_of_ble_eq_true rfl) (Nat.le_of_ble_eq_true rfl) dX12_quoted_110
    · refine lv_aload_n hx hb dX12_quoted_43 rfl (lv_at hl 1 rfl) ?_
      refine va_get (D := D) (ci := 12) (v := .int (nI n)) (C := RX12) (T := TX12) (N := 30) hx hb hts inlX12 hown hK hP 0 rfl rfl 11 (by decide) (hts _ mw_423) (fun _ h9 => h9) rfl dX12_quoted_44 ?_
      refine lv_iconst (v := 1) hx hb dX12_quoted_47 (by decide) ?_
      refine lv_iadd hx hb dX12_quoted_48 ?_
      refine ki (v := (nI (n + 1))) (nI_add n 1) ?_
      refine lv_aload_n hx hb dX12_quoted_49 rfl (lv_at hl 1 rfl) ?_
      refine va_get (D := D) (ci := 12) (v := .int (nI u6)) (C := RX12) (T := TX12) (N := 30) hx hb hts inlX12 hown hK hP 0 rfl rfl 6 (by decide) (hts _ mw_236) (fun _ h9 => h9) rfl dX12_quoted_50 ?_
      refine lv_icmp_eq (tgt := 144) hx hb dX12_quoted_53 (by decide) (fun c_33 => ?_) (fun c_33 => ?_)
      · have nc_33 := cv_eq (a := (n + 1)) (b := u6) (by omega) (by omega) c_33
        refine lv_aload_n hx hb dX12_quoted_144 rfl (lv_at hl 1 rfl) ?_
        refine va_get (D := D) (ci := 12) (v := .int (nI n)) (C := RX12) (T := TX12) (N := 30) hx hb hts inlX12 hown hK hP 0 rfl rfl 11 (by decide) (hts _ mw_423) (fun _ h9 => h9) rfl dX12_quoted_145 ?_
        refine lv_aload_n hx hb dX12_quoted_148 rfl (lv_at hl 1 rfl) ?_
        refine va_get (D := D) (ci := 12) (v := .int (nI u6)) (C := RX12) (T := TX12) (N := 30) hx hb hts inlX12 hown hK hP 0 rfl rfl 6 (by decide) (hts _ mw_236) (fun _ h9 => h9) rfl dX12_quoted_149 ?_
        refine lv_icmp_ne (tgt := 166) hx hb dX12_quoted_152 (by decide) (fun c_34 => ?_) (fun c_34 => ?_)
        · have nc_34 := cv_ne (a := n) (b := u6) (by omega) (by omega) c_34
          refine lv_aload_n hx hb dX12_quoted_166 rfl (lv_at hl 1 rfl) ?_
          refine lv_dup hx hb dX12_quoted_167 rfl ?_
          refine va_get (D := D) (ci := 12) (v := .int (nI n)) (C := RX12) (T := TX12) (N := 30) hx hb hts inlX12 hown hK hP 0 rfl rfl 11 (by decide) (hts _ mw_423) (fun _ h9 => h9) rfl dX12_quoted_168 ?_
          refine lv_iconst (v := 1) hx hb dX12_quoted_171 (by decide) ?_
          refine lv_iadd hx hb dX12_quoted_172 ?_
          refine ki (v := (nI (n + 1))) (nI_add n 1) ?_
          refine va_put (D := D) (ci := 12) (v := .int (nI (n + 1))) (ty := tyX12 11) (C := RX12) (T := TX12) (N := 30) hx hb hts inlX12 tyX12 tyX12_ok nmX12 hown hK hP hD hS 0 rfl rfl 11 (by decide) (hts _ mw_423) (fun _ h9 => h9) rfl (tyX12_ok 11 (by decide)) rfl rfl (Nat.le_of_ble_eq_true rfl) dX12_quoted_173 (fun H locs hP hD hS => ?_)
          have hP : va_P D vwCl [(m0, .inr (12, [.ref a0, .ref a1, .ref a2, .int (nI u3), .int f4, .ref a5, .int (nI u6), .int f7, .int f8, .int f9, .int f10, .int (nI (n + 1)), .int (nI u12), .int (nI u13), .ref a14, .ref a15, .ref a16, .ref a17, .int f18, .int f19, .ref a20, .ref a21, .int (nI u22), .ref a23, .ref a24, .ref a25, .int (nI u26), .int f27, .ref a28, .int (nI u29)])), (a0, .inl (κ 0, 21375, .inl w)), (a5, .inl (κ 0, 800, .inl tp)), (a14, .inl (κ 0, 189, .inl g))] H := hP
          have hD : va_D A [(m0, .inr (12, [.ref a0, .ref a1, .ref a2, .int (nI u3), .int f4, .ref a5, .int (nI u6), .int f7, .int f8, .int f9, .int f10, .int (nI (n + 1)), .int (nI u12), .int (nI u13), .ref a14, .ref a15, .ref a16, .ref a17, .int f18, .int f19, .ref a20, .ref a21, .int (nI u22), .ref a23, .ref a24, .ref a25, .int (nI u26), .int f27, .ref a28, .int (nI u29)])), (a0, .inl (κ 0, 21375, .inl w)), (a5, .inl (κ 0, 800, .inl tp)), (a14, .inl (κ 0, 189, .inl g))] := hD
          refine lv_aload_n hx hb dX12_quoted_176 rfl (lv_at hl 1 rfl) ?_
          refine ct_V (wr := [(a14, .inl (κ 0, 189, .inl g))]) (As := []) (rest := []) hFX hKK hP hD hS hA (s_X12_blanks l D κ m0 a0 a1 a2 u3 f4 a5 u6 f7 f8 f9 f10 (n + 1) u12 u13 a14 a15 a16 a17 f18 f19 a20 a21 u22 a23 a24 a25 u26 f27 a28 u29 w tp (by omega) (by omega)) 0 gV_X12_217 hdV_X12_blanks ⟨Nat.le_of_ble_eq_true rfl, Nat.le_of_ble_eq_true rfl⟩ rfl rfl (Nat.le_of_ble_eq_true rfl) dX12_quoted_177 ⟨Nat.le_of_ble_eq_true rfl, Nat.le_of_ble_eq_true rfl⟩ hl.1 [0, 1, 2] [3] rfl rfl (by decide) (by decide) (by decide) 0 12 rfl rfl rfl trivial (fun n_35 H locs hp_36 _ hP hD hS hz_ hk_ => ?_)
          have hP : va_P D vwCl [(a14, .inl (κ 0, 189, .inl g)), (m0, .inr (12, [.ref a0, .ref a1, .ref a2, .int (nI u3), .int f4, .ref a5, .int (nI u6), .int f7, .int f8, .int f9, .int f10, .int (nI n_35), .int (nI u12), .int (nI u13), .ref a14, .ref a15, .ref a16, .ref a17, .int f18, .int f19, .ref a20, .ref a21, .int (nI u22), .ref a23, .ref a24, .ref a25, .int (nI u26), .int f27, .ref a28, .int (nI u29)])), (a0, .inl (κ 0, 21375, .inl w)), (a5, .inl (κ 0, 800, .inl tp))] H := hP
          have hD : va_D A [(a14, .inl (κ 0, 189, .inl g)), (m0, .inr (12, [.ref a0, .ref a1, .ref a2, .int (nI u3), .int f4, .ref a5, .int (nI u6), .int f7, .int f8, .int f9, .int f10, .int (nI n_35), .int (nI u12), .int (nI u13), .ref a14, .ref a15, .ref a16, .ref a17, .int f18, .int f19, .ref a20, .ref a21, .int (nI u22), .ref a23, .ref a24, .ref a25, .int (nI u26), .int f27, .ref a28, .int (nI u29)])), (a0, .inl (κ 0, 21375, .inl w)), (a5, .inl (κ 0, 800, .inl tp))] := hD
          have hp_36 : (n + 1) ≤ n_35 ∧ n_35 ≤ u6 := hp_36
          obtain ⟨hb1, hb2⟩ := hp_36
          refine W.eq (g2 := F0 m 180 ls []) rfl ?_
          refine lv_aload_n hx hb dX12_quoted_180 rfl (lv_at hl 1 rfl) ?_
          refine cr_V (As := []) (rest := []) hFX hKK (s_X12_isOver l D κ m0 a0 a1 a2 u3 f4 a5 u6 f7 f8 f9 f10 n_35 u12 u13 a14 a15 a16 a17 f18 f19 a20 a21 u22 a23 a24 a25 u26 f27 a28 u29 w tp (by omega) (by omega)) 0 gV_X12_220 hdV_X12_isOver rfl rfl ⟨Nat.le_of_ble_eq_true rfl, Nat.le_of_ble_eq_true rfl⟩ rfl rfl (Nat.le_of_ble_eq_true rfl) dX12_quoted_181 ⟨Nat.le_of_ble_eq_true rfl, Nat.le_of_ble_eq_true rfl⟩ hl.1 hP 1 12 rfl rfl rfl (hP.sub [1, 2, 3] rfl) (fun r_37 hp_38 => ?_)
          have hp_38 : (r_37 = 1) ∨ (r_37 = 0 ∧ n_35 < u6) := hp_38
          rcases hp_38 with rfl | ⟨rfl, a_39⟩
          · refine W.eq (g2 := F0 m 184 ls [.int 1]) rfl ?_
            refine lv_if_eq (tgt := 189) hx hb dX12_quoted_184 (by decide) (fun c_40 => absurd c_40 (by decide)) (fun c_40 => ?_)
            refine lv_iconst (v := 1) hx hb dX12_quoted_187 (by decide) ?_
            exact ct_iret hx hb hr hlk rfl hS hP hD (1, n_35, f7, f8, f9, g) rfl ⟨(by first | exact Or.inl rfl | exact Or.inr rfl), by omega, by omega, (by first | assumption | exact PF_n (by omega)), by assumption⟩ [1, 2, 3, 0] rfl (by decide) trivial (Nat.le_of_ble_eq_true rfl) (Nat.le_of_ble_eq_true rfl) dX12_quoted_188
          · refine W.eq (g2 := F0 m 184 ls [.int 0]) rfl ?_
            refine lv_if_eq (tgt := 189) hx hb dX12_quoted_184 (by decide) (fun c_41 => ?_) (fun c_41 => absurd (by decide) c_41)
            refine lv_aload_n hx hb dX12_quoted_189 rfl (lv_at hl 1 rfl) ?_
            refine lv_aload_n hx hb dX12_quoted_190 rfl (lv_at hl 1 rfl) ?_
            refine lv_aload_n hx hb dX12_quoted_191 rfl (lv_at hl 1 rfl) ?_
            refine va_get (D := D) (ci := 12) (v := .ref a5) (C := RX12) (T := TX12) (N := 30) hx hb hts inlX12 hown hK hP 1 rfl rfl 5 (by decide) (hts _ mw_191) (fun _ h9 => h9) rfl dX12_quoted_192 ?_
            refine lv_aload_n hx hb dX12_quoted_195 rfl (lv_at hl 1 rfl) ?_
            refine va_get (D := D) (ci := 12) (v := .int (nI n_35)) (C := RX12) (T := TX12) (N := 30) hx hb hts inlX12 hown hK hP 1 rfl rfl 11 (by decide) (hts _ mw_423) (fun _ h9 => h9) rfl dX12_quoted_196 ?_
            refine va_iald hx hb hK hP 3 0 rfl rfl (i := nI n_35) (vp_in_nI (n := n_35) (by omega) (by omega)) dX12_quoted_199 ?_
            refine kv (v := .int (tp n_35)) (by rw [nI_clamp (by omega)]) ?_
            refine lv_topi (fun x_42 ex_42 => ?_)
            refine lv_iconst (v := 0) hx hb dX12_quoted_200 (by decide) ?_
            refine cr_V (As := [.int x_42, .int 0]) (rest := [.ref m0]) hFX hKK (s_X12_canBe l D κ m0 a0 a1 a2 u3 f4 a5 u6 f7 f8 f9 f10 n_35 u12 u13 a14 a15 a16 a17 f18 f19 a20 a21 u22 a23 a24 a25 u26 f27 a28 u29 w x_42 0) 2 gV_X12_206 hdV_X12_canBe rfl rfl ⟨Nat.le_of_ble_eq_true rfl, Nat.le_of_ble_eq_true rfl⟩ rfl rfl (Nat.le_of_ble_eq_true rfl) dX12_quoted_201 ⟨Nat.le_of_ble_eq_true rfl, Nat.le_of_ble_eq_true rfl⟩ hl.1 hP 1 12 rfl rfl rfl (hP.sub [1, 2] rfl) (fun r_43 hp_44 => ?_)
            have hp_44 : (r_43 = 1) ∨ (r_43 = 0) := hp_44
            rcases hp_44 with rfl | rfl
            · refine W.eq (g2 := F0 m 204 ls [.int 1, .ref m0]) rfl ?_
              refine lv_if_eq (tgt := 211) hx hb dX12_quoted_204 (by decide) (fun c_45 => absurd c_45 (by decide)) (fun c_45 => ?_)
              refine lv_iconst (v := 3) hx hb dX12_quoted_207 (by decide) ?_
              refine lv_goto (tgt := 212) hx hb dX12_quoted_208 (by decide) ?_
              refine lv_aload_n hx hb dX12_quoted_212 rfl (lv_at hl 1 rfl) ?_
              refine va_get (D := D) (ci := 12) (v := .int (nI n_35)) (C := RX12) (T := TX12) (N := 30) hx hb hts inlX12 hown hK hP 1 rfl rfl 11 (by decide) (hts _ mw_423) (fun _ h9 => h9) rfl dX12_quoted_213 ?_
              refine lv_iload_n hx hb dX12_quoted_216 rfl (lv_at hl 2 rfl) ?_
              refine ct_V (wr := [(a14, .inl (κ 0, 189, .inl g)), (a0, .inl (κ 0, 21375, .inl w)), (a5, .inl (κ 0, 800, .inl tp))]) (As := [.int 3, .int (nI n_35), .int (nI a)]) (rest := []) hFX hKK hP hD hS hA (s_X12_wrong l D κ m0 a0 a1 a2 u3 f4 a5 u6 f7 f8 f9 f10 n_35 u12 u13 a14 a15 a16 a17 f18 f19 a20 a21 u22 a23 a24 a25 u26 f27 a28 u29 3 (nI n_35) (nI a)) 3 gV_X12_210 hdV_X12_wrong ⟨Nat.le_of_ble_eq_true rfl, Nat.le_of_ble_eq_true rfl⟩ rfl rfl (Nat.le_of_ble_eq_true rfl) dX12_quoted_217 ⟨Nat.le_of_ble_eq_true rfl, Nat.le_of_ble_eq_true rfl⟩ hl.1 [1] [0, 2, 3] rfl rfl (by decide) (by decide) (by decide) 1 12 rfl rfl rfl trivial (fun _ H locs hp_46 _ hP hD hS hz_ hk_ => ?_)
              have hP : va_P D vwCl [(a14, .inl (κ 0, 189, .inl g)), (a0, .inl (κ 0, 21375, .inl w)), (a5, .inl (κ 0, 800, .inl tp)), (m0, .inr (12, [.ref a0, .ref a1, .ref a2, .int (nI u3), .int f4, .ref a5, .int (nI u6), .int 3, .int (nI n_35), .int (nI a), .int f10, .int (nI n_35), .int (nI u12), .int (nI u13), .ref a14, .ref a15, .ref a16, .ref a17, .int f18, .int f19, .ref a20, .ref a21, .int (nI u22), .ref a23, .ref a24, .ref a25, .int (nI u26), .int f27, .ref a28, .int (nI u29)]))] H := hP
              have hD : va_D A [(a14, .inl (κ 0, 189, .inl g)), (a0, .inl (κ 0, 21375, .inl w)), (a5, .inl (κ 0, 800, .inl tp)), (m0, .inr (12, [.ref a0, .ref a1, .ref a2, .int (nI u3), .int f4, .ref a5, .int (nI u6), .int 3, .int (nI n_35), .int (nI a), .int f10, .int (nI n_35), .int (nI u12), .int (nI u13), .ref a14, .ref a15, .ref a16, .ref a17, .int f18, .int f19, .ref a20, .ref a21, .int (nI u22), .ref a23, .ref a24, .ref a25, .int (nI u26), .int f27, .ref a28, .int (nI u29)]))] := hD
              refine W.eq (g2 := F0 m 220 ls [.int 0]) rfl ?_
              exact ct_iret hx hb hr hlk rfl hS hP hD (0, n_35, 3, nI n_35, nI a, g) rfl ⟨(by first | exact Or.inl rfl | exact Or.inr rfl), by omega, by omega, (by first | assumption | exact PF_n (by omega)), by assumption⟩ [3, 1, 2, 0] rfl (by decide) trivial (Nat.le_of_ble_eq_true rfl) (Nat.le_of_ble_eq_true rfl) dX12_quoted_220
            · refine W.eq (g2 := F0 m 204 ls [.int 0, .ref m0]) rfl ?_
              refine lv_if_eq (tgt := 211) hx hb dX12_quoted_204 (by decide) (fun c_47 => ?_) (fun c_47 => absurd (by decide) c_47)
              refine lv_iconst (v := 1) hx hb dX12_quoted_211 (by decide) ?_
              refine lv_aload_n hx hb dX12_quoted_212 rfl (lv_at hl 1 rfl) ?_
              refine va_get (D := D) (ci := 12) (v := .int (nI n_35)) (C := RX12) (T := TX12) (N := 30) hx hb hts inlX12 hown hK hP 1 rfl rfl 11 (by decide) (hts _ mw_423) (fun _ h9 => h9) rfl dX12_quoted_213 ?_
              refine lv_iload_n hx hb dX12_quoted_216 rfl (lv_at hl 2 rfl) ?_
              refine ct_V (wr := [(a14, .inl (κ 0, 189, .inl g)), (a0, .inl (κ 0, 21375, .inl w)), (a5, .inl (κ 0, 800, .inl tp))]) (As := [.int 1, .int (nI n_35), .int (nI a)]) (rest := []) hFX hKK hP hD hS hA (s_X12_wrong l D κ m0 a0 a1 a2 u3 f4 a5 u6 f7 f8 f9 f10 n_35 u12 u13 a14 a15 a16 a17 f18 f19 a20 a21 u22 a23 a24 a25 u26 f27 a28 u29 1 (nI n_35) (nI a)) 3 gV_X12_210 hdV_X12_wrong ⟨Nat.le_of_ble_eq_true rfl, Nat.le_of_ble_eq_true rfl⟩ rfl rfl (Nat.le_of_ble_eq_true rfl) dX12_quoted_217 ⟨Nat.le_of_ble_eq_true rfl, Nat.le_of_ble_eq_true rfl⟩ hl.1 [1] [0, 2, 3] rfl rfl (by decide) (by decide) (by decide) 1 12 rfl rfl rfl trivial (fun _ H locs hp_48 _ hP hD hS hz_ hk_ => ?_)
              have hP : va_P D vwCl [(a14, .inl (κ 0, 189, .inl g)), (a0, .inl (κ 0, 21375, .inl w)), (a5, .inl (κ 0, 800, .inl tp)), (m0, .inr (12, [.ref a0, .ref a1, .ref a2, .int (nI u3), .int f4, .ref a5, .int (nI u6), .int 1, .int (nI n_35), .int (nI a), .int f10, .int (nI n_35), .int (nI u12), .int (nI u13), .ref a14, .ref a15, .ref a16, .ref a17, .int f18, .int f19, .ref a20, .ref a21, .int (nI u22), .ref a23, .ref a24, .ref a25, .int (nI u26), .int f27, .ref a28, .int (nI u29)]))] H := hP
              have hD : va_D A [(a14, .inl (κ 0, 189, .inl g)), (a0, .inl (κ 0, 21375, .inl w)), (a5, .inl (κ 0, 800, .inl tp)), (m0, .inr (12, [.ref a0, .ref a1, .ref a2, .int (nI u3), .int f4, .ref a5, .int (nI u6), .int 1, .int (nI n_35), .int (nI a), .int f10, .int (nI n_35), .int (nI u12), .int (nI u13), .ref a14, .ref a15, .ref a16, .ref a17, .int f18, .int f19, .ref a20, .ref a21, .int (nI u22), .ref a23, .ref a24, .ref a25, .int (nI u26), .int f27, .ref a28, .int (nI u29)]))] := hD
              refine W.eq (g2 := F0 m 220 ls [.int 0]) rfl ?_
              exact ct_iret hx hb hr hlk rfl hS hP hD (0, n_35, 1, nI n_35, nI a, g) rfl ⟨(by first | exact Or.inl rfl | exact Or.inr rfl), by omega, by omega, (by first | assumption | exact PF_n (by omega)), by assumption⟩ [3, 1, 2, 0] rfl (by decide) trivial (Nat.le_of_ble_eq_true rfl) (Nat.le_of_ble_eq_true rfl) dX12_quoted_220
        · have nc_34 := cv_eq (a := n) (b := u6) (by omega) (by omega) c_34
          refine lv_aload_n hx hb dX12_quoted_155 rfl (lv_at hl 1 rfl) ?_
          refine lv_iconst (v := 4) hx hb dX12_quoted_156 (by decide) ?_
          refine lv_aload_n hx hb dX12_quoted_157 rfl (lv_at hl 1 rfl) ?_
          refine va_get (D := D) (ci := 12) (v := .int (nI n)) (C := RX12) (T := TX12) (N := 30) hx hb hts inlX12 hown hK hP 0 rfl rfl 11 (by decide) (hts _ mw_423) (fun _ h9 => h9) rfl dX12_quoted_158 ?_
          refine lv_iload_n hx hb dX12_quoted_161 rfl (lv_at hl 2 rfl) ?_
          refine ct_V (wr := [(a0, .inl (κ 0, 21375, .inl w)), (a5, .inl (κ 0, 800, .inl tp)), (a14, .inl (κ 0, 189, .inl g))]) (As := [.int 4, .int (nI n), .int (nI a)]) (rest := []) hFX hKK hP hD hS hA (s_X12_wrong l D κ m0 a0 a1 a2 u3 f4 a5 u6 f7 f8 f9 f10 n u12 u13 a14 a15 a16 a17 f18 f19 a20 a21 u22 a23 a24 a25 u26 f27 a28 u29 4 (nI n) (nI a)) 3 gV_X12_210 hdV_X12_wrong ⟨Nat.le_of_ble_eq_true rfl, Nat.le_of_ble_eq_true rfl⟩ rfl rfl (Nat.le_of_ble_eq_true rfl) dX12_quoted_162 ⟨Nat.le_of_ble_eq_true rfl, Nat.le_of_ble_eq_true rfl⟩ hl.1 [0] [1, 2, 3] rfl rfl (by decide) (by decide) (by decide) 0 12 rfl rfl rfl trivial (fun _ H locs hp_49 _ hP hD hS hz_ hk_ => ?_)
          have hP : va_P D vwCl [(a0, .inl (κ 0, 21375, .inl w)), (a5, .inl (κ 0, 800, .inl tp)), (a14, .inl (κ 0, 189, .inl g)), (m0, .inr (12, [.ref a0, .ref a1, .ref a2, .int (nI u3), .int f4, .ref a5, .int (nI u6), .int 4, .int (nI n), .int (nI a), .int f10, .int (nI n), .int (nI u12), .int (nI u13), .ref a14, .ref a15, .ref a16, .ref a17, .int f18, .int f19, .ref a20, .ref a21, .int (nI u22), .ref a23, .ref a24, .ref a25, .int (nI u26), .int f27, .ref a28, .int (nI u29)]))] H := hP
          have hD : va_D A [(a0, .inl (κ 0, 21375, .inl w)), (a5, .inl (κ 0, 800, .inl tp)), (a14, .inl (κ 0, 189, .inl g)), (m0, .inr (12, [.ref a0, .ref a1, .ref a2, .int (nI u3), .int f4, .ref a5, .int (nI u6), .int 4, .int (nI n), .int (nI a), .int f10, .int (nI n), .int (nI u12), .int (nI u13), .ref a14, .ref a15, .ref a16, .ref a17, .int f18, .int f19, .ref a20, .ref a21, .int (nI u22), .ref a23, .ref a24, .ref a25, .int (nI u26), .int f27, .ref a28, .int (nI u29)]))] := hD
          refine W.eq (g2 := F0 m 165 ls [.int 0]) rfl ?_
          exact ct_iret hx hb hr hlk rfl hS hP hD (0, n, 4, nI n, nI a, g) rfl ⟨(by first | exact Or.inl rfl | exact Or.inr rfl), by omega, by omega, (by first | assumption | exact PF_n (by omega)), by assumption⟩ [3, 0, 1, 2] rfl (by decide) trivial (Nat.le_of_ble_eq_true rfl) (Nat.le_of_ble_eq_true rfl) dX12_quoted_165
      · have nc_33 := cv_ne (a := (n + 1)) (b := u6) (by omega) (by omega) c_33
        refine lv_aload_n hx hb dX12_quoted_56 rfl (lv_at hl 1 rfl) ?_
        refine va_get (D := D) (ci := 12) (v := .ref a5) (C := RX12) (T := TX12) (N := 30) hx hb hts inlX12 hown hK hP 0 rfl rfl 5 (by decide) (hts _ mw_191) (fun _ h9 => h9) rfl dX12_quoted_57 ?_
        refine lv_aload_n hx hb dX12_quoted_60 rfl (lv_at hl 1 rfl) ?_
        refine va_get (D := D) (ci := 12) (v := .int (nI n)) (C := RX12) (T := TX12) (N := 30) hx hb hts inlX12 hown hK hP 0 rfl rfl 11 (by decide) (hts _ mw_423) (fun _ h9 => h9) rfl dX12_quoted_61 ?_
        refine lv_iconst (v := 1) hx hb dX12_quoted_64 (by decide) ?_
        refine lv_iadd hx hb dX12_quoted_65 ?_
        refine ki (v := (nI (n + 1))) (nI_add n 1) ?_
        refine va_iald hx hb hK hP 2 0 rfl rfl (i := nI (n + 1)) (vp_in_nI (n := (n + 1)) (by omega) (by omega)) dX12_quoted_66 ?_
        refine kv (v := .int (tp (n + 1))) (by rw [nI_clamp (by omega)]) ?_
        refine lv_topi (fun x_50 ex_50 => ?_)
        refine lv_aload_n hx hb dX12_quoted_67 rfl (lv_at hl 1 rfl) ?_
        refine va_get (D := D) (ci := 12) (v := .ref a0) (C := RX12) (T := TX12) (N := 30) hx hb hts inlX12 hown hK hP 0 rfl rfl 0 (by decide) (hts _ mw_187) (fun _ h9 => h9) rfl dX12_quoted_68 ?_
        refine lv_sipush (v := 21370) hx hb dX12_quoted_71 (by decide) ?_
        refine va_iald hx hb hK hP 1 0 rfl rfl (i := 21370) (vp_k (by decide)) dX12_quoted_74 ?_
        refine lv_topi (fun x_51 ex_51 => ?_)
        refine lv_icmp_eq (tgt := 81) hx hb dX12_quoted_75 (by decide) (fun c_52 => ?_) (fun c_52 => ?_)
        · refine lv_aload_n hx hb dX12_quoted_81 rfl (lv_at hl 1 rfl) ?_
          refine lv_dup hx hb dX12_quoted_82 rfl ?_
          refine va_get (D := D) (ci := 12) (v := .int (nI n)) (C := RX12) (T := TX12) (N := 30) hx hb hts inlX12 hown hK hP 0 rfl rfl 11 (by decide) (hts _ mw_423) (fun _ h9 => h9) rfl dX12_quoted_83 ?_
          refine lv_iconst (v := 1) hx hb dX12_quoted_86 (by decide) ?_
          refine lv_iadd hx hb dX12_quoted_87 ?_
          refine ki (v := (nI (n + 1))) (nI_add n 1) ?_
          refine va_put (D := D) (ci := 12) (v := .int (nI (n + 1))) (ty := tyX12 11) (C := RX12) (T := TX12) (N := 30) hx hb hts inlX12 tyX12 tyX12_ok nmX12 hown hK hP hD hS 0 rfl rfl 11 (by decide) (hts _ mw_423) (fun _ h9 => h9) rfl (tyX12_ok 11 (by decide)) rfl rfl (Nat.le_of_ble_eq_true rfl) dX12_quoted_88 (fun H locs hP hD hS => ?_)
          have hP : va_P D vwCl [(m0, .inr (12, [.ref a0, .ref a1, .ref a2, .int (nI u3), .int f4, .ref a5, .int (nI u6), .int f7, .int f8, .int f9, .int f10, .int (nI (n + 1)), .int (nI u12), .int (nI u13), .ref a14, .ref a15, .ref a16, .ref a17, .int f18, .int f19, .ref a20, .ref a21, .int (nI u22), .ref a23, .ref a24, .ref a25, .int (nI u26), .int f27, .ref a28, .int (nI u29)])), (a0, .inl (κ 0, 21375, .inl w)), (a5, .inl (κ 0, 800, .inl tp)), (a14, .inl (κ 0, 189, .inl g))] H := hP
          have hD : va_D A [(m0, .inr (12, [.ref a0, .ref a1, .ref a2, .int (nI u3), .int f4, .ref a5, .int (nI u6), .int f7, .int f8, .int f9, .int f10, .int (nI (n + 1)), .int (nI u12), .int (nI u13), .ref a14, .ref a15, .ref a16, .ref a17, .int f18, .int f19, .ref a20, .ref a21, .int (nI u22), .ref a23, .ref a24, .ref a25, .int (nI u26), .int f27, .ref a28, .int (nI u29)])), (a0, .inl (κ 0, 21375, .inl w)), (a5, .inl (κ 0, 800, .inl tp)), (a14, .inl (κ 0, 189, .inl g))] := hD
          refine lv_aload_n hx hb dX12_quoted_91 rfl (lv_at hl 1 rfl) ?_
          refine lv_iload_n hx hb dX12_quoted_92 rfl (lv_at hl 0 rfl) ?_
          refine lv_iconst (v := 1) hx hb dX12_quoted_93 (by decide) ?_
          refine cr_V (As := [.int x_18, .int 1]) (rest := []) hFX hKK (s_X12_canBe l D κ m0 a0 a1 a2 u3 f4 a5 u6 f7 f8 f9 f10 (n + 1) u12 u13 a14 a15 a16 a17 f18 f19 a20 a21 u22 a23 a24 a25 u26 f27 a28 u29 w x_18 1) 2 gV_X12_206 hdV_X12_canBe rfl rfl ⟨Nat.le_of_ble_eq_true rfl, Nat.le_of_ble_eq_true rfl⟩ rfl rfl (Nat.le_of_ble_eq_true rfl) dX12_quoted_94 ⟨Nat.le_of_ble_eq_true rfl, Nat.le_of_ble_eq_true rfl⟩ hl.1 hP 0 12 rfl rfl rfl (hP.sub [0, 1] rfl) (fun r_53 hp_54 => ?_)
          have hp_54 : (r_53 = 1) ∨ (r_53 = 0) := hp_54
          rcases hp_54 with rfl | rfl
          · refine W.eq (g2 := F0 m 97 ls [.int 1]) rfl ?_
            refine lv_if_ne (tgt := 111) hx hb dX12_quoted_97 (by decide) (fun c_55 => ?_) (fun c_55 => absurd c_55 (by decide))
            refine lv_aload_n hx hb dX12_quoted_111 rfl (lv_at hl 1 rfl) ?_
            refine lv_iload_n hx hb dX12_quoted_112 rfl (lv_at hl 2 rfl) ?_
            refine lv_iload_n hx hb dX12_quoted_113 rfl (lv_at hl 0 rfl) ?_
            refine ct_V (wr := [(a0, .inl (κ 0, 21375, .inl w)), (a5, .inl (κ 0, 800, .inl tp))]) (As := [.int (nI a), .int x_18]) (rest := []) hFX hKK hP hD hS hA (s_X12_adds l D κ m0 a0 a1 a2 u3 f4 a5 u6 f7 f8 f9 f10 (n + 1) u12 u13 a14 a15 a16 a17 f18 f19 a20 a21 u22 a23 a24 a25 u26 f27 a28 u29 g a x_18 (by assumption) (by omega)) 2 gV_X12_214 hdV_X12_adds ⟨Nat.le_of_ble_eq_true rfl, Nat.le_of_ble_eq_true rfl⟩ rfl rfl (Nat.le_of_ble_eq_true rfl) dX12_quoted_114 ⟨Nat.le_of_ble_eq_true rfl, Nat.le_of_ble_eq_true rfl⟩ hl.1 [0, 3] [1, 2] rfl rfl (by decide) (by decide) (by decide) 0 12 rfl rfl rfl trivial (fun u_58 H locs hp_59 _ hP hD hS hz_ hk_ => ?_)
            obtain ⟨r_56, g_57⟩ := u_58
            have hP : va_P D vwCl [(a0, .inl (κ 0, 21375, .inl w)), (a5, .inl (κ 0, 800, .inl tp)), (m0, .inr (12, [.ref a0, .ref a1, .ref a2, .int (nI u3), .int f4, .ref a5, .int (nI u6), .int f7, .int f8, .int f9, .int f10, .int (nI (n + 1)), .int (nI u12), .int (nI u13), .ref a14, .ref a15, .ref a16, .ref a17, .int f18, .int f19, .ref a20, .ref a21, .int (nI u22), .ref a23, .ref a24, .ref a25, .int (nI u26), .int f27, .ref a28, .int (nI u29)])), (a14, .inl (κ 0, 189, .inl g_57))] H := hP
            have hD : va_D A [(a0, .inl (κ 0, 21375, .inl w)), (a5, .inl (κ 0, 800, .inl tp)), (m0, .inr (12, [.ref a0, .ref a1, .ref a2, .int (nI u3), .int f4, .ref a5, .int (nI u6), .int f7, .int f8, .int f9, .int f10, .int (nI (n + 1)), .int (nI u12), .int (nI u13), .ref a14, .ref a15, .ref a16, .ref a17, .int f18, .int f19, .ref a20, .ref a21, .int (nI u22), .ref a23, .ref a24, .ref a25, .int (nI u26), .int f27, .ref a28, .int (nI u29)])), (a14, .inl (κ 0, 189, .inl g_57))] := hD
            have hp_59 : (r_56 = 1 ∨ r_56 = 0) ∧ Pfd g_57 := hp_59
            obtain ⟨hbs, hfd⟩ := hp_59
            rcases hbs with rfl | rfl
            · refine W.eq (g2 := F0 m 117 ls [.int 1]) rfl ?_
              refine lv_if_ne (tgt := 131) hx hb dX12_quoted_117 (by decide) (fun c_60 => ?_) (fun c_60 => absurd c_60 (by decide))
              refine lv_aload_n hx hb dX12_quoted_131 rfl (lv_at hl 1 rfl) ?_
              refine lv_dup hx hb dX12_quoted_132 rfl ?_
              refine va_get (D := D) (ci := 12) (v := .int (nI (n + 1))) (C := RX12) (T := TX12) (N := 30) hx hb hts inlX12 hown hK hP 2 rfl rfl 11 (by decide) (hts _ mw_423) (fun _ h9 => h9) rfl dX12_quoted_133 ?_
              refine lv_iconst (v := 1) hx hb dX12_quoted_136 (by decide) ?_
              refine lv_iadd hx hb dX12_quoted_137 ?_
              refine ki (v := (nI (n + 1 + 1))) (nI_add (n + 1) 1) ?_
              refine va_put (D := D) (ci := 12) (v := .int (nI (n + 1 + 1))) (ty := tyX12 11) (C := RX12) (T := TX12) (N := 30) hx hb hts inlX12 tyX12 tyX12_ok nmX12 hown hK hP hD hS 2 rfl rfl 11 (by decide) (hts _ mw_423) (fun _ h9 => h9) rfl (tyX12_ok 11 (by decide)) rfl rfl (Nat.le_of_ble_eq_true rfl) dX12_quoted_138 (fun H locs hP hD hS => ?_)
              have hP : va_P D vwCl [(a0, .inl (κ 0, 21375, .inl w)), (a5, .inl (κ 0, 800, .inl tp)), (m0, .inr (12, [.ref a0, .ref a1, .ref a2, .int (nI u3), .int f4, .ref a5, .int (nI u6), .int f7, .int f8, .int f9, .int f10, .int (nI (n + 1 + 1)), .int (nI u12), .int (nI u13), .ref a14, .ref a15, .ref a16, .ref a17, .int f18, .int f19, .ref a20, .ref a21, .int (nI u22), .ref a23, .ref a24, .ref a25, .int (nI u26), .int f27, .ref a28, .int (nI u29)])), (a14, .inl (κ 0, 189, .inl g_57))] H := hP
              have hD : va_D A [(a0, .inl (κ 0, 21375, .inl w)), (a5, .inl (κ 0, 800, .inl tp)), (m0, .inr (12, [.ref a0, .ref a1, .ref a2, .int (nI u3), .int f4, .ref a5, .int (nI u6), .int f7, .int f8, .int f9, .int f10, .int (nI (n + 1 + 1)), .int (nI u12), .int (nI u13), .ref a14, .ref a15, .ref a16, .ref a17, .int f18, .int f19, .ref a20, .ref a21, .int (nI u22), .ref a23, .ref a24, .ref a25, .int (nI u26), .int f27, .ref a28, .int (nI u29)])), (a14, .inl (κ 0, 189, .inl g_57))] := hD
              refine lv_goto (tgt := 10) hx hb dX12_quoted_141 (by decide) ?_
              exact ih10 _ _ _ _ (by omega) ⟨(n + 1 + 1), g_57, (by omega), (by omega), (by assumption), rfl, hP, hD, hS, lv_sub hl [1, 2] rfl⟩
            · refine W.eq (g2 := F0 m 117 ls [.int 0]) rfl ?_
              refine lv_if_ne (tgt := 131) hx hb dX12_quoted_117 (by decide) (fun c_61 => absurd (by decide) c_61) (fun c_61 => ?_)
              refine lv_aload_n hx hb dX12_quoted_120 rfl (lv_at hl 1 rfl) ?_
              refine lv_iconst (v := 5) hx hb dX12_quoted_121 (by decide) ?_
              refine lv_aload_n hx hb dX12_quoted_122 rfl (lv_at hl 1 rfl) ?_
              refine va_get (D := D) (ci := 12) (v := .int (nI (n + 1))) (C := RX12) (T := TX12) (N := 30) hx hb hts inlX12 hown hK hP 2 rfl rfl 11 (by decide) (hts _ mw_423) (fun _ h9 => h9) rfl dX12_quoted_123 ?_
              refine lv_iload_n hx hb dX12_quoted_126 rfl (lv_at hl 2 rfl) ?_
              refine ct_V (wr := [(a0, .inl (κ 0, 21375, .inl w)), (a5, .inl (κ 0, 800, .inl tp)), (a14, .inl (κ 0, 189, .inl g_57))]) (As := [.int 5, .int (nI (n + 1)), .int (nI a)]) (rest := []) hFX hKK hP hD hS hA (s_X12_wrong l D κ m0 a0 a1 a2 u3 f4 a5 u6 f7 f8 f9 f10 (n + 1) u12 u13 a14 a15 a16 a17 f18 f19 a20 a21 u22 a23 a24 a25 u26 f27 a28 u29 5 (nI (n + 1)) (nI a)) 3 gV_X12_210 hdV_X12_wrong ⟨Nat.le_of_ble_eq_true rfl, Nat.le_of_ble_eq_true rfl⟩ rfl rfl (Nat.le_of_ble_eq_true rfl) dX12_quoted_127 ⟨Nat.le_of_ble_eq_true rfl, Nat.le_of_ble_eq_true rfl⟩ hl.1 [2] [0, 1, 3] rfl rfl (by decide) (by decide) (by decide) 2 12 rfl rfl rfl trivial (fun _ H locs hp_62 _ hP hD hS hz_ hk_ => ?_)
              have hP : va_P D vwCl [(a0, .inl (κ 0, 21375, .inl w)), (a5, .inl (κ 0, 800, .inl tp)), (a14, .inl (κ 0, 189, .inl g_57)), (m0, .inr (12, [.ref a0, .ref a1, .ref a2, .int (nI u3), .int f4, .ref a5, .int (nI u6), .int 5, .int (nI (n + 1)), .int (nI a), .int f10, .int (nI (n + 1)), .int (nI u12), .int (nI u13), .ref a14, .ref a15, .ref a16, .ref a17, .int f18, .int f19, .ref a20, .ref a21, .int (nI u22), .ref a23, .ref a24, .ref a25, .int (nI u26), .int f27, .ref a28, .int (nI u29)]))] H := hP
              have hD : va_D A [(a0, .inl (κ 0, 21375, .inl w)), (a5, .inl (κ 0, 800, .inl tp)), (a14, .inl (κ 0, 189, .inl g_57)), (m0, .inr (12, [.ref a0, .ref a1, .ref a2, .int (nI u3), .int f4, .ref a5, .int (nI u6), .int 5, .int (nI (n + 1)), .int (nI a), .int f10, .int (nI (n + 1)), .int (nI u12), .int (nI u13), .ref a14, .ref a15, .ref a16, .ref a17, .int f18, .int f19, .ref a20, .ref a21, .int (nI u22), .ref a23, .ref a24, .ref a25, .int (nI u26), .int f27, .ref a28, .int (nI u29)]))] := hD
              refine W.eq (g2 := F0 m 130 ls [.int 0]) rfl ?_
              exact ct_iret hx hb hr hlk rfl hS hP hD (0, n + 1, 5, nI (n + 1), nI a, g_57) rfl ⟨(by first | exact Or.inl rfl | exact Or.inr rfl), by omega, by omega, (by first | assumption | exact PF_n (by omega)), by assumption⟩ [3, 0, 1, 2] rfl (by decide) trivial (Nat.le_of_ble_eq_true rfl) (Nat.le_of_ble_eq_true rfl) dX12_quoted_130
          · refine W.eq (g2 := F0 m 97 ls [.int 0]) rfl ?_
            refine lv_if_ne (tgt := 111) hx hb dX12_quoted_97 (by decide) (fun c_63 => absurd (by decide) c_63) (fun c_63 => ?_)
            refine lv_aload_n hx hb dX12_quoted_100 rfl (lv_at hl 1 rfl) ?_
            refine lv_iconst (v := 1) hx hb dX12_quoted_101 (by decide) ?_
            refine lv_aload_n hx hb dX12_quoted_102 rfl (lv_at hl 1 rfl) ?_
            refine va_get (D := D) (ci := 12) (v := .int (nI (n + 1))) (C := RX12) (T := TX12) (N := 30) hx hb hts inlX12 hown hK hP 0 rfl rfl 11 (by decide) (hts _ mw_423) (fun _ h9 => h9) rfl dX12_quoted_103 ?_
            refine lv_iload_n hx hb dX12_quoted_106 rfl (lv_at hl 2 rfl) ?_
            refine ct_V (wr := [(a0, .inl (κ 0, 21375, .inl w)), (a5, .inl (κ 0, 800, .inl tp)), (a14, .inl (κ 0, 189, .inl g))]) (As := [.int 1, .int (nI (n + 1)), .int (nI a)]) (rest := []) hFX hKK hP hD hS hA (s_X12_wrong l D κ m0 a0 a1 a2 u3 f4 a5 u6 f7 f8 f9 f10 (n + 1) u12 u13 a14 a15 a16 a17 f18 f19 a20 a21 u22 a23 a24 a25 u26 f27 a28 u29 1 (nI (n + 1)) (nI a)) 3 gV_X12_210 hdV_X12_wrong ⟨Nat.le_of_ble_eq_true rfl, Nat.le_of_ble_eq_true rfl⟩ rfl rfl (Nat.le_of_ble_eq_true rfl) dX12_quoted_107 ⟨Nat.le_of_ble_eq_true rfl, Nat.le_of_ble_eq_true rfl⟩ hl.1 [0] [1, 2, 3] rfl rfl (by decide) (by decide) (by decide) 0 12 rfl rfl rfl trivial (fun _ H locs hp_64 _ hP hD hS hz_ hk_ => ?_)
            have hP : va_P D vwCl [(a0, .inl (κ 0, 21375, .inl w)), (a5, .inl (κ 0, 800, .inl tp)), (a14, .inl (κ 0, 189, .inl g)), (m0, .inr (12, [.ref a0, .ref a1, .ref a2, .int (nI u3), .int f4, .ref a5, .int (nI u6), .int 1, .int (nI (n + 1)), .int (nI a), .int f10, .int (nI (n + 1)), .int (nI u12), .int (nI u13), .ref a14, .ref a15, .ref a16, .ref a17, .int f18, .int f19, .ref a20, .ref a21, .int (nI u22), .ref a23, .ref a24, .ref a25, .int (nI u26), .int f27, .ref a28, .int (nI u29)]))] H := hP
            have hD : va_D A [(a0, .inl (κ 0, 21375, .inl w)), (a5, .inl (κ 0, 800, .inl tp)), (a14, .inl (κ 0, 189, .inl g)), (m0, .inr (12, [.ref a0, .ref a1, .ref a2, .int (nI u3), .int f4, .ref a5, .int (nI u6), .int 1, .int (nI (n + 1)), .int (nI a), .int f10, .int (nI (n + 1)), .int (nI u12), .int (nI u13), .ref a14, .ref a15, .ref a16, .ref a17, .int f18, .int f19, .ref a20, .ref a21, .int (nI u22), .ref a23, .ref a24, .ref a25, .int (nI u26), .int f27, .ref a28, .int (nI u29)]))] := hD
            refine W.eq (g2 := F0 m 110 ls [.int 0]) rfl ?_
            exact ct_iret hx hb hr hlk rfl hS hP hD (0, n + 1, 1, nI (n + 1), nI a, g) rfl ⟨(by first | exact Or.inl rfl | exact Or.inr rfl), by omega, by omega, (by first | assumption | exact PF_n (by omega)), by assumption⟩ [3, 0, 1, 2] rfl (by decide) trivial (Nat.le_of_ble_eq_true rfl) (Nat.le_of_ble_eq_true rfl) dX12_quoted_110
        · refine lv_goto (tgt := 144) hx hb dX12_quoted_78 (by decide) ?_
          refine lv_aload_n hx hb dX12_quoted_144 rfl (lv_at hl 1 rfl) ?_
          refine va_get (D := D) (ci := 12) (v := .int (nI n)) (C := RX12) (T := TX12) (N := 30) hx hb hts inlX12 hown hK hP 0 rfl rfl 11 (by decide) (hts _ mw_423) (fun _ h9 => h9) rfl dX12_quoted_145 ?_
          refine lv_aload_n hx hb dX12_quoted_148 rfl (lv_at hl 1 rfl) ?_
          refine va_get (D := D) (ci := 12) (v := .int (nI u6)) (C := RX12) (T := TX12) (N := 30) hx hb hts inlX12 hown hK hP 0 rfl rfl 6 (by decide) (hts _ mw_236) (fun _ h9 => h9) rfl dX12_quoted_149 ?_
          refine lv_icmp_ne (tgt := 166) hx hb dX12_quoted_152 (by decide) (fun c_65 => ?_) (fun c_65 => ?_)
          · have nc_65 := cv_ne (a := n) (b := u6) (by omega) (by omega) c_65
            refine lv_aload_n hx hb dX12_quoted_166 rfl (lv_at hl 1 rfl) ?_
            refine lv_dup hx hb dX12_quoted_167 rfl ?_
            refine va_get (D := D) (ci := 12) (v := .int (nI n)) (C := RX12) (T := TX12) (N := 30) hx hb hts inlX12 hown hK hP 0 rfl rfl 11 (by decide) (hts _ mw_423) (fun _ h9 => h9) rfl dX12_quoted_168 ?_
            refine lv_iconst (v := 1) hx hb dX12_quoted_171 (by decide) ?_
            refine lv_iadd hx hb dX12_quoted_172 ?_
            refine ki (v := (nI (n + 1))) (nI_add n 1) ?_
            refine va_put (D := D) (ci := 12) (v := .int (nI (n + 1))) (ty := tyX12 11) (C := RX12) (T := TX12) (N := 30) hx hb hts inlX12 tyX12 tyX12_ok nmX12 hown hK hP hD hS 0 rfl rfl 11 (by decide) (hts _ mw_423) (fun _ h9 => h9) rfl (tyX12_ok 11 (by decide)) rfl rfl (Nat.le_of_ble_eq_true rfl) dX12_quoted_173 (fun H locs hP hD hS => ?_)
            have hP : va_P D vwCl [(m0, .inr (12, [.ref a0, .ref a1, .ref a2, .int (nI u3), .int f4, .ref a5, .int (nI u6), .int f7, .int f8, .int f9, .int f10, .int (nI (n + 1)), .int (nI u12), .int (nI u13), .ref a14, .ref a15, .ref a16, .ref a17, .int f18, .int f19, .ref a20, .ref a21, .int (nI u22), .ref a23, .ref a24, .ref a25, .int (nI u26), .int f27, .ref a28, .int (nI u29)])), (a0, .inl (κ 0, 21375, .inl w)), (a5, .inl (κ 0, 800, .inl tp)), (a14, .inl (κ 0, 189, .inl g))] H := hP
            have hD : va_D A [(m0, .inr (12, [.ref a0, .ref a1, .ref a2, .int (nI u3), .int f4, .ref a5, .int (nI u6), .int f7, .int f8, .int f9, .int f10, .int (nI (n + 1)), .int (nI u12), .int (nI u13), .ref a14, .ref a15, .ref a16, .ref a17, .int f18, .int f19, .ref a20, .ref a21, .int (nI u22), .ref a23, .ref a24, .ref a25, .int (nI u26), .int f27, .ref a28, .int (nI u29)])), (a0, .inl (κ 0, 21375, .inl w)), (a5, .inl (κ 0, 800, .inl tp)), (a14, .inl (κ 0, 189, .inl g))] := hD
            refine lv_aload_n hx hb dX12_quoted_176 rfl (lv_at hl 1 rfl) ?_
            refine ct_V (wr := [(a14, .inl (κ 0, 189, .inl g))]) (As := []) (rest := []) hFX hKK hP hD hS hA (s_X12_blanks l D κ m0 a0 a1 a2 u3 f4 a5 u6 f7 f8 f9 f10 (n + 1) u12 u13 a14 a15 a16 a17 f18 f19 a20 a21 u22 a23 a24 a25 u26 f27 a28 u29 w tp (by omega) (by omega)) 0 gV_X12_217 hdV_X12_blanks ⟨Nat.le_of_ble_eq_true rfl, Nat.le_of_ble_eq_true rfl⟩ rfl rfl (Nat.le_of_ble_eq_true rfl) dX12_quoted_177 ⟨Nat.le_of_ble_eq_true rfl, Nat.le_of_ble_eq_true rfl⟩ hl.1 [0, 1, 2] [3] rfl rfl (by decide) (by decide) (by decide) 0 12 rfl rfl rfl trivial (fun n_66 H locs hp_67 _ hP hD hS hz_ hk_ => ?_)
            have hP : va_P D vwCl [(a14, .inl (κ 0, 189, .inl g)), (m0, .inr (12, [.ref a0, .ref a1, .ref a2, .int (nI u3), .int f4, .ref a5, .int (nI u6), .int f7, .int f8, .int f9, .int f10, .int (nI n_66), .int (nI u12), .int (nI u13), .ref a14, .ref a15, .ref a16, .ref a17, .int f18, .int f19, .ref a20, .ref a21, .int (nI u22), .ref a23, .ref a24, .ref a25, .int (nI u26), .int f27, .ref a28, .int (nI u29)])), (a0, .inl (κ 0, 21375, .inl w)), (a5, .inl (κ 0, 800, .inl tp))] H := hP
            have hD : va_D A [(a14, .inl (κ 0, 189, .inl g)), (m0, .inr (12, [.ref a0, .ref a1, .ref a2, .int (nI u3), .int f4, .ref a5, .int (nI u6), .int f7, .int f8, .int f9, .int f10, .int (nI n_66), .int (nI u12), .int (nI u13), .ref a14, .ref a15, .ref a16, .ref a17, .int f18, .int f19, .ref a20, .ref a21, .int (nI u22), .ref a23, .ref a24, .ref a25, .int (nI u26), .int f27, .ref a28, .int (nI u29)])), (a0, .inl (κ 0, 21375, .inl w)), (a5, .inl (κ 0, 800, .inl tp))] := hD
            have hp_67 : (n + 1) ≤ n_66 ∧ n_66 ≤ u6 := hp_67
            obtain ⟨hb1, hb2⟩ := hp_67
            refine W.eq (g2 := F0 m 180 ls []) rfl ?_
            refine lv_aload_n hx hb dX12_quoted_180 rfl (lv_at hl 1 rfl) ?_
            refine cr_V (As := []) (rest := []) hFX hKK (s_X12_isOver l D κ m0 a0 a1 a2 u3 f4 a5 u6 f7 f8 f9 f10 n_66 u12 u13 a14 a15 a16 a17 f18 f19 a20 a21 u22 a23 a24 a25 u26 f27 a28 u29 w tp (by omega) (by omega)) 0 gV_X12_220 hdV_X12_isOver rfl rfl ⟨Nat.le_of_ble_eq_true rfl, Nat.le_of_ble_eq_true rfl⟩ rfl rfl (Nat.le_of_ble_eq_true rfl) dX12_quoted_181 ⟨Nat.le_of_ble_eq_true rfl, Nat.le_of_ble_eq_true rfl⟩ hl.1 hP 1 12 rfl rfl rfl (hP.sub [1, 2, 3] rfl) (fun r_68 hp_69 => ?_)
            have hp_69 : (r_68 = 1) ∨ (r_68 = 0 ∧ n_66 < u6) := hp_69
            rcases hp_69 with rfl | ⟨rfl, a_70⟩
            · refine W.eq (g2 := F0 m 184 ls [.int 1]) rfl ?_
              refine lv_if_eq (tgt := 189) hx hb dX12_quoted_184 (by decide) (fun c_71 => absurd c_71 (by decide)) (fun c_71 => ?_)
              refine lv_iconst (v := 1) hx hb dX12_quoted_187 (by decide) ?_
              exact ct_iret hx hb hr hlk rfl hS hP hD (1, n_66, f7, f8, f9, g) rfl ⟨(by first | exact Or.inl rfl | exact Or.inr rfl), by omega, by omega, (by first | assumption | exact PF_n (by omega)), by assumption⟩ [1, 2, 3, 0] rfl (by decide) trivial (Nat.le_of_ble_eq_true rfl) (Nat.le_of_ble_eq_true rfl) dX12_quoted_188
            · refine W.eq (g2 := F0 m 184 ls [.int 0]) rfl ?_
              refine lv_if_eq (tgt := 189) hx hb dX12_quoted_184 (by decide) (fun c_72 => ?_) (fun c_72 => absurd (by decide) c_72)
              refine lv_aload_n hx hb dX12_quoted_189 rfl (lv_at hl 1 rfl) ?_
              refine lv_aload_n hx hb dX12_quoted_190 rfl (lv_at hl 1 rfl) ?_
              refine lv_aload_n hx hb dX12_quoted_191 rfl (lv_at hl 1 rfl) ?_
              refine va_get (D := D) (ci := 12) (v := .ref a5) (C := RX12) (T := TX12) (N := 30) hx hb hts inlX12 hown hK hP 1 rfl rfl 5 (by decide) (hts _ mw_191) (fun _ h9 => h9) rfl dX12_quoted_192 ?_
              refine lv_aload_n hx hb dX12_quoted_195 rfl (lv_at hl 1 rfl) ?_
              refine va_get (D := D) (ci := 12) (v := .int (nI n_66)) (C := RX12) (T := TX12) (N := 30) hx hb hts inlX12 hown hK hP 1 rfl rfl 11 (by decide) (hts _ mw_423) (fun _ h9 => h9) rfl dX12_quoted_196 ?_
              refine va_iald hx hb hK hP 3 0 rfl rfl (i := nI n_66) (vp_in_nI (n := n_66) (by omega) (by omega)) dX12_quoted_199 ?_
              refine kv (v := .int (tp n_66)) (by rw [nI_clamp (by omega)]) ?_
              refine lv_topi (fun x_73 ex_73 => ?_)
              refine lv_iconst (v := 0) hx hb dX12_quoted_200 (by decide) ?_
              refine cr_V (As := [.int x_73, .int 0]) (rest := [.ref m0]) hFX hKK (s_X12_canBe l D κ m0 a0 a1 a2 u3 f4 a5 u6 f7 f8 f9 f10 n_66 u12 u13 a14 a15 a16 a17 f18 f19 a20 a21 u22 a23 a24 a25 u26 f27 a28 u29 w x_73 0) 2 gV_X12_206 hdV_X12_canBe rfl rfl ⟨Nat.le_of_ble_eq_true rfl, Nat.le_of_ble_eq_true rfl⟩ rfl rfl (Nat.le_of_ble_eq_true rfl) dX12_quoted_201 ⟨Nat.le_of_ble_eq_true rfl, Nat.le_of_ble_eq_true rfl⟩ hl.1 hP 1 12 rfl rfl rfl (hP.sub [1, 2] rfl) (fun r_74 hp_75 => ?_)
              have hp_75 : (r_74 = 1) ∨ (r_74 = 0) := hp_75
              rcases hp_75 with rfl | rfl
              · refine W.eq (g2 := F0 m 204 ls [.int 1, .ref m0]) rfl ?_
                refine lv_if_eq (tgt := 211) hx hb dX12_quoted_204 (by decide) (fun c_76 => absurd c_76 (by decide)) (fun c_76 => ?_)
                refine lv_iconst (v := 3) hx hb dX12_quoted_207 (by decide) ?_
                refine lv_goto (tgt := 212) hx hb dX12_quoted_208 (by decide) ?_
                refine lv_aload_n hx hb dX12_quoted_212 rfl (lv_at hl 1 rfl) ?_
                refine va_get (D := D) (ci := 12) (v := .int (nI n_66)) (C := RX12) (T := TX12) (N := 30) hx hb hts inlX12 hown hK hP 1 rfl rfl 11 (by decide) (hts _ mw_423) (fun _ h9 => h9) rfl dX12_quoted_213 ?_
                refine lv_iload_n hx hb dX12_quoted_216 rfl (lv_at hl 2 rfl) ?_
                refine ct_V (wr := [(a14, .inl (κ 0, 189, .inl g)), (a0, .inl (κ 0, 21375, .inl w)), (a5, .inl (κ 0, 800, .inl tp))]) (As := [.int 3, .int (nI n_66), .int (nI a)]) (rest := []) hFX hKK hP hD hS hA (s_X12_wrong l D κ m0 a0 a1 a2 u3 f4 a5 u6 f7 f8 f9 f10 n_66 u12 u13 a14 a15 a16 a17 f18 f19 a20 a21 u22 a23 a24 a25 u26 f27 a28 u29 3 (nI n_66) (nI a)) 3 gV_X12_210 hdV_X12_wrong ⟨Nat.le_of_ble_eq_true rfl, Nat.le_of_ble_eq_true rfl⟩ rfl rfl (Nat.le_of_ble_eq_true rfl) dX12_quoted_217 ⟨Nat.le_of_ble_eq_true rfl, Nat.le_of_ble_eq_true rfl⟩ hl.1 [1] [0, 2, 3] rfl rfl (by decide) (by decide) (by decide) 1 12 rfl rfl rfl trivial (fun _ H locs hp_77 _ hP hD hS hz_ hk_ => ?_)
                have hP : va_P D vwCl [(a14, .inl (κ 0, 189, .inl g)), (a0, .inl (κ 0, 21375, .inl w)), (a5, .inl (κ 0, 800, .inl tp)), (m0, .inr (12, [.ref a0, .ref a1, .ref a2, .int (nI u3), .int f4, .ref a5, .int (nI u6), .int 3, .int (nI n_66), .int (nI a), .int f10, .int (nI n_66), .int (nI u12), .int (nI u13), .ref a14, .ref a15, .ref a16, .ref a17, .int f18, .int f19, .ref a20, .ref a21, .int (nI u22), .ref a23, .ref a24, .ref a25, .int (nI u26), .int f27, .ref a28, .int (nI u29)]))] H := hP
                have hD : va_D A [(a14, .inl (κ 0, 189, .inl g)), (a0, .inl (κ 0, 21375, .inl w)), (a5, .inl (κ 0, 800, .inl tp)), (m0, .inr (12, [.ref a0, .ref a1, .ref a2, .int (nI u3), .int f4, .ref a5, .int (nI u6), .int 3, .int (nI n_66), .int (nI a), .int f10, .int (nI n_66), .int (nI u12), .int (nI u13), .ref a14, .ref a15, .ref a16, .ref a17, .int f18, .int f19, .ref a20, .ref a21, .int (nI u22), .ref a23, .ref a24, .ref a25, .int (nI u26), .int f27, .ref a28, .int (nI u29)]))] := hD
                refine W.eq (g2 := F0 m 220 ls [.int 0]) rfl ?_
                exact ct_iret hx hb hr hlk rfl hS hP hD (0, n_66, 3, nI n_66, nI a, g) rfl ⟨(by first | exact Or.inl rfl | exact Or.inr rfl), by omega, by omega, (by first | assumption | exact PF_n (by omega)), by assumption⟩ [3, 1, 2, 0] rfl (by decide) trivial (Nat.le_of_ble_eq_true rfl) (Nat.le_of_ble_eq_true rfl) dX12_quoted_220
              · refine W.eq (g2 := F0 m 204 ls [.int 0, .ref m0]) rfl ?_
                refine lv_if_eq (tgt := 211) hx hb dX12_quoted_204 (by decide) (fun c_78 => ?_) (fun c_78 => absurd (by decide) c_78)
                refine lv_iconst (v := 1) hx hb dX12_quoted_211 (by decide) ?_
                refine lv_aload_n hx hb dX12_quoted_212 rfl (lv_at hl 1 rfl) ?_
                refine va_get (D := D) (ci := 12) (v := .int (nI n_66)) (C := RX12) (T := TX12) (N := 30) hx hb hts inlX12 hown hK hP 1 rfl rfl 11 (by decide) (hts _ mw_423) (fun _ h9 => h9) rfl dX12_quoted_213 ?_
                refine lv_iload_n hx hb dX12_quoted_216 rfl (lv_at hl 2 rfl) ?_
                refine ct_V (wr := [(a14, .inl (κ 0, 189, .inl g)), (a0, .inl (κ 0, 21375, .inl w)), (a5, .inl (κ 0, 800, .inl tp))]) (As := [.int 1, .int (nI n_66), .int (nI a)]) (rest := []) hFX hKK hP hD hS hA (s_X12_wrong l D κ m0 a0 a1 a2 u3 f4 a5 u6 f7 f8 f9 f10 n_66 u12 u13 a14 a15 a16 a17 f18 f19 a20 a21 u22 a23 a24 a25 u26 f27 a28 u29 1 (nI n_66) (nI a)) 3 gV_X12_210 hdV_X12_wrong ⟨Nat.le_of_ble_eq_true rfl, Nat.le_of_ble_eq_true rfl⟩ rfl rfl (Nat.le_of_ble_eq_true rfl) dX12_quoted_217 ⟨Nat.le_of_ble_eq_true rfl, Nat.le_of_ble_eq_true rfl⟩ hl.1 [1] [0, 2, 3] rfl rfl (by decide) (by decide) (by decide) 1 12 rfl rfl rfl trivial (fun _ H locs hp_79 _ hP hD hS hz_ hk_ => ?_)
                have hP : va_P D vwCl [(a14, .inl (κ 0, 189, .inl g)), (a0, .inl (κ 0, 21375, .inl w)), (a5, .inl (κ 0, 800, .inl tp)), (m0, .inr (12, [.ref a0, .ref a1, .ref a2, .int (nI u3), .int f4, .ref a5, .int (nI u6), .int 1, .int (nI n_66), .int (nI a), .int f10, .int (nI n_66), .int (nI u12), .int (nI u13), .ref a14, .ref a15, .ref a16, .ref a17, .int f18, .int f19, .ref a20, .ref a21, .int (nI u22), .ref a23, .ref a24, .ref a25, .int (nI u26), .int f27, .ref a28, .int (nI u29)]))] H := hP
                have hD : va_D A [(a14, .inl (κ 0, 189, .inl g)), (a0, .inl (κ 0, 21375, .inl w)), (a5, .inl (κ 0, 800, .inl tp)), (m0, .inr (12, [.ref a0, .ref a1, .ref a2, .int (nI u3), .int f4, .ref a5, .int (nI u6), .int 1, .int (nI n_66), .int (nI a), .int f10, .int (nI n_66), .int (nI u12), .int (nI u13), .ref a14, .ref a15, .ref a16, .ref a17, .int f18, .int f19, .ref a20, .ref a21, .int (nI u22), .ref a23, .ref a24, .ref a25, .int (nI u26), .int f27, .ref a28, .int (nI u29)]))] := hD
                refine W.eq (g2 := F0 m 220 ls [.int 0]) rfl ?_
                exact ct_iret hx hb hr hlk rfl hS hP hD (0, n_66, 1, nI n_66, nI a, g) rfl ⟨(by first | exact Or.inl rfl | exact Or.inr rfl), by omega, by omega, (by first | assumption | exact PF_n (by omega)), by assumption⟩ [3, 1, 2, 0] rfl (by decide) trivial (Nat.le_of_ble_eq_true rfl) (Nat.le_of_ble_eq_true rfl) dX12_quoted_220
          · have nc_65 := cv_eq (a := n) (b := u6) (by omega) (by omega) c_65
            refine lv_aload_n hx hb dX12_quoted_155 rfl (lv_at hl 1 rfl) ?_
            refine lv_iconst (v := 4) hx hb dX12_quoted_156 (by decide) ?_
            refine lv_aload_n hx hb dX12_quoted_157 rfl (lv_at hl 1 rfl) ?_
            refine va_get (D := D) (ci := 12) (v := .int (nI n)) (C := RX12) (T := TX12) (N := 30) hx hb hts inlX12 hown hK hP 0 rfl rfl 11 (by decide) (hts _ mw_423) (fun _ h9 => h9) rfl dX12_quoted_158 ?_
            refine lv_iload_n hx hb dX12_quoted_161 rfl (lv_at hl 2 rfl) ?_
            refine ct_V (wr := [(a0, .inl (κ 0, 21375, .inl w)), (a5, .inl (κ 0, 800, .inl tp)), (a14, .inl (κ 0, 189, .inl g))]) (As := [.int 4, .int (nI n), .int (nI a)]) (rest := []) hFX hKK hP hD hS hA (s_X12_wrong l D κ m0 a0 a1 a2 u3 f4 a5 u6 f7 f8 f9 f10 n u12 u13 a14 a15 a16 a17 f18 f19 a20 a21 u22 a23 a24 a25 u26 f27 a28 u29 4 (nI n) (nI a)) 3 gV_X12_210 hdV_X12_wrong ⟨Nat.le_of_ble_eq_true rfl, Nat.le_of_ble_eq_true rfl⟩ rfl rfl (Nat.le_of_ble_eq_true rfl) dX12_quoted_162 ⟨Nat.le_of_ble_eq_true rfl, Nat.le_of_ble_eq_true rfl⟩ hl.1 [0] [1, 2, 3] rfl rfl (by decide) (by decide) (by decide) 0 12 rfl rfl rfl trivial (fun _ H locs hp_80 _ hP hD hS hz_ hk_ => ?_)
            have hP : va_P D vwCl [(a0, .inl (κ 0, 21375, .inl w)), (a5, .inl (κ 0, 800, .inl tp)), (a14, .inl (κ 0, 189, .inl g)), (m0, .inr (12, [.ref a0, .ref a1, .ref a2, .int (nI u3), .int f4, .ref a5, .int (nI u6), .int 4, .int (nI n), .int (nI a), .int f10, .int (nI n), .int (nI u12), .int (nI u13), .ref a14, .ref a15, .ref a16, .ref a17, .int f18, .int f19, .ref a20, .ref a21, .int (nI u22), .ref a23, .ref a24, .ref a25, .int (nI u26), .int f27, .ref a28, .int (nI u29)]))] H := hP
            have hD : va_D A [(a0, .inl (κ 0, 21375, .inl w)), (a5, .inl (κ 0, 800, .inl tp)), (a14, .inl (κ 0, 189, .inl g)), (m0, .inr (12, [.ref a0, .ref a1, .ref a2, .int (nI u3), .int f4, .ref a5, .int (nI u6), .int 4, .int (nI n), .int (nI a), .int f10, .int (nI n), .int (nI u12), .int (nI u13), .ref a14, .ref a15, .ref a16, .ref a17, .int f18, .int f19, .ref a20, .ref a21, .int (nI u22), .ref a23, .ref a24, .ref a25, .int (nI u26), .int f27, .ref a28, .int (nI u29)]))] := hD
            refine W.eq (g2 := F0 m 165 ls [.int 0]) rfl ?_
            exact ct_iret hx hb hr hlk rfl hS hP hD (0, n, 4, nI n, nI a, g) rfl ⟨(by first | exact Or.inl rfl | exact Or.inr rfl), by omega, by omega, (by first | assumption | exact PF_n (by omega)), by assumption⟩ [3, 0, 1, 2] rfl (by decide) trivial (Nat.le_of_ble_eq_true rfl) (Nat.le_of_ble_eq_true rfl) dX12_quoted_165
set_option maxHeartbeats 4000000 in
set_option maxRecDepth 100000 in
theorem s_X12_reads (l : Launch) (D : va_G) (κ : Nat → ClassId) (m0 : Nat) (a0 : Nat) (a1 : Nat) (a2 : Nat) (u3 : Nat) (f4 : Int32) (a5 : Nat) (u6 : Nat) (f7 : Int32) (f8 : Int32) (f9 : Int32) (f10 : Int32) (u11 : Nat) (u12 : Nat) (u13 : Nat) (a14 : Nat) (a15 : Nat) (a16 : Nat) (a17 : Nat) (f18 : Int32) (f19 : Int32) (a20 : Nat) (a21 : Nat) (u22 : Nat) (a23 : Nat) (a24 : Nat) (a25 : Nat) (u26 : Nat) (f27 : Int32) (a28 : Nat) (u29 : Nat) (w : Nat → Int32) (tp : Nat → Int32) (fd : Nat → Int32) (fa : Nat → Int32) (a : Nat) (h6 : u6 ≤ 800) (h11 : u11 ≤ u6) (hfd : Pfd fd) (hpf : PF f8) (hfa : Pq fa) (ha : a < 9) : Ct l yX12_reads (wl yX12_reads cX12_reads 2 (some .boolean)) { frames := 3, cells := 0, slots := 0, locals := 70 } D κ [.ref m0, .int (nI a)] [(m0, .inr (12, [.ref a0, .ref a1, .ref a2, .int (nI u3), .int f4, .ref a5, .int (nI u6), .int f7, .int f8, .int f9, .int f10, .int (nI u11), .int (nI u12), .int (nI u13), .ref a14, .ref a15, .ref a16, .ref a17, .int f18, .int f19, .ref a20, .ref a21, .int (nI u22), .ref a23, .ref a24, .ref a25, .int (nI u26), .int f27, .ref a28, .int (nI u29)])), (a0, .inl (κ 0, 21375, .inl w)), (a5, .inl (κ 0, 800, .inl tp)), (a14, .inl (κ 0, 189, .inl fd)), (a15, .inl (κ 0, 9, .inl fa))] (fun _ => True) (fun u9 : Int32 × Nat × Int32 × Int32 × Int32 × (Nat → Int32) × (Nat → Int32) => some (.int u9.1)) (fun u9 : Int32 × Nat × Int32 × Int32 × Int32 × (Nat → Int32) × (Nat → Int32) => (u9.1 = 1 ∨ u9.1 = 0) ∧ u11 ≤ u9.2.1 ∧ u9.2.1 ≤ u6 ∧ PF u9.2.2.2.1 ∧ Pfd u9.2.2.2.2.2.1 ∧ Pq u9.2.2.2.2.2.2) (fun u9 : Int32 × Nat × Int32 × Int32 × Int32 × (Nat → Int32) × (Nat → Int32) => [(m0, .inr (12, [.ref a0, .ref a1, .ref a2, .int (nI u3), .int f4, .ref a5, .int (nI u6), .int u9.2.2.1, .int u9.2.2.2.1, .int u9.2.2.2.2.1, .int f10, .int (nI u9.2.1), .int (nI u12), .int (nI u13), .ref a14, .ref a15, .ref a16, .ref a17, .int f18, .int f19, .ref a20, .ref a21, .int (nI u22), .ref a23, .ref a24, .ref a25, .int (nI u26), .int f27, .ref a28, .int (nI u29)])), (a0, .inl (κ 0, 21375, .inl w)), (a5, .inl (κ 0, 800, .inl tp)), (a14, .inl (κ 0, 189, .inl u9.2.2.2.2.2.1)), (a15, .inl (κ 0, 9, .inl u9.2.2.2.2.2.2))]) (fun _ _ => True) := by
  refine ct_of (by decide +kernel) (Nat.le_of_ble_eq_true rfl) ?_
  intro p e s m args below meth c A ls hx hb hr hml hts hown hlk hin hKK hK hA hP hD hS hI hl
  have hS : va_S A s.heap s.heap [] := hS
  have hFX : FX p s m args c cX12_reads 2 RX12 := ⟨hx, hb, hml, hown, hts⟩
  have hl : lv_has ls 2 [(0, .ref m0), (1, .int (nI a))] := hl
  refine lv_aload_n hx hb dX12_reads_0 rfl (lv_at hl 0 rfl) ?_
  refine va_get (D := D) (ci := 12) (v := .ref a15) (C := RX12) (T := TX12) (N := 30) hx hb hts inlX12 hown hK hP 0 rfl rfl 15 (by decide) (hts _ mw_195) (fun _ h9 => h9) rfl dX12_reads_1 ?_
  refine lv_iload_n hx hb dX12_reads_4 rfl (lv_at hl 1 rfl) ?_
  refine lv_aload_n hx hb dX12_reads_5 rfl (lv_at hl 0 rfl) ?_
  refine va_get (D := D) (ci := 12) (v := .int (nI u11)) (C := RX12) (T := TX12) (N := 30) hx hb hts inlX12 hown hK hP 0 rfl rfl 11 (by decide) (hts _ mw_423) (fun _ h9 => h9) rfl dX12_reads_6 ?_
  refine va_iast hx hb hK hP hD hS 4 0 rfl rfl (i := nI a) (x := nI u11) (vp_in_nI (n := a) (by omega) (by omega)) dX12_reads_9 (fun H locs hP hD hS => ?_)
  rw [nI_clamp (by omega)] at hP hD
  have hP : va_P D vwCl [(m0, .inr (12, [.ref a0, .ref a1, .ref a2, .int (nI u3), .int f4, .ref a5, .int (nI u6), .int f7, .int f8, .int f9, .int f10, .int (nI u11), .int (nI u12), .int (nI u13), .ref a14, .ref a15, .ref a16, .ref a17, .int f18, .int f19, .ref a20, .ref a21, .int (nI u22), .ref a23, .ref a24, .ref a25, .int (nI u26), .int f27, .ref a28, .int (nI u29)])), (a0, .inl (κ 0, 21375, .inl w)), (a5, .inl (κ 0, 800, .inl tp)), (a14, .inl (κ 0, 189, .inl fd)), (a15, .inl (κ 0, 9, .inl (upd fa a (nI u11))))] H := hP
  have hD : va_D A [(m0, .inr (12, [.ref a0, .ref a1, .ref a2, .int (nI u3), .int f4, .ref a5, .int (nI u6), .int f7, .int f8, .int f9, .int f10, .int (nI u11), .int (nI u12), .int (nI u13), .ref a14, .ref a15, .ref a16, .ref a17, .int f18, .int f19, .ref a20, .ref a21, .int (nI u22), .ref a23, .ref a24, .ref a25, .int (nI u26), .int f27, .ref a28, .int (nI u29)])), (a0, .inl (κ 0, 21375, .inl w)), (a5, .inl (κ 0, 800, .inl tp)), (a14, .inl (κ 0, 189, .inl fd)), (a15, .inl (κ 0, 9, .inl (upd fa a (nI u11))))] := hD
  have hfa9 : Pq (upd fa a (nI u11)) := (Pq_upd hfa ⟨u11, by omega, rfl⟩)
  generalize upd fa a (nI u11) = fa_1 at hP hD hfa9
  have hfa : Pq fa_1 := hfa9
  refine lv_aload_n hx hb dX12_reads_10 rfl (lv_at hl 0 rfl) ?_
  refine va_get (D := D) (ci := 12) (v := .ref a14) (C := RX12) (T := TX12) (N := 30) hx hb hts inlX12 hown hK hP 0 rfl rfl 14 (by decide) (hts _ mw_194) (fun _ h9 => h9) rfl dX12_reads_11 ?_
  refine lv_bipush (v := 21) hx hb dX12_reads_14 (by decide) ?_
  refine lv_iload_n hx hb dX12_reads_16 rfl (lv_at hl 1 rfl) ?_
  refine lv_imul hx hb dX12_reads_17 ?_
  refine ki (v := (nI (21 * a))) (pk_mul 21 a) ?_
  refine lv_iconst (v := 0) hx hb dX12_reads_18 (by decide) ?_
  refine va_iast hx hb hK hP hD hS 3 0 rfl rfl (i := nI (21 * a)) (x := 0) (vp_in_nI (n := (21 * a)) (by omega) (by omega)) dX12_reads_19 (fun H locs hP hD hS => ?_)
  rw [nI_clamp (by omega)] at hP hD
  have hP : va_P D vwCl [(m0, .inr (12, [.ref a0, .ref a1, .ref a2, .int (nI u3), .int f4, .ref a5, .int (nI u6), .int f7, .int f8, .int f9, .int f10, .int (nI u11), .int (nI u12), .int (nI u13), .ref a14, .ref a15, .ref a16, .ref a17, .int f18, .int f19, .ref a20, .ref a21, .int (nI u22), .ref a23, .ref a24, .ref a25, .int (nI u26), .int f27, .ref a28, .int (nI u29)])), (a0, .inl (κ 0, 21375, .inl w)), (a5, .inl (κ 0, 800, .inl tp)), (a14, .inl (κ 0, 189, .inl (upd fd (21 * a) 0))), (a15, .inl (κ 0, 9, .inl fa_1))] H := hP
  have hD : va_D A [(m0, .inr (12, [.ref a0, .ref a1, .ref a2, .int (nI u3), .int f4, .ref a5, .int (nI u6), .int f7, .int f8, .int f9, .int f10, .int (nI u11), .int (nI u12), .int (nI u13), .ref a14, .ref a15, .ref a16, .ref a17, .int f18, .int f19, .ref a20, .ref a21, .int (nI u22), .ref a23, .ref a24, .ref a25, .int (nI u26), .int f27, .ref a28, .int (nI u29)])), (a0, .inl (κ 0, 21375, .inl w)), (a5, .inl (κ 0, 800, .inl tp)), (a14, .inl (κ 0, 189, .inl (upd fd (21 * a) 0))), (a15, .inl (κ 0, 9, .inl fa_1))] := hD
  have hfd9 : Pfd (upd fd (21 * a) 0) := (Pfd_upd hfd (c := (21 * a) / 21) (by omega) ⟨0, by omega, rfl⟩)
  generalize upd fd (21 * a) 0 = fd_2 at hP hD hfd9
  have hfd : Pfd fd_2 := hfd9
  refine lv_aload_n hx hb dX12_reads_20 rfl (lv_at hl 0 rfl) ?_
  refine ct_V (wr := [(a14, .inl (κ 0, 189, .inl fd_2)), (a15, .inl (κ 0, 9, .inl fa_1))]) (As := []) (rest := []) hFX hKK hP hD hS hA (s_X12_blanks l D κ m0 a0 a1 a2 u3 f4 a5 u6 f7 f8 f9 f10 u11 u12 u13 a14 a15 a16 a17 f18 f19 a20 a21 u22 a23 a24 a25 u26 f27 a28 u29 w tp (by omega) (by omega)) 0 gV_X12_217 hdV_X12_blanks ⟨Nat.le_of_ble_eq_true rfl, Nat.le_of_ble_eq_true rfl⟩ rfl rfl (Nat.le_of_ble_eq_true rfl) dX12_reads_21 ⟨Nat.le_of_ble_eq_true rfl, Nat.le_of_ble_eq_true rfl⟩ hl.1 [0, 1, 2] [3, 4] rfl rfl (by decide) (by decide) (by decide) 0 12 rfl rfl rfl trivial (fun n_3 H locs hp_4 _ hP hD hS hz_ hk_ => ?_)
  have hP : va_P D vwCl [(a14, .inl (κ 0, 189, .inl fd_2)), (a15, .inl (κ 0, 9, .inl fa_1)), (m0, .inr (12, [.ref a0, .ref a1, .ref a2, .int (nI u3), .int f4, .ref a5, .int (nI u6), .int f7, .int f8, .int f9, .int f10, .int (nI n_3), .int (nI u12), .int (nI u13), .ref a14, .ref a15, .ref a16, .ref a17, .int f18, .int f19, .ref a20, .ref a21, .int (nI u22), .ref a23, .ref a24, .ref a25, .int (nI u26), .int f27, .ref a28, .int (nI u29)])), (a0, .inl (κ 0, 21375, .inl w)), (a5, .inl (κ 0, 800, .inl tp))] H := hP
  have hD : va_D A [(a14, .inl (κ 0, 189, .inl fd_2)), (a15, .inl (κ 0, 9, .inl fa_1)), (m0, .inr (12, [.ref a0, .ref a1, .ref a2, .int (nI u3), .int f4, .ref a5, .int (nI u6), .int f7, .int f8, .int f9, .int f10, .int (nI n_3), .int (nI u12), .int (nI u13), .ref a14, .ref a15, .ref a16, .ref a17, .int f18, .int f19, .ref a20, .ref a21, .int (nI u22), .ref a23, .ref a24, .ref a25, .int (nI u26), .int f27, .ref a28, .int (nI u29)])), (a0, .inl (κ 0, 21375, .inl w)), (a5, .inl (κ 0, 800, .inl tp))] := hD
  have hp_4 : u11 ≤ n_3 ∧ n_3 ≤ u6 := hp_4
  obtain ⟨hb1, hb2⟩ := hp_4
  refine W.eq (g2 := F0 m 24 ls []) rfl ?_
  refine lv_aload_n hx hb dX12_reads_24 rfl (lv_at hl 0 rfl) ?_
  refine va_get (D := D) (ci := 12) (v := .int (nI n_3)) (C := RX12) (T := TX12) (N := 30) hx hb hts inlX12 hown hK hP 2 rfl rfl 11 (by decide) (hts _ mw_423) (fun _ h9 => h9) rfl dX12_reads_25 ?_
  refine lv_aload_n hx hb dX12_reads_28 rfl (lv_at hl 0 rfl) ?_
  refine va_get (D := D) (ci := 12) (v := .int (nI u6)) (C := RX12) (T := TX12) (N := 30) hx hb hts inlX12 hown hK hP 2 rfl rfl 6 (by decide) (hts _ mw_236) (fun _ h9 => h9) rfl dX12_reads_29 ?_
  refine lv_icmp_ge (tgt := 63) hx hb dX12_reads_32 (by decide) (fun c_5 => ?_) (fun c_5 => ?_)
  · have nc_5 := cv_le (a := u6) (b := n_3) (by omega) (by omega) c_5
    refine lv_aload_n hx hb dX12_reads_63 rfl (lv_at hl 0 rfl) ?_
    refine lv_iload_n hx hb dX12_reads_64 rfl (lv_at hl 1 rfl) ?_
    refine ct_V (wr := [(a15, .inl (κ 0, 9, .inl fa_1))]) (As := [.int (nI a)]) (rest := []) hFX hKK hP hD hS hA (s_X12_plain l D κ m0 a0 a1 a2 u3 f4 a5 u6 f7 f8 f9 f10 n_3 u12 u13 a14 a15 a16 a17 f18 f19 a20 a21 u22 a23 a24 a25 u26 f27 a28 u29 w tp fd_2 a (by omega) (by omega) (by assumption) (by assumption) (by omega)) 1 gV_X12_226 hdV_X12_plain ⟨Nat.le_of_ble_eq_true rfl, Nat.le_of_ble_eq_true rfl⟩ rfl rfl (Nat.le_of_ble_eq_true rfl) dX12_reads_65 ⟨Nat.le_of_ble_eq_true rfl, Nat.le_of_ble_eq_true rfl⟩ hl.1 [2, 3, 4, 0] [1] rfl rfl (by decide) (by decide) (by decide) 2 12 rfl rfl rfl trivial (fun u_12 H locs hp_13 _ hP hD hS hz_ hk_ => ?_)
    obtain ⟨r_6, n_7, g7_8, g8_9, g9_10, g_11⟩ := u_12
    have hP : va_P D vwCl [(a15, .inl (κ 0, 9, .inl fa_1)), (m0, .inr (12, [.ref a0, .ref a1, .ref a2, .int (nI u3), .int f4, .ref a5, .int (nI u6), .int g7_8, .int g8_9, .int g9_10, .int f10, .int (nI n_7), .int (nI u12), .int (nI u13), .ref a14, .ref a15, .ref a16, .ref a17, .int f18, .int f19, .ref a20, .ref a21, .int (nI u22), .ref a23, .ref a24, .ref a25, .int (nI u26), .int f27, .ref a28, .int (nI u29)])), (a0, .inl (κ 0, 21375, .inl w)), (a5, .inl (κ 0, 800, .inl tp)), (a14, .inl (κ 0, 189, .inl g_11))] H := hP
    have hD : va_D A [(a15, .inl (κ 0, 9, .inl fa_1)), (m0, .inr (12, [.ref a0, .ref a1, .ref a2, .int (nI u3), .int f4, .ref a5, .int (nI u6), .int g7_8, .int g8_9, .int g9_10, .int f10, .int (nI n_7), .int (nI u12), .int (nI u13), .ref a14, .ref a15, .ref a16, .ref a17, .int f18, .int f19, .ref a20, .ref a21, .int (nI u22), .ref a23, .ref a24, .ref a25, .int (nI u26), .int f27, .ref a28, .int (nI u29)])), (a0, .inl (κ 0, 21375, .inl w)), (a5, .inl (κ 0, 800, .inl tp)), (a14, .inl (κ 0, 189, .inl g_11))] := hD
    have hp_13 : (r_6 = 1 ∨ r_6 = 0) ∧ n_3 ≤ n_7 ∧ n_7 ≤ u6 ∧ PF g8_9 ∧ Pfd g_11 := hp_13
    obtain ⟨hbs, hb1, hb2, hpf, hfd⟩ := hp_13
    rcases hbs with rfl | rfl
    · refine W.eq (g2 := F0 m 68 ls [.int 1]) rfl ?_
      exact ct_iret hx hb hr hlk rfl hS hP hD (1, n_7, g7_8, g8_9, g9_10, g_11, fa_1) rfl ⟨(by first | exact Or.inl rfl | exact Or.inr rfl), by omega, by omega, (by first | assumption | exact PF_n (by omega)), by assumption, by assumption⟩ [1, 2, 3, 4, 0] rfl (by decide) trivial (Nat.le_of_ble_eq_true rfl) (Nat.le_of_ble_eq_true rfl) dX12_reads_68
    · refine W.eq (g2 := F0 m 68 ls [.int 0]) rfl ?_
      exact ct_iret hx hb hr hlk rfl hS hP hD (0, n_7, g7_8, g8_9, g9_10, g_11, fa_1) rfl ⟨(by first | exact Or.inl rfl | exact Or.inr rfl), by omega, by omega, (by first | assumption | exact PF_n (by omega)), by assumption, by assumption⟩ [1, 2, 3, 4, 0] rfl (by decide) trivial (Nat.le_of_ble_eq_true rfl) (Nat.le_of_ble_eq_true rfl) dX12_reads_68
  · have nc_5 := cv_nle (a := u6) (b := n_3) (by omega) (by omega) c_5
    refine lv_aload_n hx hb dX12_reads_35 rfl (lv_at hl 0 rfl) ?_
    refine va_get (D := D) (ci := 12) (v := .ref a5) (C := RX12) (T := TX12) (N := 30) hx hb hts inlX12 hown hK hP 2 rfl rfl 5 (by decide) (hts _ mw_191) (fun _ h9 => h9) rfl dX12_reads_36 ?_
    refine lv_aload_n hx hb dX12_reads_39 rfl (lv_at hl 0 rfl) ?_
    refine va_get (D := D) (ci := 12) (v := .int (nI n_3)) (C := RX12) (T := TX12) (N := 30) hx hb hts inlX12 hown hK hP 2 rfl rfl 11 (by decide) (hts _ mw_423) (fun _ h9 => h9) rfl dX12_reads_40 ?_
    refine va_iald hx hb hK hP 4 0 rfl rfl (i := nI n_3) (vp_in_nI (n := n_3) (by omega) (by omega)) dX12_reads_43 ?_
    refine kv (v := .int (tp n_3)) (by rw [nI_clamp (by omega)]) ?_
    refine lv_topi (fun x_14 ex_14 => ?_)
    refine lv_aload_n hx hb dX12_reads_44 rfl (lv_at hl 0 rfl) ?_
    refine va_get (D := D) (ci := 12) (v := .ref a0) (C := RX12) (T := TX12) (N := 30) hx hb hts inlX12 hown hK hP 2 rfl rfl 0 (by decide) (hts _ mw_187) (fun _ h9 => h9) rfl dX12_reads_45 ?_
    refine lv_sipush (v := 21370) hx hb dX12_reads_48 (by decide) ?_
    refine va_iald hx hb hK hP 3 0 rfl rfl (i := 21370) (vp_k (by decide)) dX12_reads_51 ?_
    refine lv_topi (fun x_15 ex_15 => ?_)
    refine lv_icmp_ne (tgt := 63) hx hb dX12_reads_52 (by decide) (fun c_16 => ?_) (fun c_16 => ?_)
    · refine lv_aload_n hx hb dX12_reads_63 rfl (lv_at hl 0 rfl) ?_
      refine lv_iload_n hx hb dX12_reads_64 rfl (lv_at hl 1 rfl) ?_
      refine ct_V (wr := [(a15, .inl (κ 0, 9, .inl fa_1))]) (As := [.int (nI a)]) (rest := []) hFX hKK hP hD hS hA (s_X12_plain l D κ m0 a0 a1 a2 u3 f4 a5 u6 f7 f8 f9 f10 n_3 u12 u13 a14 a15 a16 a17 f18 f19 a20 a21 u22 a23 a24 a25 u26 f27 a28 u29 w tp fd_2 a (by omega) (by omega) (by assumption) (by assumption) (by omega)) 1 gV_X12_226 hdV_X12_plain ⟨Nat.le_of_ble_eq_true rfl, Nat.le_of_ble_eq_true rfl⟩ rfl rfl (Nat.le_of_ble_eq_true rfl) dX12_reads_65 ⟨Nat.le_of_ble_eq_true rfl, Nat.le_of_ble_eq_true rfl⟩ hl.1 [2, 3, 4, 0] [1] rfl rfl (by decide) (by decide) (by decide) 2 12 rfl rfl rfl trivial (fun u_23 H locs hp_24 _ hP hD hS hz_ hk_ => ?_)
      obtain ⟨r_17, n_18, g7_19, g8_20, g9_21, g_22⟩ := u_23
      have hP : va_P D vwCl [(a15, .inl (κ 0, 9, .inl fa_1)), (m0, .inr (12, [.ref a0, .ref a1, .ref a2, .int (nI u3), .int f4, .ref a5, .int (nI u6), .int g7_19, .int g8_20, .int g9_21, .int f10, .int (nI n_18), .int (nI u12), .int (nI u13), .ref a14, .ref a15, .ref a16, .ref a17, .int f18, .int f19, .ref a20, .ref a21, .int (nI u22), .ref a23, .ref a24, .ref a25, .int (nI u26), .int f27, .ref a28, .int (nI u29)])), (a0, .inl (κ 0, 21375, .inl w)), (a5, .inl (κ 0, 800, .inl tp)), (a14, .inl (κ 0, 189, .inl g_22))] H := hP
      have hD : va_D A [(a15, .inl (κ 0, 9, .inl fa_1)), (m0, .inr (12, [.ref a0, .ref a1, .ref a2, .int (nI u3), .int f4, .ref a5, .int (nI u6), .int g7_19, .int g8_20, .int g9_21, .int f10, .int (nI n_18), .int (nI u12), .int (nI u13), .ref a14, .ref a15, .ref a16, .ref a17, .int f18, .int f19, .ref a20, .ref a21, .int (nI u22), .ref a23, .ref a24, .ref a25, .int (nI u26), .int f27, .ref a28, .int (nI u29)])), (a0, .inl (κ 0, 21375, .inl w)), (a5, .inl (κ 0, 800, .inl tp)), (a14, .inl (κ 0, 189, .inl g_22))] := hD
      have hp_24 : (r_17 = 1 ∨ r_17 = 0) ∧ n_3 ≤ n_18 ∧ n_18 ≤ u6 ∧ PF g8_20 ∧ Pfd g_22 := hp_24
      obtain ⟨hbs, hb1, hb2, hpf, hfd⟩ := hp_24
      rcases hbs with rfl | rfl
      · refine W.eq (g2 := F0 m 68 ls [.int 1]) rfl ?_
        exact ct_iret hx hb hr hlk rfl hS hP hD (1, n_18, g7_19, g8_20, g9_21, g_22, fa_1) rfl ⟨(by first | exact Or.inl rfl | exact Or.inr rfl), by omega, by omega, (by first | assumption | exact PF_n (by omega)), by assumption, by assumption⟩ [1, 2, 3, 4, 0] rfl (by decide) trivial (Nat.le_of_ble_eq_true rfl) (Nat.le_of_ble_eq_true rfl) dX12_reads_68
      · refine W.eq (g2 := F0 m 68 ls [.int 0]) rfl ?_
        exact ct_iret hx hb hr hlk rfl hS hP hD (0, n_18, g7_19, g8_20, g9_21, g_22, fa_1) rfl ⟨(by first | exact Or.inl rfl | exact Or.inr rfl), by omega, by omega, (by first | assumption | exact PF_n (by omega)), by assumption, by assumption⟩ [1, 2, 3, 4, 0] rfl (by decide) trivial (Nat.le_of_ble_eq_true rfl) (Nat.le_of_ble_eq_true rfl) dX12_reads_68
    · refine lv_aload_n hx hb dX12_reads_55 rfl (lv_at hl 0 rfl) ?_
      refine lv_iload_n hx hb dX12_reads_56 rfl (lv_at hl 1 rfl) ?_
      refine ct_V (wr := [(a15, .inl (κ 0, 9, .inl fa_1))]) (As := [.int (nI a)]) (rest := []) hFX hKK hP hD hS hA (s_X12_quoted l D κ m0 a0 a1 a2 u3 f4 a5 u6 f7 f8 f9 f10 n_3 u12 u13 a14 a15 a16 a17 f18 f19 a20 a21 u22 a23 a24 a25 u26 f27 a28 u29 w tp fd_2 a (by omega) (by omega) (by assumption) (by assumption) (by omega)) 1 gV_X12_223 hdV_X12_quoted ⟨Nat.le_of_ble_eq_true rfl, Nat.le_of_ble_eq_true rfl⟩ rfl rfl (Nat.le_of_ble_eq_true rfl) dX12_reads_57 ⟨Nat.le_of_ble_eq_true rfl, Nat.le_of_ble_eq_true rfl⟩ hl.1 [2, 3, 4, 0] [1] rfl rfl (by decide) (by decide) (by decide) 2 12 rfl rfl rfl trivial (fun u_31 H locs hp_32 _ hP hD hS hz_ hk_ => ?_)
      obtain ⟨r_25, n_26, g7_27, g8_28, g9_29, g_30⟩ := u_31
      have hP : va_P D vwCl [(a15, .inl (κ 0, 9, .inl fa_1)), (m0, .inr (12, [.ref a0, .ref a1, .ref a2, .int (nI u3), .int f4, .ref a5, .int (nI u6), .int g7_27, .int g8_28, .int g9_29, .int f10, .int (nI n_26), .int (nI u12), .int (nI u13), .ref a14, .ref a15, .ref a16, .ref a17, .int f18, .int f19, .ref a20, .ref a21, .int (nI u22), .ref a23, .ref a24, .ref a25, .int (nI u26), .int f27, .ref a28, .int (nI u29)])), (a0, .inl (κ 0, 21375, .inl w)), (a5, .inl (κ 0, 800, .inl tp)), (a14, .inl (κ 0, 189, .inl g_30))] H := hP
      have hD : va_D A [(a15, .inl (κ 0, 9, .inl fa_1)), (m0, .inr (12, [.ref a0, .ref a1, .ref a2, .int (nI u3), .int f4, .ref a5, .int (nI u6), .int g7_27, .int g8_28, .int g9_29, .int f10, .int (nI n_26), .int (nI u12), .int (nI u13), .ref a14, .ref a15, .ref a16, .ref a17, .int f18, .int f19, .ref a20, .ref a21, .int (nI u22), .ref a23, .ref a24, .ref a25, .int (nI u26), .int f27, .ref a28, .int (nI u29)])), (a0, .inl (κ 0, 21375, .inl w)), (a5, .inl (κ 0, 800, .inl tp)), (a14, .inl (κ 0, 189, .inl g_30))] := hD
      have hp_32 : (r_25 = 1 ∨ r_25 = 0) ∧ n_3 ≤ n_26 ∧ n_26 ≤ u6 ∧ PF g8_28 ∧ Pfd g_30 := hp_32
      obtain ⟨hbs, hb1, hb2, hpf, hfd⟩ := hp_32
      rcases hbs with rfl | rfl
      · refine W.eq (g2 := F0 m 60 ls [.int 1]) rfl ?_
        refine lv_goto (tgt := 68) hx hb dX12_reads_60 (by decide) ?_
        exact ct_iret hx hb hr hlk rfl hS hP hD (1, n_26, g7_27, g8_28, g9_29, g_30, fa_1) rfl ⟨(by first | exact Or.inl rfl | exact Or.inr rfl), by omega, by omega, (by first | assumption | exact PF_n (by omega)), by assumption, by assumption⟩ [1, 2, 3, 4, 0] rfl (by decide) trivial (Nat.le_of_ble_eq_true rfl) (Nat.le_of_ble_eq_true rfl) dX12_reads_68
      · refine W.eq (g2 := F0 m 60 ls [.int 0]) rfl ?_
        refine lv_goto (tgt := 68) hx hb dX12_reads_60 (by decide) ?_
        exact ct_iret hx hb hr hlk rfl hS hP hD (0, n_26, g7_27, g8_28, g9_29, g_30, fa_1) rfl ⟨(by first | exact Or.inl rfl | exact Or.inr rfl), by omega, by omega, (by first | assumption | exact PF_n (by omega)), by assumption, by assumption⟩ [1, 2, 3, 4, 0] rfl (by decide) trivial (Nat.le_of_ble_eq_true rfl) (Nat.le_of_ble_eq_true rfl) dX12_reads_68
