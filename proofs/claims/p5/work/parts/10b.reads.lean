def lim (p B : Nat) : Prop := ∃ t, t < 3 ∧ ((p = 7123 * t + 1 ∧ B = 8) ∨ (p = 7123 * t + 2 ∧ B = 40) ∨ (p = 7123 * t + 3 ∧ B = 6) ∨ (∃ c, c < 8 ∧ p = 7123 * t + 4 + 13 * c ∧ B = 12) ∨ (∃ c, c < 8 ∧ p = 7123 * t + 108 + c ∧ B = 5) ∨ (∃ k, k < 7 ∧ p = 7123 * t + 116 + k ∧ B = 40) ∨ (∃ i, i < 280 ∧ p = 7123 * t + 123 + i ∧ B = 39) ∨ (∃ i, i < 320 ∧ p = 7123 * t + 403 + 21 * i ∧ B = 20))
/-- the numbers in the reference's one row that say how many of something there are lie in their bounds -/
def Pw (w : Nat → Int32) : Prop := ∀ p B : Nat, lim p B → ∃ n9 : Nat, n9 ≤ B ∧ w p = nI n9
theorem pN {w : Nat → Int32} {p t : Nat} (hw : Pw w) (ht : t < 3) (hp : p = 7123 * t + 1) : ∃ n9 : Nat, n9 ≤ 8 ∧ w p = nI n9 := hw _ _ ⟨t, ht, Or.inl ⟨hp, rfl⟩⟩
theorem pMANY {w : Nat → Int32} {p t : Nat} (hw : Pw w) (ht : t < 3) (hp : p = 7123 * t + 2) : ∃ n9 : Nat, n9 ≤ 40 ∧ w p = nI n9 := hw _ _ ⟨t, ht, Or.inr (Or.inl ⟨hp, rfl⟩)⟩
theorem pTOP {w : Nat → Int32} {p t : Nat} (hw : Pw w) (ht : t < 3) (hp : p = 7123 * t + 3) : ∃ n9 : Nat, n9 ≤ 6 ∧ w p = nI n9 := hw _ _ ⟨t, ht, Or.inr (Or.inr (Or.inl ⟨hp, rfl⟩))⟩
theorem pNAME {w : Nat → Int32} {p t c : Nat} (hw : Pw w) (ht : t < 3) (hc : c < 8) (hp : p = 7123 * t + 4 + 13 * c) : ∃ n9 : Nat, n9 ≤ 12 ∧ w p = nI n9 := hw _ _ ⟨t, ht, Or.inr (Or.inr (Or.inr (Or.inl ⟨c, hc, hp, rfl⟩)))⟩
theorem pTOLD {w : Nat → Int32} {p t c : Nat} (hw : Pw w) (ht : t < 3) (hc : c < 8) (hp : p = 7123 * t + 108 + c) : ∃ n9 : Nat, n9 ≤ 5 ∧ w p = nI n9 := hw _ _ ⟨t, ht, Or.inr (Or.inr (Or.inr (Or.inr (Or.inl ⟨c, hc, hp, rfl⟩))))⟩
theorem pVM {w : Nat → Int32} {p t k : Nat} (hw : Pw w) (ht : t < 3) (hk : k < 7) (hp : p = 7123 * t + 116 + k) : ∃ n9 : Nat, n9 ≤ 40 ∧ w p = nI n9 := hw _ _ ⟨t, ht, Or.inr (Or.inr (Or.inr (Or.inr (Or.inr (Or.inl ⟨k, hk, hp, rfl⟩)))))⟩
theorem pVIEW {w : Nat → Int32} {p t i : Nat} (hw : Pw w) (ht : t < 3) (hi : i < 280) (hp : p = 7123 * t + 123 + i) : ∃ n9 : Nat, n9 ≤ 39 ∧ w p = nI n9 := hw _ _ ⟨t, ht, Or.inr (Or.inr (Or.inr (Or.inr (Or.inr (Or.inr (Or.inl ⟨i, hi, hp, rfl⟩))))))⟩
theorem pCELL {w : Nat → Int32} {p t i : Nat} (hw : Pw w) (ht : t < 3) (hi : i < 320) (hp : p = 7123 * t + 403 + 21 * i) : ∃ n9 : Nat, n9 ≤ 20 ∧ w p = nI n9 := hw _ _ ⟨t, ht, Or.inr (Or.inr (Or.inr (Or.inr (Or.inr (Or.inr (Or.inr ⟨i, hi, hp, rfl⟩))))))⟩
theorem tbl_j {x : Int32} (h1 : ¬ lg_cmp x.toInt64 0 < 0) (h2 : ¬ 0 < lg_cmp x.toInt64 2) : ∃ j : Nat, j < 3 ∧ x = nI j := by
  obtain ⟨h3, h4⟩ := in_of (lo := 0) (hi := 2) (a := 0) (b := 2) (by decide) (by decide) h1 h2
  obtain ⟨j, hj, e, -⟩ := i_in (x := x) (n := 2) (by omega) (by omega)
  exact ⟨j, by omega, e⟩
theorem in_cnt {x y : Int32} {n : Nat} (hn : n ≤ 40) (hy : y = nI n - 1) (h1 : ¬ lg_cmp x.toInt64 0 < 0) (h2 : ¬ 0 < lg_cmp x.toInt64 y.toInt64) : ∃ c : Nat, c < n ∧ x = nI c := by
  have e1 : y.toInt = (n : Int) - 1 := by
    rw [hy]
    exact pk_sub_toInt (a := n) (b := 1) (by omega) (by omega)
  obtain ⟨h3, h4⟩ := in_of (lo := 0) (hi := y.toInt64) (a := 0) (b := (n : Int) - 1) (by decide) (by rw [Int32.toInt_toInt64]; exact e1) h1 h2
  obtain ⟨j, hj, e, -⟩ := i_in (x := x) (n := n) (by omega) (by omega)
  have h5 : x.toInt = j := by rw [e]; exact nI_toInt (by omega)
  exact ⟨j, by omega, e⟩
theorem in_col8 {x y : Int32} {n : Nat} (hn : n ≤ 8) (hy : y = nI n - 1) (h1 : ¬ lg_cmp x.toInt64 0 < 0) (h2 : ¬ 0 < lg_cmp x.toInt64 y.toInt64) : ∃ c : Nat, c < 8 ∧ x = nI c := by
  obtain ⟨c, hc, e⟩ := in_cnt (by omega) hy h1 h2
  exact ⟨c, by omega, e⟩
theorem in_row40 {x y : Int32} {n : Nat} (hn : n ≤ 40) (hy : y = nI n - 1) (h1 : ¬ lg_cmp x.toInt64 0 < 0) (h2 : ¬ 0 < lg_cmp x.toInt64 y.toInt64) : ∃ c : Nat, c < 40 ∧ x = nI c := by
  obtain ⟨c, hc, e⟩ := in_cnt hn hy h1 h2
  exact ⟨c, by omega, e⟩
theorem mw_623 : Cond.code yX12_isTable cX12_isTable 2 (some .boolean) ∈ wsL_law := lrk_26 _ (List.mem_of_getElem? (i := 23) rfl)
theorem dX12_isTable_0 : decode cX12_isTable 0 = .ok (.iload_n 1, 1) := by decide +kernel
theorem dX12_isTable_1 : decode cX12_isTable 1 = .ok (.i2l, 1) := by decide +kernel
theorem dX12_isTable_2 : decode cX12_isTable 2 = .ok (.lconst 0, 1) := by decide +kernel
theorem dX12_isTable_3 : decode cX12_isTable 3 = .ok (.ldc2_w 60, 3) := by decide +kernel
theorem dX12_isTable_6 : decode cX12_isTable 6 = .ok (.invokestatic 62, 3) := by decide +kernel
theorem dX12_isTable_9 : decode cX12_isTable 9 = .ok (.ifCond .eq 21, 3) := by decide +kernel
theorem dX12_isTable_12 : decode cX12_isTable 12 = .ok (.aload_n 0, 1) := by decide +kernel
theorem dX12_isTable_13 : decode cX12_isTable 13 = .ok (.getfield 9, 3) := by decide +kernel
theorem mw_187 : Cond.fieldLink RX12 9 "TypedTablesModel" "w" "[I" ∈ wsL_law := lrk_8 _ (List.mem_of_getElem? (i := 19) rfl)
theorem dX12_isTable_16 : decode cX12_isTable 16 = .ok (.iload_n 1, 1) := by decide +kernel
theorem dX12_isTable_17 : decode cX12_isTable 17 = .ok (.iconst 0, 1) := by decide +kernel
theorem dX12_isTable_18 : decode cX12_isTable 18 = .ok (.invokestatic 66, 3) := by decide +kernel
theorem mw_534 : Cond.methodLink RX12 66 yX12_at ∈ wsL_law := lrk_23 _ (List.mem_of_getElem? (i := 6) rfl)
theorem mw_535 : Cond.static yX12_at ∈ wsL_law := lrk_23 _ (List.mem_of_getElem? (i := 7) rfl)
theorem gS_X12_66 : GoodIn wsL_law (va_wsS RX12 66 yX12_at (wl yX12_at cX12_at 2 (some .int))) := g_S mw_534 mw_535 mw_5 mw_536
theorem hdS_X12_at : okD yX12_at 2 := by decide +kernel
theorem dX12_isTable_21 : decode cX12_isTable 21 = .ok (.iaload, 1) := by decide +kernel
theorem dX12_isTable_22 : decode cX12_isTable 22 = .ok (.iconst 1, 1) := by decide +kernel
theorem dX12_isTable_23 : decode cX12_isTable 23 = .ok (.if_icmp .ne 7, 3) := by decide +kernel
theorem dX12_isTable_30 : decode cX12_isTable 30 = .ok (.iconst 0, 1) := by decide +kernel
theorem dX12_isTable_31 : decode cX12_isTable 31 = .ok (.ireturn, 1) := by decide +kernel
theorem dX12_isTable_26 : decode cX12_isTable 26 = .ok (.iconst 1, 1) := by decide +kernel
theorem dX12_isTable_27 : decode cX12_isTable 27 = .ok (.goto 4, 3) := by decide +kernel
theorem mw_627 : Cond.code yX12_isColumn cX12_isColumn 3 (some .boolean) ∈ wsL_law := lrk_27 _ (List.mem_of_getElem? (i := 3) rfl)
theorem dX12_isColumn_0 : decode cX12_isColumn 0 = .ok (.aload_n 0, 1) := by decide +kernel
theorem dX12_isColumn_1 : decode cX12_isColumn 1 = .ok (.iload_n 1, 1) := by decide +kernel
theorem dX12_isColumn_2 : decode cX12_isColumn 2 = .ok (.invokevirtual 70, 3) := by decide +kernel
theorem mw_620 : Cond.methodLink RX12 70 yX12_isTable ∈ wsL_law := lrk_26 _ (List.mem_of_getElem? (i := 20) rfl)
theorem mw_621 : Cond.instanceMethod yX12_isTable ∈ wsL_law := lrk_26 _ (List.mem_of_getElem? (i := 21) rfl)
theorem mw_622 : Cond.selects RX12 yX12_isTable yX12_isTable ∈ wsL_law := lrk_26 _ (List.mem_of_getElem? (i := 22) rfl)
theorem gV_X12_70 : GoodIn wsL_law (wsV RX12 70 RX12 yX12_isTable (wl yX12_isTable cX12_isTable 2 (some .boolean))) := g_V mw_620 mw_621 mw_622 mw_5 mw_623
theorem hdV_X12_isTable : yX12_isTable.cls = RX12 ∧ okD yX12_isTable 1 := by decide +kernel
theorem dX12_isColumn_5 : decode cX12_isColumn 5 = .ok (.ifCond .eq 29, 3) := by decide +kernel
theorem dX12_isColumn_8 : decode cX12_isColumn 8 = .ok (.iload_n 2, 1) := by decide +kernel
theorem dX12_isColumn_9 : decode cX12_isColumn 9 = .ok (.i2l, 1) := by decide +kernel
theorem dX12_isColumn_10 : decode cX12_isColumn 10 = .ok (.lconst 0, 1) := by decide +kernel
theorem dX12_isColumn_11 : decode cX12_isColumn 11 = .ok (.aload_n 0, 1) := by decide +kernel
theorem dX12_isColumn_12 : decode cX12_isColumn 12 = .ok (.getfield 9, 3) := by decide +kernel
theorem dX12_isColumn_15 : decode cX12_isColumn 15 = .ok (.iload_n 1, 1) := by decide +kernel
theorem dX12_isColumn_16 : decode cX12_isColumn 16 = .ok (.iconst 1, 1) := by decide +kernel
theorem dX12_isColumn_17 : decode cX12_isColumn 17 = .ok (.invokestatic 66, 3) := by decide +kernel
theorem dX12_isColumn_20 : decode cX12_isColumn 20 = .ok (.iaload, 1) := by decide +kernel
theorem dX12_isColumn_21 : decode cX12_isColumn 21 = .ok (.iconst 1, 1) := by decide +kernel
theorem dX12_isColumn_22 : decode cX12_isColumn 22 = .ok (.isub, 1) := by decide +kernel
theorem dX12_isColumn_23 : decode cX12_isColumn 23 = .ok (.i2l, 1) := by decide +kernel
theorem dX12_isColumn_24 : decode cX12_isColumn 24 = .ok (.invokestatic 62, 3) := by decide +kernel
theorem dX12_isColumn_27 : decode cX12_isColumn 27 = .ok (.ifCond .eq 7, 3) := by decide +kernel
theorem dX12_isColumn_30 : decode cX12_isColumn 30 = .ok (.iconst 1, 1) := by decide +kernel
theorem dX12_isColumn_31 : decode cX12_isColumn 31 = .ok (.goto 4, 3) := by decide +kernel
theorem dX12_isColumn_35 : decode cX12_isColumn 35 = .ok (.ireturn, 1) := by decide +kernel
theorem dX12_isColumn_34 : decode cX12_isColumn 34 = .ok (.iconst 0, 1) := by decide +kernel
theorem mw_619 : Cond.code yX12_isRow cX12_isRow 3 (some .boolean) ∈ wsL_law := lrk_26 _ (List.mem_of_getElem? (i := 19) rfl)
theorem dX12_isRow_0 : decode cX12_isRow 0 = .ok (.aload_n 0, 1) := by decide +kernel
theorem dX12_isRow_1 : decode cX12_isRow 1 = .ok (.iload_n 1, 1) := by decide +kernel
theorem dX12_isRow_2 : decode cX12_isRow 2 = .ok (.invokevirtual 70, 3) := by decide +kernel
theorem dX12_isRow_5 : decode cX12_isRow 5 = .ok (.ifCond .eq 29, 3) := by decide +kernel
theorem dX12_isRow_8 : decode cX12_isRow 8 = .ok (.iload_n 2, 1) := by decide +kernel
theorem dX12_isRow_9 : decode cX12_isRow 9 = .ok (.i2l, 1) := by decide +kernel
theorem dX12_isRow_10 : decode cX12_isRow 10 = .ok (.lconst 0, 1) := by decide +kernel
theorem dX12_isRow_11 : decode cX12_isRow 11 = .ok (.aload_n 0, 1) := by decide +kernel
theorem dX12_isRow_12 : decode cX12_isRow 12 = .ok (.getfield 9, 3) := by decide +kernel
theorem dX12_isRow_15 : decode cX12_isRow 15 = .ok (.iload_n 1, 1) := by decide +kernel
theorem dX12_isRow_16 : decode cX12_isRow 16 = .ok (.iconst 2, 1) := by decide +kernel
theorem dX12_isRow_17 : decode cX12_isRow 17 = .ok (.invokestatic 66, 3) := by decide +kernel
theorem dX12_isRow_20 : decode cX12_isRow 20 = .ok (.iaload, 1) := by decide +kernel
theorem dX12_isRow_21 : decode cX12_isRow 21 = .ok (.iconst 1, 1) := by decide +kernel
theorem dX12_isRow_22 : decode cX12_isRow 22 = .ok (.isub, 1) := by decide +kernel
theorem dX12_isRow_23 : decode cX12_isRow 23 = .ok (.i2l, 1) := by decide +kernel
theorem dX12_isRow_24 : decode cX12_isRow 24 = .ok (.invokestatic 62, 3) := by decide +kernel
theorem dX12_isRow_27 : decode cX12_isRow 27 = .ok (.ifCond .eq 7, 3) := by decide +kernel
theorem dX12_isRow_30 : decode cX12_isRow 30 = .ok (.iconst 1, 1) := by decide +kernel
theorem dX12_isRow_31 : decode cX12_isRow 31 = .ok (.goto 4, 3) := by decide +kernel
theorem dX12_isRow_35 : decode cX12_isRow 35 = .ok (.ireturn, 1) := by decide +kernel
theorem dX12_isRow_34 : decode cX12_isRow 34 = .ok (.iconst 0, 1) := by decide +kernel
theorem mw_780 : Cond.code yX12_ownOf cX12_ownOf 4 (some .int) ∈ wsL_law := lrk_33 _ (List.mem_of_getElem? (i := 12) rfl)
theorem dX12_ownOf_0 : decode cX12_ownOf 0 = .ok (.aload_n 0, 1) := by decide +kernel
theorem dX12_ownOf_1 : decode cX12_ownOf 1 = .ok (.getfield 9, 3) := by decide +kernel
theorem dX12_ownOf_4 : decode cX12_ownOf 4 = .ok (.iload_n 1, 1) := by decide +kernel
theorem dX12_ownOf_5 : decode cX12_ownOf 5 = .ok (.iload_n 2, 1) := by decide +kernel
theorem dX12_ownOf_6 : decode cX12_ownOf 6 = .ok (.iload_n 3, 1) := by decide +kernel
theorem dX12_ownOf_7 : decode cX12_ownOf 7 = .ok (.invokestatic 167, 3) := by decide +kernel
theorem mw_670 : Cond.methodLink RX12 167 yX12_cellAt ∈ wsL_law := lrk_28 _ (List.mem_of_getElem? (i := 22) rfl)
theorem mw_671 : Cond.static yX12_cellAt ∈ wsL_law := lrk_28 _ (List.mem_of_getElem? (i := 23) rfl)
theorem gS_X12_167 : GoodIn wsL_law (va_wsS RX12 167 yX12_cellAt (wl yX12_cellAt cX12_cellAt 3 (some .int))) := g_S mw_670 mw_671 mw_5 mw_672
theorem hdS_X12_cellAt : okD yX12_cellAt 3 := by decide +kernel
theorem dX12_ownOf_10 : decode cX12_ownOf 10 = .ok (.invokestatic 171, 3) := by decide +kernel
theorem mw_636 : Cond.methodLink RX12 171 yX12_typeOf ∈ wsL_law := lrk_27 _ (List.mem_of_getElem? (i := 12) rfl)
theorem mw_637 : Cond.static yX12_typeOf ∈ wsL_law := lrk_27 _ (List.mem_of_getElem? (i := 13) rfl)
theorem gS_X12_171 : GoodIn wsL_law (va_wsS RX12 171 yX12_typeOf (wl yX12_typeOf cX12_typeOf 7 (some .int))) := g_S mw_636 mw_637 mw_5 mw_638
theorem hdS_X12_typeOf : okD yX12_typeOf 2 := by decide +kernel
theorem dX12_ownOf_13 : decode cX12_ownOf 13 = .ok (.ireturn, 1) := by decide +kernel
theorem mw_917 : Cond.code yX12_guessOf cX12_guessOf 5 (some .int) ∈ wsL_law := lrk_39 _ (List.mem_of_getElem? (i := 5) rfl)
theorem dX12_guessOf_0 : decode cX12_guessOf 0 = .ok (.iconst 0, 1) := by decide +kernel
theorem dX12_guessOf_1 : decode cX12_guessOf 1 = .ok (.istore_n 3, 1) := by decide +kernel
theorem dX12_guessOf_2 : decode cX12_guessOf 2 = .ok (.iconst 0, 1) := by decide +kernel
theorem dX12_guessOf_3 : decode cX12_guessOf 3 = .ok (.istore 4, 2) := by decide +kernel
theorem dX12_guessOf_5 : decode cX12_guessOf 5 = .ok (.iload 4, 2) := by decide +kernel
theorem dX12_guessOf_7 : decode cX12_guessOf 7 = .ok (.aload_n 0, 1) := by decide +kernel
theorem dX12_guessOf_8 : decode cX12_guessOf 8 = .ok (.getfield 9, 3) := by decide +kernel
theorem dX12_guessOf_11 : decode cX12_guessOf 11 = .ok (.iload_n 1, 1) := by decide +kernel
theorem dX12_guessOf_12 : decode cX12_guessOf 12 = .ok (.iconst 2, 1) := by decide +kernel
theorem dX12_guessOf_13 : decode cX12_guessOf 13 = .ok (.invokestatic 66, 3) := by decide +kernel
theorem dX12_guessOf_16 : decode cX12_guessOf 16 = .ok (.iaload, 1) := by decide +kernel
theorem dX12_guessOf_17 : decode cX12_guessOf 17 = .ok (.if_icmp .ge 22, 3) := by decide +kernel
theorem dX12_guessOf_39 : decode cX12_guessOf 39 = .ok (.iload_n 3, 1) := by decide +kernel
theorem dX12_guessOf_40 : decode cX12_guessOf 40 = .ok (.ireturn, 1) := by decide +kernel
theorem dX12_guessOf_20 : decode cX12_guessOf 20 = .ok (.iload_n 3, 1) := by decide +kernel
theorem dX12_guessOf_21 : decode cX12_guessOf 21 = .ok (.aload_n 0, 1) := by decide +kernel
theorem dX12_guessOf_22 : decode cX12_guessOf 22 = .ok (.iload_n 1, 1) := by decide +kernel
theorem dX12_guessOf_23 : decode cX12_guessOf 23 = .ok (.iload 4, 2) := by decide +kernel
theorem dX12_guessOf_25 : decode cX12_guessOf 25 = .ok (.iload_n 2, 1) := by decide +kernel
theorem dX12_guessOf_26 : decode cX12_guessOf 26 = .ok (.invokevirtual 175, 3) := by decide +kernel
theorem mw_777 : Cond.methodLink RX12 175 yX12_ownOf ∈ wsL_law := lrk_33 _ (List.mem_of_getElem? (i := 9) rfl)
theorem mw_778 : Cond.instanceMethod yX12_ownOf ∈ wsL_law := lrk_33 _ (List.mem_of_getElem? (i := 10) rfl)
theorem mw_779 : Cond.selects RX12 yX12_ownOf yX12_ownOf ∈ wsL_law := lrk_33 _ (List.mem_of_getElem? (i := 11) rfl)
theorem gV_X12_175 : GoodIn wsL_law (wsV RX12 175 RX12 yX12_ownOf (wl yX12_ownOf cX12_ownOf 4 (some .int))) := g_V mw_777 mw_778 mw_779 mw_5 mw_780
theorem hdV_X12_ownOf : yX12_ownOf.cls = RX12 ∧ okD yX12_ownOf 3 := by decide +kernel
theorem dX12_guessOf_29 : decode cX12_guessOf 29 = .ok (.invokestatic 137, 3) := by decide +kernel
theorem dX12_guessOf_32 : decode cX12_guessOf 32 = .ok (.istore_n 3, 1) := by decide +kernel
theorem dX12_guessOf_33 : decode cX12_guessOf 33 = .ok (.iinc 4 1, 3) := by decide +kernel
theorem dX12_guessOf_36 : decode cX12_guessOf 36 = .ok (.goto (-31), 3) := by decide +kernel
theorem mw_913 : Cond.code yX12_typeOfColumn cX12_typeOfColumn 4 (some .int) ∈ wsL_law := lrk_39 _ (List.mem_of_getElem? (i := 1) rfl)
theorem dX12_typeOfColumn_0 : decode cX12_typeOfColumn 0 = .ok (.aload_n 0, 1) := by decide +kernel
theorem dX12_typeOfColumn_1 : decode cX12_typeOfColumn 1 = .ok (.getfield 9, 3) := by decide +kernel
theorem dX12_typeOfColumn_4 : decode cX12_typeOfColumn 4 = .ok (.iload_n 1, 1) := by decide +kernel
theorem dX12_typeOfColumn_5 : decode cX12_typeOfColumn 5 = .ok (.bipush 108, 2) := by decide +kernel
theorem dX12_typeOfColumn_7 : decode cX12_typeOfColumn 7 = .ok (.invokestatic 66, 3) := by decide +kernel
theorem dX12_typeOfColumn_10 : decode cX12_typeOfColumn 10 = .ok (.iload_n 2, 1) := by decide +kernel
theorem dX12_typeOfColumn_11 : decode cX12_typeOfColumn 11 = .ok (.iadd, 1) := by decide +kernel
theorem dX12_typeOfColumn_12 : decode cX12_typeOfColumn 12 = .ok (.iaload, 1) := by decide +kernel
theorem dX12_typeOfColumn_13 : decode cX12_typeOfColumn 13 = .ok (.istore_n 3, 1) := by decide +kernel
theorem dX12_typeOfColumn_14 : decode cX12_typeOfColumn 14 = .ok (.iload_n 3, 1) := by decide +kernel
theorem dX12_typeOfColumn_15 : decode cX12_typeOfColumn 15 = .ok (.ifCond .le 7, 3) := by decide +kernel
theorem dX12_typeOfColumn_22 : decode cX12_typeOfColumn 22 = .ok (.aload_n 0, 1) := by decide +kernel
theorem dX12_typeOfColumn_23 : decode cX12_typeOfColumn 23 = .ok (.iload_n 1, 1) := by decide +kernel
theorem dX12_typeOfColumn_24 : decode cX12_typeOfColumn 24 = .ok (.iload_n 2, 1) := by decide +kernel
theorem dX12_typeOfColumn_25 : decode cX12_typeOfColumn 25 = .ok (.invokevirtual 178, 3) := by decide +kernel
theorem mw_914 : Cond.methodLink RX12 178 yX12_guessOf ∈ wsL_law := lrk_39 _ (List.mem_of_getElem? (i := 2) rfl)
theorem mw_915 : Cond.instanceMethod yX12_guessOf ∈ wsL_law := lrk_39 _ (List.mem_of_getElem? (i := 3) rfl)
theorem mw_916 : Cond.selects RX12 yX12_guessOf yX12_guessOf ∈ wsL_law := lrk_39 _ (List.mem_of_getElem? (i := 4) rfl)
theorem gV_X12_178 : GoodIn wsL_law (wsV RX12 178 RX12 yX12_guessOf (wl yX12_guessOf cX12_guessOf 5 (some .int))) := g_V mw_914 mw_915 mw_916 mw_5 mw_917
theorem hdV_X12_guessOf : yX12_guessOf.cls = RX12 ∧ okD yX12_guessOf 2 := by decide +kernel
theorem dX12_typeOfColumn_28 : decode cX12_typeOfColumn 28 = .ok (.ireturn, 1) := by decide +kernel
theorem dX12_typeOfColumn_18 : decode cX12_typeOfColumn 18 = .ok (.iload_n 3, 1) := by decide +kernel
theorem dX12_typeOfColumn_19 : decode cX12_typeOfColumn 19 = .ok (.goto 9, 3) := by decide +kernel
theorem mw_1073 : Cond.code yX12_compareRows cX12_compareRows 5 (some .int) ∈ wsL_law := lrk_45 _ (List.mem_of_getElem? (i := 17) rfl)
theorem dX12_compareRows_0 : decode cX12_compareRows 0 = .ok (.aload_n 0, 1) := by decide +kernel
theorem dX12_compareRows_1 : decode cX12_compareRows 1 = .ok (.getfield 9, 3) := by decide +kernel
theorem dX12_compareRows_4 : decode cX12_compareRows 4 = .ok (.iload_n 1, 1) := by decide +kernel
theorem dX12_compareRows_5 : decode cX12_compareRows 5 = .ok (.iload_n 3, 1) := by decide +kernel
theorem dX12_compareRows_6 : decode cX12_compareRows 6 = .ok (.iload_n 2, 1) := by decide +kernel
theorem dX12_compareRows_7 : decode cX12_compareRows 7 = .ok (.invokestatic 167, 3) := by decide +kernel
theorem dX12_compareRows_10 : decode cX12_compareRows 10 = .ok (.aload_n 0, 1) := by decide +kernel
theorem dX12_compareRows_11 : decode cX12_compareRows 11 = .ok (.getfield 9, 3) := by decide +kernel
theorem dX12_compareRows_14 : decode cX12_compareRows 14 = .ok (.iload_n 1, 1) := by decide +kernel
theorem dX12_compareRows_15 : decode cX12_compareRows 15 = .ok (.iload 4, 2) := by decide +kernel
theorem dX12_compareRows_17 : decode cX12_compareRows 17 = .ok (.iload_n 2, 1) := by decide +kernel
theorem dX12_compareRows_18 : decode cX12_compareRows 18 = .ok (.invokestatic 167, 3) := by decide +kernel
theorem dX12_compareRows_21 : decode cX12_compareRows 21 = .ok (.aload_n 0, 1) := by decide +kernel
theorem dX12_compareRows_22 : decode cX12_compareRows 22 = .ok (.iload_n 1, 1) := by decide +kernel
theorem dX12_compareRows_23 : decode cX12_compareRows 23 = .ok (.iload_n 2, 1) := by decide +kernel
theorem dX12_compareRows_24 : decode cX12_compareRows 24 = .ok (.invokevirtual 181, 3) := by decide +kernel
theorem mw_910 : Cond.methodLink RX12 181 yX12_typeOfColumn ∈ wsL_law := lrk_38 _ (List.mem_of_getElem? (i := 22) rfl)
theorem mw_911 : Cond.instanceMethod yX12_typeOfColumn ∈ wsL_law := lrk_38 _ (List.mem_of_getElem? (i := 23) rfl)
theorem mw_912 : Cond.selects RX12 yX12_typeOfColumn yX12_typeOfColumn ∈ wsL_law := lrk_39 _ (List.mem_of_getElem? (i := 0) rfl)
theorem gV_X12_181 : GoodIn wsL_law (wsV RX12 181 RX12 yX12_typeOfColumn (wl yX12_typeOfColumn cX12_typeOfColumn 4 (some .int))) := g_V mw_910 mw_911 mw_912 mw_5 mw_913
theorem hdV_X12_typeOfColumn : yX12_typeOfColumn.cls = RX12 ∧ okD yX12_typeOfColumn 2 := by decide +kernel
theorem dX12_compareRows_27 : decode cX12_compareRows 27 = .ok (.invokestatic 184, 3) := by decide +kernel
theorem mw_942 : Cond.methodLink RX12 184 yX12_compareBy ∈ wsL_law := lrk_40 _ (List.mem_of_getElem? (i := 6) rfl)
theorem mw_943 : Cond.static yX12_compareBy ∈ wsL_law := lrk_40 _ (List.mem_of_getElem? (i := 7) rfl)
theorem gS_X12_184 : GoodIn wsL_law (va_wsS RX12 184 yX12_compareBy (wl yX12_compareBy cX12_compareBy 9 (some .int))) := g_S mw_942 mw_943 mw_5 mw_944
theorem hdS_X12_compareBy : okD yX12_compareBy 5 := by decide +kernel
theorem dX12_compareRows_30 : decode cX12_compareRows 30 = .ok (.ireturn, 1) := by decide +kernel
theorem mw_933 : Cond.code yX12_viewMany cX12_viewMany 2 (some .int) ∈ wsL_law := lrk_39 _ (List.mem_of_getElem? (i := 21) rfl)
theorem dX12_viewMany_0 : decode cX12_viewMany 0 = .ok (.aload_n 0, 1) := by decide +kernel
theorem dX12_viewMany_1 : decode cX12_viewMany 1 = .ok (.getfield 9, 3) := by decide +kernel
theorem dX12_viewMany_4 : decode cX12_viewMany 4 = .ok (.iload_n 1, 1) := by decide +kernel
theorem dX12_viewMany_5 : decode cX12_viewMany 5 = .ok (.bipush 116, 2) := by decide +kernel
theorem dX12_viewMany_7 : decode cX12_viewMany 7 = .ok (.invokestatic 66, 3) := by decide +kernel
theorem dX12_viewMany_10 : decode cX12_viewMany 10 = .ok (.aload_n 0, 1) := by decide +kernel
theorem dX12_viewMany_11 : decode cX12_viewMany 11 = .ok (.getfield 9, 3) := by decide +kernel
theorem dX12_viewMany_14 : decode cX12_viewMany 14 = .ok (.iload_n 1, 1) := by decide +kernel
theorem dX12_viewMany_15 : decode cX12_viewMany 15 = .ok (.iconst 3, 1) := by decide +kernel
theorem dX12_viewMany_16 : decode cX12_viewMany 16 = .ok (.invokestatic 66, 3) := by decide +kernel
theorem dX12_viewMany_19 : decode cX12_viewMany 19 = .ok (.iaload, 1) := by decide +kernel
theorem dX12_viewMany_20 : decode cX12_viewMany 20 = .ok (.iadd, 1) := by decide +kernel
theorem dX12_viewMany_21 : decode cX12_viewMany 21 = .ok (.iaload, 1) := by decide +kernel
theorem dX12_viewMany_22 : decode cX12_viewMany 22 = .ok (.ireturn, 1) := by decide +kernel
theorem mw_937 : Cond.code yX12_viewed cX12_viewed 3 (some .int) ∈ wsL_law := lrk_40 _ (List.mem_of_getElem? (i := 1) rfl)
theorem dX12_viewed_0 : decode cX12_viewed 0 = .ok (.aload_n 0, 1) := by decide +kernel
theorem dX12_viewed_1 : decode cX12_viewed 1 = .ok (.getfield 9, 3) := by decide +kernel
theorem dX12_viewed_4 : decode cX12_viewed 4 = .ok (.iload_n 1, 1) := by decide +kernel
theorem dX12_viewed_5 : decode cX12_viewed 5 = .ok (.bipush 123, 2) := by decide +kernel
theorem dX12_viewed_7 : decode cX12_viewed 7 = .ok (.invokestatic 66, 3) := by decide +kernel
theorem dX12_viewed_10 : decode cX12_viewed 10 = .ok (.bipush 40, 2) := by decide +kernel
theorem dX12_viewed_12 : decode cX12_viewed 12 = .ok (.aload_n 0, 1) := by decide +kernel
theorem dX12_viewed_13 : decode cX12_viewed 13 = .ok (.getfield 9, 3) := by decide +kernel
theorem dX12_viewed_16 : decode cX12_viewed 16 = .ok (.iload_n 1, 1) := by decide +kernel
theorem dX12_viewed_17 : decode cX12_viewed 17 = .ok (.iconst 3, 1) := by decide +kernel
theorem dX12_viewed_18 : decode cX12_viewed 18 = .ok (.invokestatic 66, 3) := by decide +kernel
theorem dX12_viewed_21 : decode cX12_viewed 21 = .ok (.iaload, 1) := by decide +kernel
theorem dX12_viewed_22 : decode cX12_viewed 22 = .ok (.imul, 1) := by decide +kernel
theorem dX12_viewed_23 : decode cX12_viewed 23 = .ok (.iadd, 1) := by decide +kernel
theorem dX12_viewed_24 : decode cX12_viewed 24 = .ok (.iload_n 2, 1) := by decide +kernel
theorem dX12_viewed_25 : decode cX12_viewed 25 = .ok (.iadd, 1) := by decide +kernel
theorem dX12_viewed_26 : decode cX12_viewed 26 = .ok (.iaload, 1) := by decide +kernel
theorem dX12_viewed_27 : decode cX12_viewed 27 = .ok (.ireturn, 1) := by decide +kernel
theorem mw_471 : Cond.code yX12_isEnd cX12_isEnd 1 (some .boolean) ∈ wsL_law := lrk_20 _ (List.mem_of_getElem? (i := 15) rfl)
theorem dX12_isEnd_0 : decode cX12_isEnd 0 = .ok (.aload_n 0, 1) := by decide +kernel
theorem dX12_isEnd_1 : decode cX12_isEnd 1 = .ok (.getfield 195, 3) := by decide +kernel
theorem mw_423 : Cond.fieldLink RX12 195 "TypedTablesModel" "pos" "I" ∈ wsL_law := lrk_18 _ (List.mem_of_getElem? (i := 15) rfl)
theorem dX12_isEnd_4 : decode cX12_isEnd 4 = .ok (.aload_n 0, 1) := by decide +kernel
theorem dX12_isEnd_5 : decode cX12_isEnd 5 = .ok (.getfield 83, 3) := by decide +kernel
theorem mw_236 : Cond.fieldLink RX12 83 "TypedTablesModel" "taped" "I" ∈ wsL_law := lrk_10 _ (List.mem_of_getElem? (i := 20) rfl)
theorem dX12_isEnd_8 : decode cX12_isEnd 8 = .ok (.if_icmp .eq 17, 3) := by decide +kernel
theorem dX12_isEnd_25 : decode cX12_isEnd 25 = .ok (.iconst 1, 1) := by decide +kernel
theorem dX12_isEnd_26 : decode cX12_isEnd 26 = .ok (.goto 4, 3) := by decide +kernel
theorem dX12_isEnd_30 : decode cX12_isEnd 30 = .ok (.ireturn, 1) := by decide +kernel
theorem dX12_isEnd_11 : decode cX12_isEnd 11 = .ok (.aload_n 0, 1) := by decide +kernel
theorem dX12_isEnd_12 : decode cX12_isEnd 12 = .ok (.getfield 20, 3) := by decide +kernel
theorem mw_191 : Cond.fieldLink RX12 20 "TypedTablesModel" "tape" "[I" ∈ wsL_law := lrk_8 _ (List.mem_of_getElem? (i := 23) rfl)
theorem dX12_isEnd_15 : decode cX12_isEnd 15 = .ok (.aload_n 0, 1) := by decide +kernel
theorem dX12_isEnd_16 : decode cX12_isEnd 16 = .ok (.getfield 195, 3) := by decide +kernel
theorem dX12_isEnd_19 : decode cX12_isEnd 19 = .ok (.iaload, 1) := by decide +kernel
theorem dX12_isEnd_20 : decode cX12_isEnd 20 = .ok (.bipush 10, 2) := by decide +kernel
theorem dX12_isEnd_22 : decode cX12_isEnd 22 = .ok (.if_icmp .ne 7, 3) := by decide +kernel
theorem dX12_isEnd_29 : decode cX12_isEnd 29 = .ok (.iconst 0, 1) := by decide +kernel
set_option maxHeartbeats 4000000 in
set_option maxRecDepth 100000 in
theorem s_X12_isTable (l : Launch) (D : va_G) (κ : Nat → ClassId) (m0 : Nat) (a0 : Nat) (a1 : Nat) (a2 : Nat) (u3 : Nat) (f4 : Int32) (a5 : Nat) (u6 : Nat) (f7 : Int32) (f8 : Int32) (f9 : Int32) (f10 : Int32) (u11 : Nat) (u12 : Nat) (u13 : Nat) (a14 : Nat) (a15 : Nat) (a16 : Nat) (a17 : Nat) (f18 : Int32) (f19 : Int32) (a20 : Nat) (a21 : Nat) (u22 : Nat) (a23 : Nat) (a24 : Nat) (a25 : Nat) (u26 : Nat) (f27 : Int32) (a28 : Nat) (u29 : Nat) (w : Nat → Int32) (za : Int32) (hw : Pw w) : Cr l yX12_isTable (wl yX12_isTable cX12_isTable 2 (some .boolean)) { frames := 1, cells := 0, slots := 0, locals := 25 } D κ [.ref m0, .int za] (va_P D vwCl [(m0, .inr (12, [.ref a0, .ref a1, .ref a2, .int (nI u3), .int f4, .ref a5, .int (nI u6), .int f7, .int f8, .int f9, .int f10, .int (nI u11), .int (nI u12), .int (nI u13), .ref a14, .ref a15, .ref a16, .ref a17, .int f18, .int f19, .ref a20, .ref a21, .int (nI u22), .ref a23, .ref a24, .ref a25, .int (nI u26), .int f27, .ref a28, .int (nI u29)])), (a0, .inl (κ 0, 21375, .inl w))]) (fun r : Int32 => some (.int r)) (fun r : Int32 => (r = 1 ∧ (∃ j : Nat, j < 3 ∧ za = nI j)) ∨ (r = 0)) := by
  refine cr_of (by decide +kernel) (Nat.le_of_ble_eq_true rfl) ?_
  intro p e s m args below meth c ls hx hb hr hml hts hown hlk hKK hK hI hl
  have hP : va_P D vwCl [(m0, .inr (12, [.ref a0, .ref a1, .ref a2, .int (nI u3), .int f4, .ref a5, .int (nI u6), .int f7, .int f8, .int f9, .int f10, .int (nI u11), .int (nI u12), .int (nI u13), .ref a14, .ref a15, .ref a16, .ref a17, .int f18, .int f19, .ref a20, .ref a21, .int (nI u22), .ref a23, .ref a24, .ref a25, .int (nI u26), .int f27, .ref a28, .int (nI u29)])), (a0, .inl (κ 0, 21375, .inl w))] s.heap := hI
  have hFX : FX p s m args c cX12_isTable 2 RX12 := ⟨hx, hb, hml, hown, hts⟩
  have hl : lv_has ls 2 [(0, .ref m0), (1, .int za)] := hl
  refine lv_iload_n hx hb dX12_isTable_0 rfl (lv_at hl 1 rfl) ?_
  refine lv_i2l (v := za.toInt64) hx hb dX12_isTable_1 rfl ?_
  refine lv_lconst (v := 0) hx hb dX12_isTable_2 (by decide) ?_
  refine lv_ldc2 hx hb hown (hts _ mw_413) dX12_isTable_3 ?_
  refine cr_S (As := [.long za.toInt64, .long 0, .long 2]) (rest := []) hFX hKK (s_X12_isIn l D κ za.toInt64 0 2) 3 gS_X12_62 hdS_X12_isIn rfl rfl ⟨Nat.le_of_ble_eq_true rfl, Nat.le_of_ble_eq_true rfl⟩ rfl rfl (Nat.le_of_ble_eq_true rfl) dX12_isTable_6 ⟨Nat.le_of_ble_eq_true rfl, Nat.le_of_ble_eq_true rfl⟩ hl.1 (hP.sub [] rfl) (fun r_1 hp_2 => ?_)
  have hp_2 : (r_1 = 1 ∧ ¬ lg_cmp za.toInt64 (0 : Int64) < 0 ∧ ¬ 0 < lg_cmp za.toInt64 (2 : Int64)) ∨ (r_1 = 0 ∧ (lg_cmp za.toInt64 (0 : Int64) < 0 ∨ 0 < lg_cmp za.toInt64 (2 : Int64))) := hp_2
  rcases hp_2 with ⟨rfl, a_3, a_4⟩ | ⟨rfl, a_5⟩
  · refine W.eq (g2 := F0 m 9 ls [.int 1]) rfl ?_
    refine lv_if_eq (tgt := 30) hx hb dX12_isTable_9 (by decide) (fun c_6 => absurd c_6 (by decide)) (fun c_6 => ?_)
    obtain ⟨j, hj, rfl⟩ := tbl_j (by assumption) (by assumption)
    refine lv_aload_n hx hb dX12_isTable_12 rfl (lv_at hl 0 rfl) ?_
    refine va_get (D := D) (ci := 12) (v := .ref a0) (C := RX12) (T := TX12) (N := 30) hx hb hts inlX12 hown hK hP 0 rfl rfl 0 (by decide) (hts _ mw_187) (fun _ h9 => h9) rfl dX12_isTable_13 ?_
    refine lv_iload_n hx hb dX12_isTable_16 rfl (lv_at hl 1 rfl) ?_
    refine lv_iconst (v := 0) hx hb dX12_isTable_17 (by decide) ?_
    refine cr_S (As := [.int (nI j), .int 0]) (rest := [.ref a0]) hFX hKK (s_X12_at l D κ j 0) 2 gS_X12_66 hdS_X12_at rfl rfl ⟨Nat.le_of_ble_eq_true rfl, Nat.le_of_ble_eq_true rfl⟩ rfl rfl (Nat.le_of_ble_eq_true rfl) dX12_isTable_18 ⟨Nat.le_of_ble_eq_true rfl, Nat.le_of_ble_eq_true rfl⟩ hl.1 (hP.sub [] rfl) (fun _ hp_7 => ?_)
    refine W.eq (g2 := F0 m 21 ls [.int (nI (7123 * j + 0)), .ref a0]) rfl ?_
    refine va_iald hx hb hK hP 1 0 rfl rfl (i := nI (7123 * j + 0)) (vp_in_nI (n := (7123 * j + 0)) (by omega) (by omega)) dX12_isTable_21 ?_
    refine kv (v := .int (w (7123 * j + 0))) (by rw [nI_clamp (by omega)]) ?_
    refine lv_topi (fun x_8 ex_8 => ?_)
    refine lv_iconst (v := 1) hx hb dX12_isTable_22 (by decide) ?_
    refine lv_icmp_ne (tgt := 30) hx hb dX12_isTable_23 (by decide) (fun c_9 => ?_) (fun c_9 => ?_)
    · refine lv_iconst (v := 0) hx hb dX12_isTable_30 (by decide) ?_
      exact cr_iret hx hb hr hlk rfl 0 rfl (by first | exact Or.inr ((rfl))) dX12_isTable_31
    · refine lv_iconst (v := 1) hx hb dX12_isTable_26 (by decide) ?_
      refine lv_goto (tgt := 31) hx hb dX12_isTable_27 (by decide) ?_
      exact cr_iret hx hb hr hlk rfl 1 rfl (by first | exact Or.inl (⟨rfl, (by first | assumption | exact Or.inl (by assumption) | exact Or.inr (by assumption) | exact out_ne (by assumption) (by decide) (by decide) | exact ⟨_, (by assumption), rfl⟩ | exact ⟨_, (by assumption), rfl⟩)⟩)) dX12_isTable_31
  · refine W.eq (g2 := F0 m 9 ls [.int 0]) rfl ?_
    refine lv_if_eq (tgt := 30) hx hb dX12_isTable_9 (by decide) (fun c_10 => ?_) (fun c_10 => absurd (by decide) c_10)
    refine lv_iconst (v := 0) hx hb dX12_isTable_30 (by decide) ?_
    exact cr_iret hx hb hr hlk rfl 0 rfl (by first | exact Or.inr ((rfl))) dX12_isTable_31
set_option maxHeartbeats 4000000 in
set_option maxRecDepth 100000 in
theorem s_X12_isColumn (l : Launch) (D : va_G) (κ : Nat → ClassId) (m0 : Nat) (a0 : Nat) (a1 : Nat) (a2 : Nat) (u3 : Nat) (f4 : Int32) (a5 : Nat) (u6 : Nat) (f7 : Int32) (f8 : Int32) (f9 : Int32) (f10 : Int32) (u11 : Nat) (u12 : Nat) (u13 : Nat) (a14 : Nat) (a15 : Nat) (a16 : Nat) (a17 : Nat) (f18 : Int32) (f19 : Int32) (a20 : Nat) (a21 : Nat) (u22 : Nat) (a23 : Nat) (a24 : Nat) (a25 : Nat) (u26 : Nat) (f27 : Int32) (a28 : Nat) (u29 : Nat) (w : Nat → Int32) (za : Int32) (zb : Int32) (hw : Pw w) : Cr l yX12_isColumn (wl yX12_isColumn cX12_isColumn 3 (some .boolean)) { frames := 2, cells := 0, slots := 0, locals := 46 } D κ [.ref m0, .int za, .int zb] (va_P D vwCl [(m0, .inr (12, [.ref a0, .ref a1, .ref a2, .int (nI u3), .int f4, .ref a5, .int (nI u6), .int f7, .int f8, .int f9, .int f10, .int (nI u11), .int (nI u12), .int (nI u13), .ref a14, .ref a15, .ref a16, .ref a17, .int f18, .int f19, .ref a20, .ref a21, .int (nI u22), .ref a23, .ref a24, .ref a25, .int (nI u26), .int f27, .ref a28, .int (nI u29)])), (a0, .inl (κ 0, 21375, .inl w))]) (fun r : Int32 => some (.int r)) (fun r : Int32 => (r = 1 ∧ (∃ j : Nat, j < 3 ∧ za = nI j) ∧ (∃ c : Nat, c < 8 ∧ zb = nI c)) ∨ (r = 0)) := by
  refine cr_of (by decide +kernel) (Nat.le_of_ble_eq_true rfl) ?_
  intro p e s m args below meth c ls hx hb hr hml hts hown hlk hKK hK hI hl
  have hP : va_P D vwCl [(m0, .inr (12, [.ref a0, .ref a1, .ref a2, .int (nI u3), .int f4, .ref a5, .int (nI u6), .int f7, .int f8, .int f9, .int f10, .int (nI u11), .int (nI u12), .int (nI u13), .ref a14, .ref a15, .ref a16, .ref a17, .int f18, .int f19, .ref a20, .ref a21, .int (nI u22), .ref a23, .ref a24, .ref a25, .int (nI u26), .int f27, .ref a28, .int (nI u29)])), (a0, .inl (κ 0, 21375, .inl w))] s.heap := hI
  have hFX : FX p s m args c cX12_isColumn 3 RX12 := ⟨hx, hb, hml, hown, hts⟩
  have hl : lv_has ls 3 [(0, .ref m0), (1, .int za), (2, .int zb)] := hl
  refine lv_aload_n hx hb dX12_isColumn_0 rfl (lv_at hl 0 rfl) ?_
  refine lv_iload_n hx hb dX12_isColumn_1 rfl (lv_at hl 1 rfl) ?_
  refine cr_V (As := [.int za]) (rest := []) hFX hKK (s_X12_isTable l D κ m0 a0 a1 a2 u3 f4 a5 u6 f7 f8 f9 f10 u11 u12 u13 a14 a15 a16 a17 f18 f19 a20 a21 u22 a23 a24 a25 u26 f27 a28 u29 w za (by assumption)) 1 gV_X12_70 hdV_X12_isTable rfl rfl ⟨Nat.le_of_ble_eq_true rfl, Nat.le_of_ble_eq_true rfl⟩ rfl rfl (Nat.le_of_ble_eq_true rfl) dX12_isColumn_2 ⟨Nat.le_of_ble_eq_true rfl, Nat.le_of_ble_eq_true rfl⟩ hl.1 hP 0 12 rfl rfl rfl (hP.sub [0, 1] rfl) (fun r_1 hp_2 => ?_)
  have hp_2 : (r_1 = 1 ∧ (∃ j : Nat, j < 3 ∧ za = nI j)) ∨ (r_1 = 0) := hp_2
  rcases hp_2 with ⟨rfl, ⟨j_3, hj_3, rfl⟩⟩ | rfl
  · refine W.eq (g2 := F0 m 5 ls [.int 1]) rfl ?_
    refine lv_if_eq (tgt := 34) hx hb dX12_isColumn_5 (by decide) (fun c_5 => absurd c_5 (by decide)) (fun c_5 => ?_)
    refine lv_iload_n hx hb dX12_isColumn_8 rfl (lv_at hl 2 rfl) ?_
    refine lv_i2l (v := zb.toInt64) hx hb dX12_isColumn_9 rfl ?_
    refine lv_lconst (v := 0) hx hb dX12_isColumn_10 (by decide) ?_
    refine lv_aload_n hx hb dX12_isColumn_11 rfl (lv_at hl 0 rfl) ?_
    refine va_get (D := D) (ci := 12) (v := .ref a0) (C := RX12) (T := TX12) (N := 30) hx hb hts inlX12 hown hK hP 0 rfl rfl 0 (by decide) (hts _ mw_187) (fun _ h9 => h9) rfl dX12_isColumn_12 ?_
    refine lv_iload_n hx hb dX12_isColumn_15 rfl (lv_at hl 1 rfl) ?_
    refine lv_iconst (v := 1) hx hb dX12_isColumn_16 (by decide) ?_
    refine cr_S (As := [.int (nI j_3), .int 1]) (rest := [.ref a0, .long 0, .long zb.toInt64]) hFX hKK (s_X12_at l D κ j_3 1) 2 gS_X12_66 hdS_X12_at rfl rfl ⟨Nat.le_of_ble_eq_true rfl, Nat.le_of_ble_eq_true rfl⟩ rfl rfl (Nat.le_of_ble_eq_true rfl) dX12_isColumn_17 ⟨Nat.le_of_ble_eq_true rfl, Nat.le_of_ble_eq_true rfl⟩ hl.1 (hP.sub [] rfl) (fun _ hp_6 => ?_)
    refine W.eq (g2 := F0 m 20 ls [.int (nI (7123 * j_3 + 1)), .ref a0, .long 0, .long zb.toInt64]) rfl ?_
    refine va_iald hx hb hK hP 1 0 rfl rfl (i := nI (7123 * j_3 + 1)) (vp_in_nI (n := (7123 * j_3 + 1)) (by omega) (by omega)) dX12_isColumn_20 ?_
    refine kv (v := .int (w (7123 * j_3 + 1))) (by rw [nI_clamp (by omega)]) ?_
    obtain ⟨n_7, hn_7, en_7⟩ : ∃ n9 : Nat, n9 ≤ 8 ∧ w (7123 * j_3 + 1) = nI n9 := id ((pN hw (t := j_3) (by omega) rfl))
    refine kv (v := .int (nI n_7)) (congrArg Value.int en_7) ?_
    refine lv_iconst (v := 1) hx hb dX12_isColumn_21 (by decide) ?_
    refine lv_isub hx hb dX12_isColumn_22 ?_
    refine lv_topi (fun x_8 ex_8 => ?_)
    refine lv_i2l (v := x_8.toInt64) hx hb dX12_isColumn_23 rfl ?_
    refine cr_S (As := [.long zb.toInt64, .long 0, .long x_8.toInt64]) (rest := []) hFX hKK (s_X12_isIn l D κ zb.toInt64 0 x_8.toInt64) 3 gS_X12_62 hdS_X12_isIn rfl rfl ⟨Nat.le_of_ble_eq_true rfl, Nat.le_of_ble_eq_true rfl⟩ rfl rfl (Nat.le_of_ble_eq_true rfl) dX12_isColumn_24 ⟨Nat.le_of_ble_eq_true rfl, Nat.le_of_ble_eq_true rfl⟩ hl.1 (hP.sub [] rfl) (fun r_9 hp_10 => ?_)
    have hp_10 : (r_9 = 1 ∧ ¬ lg_cmp zb.toInt64 (0 : Int64) < 0 ∧ ¬ 0 < lg_cmp zb.toInt64 x_8.toInt64) ∨ (r_9 = 0 ∧ (lg_cmp zb.toInt64 (0 : Int64) < 0 ∨ 0 < lg_cmp zb.toInt64 x_8.toInt64)) := hp_10
    rcases hp_10 with ⟨rfl, a_11, a_12⟩ | ⟨rfl, a_13⟩
    · refine W.eq (g2 := F0 m 27 ls [.int 1]) rfl ?_
      refine lv_if_eq (tgt := 34) hx hb dX12_isColumn_27 (by decide) (fun c_14 => absurd c_14 (by decide)) (fun c_14 => ?_)
      refine lv_iconst (v := 1) hx hb dX12_isColumn_30 (by decide) ?_
      refine lv_goto (tgt := 35) hx hb dX12_isColumn_31 (by decide) ?_
      exact cr_iret hx hb hr hlk rfl 1 rfl (by first | exact Or.inl (⟨rfl, (by first | assumption | exact Or.inl (by assumption) | exact Or.inr (by assumption) | exact out_ne (by assumption) (by decide) (by decide) | exact ⟨_, (by assumption), rfl⟩ | exact ⟨_, (by assumption), rfl⟩ | exact in_col8 (by assumption) (by assumption) (by assumption) (by assumption)), (by first | assumption | exact Or.inl (by assumption) | exact Or.inr (by assumption) | exact out_ne (by assumption) (by decide) (by decide) | exact ⟨_, (by assumption), rfl⟩ | exact ⟨_, (by assumption), rfl⟩ | exact in_col8 (by assumption) (by assumption) (by assumption) (by assumption))⟩)) dX12_isColumn_35
    · refine W.eq (g2 := F0 m 27 ls [.int 0]) rfl ?_
      refine lv_if_eq (tgt := 34) hx hb dX12_isColumn_27 (by decide) (fun c_15 => ?_) (fun c_15 => absurd (by decide) c_15)
      refine lv_iconst (v := 0) hx hb dX12_isColumn_34 (by decide) ?_
      exact cr_iret hx hb hr hlk rfl 0 rfl (by first | exact Or.inr ((rfl))) dX12_isColumn_35
  · refine W.eq (g2 := F0 m 5 ls [.int 0]) rfl ?_
    refine lv_if_eq (tgt := 34) hx hb dX12_isColumn_5 (by decide) (fun c_16 => ?_) (fun c_16 => absurd (by decide) c_16)
    refine lv_iconst (v := 0) hx hb dX12_isColumn_34 (by decide) ?_
    exact cr_iret hx hb hr hlk rfl 0 rfl (by first | exact Or.inr ((rfl))) dX12_isColumn_35
set_option maxHeartbeats 4000000 in
set_option maxRecDepth 100000 in
theorem s_X12_isRow (l : Launch) (D : va_G) (κ : Nat → ClassId) (m0 : Nat) (a0 : Nat) (a1 : Nat) (a2 : Nat) (u3 : Nat) (f4 : Int32) (a5 : Nat) (u6 : Nat) (f7 : Int32) (f8 : Int32) (f9 : Int32) (f10 : Int32) (u11 : Nat) (u12 : Nat) (u13 : Nat) (a14 : Nat) (a15 : Nat) (a16 : Nat) (a17 : Nat) (f18 : Int32) (f19 : Int32) (a20 : Nat) (a21 : Nat) (u22 : Nat) (a23 : Nat) (a24 : Nat) (a25 : Nat) (u26 : Nat) (f27 : Int32) (a28 : Nat) (u29 : Nat) (w : Nat → Int32) (za : Int32) (zb : Int32) (hw : Pw w) : Cr l yX12_isRow (wl yX12_isRow cX12_isRow 3 (some .boolean)) { frames := 2, cells := 0, slots := 0, locals := 46 } D κ [.ref m0, .int za, .int zb] (va_P D vwCl [(m0, .inr (12, [.ref a0, .ref a1, .ref a2, .int (nI u3), .int f4, .ref a5, .int (nI u6), .int f7, .int f8, .int f9, .int f10, .int (nI u11), .int (nI u12), .int (nI u13), .ref a14, .ref a15, .ref a16, .ref a17, .int f18, .int f19, .ref a20, .ref a21, .int (nI u22), .ref a23, .ref a24, .ref a25, .int (nI u26), .int f27, .ref a28, .int (nI u29)])), (a0, .inl (κ 0, 21375, .inl w))]) (fun r : Int32 => some (.int r)) (fun r : Int32 => (r = 1 ∧ (∃ j : Nat, j < 3 ∧ za = nI j) ∧ (∃ r : Nat, r < 40 ∧ zb = nI r)) ∨ (r = 0)) := by
  refine cr_of (by decide +kernel) (Nat.le_of_ble_eq_true rfl) ?_
  intro p e s m args below meth c ls hx hb hr hml hts hown hlk hKK hK hI hl
  have hP : va_P D vwCl [(m0, .inr (12, [.ref a0, .ref a1, .ref a2, .int (nI u3), .int f4, .ref a5, .int (nI u6), .int f7, .int f8, .int f9, .int f10, .int (nI u11), .int (nI u12), .int (nI u13), .ref a14, .ref a15, .ref a16, .ref a17, .int f18, .int f19, .ref a20, .ref a21, .int (nI u22), .ref a23, .ref a24, .ref a25, .int (nI u26), .int f27, .ref a28, .int (nI u29)])), (a0, .inl (κ 0, 21375, .inl w))] s.heap := hI
  have hFX : FX p s m args c cX12_isRow 3 RX12 := ⟨hx, hb, hml, hown, hts⟩
  have hl : lv_has ls 3 [(0, .ref m0), (1, .int za), (2, .int zb)] := hl
  refine lv_aload_n hx hb dX12_isRow_0 rfl (lv_at hl 0 rfl) ?_
  refine lv_iload_n hx hb dX12_isRow_1 rfl (lv_at hl 1 rfl) ?_
  refine cr_V (As := [.int za]) (rest := []) hFX hKK (s_X12_isTable l D κ m0 a0 a1 a2 u3 f4 a5 u6 f7 f8 f9 f10 u11 u12 u13 a14 a15 a16 a17 f18 f19 a20 a21 u22 a23 a24 a25 u26 f27 a28 u29 w za (by assumption)) 1 gV_X12_70 hdV_X12_isTable rfl rfl ⟨Nat.le_of_ble_eq_true rfl, Nat.le_of_ble_eq_true rfl⟩ rfl rfl (Nat.le_of_ble_eq_true rfl) dX12_isRow_2 ⟨Nat.le_of_ble_eq_true rfl, Nat.le_of_ble_eq_true rfl⟩ hl.1 hP 0 12 rfl rfl rfl (hP.sub [0, 1] rfl) (fun r_1 hp_2 => ?_)
  have hp_2 : (r_1 = 1 ∧ (∃ j : Nat, j < 3 ∧ za = nI j)) ∨ (r_1 = 0) := hp_2
  rcases hp_2 with ⟨rfl, ⟨j_3, hj_3, rfl⟩⟩ | rfl
  · refine W.eq (g2 := F0 m 5 ls [.int 1]) rfl ?_
    refine lv_if_eq (tgt := 34) hx hb dX12_isRow_5 (by decide) (fun c_5 => absurd c_5 (by decide)) (fun c_5 => ?_)
    refine lv_iload_n hx hb dX12_isRow_8 rfl (lv_at hl 2 rfl) ?_
    refine lv_i2l (v := zb.toInt64) hx hb dX12_isRow_9 rfl ?_
    refine lv_lconst (v := 0) hx hb dX12_isRow_10 (by decide) ?_
    refine lv_aload_n hx hb dX12_isRow_11 rfl (lv_at hl 0 rfl) ?_
    refine va_get (D := D) (ci := 12) (v := .ref a0) (C := RX12) (T := TX12) (N := 30) hx hb hts inlX12 hown hK hP 0 rfl rfl 0 (by decide) (hts _ mw_187) (fun _ h9 => h9) rfl dX12_isRow_12 ?_
    refine lv_iload_n hx hb dX12_isRow_15 rfl (lv_at hl 1 rfl) ?_
    refine lv_iconst (v := 2) hx hb dX12_isRow_16 (by decide) ?_
    refine cr_S (As := [.int (nI j_3), .int 2]) (rest := [.ref a0, .long 0, .long zb.toInt64]) hFX hKK (s_X12_at l D κ j_3 2) 2 gS_X12_66 hdS_X12_at rfl rfl ⟨Nat.le_of_ble_eq_true rfl, Nat.le_of_ble_eq_true rfl⟩ rfl rfl (Nat.le_of_ble_eq_true rfl) dX12_isRow_17 ⟨Nat.le_of_ble_eq_true rfl, Nat.le_of_ble_eq_true rfl⟩ hl.1 (hP.sub [] rfl) (fun _ hp_6 => ?_)
    refine W.eq (g2 := F0 m 20 ls [.int (nI (7123 * j_3 + 2)), .ref a0, .long 0, .long zb.toInt64]) rfl ?_
    refine va_iald hx hb hK hP 1 0 rfl rfl (i := nI (7123 * j_3 + 2)) (vp_in_nI (n := (7123 * j_3 + 2)) (by omega) (by omega)) dX12_isRow_20 ?_
    refine kv (v := .int (w (7123 * j_3 + 2))) (by rw [nI_clamp (by omega)]) ?_
    obtain ⟨n_7, hn_7, en_7⟩ : ∃ n9 : Nat, n9 ≤ 40 ∧ w (7123 * j_3 + 2) = nI n9 := id ((pMANY hw (t := j_3) (by omega) rfl))
    refine kv (v := .int (nI n_7)) (congrArg Value.int en_7) ?_
    refine lv_iconst (v := 1) hx hb dX12_isRow_21 (by decide) ?_
    refine lv_isub hx hb dX12_isRow_22 ?_
    refine lv_topi (fun x_8 ex_8 => ?_)
    refine lv_i2l (v := x_8.toInt64) hx hb dX12_isRow_23 rfl ?_
    refine cr_S (As := [.long zb.toInt64, .long 0, .long x_8.toInt64]) (rest := []) hFX hKK (s_X12_isIn l D κ zb.toInt64 0 x_8.toInt64) 3 gS_X12_62 hdS_X12_isIn rfl rfl ⟨Nat.le_of_ble_eq_true rfl, Nat.le_of_ble_eq_true rfl⟩ rfl rfl (Nat.le_of_ble_eq_true rfl) dX12_isRow_24 ⟨Nat.le_of_ble_eq_true rfl, Nat.le_of_ble_eq_true rfl⟩ hl.1 (hP.sub [] rfl) (fun r_9 hp_10 => ?_)
    have hp_10 : (r_9 = 1 ∧ ¬ lg_cmp zb.toInt64 (0 : Int64) < 0 ∧ ¬ 0 < lg_cmp zb.toInt64 x_8.toInt64) ∨ (r_9 = 0 ∧ (lg_cmp zb.toInt64 (0 : Int64) < 0 ∨ 0 < lg_cmp zb.toInt64 x_8.toInt64)) := hp_10
    rcases hp_10 with ⟨rfl, a_11, a_12⟩ | ⟨rfl, a_13⟩
    · refine W.eq (g2 := F0 m 27 ls [.int 1]) rfl ?_
      refine lv_if_eq (tgt := 34) hx hb dX12_isRow_27 (by decide) (fun c_14 => absurd c_14 (by decide)) (fun c_14 => ?_)
      refine lv_iconst (v := 1) hx hb dX12_isRow_30 (by decide) ?_
      refine lv_goto (tgt := 35) hx hb dX12_isRow_31 (by decide) ?_
      exact cr_iret hx hb hr hlk rfl 1 rfl (by first | exact Or.inl (⟨rfl, (by first | assumption | exact Or.inl (by assumption) | exact Or.inr (by assumption) | exact out_ne (by assumption) (by decide) (by decide) | exact ⟨_, (by assumption), rfl⟩ | exact ⟨_, (by assumption), rfl⟩ | exact in_row40 (by assumption) (by assumption) (by assumption) (by assumption)), (by first | assumption | exact Or.inl (by assumption) | exact Or.inr (by assumption) | exact out_ne (by assumption) (by decide) (by decide) | exact ⟨_, (by assumption), rfl⟩ | exact ⟨_, (by assumption), rfl⟩ | exact in_row40 (by assumption) (by assumption) (by assumption) (by assumption))⟩)) dX12_isRow_35
    · refine W.eq (g2 := F0 m 27 ls [.int 0]) rfl ?_
      refine lv_if_eq (tgt := 34) hx hb dX12_isRow_27 (by decide) (fun c_15 => ?_) (fun c_15 => absurd (by decide) c_15)
      refine lv_iconst (v := 0) hx hb dX12_isRow_34 (by decide) ?_
      exact cr_iret hx hb hr hlk rfl 0 rfl (by first | exact Or.inr ((rfl))) dX12_isRow_35
  · refine W.eq (g2 := F0 m 5 ls [.int 0]) rfl ?_
    refine lv_if_eq (tgt := 34) hx hb dX12_isRow_5 (by decide) (fun c_16 => ?_) (fun c_16 => absurd (by decide) c_16)
    refine lv_iconst (v := 0) hx hb dX12_isRow_34 (by decide) ?_
    exact cr_iret hx hb hr hlk rfl 0 rfl (by first | exact Or.inr ((rfl))) dX12_isRow_35
set_option maxHeartbeats 4000000 in
set_option maxRecDepth 100000 in
theorem s_X12_ownOf (l : Launch) (D : va_G) (κ : Nat → ClassId) (m0 : Nat) (a0 : Nat) (a1 : Nat) (a2 : Nat) (u3 : Nat) (f4 : Int32) (a5 : Nat) (u6 : Nat) (f7 : Int32) (f8 : Int32) (f9 : Int32) (f10 : Int32) (u11 : Nat) (u12 : Nat) (u13 : Nat) (a14 : Nat) (a15 : Nat) (a16 : Nat) (a17 : Nat) (f18 : Int32) (f19 : Int32) (a20 : Nat) (a21 : Nat) (u22 : Nat) (a23 : Nat) (a24 : Nat) (a25 : Nat) (u26 : Nat) (f27 : Int32) (a28 : Nat) (u29 : Nat) (w : Nat → Int32) (a : Nat) (b : Nat) (co : Nat) (hw : Pw w) (ht : a < 3) (hr9 : b < 40) (hc : co < 8) : Cr l yX12_ownOf (wl yX12_ownOf cX12_ownOf 4 (some .int)) { frames := 5, cells := 0, slots := 0, locals := 117 } D κ [.ref m0, .int (nI a), .int (nI b), .int (nI co)] (va_P D vwCl [(m0, .inr (12, [.ref a0, .ref a1, .ref a2, .int (nI u3), .int f4, .ref a5, .int (nI u6), .int f7, .int f8, .int f9, .int f10, .int (nI u11), .int (nI u12), .int (nI u13), .ref a14, .ref a15, .ref a16, .ref a17, .int f18, .int f19, .ref a20, .ref a21, .int (nI u22), .ref a23, .ref a24, .ref a25, .int (nI u26), .int f27, .ref a28, .int (nI u29)])), (a0, .inl (κ 0, 21375, .inl w))]) (fun n : Nat => some (.int (nI n))) (fun n : Nat => n ≤ 5) := by
  refine cr_of (by decide +kernel) (Nat.le_of_ble_eq_true rfl) ?_
  intro p e s m args below meth c ls hx hb hr hml hts hown hlk hKK hK hI hl
  have hP : va_P D vwCl [(m0, .inr (12, [.ref a0, .ref a1, .ref a2, .int (nI u3), .int f4, .ref a5, .int (nI u6), .int f7, .int f8, .int f9, .int f10, .int (nI u11), .int (nI u12), .int (nI u13), .ref a14, .ref a15, .ref a16, .ref a17, .int f18, .int f19, .ref a20, .ref a21, .int (nI u22), .ref a23, .ref a24, .ref a25, .int (nI u26), .int f27, .ref a28, .int (nI u29)])), (a0, .inl (κ 0, 21375, .inl w))] s.heap := hI
  have hFX : FX p s m args c cX12_ownOf 4 RX12 := ⟨hx, hb, hml, hown, hts⟩
  have hl : lv_has ls 4 [(0, .ref m0), (1, .int (nI a)), (2, .int (nI b)), (3, .int (nI co))] := hl
  refine lv_aload_n hx hb dX12_ownOf_0 rfl (lv_at hl 0 rfl) ?_
  refine va_get (D := D) (ci := 12) (v := .ref a0) (C := RX12) (T := TX12) (N := 30) hx hb hts inlX12 hown hK hP 0 rfl rfl 0 (by decide) (hts _ mw_187) (fun _ h9 => h9) rfl dX12_ownOf_1 ?_
  refine lv_iload_n hx hb dX12_ownOf_4 rfl (lv_at hl 1 rfl) ?_
  refine lv_iload_n hx hb dX12_ownOf_5 rfl (lv_at hl 2 rfl) ?_
  refine lv_iload_n hx hb dX12_ownOf_6 rfl (lv_at hl 3 rfl) ?_
  refine cr_S (As := [.int (nI a), .int (nI b), .int (nI co)]) (rest := [.ref a0]) hFX hKK (s_X12_cellAt l D κ a b co) 3 gS_X12_167 hdS_X12_cellAt rfl rfl ⟨Nat.le_of_ble_eq_true rfl, Nat.le_of_ble_eq_true rfl⟩ rfl rfl (Nat.le_of_ble_eq_true rfl) dX12_ownOf_7 ⟨Nat.le_of_ble_eq_true rfl, Nat.le_of_ble_eq_true rfl⟩ hl.1 (hP.sub [] rfl) (fun _ hp_1 => ?_)
  refine W.eq (g2 := F0 m 10 ls [.int (nI (7123 * a + 403 + 21 * (8 * b + co))), .ref a0]) rfl ?_
  refine cr_S (As := [.ref a0, .int (nI (7123 * a + 403 + 21 * (8 * b + co)))]) (rest := []) hFX hKK (s_X12_typeOf l D κ a0 21375 w (7123 * a + 403 + 21 * (8 * b + co)) (by first | assumption | omega) (by omega) (pCELL hw (t := a) (i := 8 * b + co) (by omega) (by omega) rfl)) 2 gS_X12_171 hdS_X12_typeOf rfl rfl ⟨Nat.le_of_ble_eq_true rfl, Nat.le_of_ble_eq_true rfl⟩ rfl rfl (Nat.le_of_ble_eq_true rfl) dX12_ownOf_10 ⟨Nat.le_of_ble_eq_true rfl, Nat.le_of_ble_eq_true rfl⟩ hl.1 (hP.sub [1] rfl) (fun n_2 hp_3 => ?_)
  have hp_3 : n_2 ≤ 5 := hp_3
  refine W.eq (g2 := F0 m 13 ls [.int (nI n_2)]) rfl ?_
  exact cr_iret hx hb hr hlk rfl n_2 rfl (by assumption) dX12_ownOf_13
set_option maxHeartbeats 4000000 in
set_option maxRecDepth 100000 in
theorem s_X12_guessOf (l : Launch) (D : va_G) (κ : Nat → ClassId) (m0 : Nat) (a0 : Nat) (a1 : Nat) (a2 : Nat) (u3 : Nat) (f4 : Int32) (a5 : Nat) (u6 : Nat) (f7 : Int32) (f8 : Int32) (f9 : Int32) (f10 : Int32) (u11 : Nat) (u12 : Nat) (u13 : Nat) (a14 : Nat) (a15 : Nat) (a16 : Nat) (a17 : Nat) (f18 : Int32) (f19 : Int32) (a20 : Nat) (a21 : Nat) (u22 : Nat) (a23 : Nat) (a24 : Nat) (a25 : Nat) (u26 : Nat) (f27 : Int32) (a28 : Nat) (u29 : Nat) (w : Nat → Int32) (a : Nat) (co : Nat) (hw : Pw w) (ht : a < 3) (hc : co < 8) : Cr l yX12_guessOf (wl yX12_guessOf cX12_guessOf 5 (some .int)) { frames := 6, cells := 0, slots := 0, locals := 140 } D κ [.ref m0, .int (nI a), .int (nI co)] (va_P D vwCl [(m0, .inr (12, [.ref a0, .ref a1, .ref a2, .int (nI u3), .int f4, .ref a5, .int (nI u6), .int f7, .int f8, .int f9, .int f10, .int (nI u11), .int (nI u12), .int (nI u13), .ref a14, .ref a15, .ref a16, .ref a17, .int f18, .int f19, .ref a20, .ref a21, .int (nI u22), .ref a23, .ref a24, .ref a25, .int (nI u26), .int f27, .ref a28, .int (nI u29)])), (a0, .inl (κ 0, 21375, .inl w))]) (fun n : Nat => some (.int (nI n))) (fun n : Nat => n ≤ 5) := by
  refine cr_of (by decide +kernel) (Nat.le_of_ble_eq_true rfl) ?_
  intro p e s m args below meth c ls hx hb hr hml hts hown hlk hKK hK hI hl
  have hP : va_P D vwCl [(m0, .inr (12, [.ref a0, .ref a1, .ref a2, .int (nI u3), .int f4, .ref a5, .int (nI u6), .int f7, .int f8, .int f9, .int f10, .int (nI u11), .int (nI u12), .int (nI u13), .ref a14, .ref a15, .ref a16, .ref a17, .int f18, .int f19, .ref a20, .ref a21, .int (nI u22), .ref a23, .ref a24, .ref a25, .int (nI u26), .int f27, .ref a28, .int (nI u29)])), (a0, .inl (κ 0, 21375, .inl w))] s.heap := hI
  have hFX : FX p s m args c cX12_guessOf 5 RX12 := ⟨hx, hb, hml, hown, hts⟩
  have hl : lv_has ls 5 [(0, .ref m0), (1, .int (nI a)), (2, .int (nI co))] := hl
  refine lv_iconst (v := 0) hx hb dX12_guessOf_0 (by decide) ?_
  refine lv_istore_n (lv' := [(3, .int 0), (0, .ref m0), (1, .int (nI a)), (2, .int (nI co))]) hx hb dX12_guessOf_1 rfl hl (by decide) rfl (fun ls hl => ?_)
  refine lv_iconst (v := 0) hx hb dX12_guessOf_2 (by decide) ?_
  refine lv_istore (lv' := [(4, .int 0), (3, .int 0), (0, .ref m0), (1, .int (nI a)), (2, .int (nI co))]) hx hb dX12_guessOf_3 hl (by decide) rfl (fun ls hl => ?_)
  refine loop_r (fun k9 ls => ∃ (n : Nat), ∃ (k : Nat), (n ≤ 5) ∧ (k ≤ 40) ∧ 40 - k = k9 ∧ lv_has ls 5 [(4, .int (nI k)), (3, .int (nI n)), (0, .ref m0), (1, .int (nI a)), (2, .int (nI co))]) (fun k9 ls hI5 ih5 => ?_) (40 - 0) _ ⟨0, 0, (by omega), (by omega), rfl, lv_sub hl [0, 1, 2, 3, 4] rfl⟩
  obtain ⟨n, k, hn0, hn1, hm5, hl⟩ := hI5
  refine lv_iload hx hb dX12_guessOf_5 (lv_at hl 0 rfl) ?_
  refine lv_aload_n hx hb dX12_guessOf_7 rfl (lv_at hl 2 rfl) ?_
  refine va_get (D := D) (ci := 12) (v := .ref a0) (C := RX12) (T := TX12) (N := 30) hx hb hts inlX12 hown hK hP 0 rfl rfl 0 (by decide) (hts _ mw_187) (fun _ h9 => h9) rfl dX12_guessOf_8 ?_
  refine lv_iload_n hx hb dX12_guessOf_11 rfl (lv_at hl 3 rfl) ?_
  refine lv_iconst (v := 2) hx hb dX12_guessOf_12 (by decide) ?_
  refine cr_S (As := [.int (nI a), .int 2]) (rest := [.ref a0, .int (nI k)]) hFX hKK (s_X12_at l D κ a 2) 2 gS_X12_66 hdS_X12_at rfl rfl ⟨Nat.le_of_ble_eq_true rfl, Nat.le_of_ble_eq_true rfl⟩ rfl rfl (Nat.le_of_ble_eq_true rfl) dX12_guessOf_13 ⟨Nat.le_of_ble_eq_true rfl, Nat.le_of_ble_eq_true rfl⟩ hl.1 (hP.sub [] rfl) (fun _ hp_1 => ?_)
  refine W.eq (g2 := F0 m 16 ls [.int (nI (7123 * a + 2)), .ref a0, .int (nI k)]) rfl ?_
  refine va_iald hx hb hK hP 1 0 rfl rfl (i := nI (7123 * a + 2)) (vp_in_nI (n := (7123 * a + 2)) (by omega) (by omega)) dX12_guessOf_16 ?_
  refine kv (v := .int (w (7123 * a + 2))) (by rw [nI_clamp (by omega)]) ?_
  obtain ⟨n_2, hn_2, en_2⟩ : ∃ n9 : Nat, n9 ≤ 40 ∧ w (7123 * a + 2) = nI n9 := id ((pMANY hw (t := a) (by omega) rfl))
  refine kv (v := .int (nI n_2)) (congrArg Value.int en_2) ?_
  refine lv_icmp_ge (tgt := 39) hx hb dX12_guessOf_17 (by decide) (fun c_3 => ?_) (fun c_3 => ?_)
  · have nc_3 := cv_le (a := n_2) (b := k) (by omega) (by omega) c_3
    refine lv_iload_n hx hb dX12_guessOf_39 rfl (lv_at hl 1 rfl) ?_
    exact cr_iret hx hb hr hlk rfl n rfl (by assumption) dX12_guessOf_40
  · have nc_3 := cv_nle (a := n_2) (b := k) (by omega) (by omega) c_3
    refine lv_iload_n hx hb dX12_guessOf_20 rfl (lv_at hl 1 rfl) ?_
    refine lv_aload_n hx hb dX12_guessOf_21 rfl (lv_at hl 2 rfl) ?_
    refine lv_iload_n hx hb dX12_guessOf_22 rfl (lv_at hl 3 rfl) ?_
    refine lv_iload hx hb dX12_guessOf_23 (lv_at hl 0 rfl) ?_
    refine lv_iload_n hx hb dX12_guessOf_25 rfl (lv_at hl 4 rfl) ?_
    refine cr_V (As := [.int (nI a), .int (nI k), .int (nI co)]) (rest := [.int (nI n)]) hFX hKK (s_X12_ownOf l D κ m0 a0 a1 a2 u3 f4 a5 u6 f7 f8 f9 f10 u11 u12 u13 a14 a15 a16 a17 f18 f19 a20 a21 u22 a23 a24 a25 u26 f27 a28 u29 w a k co (by assumption) (by omega) (by omega) (by omega)) 3 gV_X12_175 hdV_X12_ownOf rfl rfl ⟨Nat.le_of_ble_eq_true rfl, Nat.le_of_ble_eq_true rfl⟩ rfl rfl (Nat.le_of_ble_eq_true rfl) dX12_guessOf_26 ⟨Nat.le_of_ble_eq_true rfl, Nat.le_of_ble_eq_true rfl⟩ hl.1 hP 0 12 rfl rfl rfl (hP.sub [0, 1] rfl) (fun n_4 hp_5 => ?_)
    have hp_5 : n_4 ≤ 5 := hp_5
    refine W.eq (g2 := F0 m 29 ls [.int (nI n_4), .int (nI n)]) rfl ?_
    refine cr_S (As := [.int (nI n), .int (nI n_4)]) (rest := []) hFX hKK (s_X12_join l D κ n n_4 (by omega) (by omega)) 2 gS_X12_137 hdS_X12_join rfl rfl ⟨Nat.le_of_ble_eq_true rfl, Nat.le_of_ble_eq_true rfl⟩ rfl rfl (Nat.le_of_ble_eq_true rfl) dX12_guessOf_29 ⟨Nat.le_of_ble_eq_true rfl, Nat.le_of_ble_eq_true rfl⟩ hl.1 (hP.sub [] rfl) (fun n_6 hp_7 => ?_)
    have hp_7 : n_6 ≤ 5 := hp_7
    refine W.eq (g2 := F0 m 32 ls [.int (nI n_6)]) rfl ?_
    refine lv_istore_n (lv' := [(3, .int (nI n_6)), (4, .int (nI k)), (0, .ref m0), (1, .int (nI a)), (2, .int (nI co))]) hx hb dX12_guessOf_32 rfl hl (by decide) rfl (fun ls hl => ?_)
    refine lv_iinc (v := (nI (k + 1))) (lv' := [(4, .int (nI (k + 1))), (3, .int (nI n_6)), (0, .ref m0), (1, .int (nI a)), (2, .int (nI co))]) hx hb dX12_guessOf_33 hl (k := 1) rfl (nI_i k) (by decide) rfl (fun ls hl => ?_)
    refine lv_goto (tgt := 5) hx hb dX12_guessOf_36 (by decide) ?_
    exact ih5 _ _ (by omega) ⟨n_6, (k + 1), (by omega), (by omega), rfl, lv_sub hl [0, 1, 2, 3, 4] rfl⟩
set_option maxHeartbeats 4000000 in
set_option maxRecDepth 100000 in
theorem s_X12_typeOfColumn (l : Launch) (D : va_G) (κ : Nat → ClassId) (m0 : Nat) (a0 : Nat) (a1 : Nat) (a2 : Nat) (u3 : Nat) (f4 : Int32) (a5 : Nat) (u6 : Nat) (f7 : Int32) (f8 : Int32) (f9 : Int32) (f10 : Int32) (u11 : Nat) (u12 : Nat) (u13 : Nat) (a14 : Nat) (a15 : Nat) (a16 : Nat) (a17 : Nat) (f18 : Int32) (f19 : Int32) (a20 : Nat) (a21 : Nat) (u22 : Nat) (a23 : Nat) (a24 : Nat) (a25 : Nat) (u26 : Nat) (f27 : Int32) (a28 : Nat) (u29 : Nat) (w : Nat → Int32) (a : Nat) (co : Nat) (hw : Pw w) (ht : a < 3) (hc : co < 8) : Cr l yX12_typeOfColumn (wl yX12_typeOfColumn cX12_typeOfColumn 4 (some .int)) { frames := 7, cells := 0, slots := 0, locals := 164 } D κ [.ref m0, .int (nI a), .int (nI co)] (va_P D vwCl [(m0, .inr (12, [.ref a0, .ref a1, .ref a2, .int (nI u3), .int f4, .ref a5, .int (nI u6), .int f7, .int f8, .int f9, .int f10, .int (nI u11), .int (nI u12), .int (nI u13), .ref a14, .ref a15, .ref a16, .ref a17, .int f18, .int f19, .ref a20, .ref a21, .int (nI u22), .ref a23, .ref a24, .ref a25, .int (nI u26), .int f27, .ref a28, .int (nI u29)])), (a0, .inl (κ 0, 21375, .inl w))]) (fun n : Nat => some (.int (nI n))) (fun n : Nat => n ≤ 5) := by
  refine cr_of (by decide +kernel) (Nat.le_of_ble_eq_true rfl) ?_
  intro p e s m args below meth c ls hx hb hr hml hts hown hlk hKK hK hI hl
  have hP : va_P D vwCl [(m0, .inr (12, [.ref a0, .ref a1, .ref a2, .int (nI u3), .int f4, .ref a5, .int (nI u6), .int f7, .int f8, .int f9, .int f10, .int (nI u11), .int (nI u12), .int (nI u13), .ref a14, .ref a15, .ref a16, .ref a17, .int f18, .int f19, .ref a20, .ref a21, .int (nI u22), .ref a23, .ref a24, .ref a25, .int (nI u26), .int f27, .ref a28, .int (nI u29)])), (a0, .inl (κ 0, 21375, .inl w))] s.heap := hI
  have hFX : FX p s m args c cX12_typeOfColumn 4 RX12 := ⟨hx, hb, hml, hown, hts⟩
  have hl : lv_has ls 4 [(0, .ref m0), (1, .int (nI a)), (2, .int (nI co))] := hl
  refine lv_aload_n hx hb dX12_typeOfColumn_0 rfl (lv_at hl 0 rfl) ?_
  refine va_get (D := D) (ci := 12) (v := .ref a0) (C := RX12) (T := TX12) (N := 30) hx hb hts inlX12 hown hK hP 0 rfl rfl 0 (by decide) (hts _ mw_187) (fun _ h9 => h9) rfl dX12_typeOfColumn_1 ?_
  refine lv_iload_n hx hb dX12_typeOfColumn_4 rfl (lv_at hl 1 rfl) ?_
  refine lv_bipush (v := 108) hx hb dX12_typeOfColumn_5 (by decide) ?_
  refine cr_S (As := [.int (nI a), .int 108]) (rest := [.ref a0]) hFX hKK (s_X12_at l D κ a 108) 2 gS_X12_66 hdS_X12_at rfl rfl ⟨Nat.le_of_ble_eq_true rfl, Nat.le_of_ble_eq_true rfl⟩ rfl rfl (Nat.le_of_ble_eq_true rfl) dX12_typeOfColumn_7 ⟨Nat.le_of_ble_eq_true rfl, Nat.le_of_ble_eq_true rfl⟩ hl.1 (hP.sub [] rfl) (fun _ hp_1 => ?_)
  refine W.eq (g2 := F0 m 10 ls [.int (nI (7123 * a + 108)), .ref a0]) rfl ?_
  refine lv_iload_n hx hb dX12_typeOfColumn_10 rfl (lv_at hl 2 rfl) ?_
  refine lv_iadd hx hb dX12_typeOfColumn_11 ?_
  refine ki (v := (nI (7123 * a + 108 + co))) (nI_add (7123 * a + 108) co) ?_
  refine va_iald hx hb hK hP 1 0 rfl rfl (i := nI (7123 * a + 108 + co)) (vp_in_nI (n := (7123 * a + 108 + co)) (by omega) (by omega)) dX12_typeOfColumn_12 ?_
  refine kv (v := .int (w (7123 * a + 108 + co))) (by rw [nI_clamp (by omega)]) ?_
  obtain ⟨n_2, hn_2, en_2⟩ : ∃ n9 : Nat, n9 ≤ 5 ∧ w (7123 * a + 108 + co) = nI n9 := id ((pTOLD hw (t := a) (c := co) (by omega) (by omega) rfl))
  refine kv (v := .int (nI n_2)) (congrArg Value.int en_2) ?_
  refine lv_istore_n (lv' := [(3, .int (nI n_2)), (0, .ref m0), (1, .int (nI a)), (2, .int (nI co))]) hx hb dX12_typeOfColumn_13 rfl hl (by decide) rfl (fun ls hl => ?_)
  refine lv_iload_n hx hb dX12_typeOfColumn_14 rfl (lv_at hl 0 rfl) ?_
  refine lv_if_le (tgt := 22) hx hb dX12_typeOfColumn_15 (by decide) (fun c_3 => ?_) (fun c_3 => ?_)
  · have nc_3 := cv_le (a := n_2) (b := 0) (by omega) (by omega) c_3
    refine lv_aload_n hx hb dX12_typeOfColumn_22 rfl (lv_at hl 1 rfl) ?_
    refine lv_iload_n hx hb dX12_typeOfColumn_23 rfl (lv_at hl 2 rfl) ?_
    refine lv_iload_n hx hb dX12_typeOfColumn_24 rfl (lv_at hl 3 rfl) ?_
    refine cr_V (As := [.int (nI a), .int (nI co)]) (rest := []) hFX hKK (s_X12_guessOf l D κ m0 a0 a1 a2 u3 f4 a5 u6 f7 f8 f9 f10 u11 u12 u13 a14 a15 a16 a17 f18 f19 a20 a21 u22 a23 a24 a25 u26 f27 a28 u29 w a co (by assumption) (by omega) (by omega)) 2 gV_X12_178 hdV_X12_guessOf rfl rfl ⟨Nat.le_of_ble_eq_true rfl, Nat.le_of_ble_eq_true rfl⟩ rfl rfl (Nat.le_of_ble_eq_true rfl) dX12_typeOfColumn_25 ⟨Nat.le_of_ble_eq_true rfl, Nat.le_of_ble_eq_true rfl⟩ hl.1 hP 0 12 rfl rfl rfl (hP.sub [0, 1] rfl) (fun n_4 hp_5 => ?_)
    have hp_5 : n_4 ≤ 5 := hp_5
    refine W.eq (g2 := F0 m 28 ls [.int (nI n_4)]) rfl ?_
    exact cr_iret hx hb hr hlk rfl n_4 rfl (by assumption) dX12_typeOfColumn_28
  · have nc_3 := cv_nle (a := n_2) (b := 0) (by omega) (by omega) c_3
    refine lv_iload_n hx hb dX12_typeOfColumn_18 rfl (lv_at hl 0 rfl) ?_
    refine lv_goto (tgt := 28) hx hb dX12_typeOfColumn_19 (by decide) ?_
    exact cr_iret hx hb hr hlk rfl n_2 rfl (by assumption) dX12_typeOfColumn_28
set_option maxHeartbeats 4000000 in
set_option maxRecDepth 100000 in
theorem s_X12_compareRows (l : Launch) (D : va_G) (κ : Nat → ClassId) (m0 : Nat) (a0 : Nat) (a1 : Nat) (a2 : Nat) (u3 : Nat) (f4 : Int32) (a5 : Nat) (u6 : Nat) (f7 : Int32) (f8 : Int32) (f9 : Int32) (f10 : Int32) (u11 : Nat) (u12 : Nat) (u13 : Nat) (a14 : Nat) (a15 : Nat) (a16 : Nat) (a17 : Nat) (f18 : Int32) (f19 : Int32) (a20 : Nat) (a21 : Nat) (u22 : Nat) (a23 : Nat) (a24 : Nat) (a25 : Nat) (u26 : Nat) (f27 : Int32) (a28 : Nat) (u29 : Nat) (w : Nat → Int32) (a : Nat) (co : Nat) (b : Nat) (d : Nat) (hw : Pw w) (ht : a < 3) (hc : co < 8) (hr9 : b < 40) (hd : d < 40) : Cr l yX12_compareRows (wl yX12_compareRows cX12_compareRows 5 (some .int)) { frames := 8, cells := 0, slots := 0, locals := 187 } D κ [.ref m0, .int (nI a), .int (nI co), .int (nI b), .int (nI d)] (va_P D vwCl [(m0, .inr (12, [.ref a0, .ref a1, .ref a2, .int (nI u3), .int f4, .ref a5, .int (nI u6), .int f7, .int f8, .int f9, .int f10, .int (nI u11), .int (nI u12), .int (nI u13), .ref a14, .ref a15, .ref a16, .ref a17, .int f18, .int f19, .ref a20, .ref a21, .int (nI u22), .ref a23, .ref a24, .ref a25, .int (nI u26), .int f27, .ref a28, .int (nI u29)])), (a0, .inl (κ 0, 21375, .inl w))]) (fun n : Nat => some (.int (nI n))) (fun n : Nat => n ≤ 2) := by
  refine cr_of (by decide +kernel) (Nat.le_of_ble_eq_true rfl) ?_
  intro p e s m args below meth c ls hx hb hr hml hts hown hlk hKK hK hI hl
  have hP : va_P D vwCl [(m0, .inr (12, [.ref a0, .ref a1, .ref a2, .int (nI u3), .int f4, .ref a5, .int (nI u6), .int f7, .int f8, .int f9, .int f10, .int (nI u11), .int (nI u12), .int (nI u13), .ref a14, .ref a15, .ref a16, .ref a17, .int f18, .int f19, .ref a20, .ref a21, .int (nI u22), .ref a23, .ref a24, .ref a25, .int (nI u26), .int f27, .ref a28, .int (nI u29)])), (a0, .inl (κ 0, 21375, .inl w))] s.heap := hI
  have hFX : FX p s m args c cX12_compareRows 5 RX12 := ⟨hx, hb, hml, hown, hts⟩
  have hl : lv_has ls 5 [(0, .ref m0), (1, .int (nI a)), (2, .int (nI co)), (3, .int (nI b)), (4, .int (nI d))] := hl
  refine lv_aload_n hx hb dX12_compareRows_0 rfl (lv_at hl 0 rfl) ?_
  refine va_get (D := D) (ci := 12) (v := .ref a0) (C := RX12) (T := TX12) (N := 30) hx hb hts inlX12 hown hK hP 0 rfl rfl 0 (by decide) (hts _ mw_187) (fun _ h9 => h9) rfl dX12_compareRows_1 ?_
  refine lv_iload_n hx hb dX12_compareRows_4 rfl (lv_at hl 1 rfl) ?_
  refine lv_iload_n hx hb dX12_compareRows_5 rfl (lv_at hl 3 rfl) ?_
  refine lv_iload_n hx hb dX12_compareRows_6 rfl (lv_at hl 2 rfl) ?_
  refine cr_S (As := [.int (nI a), .int (nI b), .int (nI co)]) (rest := [.ref a0]) hFX hKK (s_X12_cellAt l D κ a b co) 3 gS_X12_167 hdS_X12_cellAt rfl rfl ⟨Nat.le_of_ble_eq_true rfl, Nat.le_of_ble_eq_true rfl⟩ rfl rfl (Nat.le_of_ble_eq_true rfl) dX12_compareRows_7 ⟨Nat.le_of_ble_eq_true rfl, Nat.le_of_ble_eq_true rfl⟩ hl.1 (hP.sub [] rfl) (fun _ hp_1 => ?_)
  refine W.eq (g2 := F0 m 10 ls [.int (nI (7123 * a + 403 + 21 * (8 * b + co))), .ref a0]) rfl ?_
  refine lv_aload_n hx hb dX12_compareRows_10 rfl (lv_at hl 0 rfl) ?_
  refine va_get (D := D) (ci := 12) (v := .ref a0) (C := RX12) (T := TX12) (N := 30) hx hb hts inlX12 hown hK hP 0 rfl rfl 0 (by decide) (hts _ mw_187) (fun _ h9 => h9) rfl dX12_compareRows_11 ?_
  refine lv_iload_n hx hb dX12_compareRows_14 rfl (lv_at hl 1 rfl) ?_
  refine lv_iload hx hb dX12_compareRows_15 (lv_at hl 4 rfl) ?_
  refine lv_iload_n hx hb dX12_compareRows_17 rfl (lv_at hl 2 rfl) ?_
  refine cr_S (As := [.int (nI a), .int (nI d), .int (nI co)]) (rest := [.ref a0, .int (nI (7123 * a + 403 + 21 * (8 * b + co))), .ref a0]) hFX hKK (s_X12_cellAt l D κ a d co) 3 gS_X12_167 hdS_X12_cellAt rfl rfl ⟨Nat.le_of_ble_eq_true rfl, Nat.le_of_ble_eq_true rfl⟩ rfl rfl (Nat.le_of_ble_eq_true rfl) dX12_compareRows_18 ⟨Nat.le_of_ble_eq_true rfl, Nat.le_of_ble_eq_true rfl⟩ hl.1 (hP.sub [] rfl) (fun _ hp_2 => ?_)
  refine W.eq (g2 := F0 m 21 ls [.int (nI (7123 * a + 403 + 21 * (8 * d + co))), .ref a0, .int (nI (7123 * a + 403 + 21 * (8 * b + co))), .ref a0]) rfl ?_
  refine lv_aload_n hx hb dX12_compareRows_21 rfl (lv_at hl 0 rfl) ?_
  refine lv_iload_n hx hb dX12_compareRows_22 rfl (lv_at hl 1 rfl) ?_
  refine lv_iload_n hx hb dX12_compareRows_23 rfl (lv_at hl 2 rfl) ?_
  refine cr_V (As := [.int (nI a), .int (nI co)]) (rest := [.int (nI (7123 * a + 403 + 21 * (8 * d + co))), .ref a0, .int (nI (7123 * a + 403 + 21 * (8 * b + co))), .ref a0]) hFX hKK (s_X12_typeOfColumn l D κ m0 a0 a1 a2 u3 f4 a5 u6 f7 f8 f9 f10 u11 u12 u13 a14 a15 a16 a17 f18 f19 a20 a21 u22 a23 a24 a25 u26 f27 a28 u29 w a co (by assumption) (by omega) (by omega)) 2 gV_X12_181 hdV_X12_typeOfColumn rfl rfl ⟨Nat.le_of_ble_eq_true rfl, Nat.le_of_ble_eq_true rfl⟩ rfl rfl (Nat.le_of_ble_eq_true rfl) dX12_compareRows_24 ⟨Nat.le_of_ble_eq_true rfl, Nat.le_of_ble_eq_true rfl⟩ hl.1 hP 0 12 rfl rfl rfl (hP.sub [0, 1] rfl) (fun n_3 hp_4 => ?_)
  have hp_4 : n_3 ≤ 5 := hp_4
  refine W.eq (g2 := F0 m 27 ls [.int (nI n_3), .int (nI (7123 * a + 403 + 21 * (8 * d + co))), .ref a0, .int (nI (7123 * a + 403 + 21 * (8 * b + co))), .ref a0]) rfl ?_
  refine cr_S (As := [.ref a0, .int (nI (7123 * a + 403 + 21 * (8 * b + co))), .ref a0, .int (nI (7123 * a + 403 + 21 * (8 * d + co))), .int (nI n_3)]) (rest := []) hFX hKK (s_X12_compareBy l D κ a0 21375 w a0 21375 w (7123 * a + 403 + 21 * (8 * b + co)) (7123 * a + 403 + 21 * (8 * d + co)) (nI n_3) (by first | assumption | omega) (by first | assumption | omega) (by omega) (by omega) (pCELL hw (t := a) (i := 8 * b + co) (by omega) (by omega) rfl) (pCELL hw (t := a) (i := 8 * d + co) (by omega) (by omega) rfl)) 5 gS_X12_184 hdS_X12_compareBy rfl rfl ⟨Nat.le_of_ble_eq_true rfl, Nat.le_of_ble_eq_true rfl⟩ rfl rfl (Nat.le_of_ble_eq_true rfl) dX12_compareRows_27 ⟨Nat.le_of_ble_eq_true rfl, Nat.le_of_ble_eq_true rfl⟩ hl.1 (hP.sub [1, 1] rfl) (fun n_5 hp_6 => ?_)
  have hp_6 : n_5 ≤ 2 := hp_6
  refine W.eq (g2 := F0 m 30 ls [.int (nI n_5)]) rfl ?_
  exact cr_iret hx hb hr hlk rfl n_5 rfl (by assumption) dX12_compareRows_30
set_option maxHeartbeats 4000000 in
set_option maxRecDepth 100000 in
theorem s_X12_viewMany (l : Launch) (D : va_G) (κ : Nat → ClassId) (m0 : Nat) (a0 : Nat) (a1 : Nat) (a2 : Nat) (u3 : Nat) (f4 : Int32) (a5 : Nat) (u6 : Nat) (f7 : Int32) (f8 : Int32) (f9 : Int32) (f10 : Int32) (u11 : Nat) (u12 : Nat) (u13 : Nat) (a14 : Nat) (a15 : Nat) (a16 : Nat) (a17 : Nat) (f18 : Int32) (f19 : Int32) (a20 : Nat) (a21 : Nat) (u22 : Nat) (a23 : Nat) (a24 : Nat) (a25 : Nat) (u26 : Nat) (f27 : Int32) (a28 : Nat) (u29 : Nat) (w : Nat → Int32) (a : Nat) (hw : Pw w) (ht : a < 3) : Cr l yX12_viewMany (wl yX12_viewMany cX12_viewMany 2 (some .int)) { frames := 1, cells := 0, slots := 0, locals := 21 } D κ [.ref m0, .int (nI a)] (va_P D vwCl [(m0, .inr (12, [.ref a0, .ref a1, .ref a2, .int (nI u3), .int f4, .ref a5, .int (nI u6), .int f7, .int f8, .int f9, .int f10, .int (nI u11), .int (nI u12), .int (nI u13), .ref a14, .ref a15, .ref a16, .ref a17, .int f18, .int f19, .ref a20, .ref a21, .int (nI u22), .ref a23, .ref a24, .ref a25, .int (nI u26), .int f27, .ref a28, .int (nI u29)])), (a0, .inl (κ 0, 21375, .inl w))]) (fun n : Nat => some (.int (nI n))) (fun n : Nat => n ≤ 40) := by
  refine cr_of (by decide +kernel) (Nat.le_of_ble_eq_true rfl) ?_
  intro p e s m args below meth c ls hx hb hr hml hts hown hlk hKK hK hI hl
  have hP : va_P D vwCl [(m0, .inr (12, [.ref a0, .ref a1, .ref a2, .int (nI u3), .int f4, .ref a5, .int (nI u6), .int f7, .int f8, .int f9, .int f10, .int (nI u11), .int (nI u12), .int (nI u13), .ref a14, .ref a15, .ref a16, .ref a17, .int f18, .int f19, .ref a20, .ref a21, .int (nI u22), .ref a23, .ref a24, .ref a25, .int (nI u26), .int f27, .ref a28, .int (nI u29)])), (a0, .inl (κ 0, 21375, .inl w))] s.heap := hI
  have hFX : FX p s m args c cX12_viewMany 2 RX12 := ⟨hx, hb, hml, hown, hts⟩
  have hl : lv_has ls 2 [(0, .ref m0), (1, .int (nI a))] := hl
  refine lv_aload_n hx hb dX12_viewMany_0 rfl (lv_at hl 0 rfl) ?_
  refine va_get (D := D) (ci := 12) (v := .ref a0) (C := RX12) (T := TX12) (N := 30) hx hb hts inlX12 hown hK hP 0 rfl rfl 0 (by decide) (hts _ mw_187) (fun _ h9 => h9) rfl dX12_viewMany_1 ?_
  refine lv_iload_n hx hb dX12_viewMany_4 rfl (lv_at hl 1 rfl) ?_
  refine lv_bipush (v := 116) hx hb dX12_viewMany_5 (by decide) ?_
  refine cr_S (As := [.int (nI a), .int 116]) (rest := [.ref a0]) hFX hKK (s_X12_at l D κ a 116) 2 gS_X12_66 hdS_X12_at rfl rfl ⟨Nat.le_of_ble_eq_true rfl, Nat.le_of_ble_eq_true rfl⟩ rfl rfl (Nat.le_of_ble_eq_true rfl) dX12_viewMany_7 ⟨Nat.le_of_ble_eq_true rfl, Nat.le_of_ble_eq_true rfl⟩ hl.1 (hP.sub [] rfl) (fun _ hp_1 => ?_)
  refine W.eq (g2 := F0 m 10 ls [.int (nI (7123 * a + 116)), .ref a0]) rfl ?_
  refine lv_aload_n hx hb dX12_viewMany_10 rfl (lv_at hl 0 rfl) ?_
  refine va_get (D := D) (ci := 12) (v := .ref a0) (C := RX12) (T := TX12) (N := 30) hx hb hts inlX12 hown hK hP 0 rfl rfl 0 (by decide) (hts _ mw_187) (fun _ h9 => h9) rfl dX12_viewMany_11 ?_
  refine lv_iload_n hx hb dX12_viewMany_14 rfl (lv_at hl 1 rfl) ?_
  refine lv_iconst (v := 3) hx hb dX12_viewMany_15 (by decide) ?_
  refine cr_S (As := [.int (nI a), .int 3]) (rest := [.ref a0, .int (nI (7123 * a + 116)), .ref a0]) hFX hKK (s_X12_at l D κ a 3) 2 gS_X12_66 hdS_X12_at rfl rfl ⟨Nat.le_of_ble_eq_true rfl, Nat.le_of_ble_eq_true rfl⟩ rfl rfl (Nat.le_of_ble_eq_true rfl) dX12_viewMany_16 ⟨Nat.le_of_ble_eq_true rfl, Nat.le_of_ble_eq_true rfl⟩ hl.1 (hP.sub [] rfl) (fun _ hp_2 => ?_)
  refine W.eq (g2 := F0 m 19 ls [.int (nI (7123 * a + 3)), .ref a0, .int (nI (7123 * a + 116)), .ref a0]) rfl ?_
  refine va_iald hx hb hK hP 1 0 rfl rfl (i := nI (7123 * a + 3)) (vp_in_nI (n := (7123 * a + 3)) (by omega) (by omega)) dX12_viewMany_19 ?_
  refine kv (v := .int (w (7123 * a + 3))) (by rw [nI_clamp (by omega)]) ?_
  obtain ⟨n_3, hn_3, en_3⟩ : ∃ n9 : Nat, n9 ≤ 6 ∧ w (7123 * a + 3) = nI n9 := id ((pTOP hw (t := a) (by omega) rfl))
  refine kv (v := .int (nI n_3)) (congrArg Value.int en_3) ?_
  refine lv_iadd hx hb dX12_viewMany_20 ?_
  refine ki (v := (nI (7123 * a + 116 + n_3))) (nI_add (7123 * a + 116) n_3) ?_
  refine va_iald hx hb hK hP 1 0 rfl rfl (i := nI (7123 * a + 116 + n_3)) (vp_in_nI (n := (7123 * a + 116 + n_3)) (by omega) (by omega)) dX12_viewMany_21 ?_
  refine kv (v := .int (w (7123 * a + 116 + n_3))) (by rw [nI_clamp (by omega)]) ?_
  obtain ⟨n_4, hn_4, en_4⟩ : ∃ n9 : Nat, n9 ≤ 40 ∧ w (7123 * a + 116 + n_3) = nI n9 := id ((pVM hw (t := a) (k := n_3) (by omega) (by omega) rfl))
  refine kv (v := .int (nI n_4)) (congrArg Value.int en_4) ?_
  exact cr_iret hx hb hr hlk rfl n_4 rfl (by assumption) dX12_viewMany_22
set_option maxHeartbeats 4000000 in
set_option maxRecDepth 100000 in
theorem s_X12_viewed (l : Launch) (D : va_G) (κ : Nat → ClassId) (m0 : Nat) (a0 : Nat) (a1 : Nat) (a2 : Nat) (u3 : Nat) (f4 : Int32) (a5 : Nat) (u6 : Nat) (f7 : Int32) (f8 : Int32) (f9 : Int32) (f10 : Int32) (u11 : Nat) (u12 : Nat) (u13 : Nat) (a14 : Nat) (a15 : Nat) (a16 : Nat) (a17 : Nat) (f18 : Int32) (f19 : Int32) (a20 : Nat) (a21 : Nat) (u22 : Nat) (a23 : Nat) (a24 : Nat) (a25 : Nat) (u26 : Nat) (f27 : Int32) (a28 : Nat) (u29 : Nat) (w : Nat → Int32) (a : Nat) (b : Nat) (hw : Pw w) (ht : a < 3) (hr9 : b < 40) : Cr l yX12_viewed (wl yX12_viewed cX12_viewed 3 (some .int)) { frames := 1, cells := 0, slots := 0, locals := 21 } D κ [.ref m0, .int (nI a), .int (nI b)] (va_P D vwCl [(m0, .inr (12, [.ref a0, .ref a1, .ref a2, .int (nI u3), .int f4, .ref a5, .int (nI u6), .int f7, .int f8, .int f9, .int f10, .int (nI u11), .int (nI u12), .int (nI u13), .ref a14, .ref a15, .ref a16, .ref a17, .int f18, .int f19, .ref a20, .ref a21, .int (nI u22), .ref a23, .ref a24, .ref a25, .int (nI u26), .int f27, .ref a28, .int (nI u29)])), (a0, .inl (κ 0, 21375, .inl w))]) (fun n : Nat => some (.int (nI n))) (fun n : Nat => n ≤ 39) := by
  refine cr_of (by decide +kernel) (Nat.le_of_ble_eq_true rfl) ?_
  intro p e s m args below meth c ls hx hb hr hml hts hown hlk hKK hK hI hl
  have hP : va_P D vwCl [(m0, .inr (12, [.ref a0, .ref a1, .ref a2, .int (nI u3), .int f4, .ref a5, .int (nI u6), .int f7, .int f8, .int f9, .int f10, .int (nI u11), .int (nI u12), .int (nI u13), .ref a14, .ref a15, .ref a16, .ref a17, .int f18, .int f19, .ref a20, .ref a21, .int (nI u22), .ref a23, .ref a24, .ref a25, .int (nI u26), .int f27, .ref a28, .int (nI u29)])), (a0, .inl (κ 0, 21375, .inl w))] s.heap := hI
  have hFX : FX p s m args c cX12_viewed 3 RX12 := ⟨hx, hb, hml, hown, hts⟩
  have hl : lv_has ls 3 [(0, .ref m0), (1, .int (nI a)), (2, .int (nI b))] := hl
  refine lv_aload_n hx hb dX12_viewed_0 rfl (lv_at hl 0 rfl) ?_
  refine va_get (D := D) (ci := 12) (v := .ref a0) (C := RX12) (T := TX12) (N := 30) hx hb hts inlX12 hown hK hP 0 rfl rfl 0 (by decide) (hts _ mw_187) (fun _ h9 => h9) rfl dX12_viewed_1 ?_
  refine lv_iload_n hx hb dX12_viewed_4 rfl (lv_at hl 1 rfl) ?_
  refine lv_bipush (v := 123) hx hb dX12_viewed_5 (by decide) ?_
  refine cr_S (As := [.int (nI a), .int 123]) (rest := [.ref a0]) hFX hKK (s_X12_at l D κ a 123) 2 gS_X12_66 hdS_X12_at rfl rfl ⟨Nat.le_of_ble_eq_true rfl, Nat.le_of_ble_eq_true rfl⟩ rfl rfl (Nat.le_of_ble_eq_true rfl) dX12_viewed_7 ⟨Nat.le_of_ble_eq_true rfl, Nat.le_of_ble_eq_true rfl⟩ hl.1 (hP.sub [] rfl) (fun _ hp_1 => ?_)
  refine W.eq (g2 := F0 m 10 ls [.int (nI (7123 * a + 123)), .ref a0]) rfl ?_
  refine lv_bipush (v := 40) hx hb dX12_viewed_10 (by decide) ?_
  refine lv_aload_n hx hb dX12_viewed_12 rfl (lv_at hl 0 rfl) ?_
  refine va_get (D := D) (ci := 12) (v := .ref a0) (C := RX12) (T := TX12) (N := 30) hx hb hts inlX12 hown hK hP 0 rfl rfl 0 (by decide) (hts _ mw_187) (fun _ h9 => h9) rfl dX12_viewed_13 ?_
  refine lv_iload_n hx hb dX12_viewed_16 rfl (lv_at hl 1 rfl) ?_
  refine lv_iconst (v := 3) hx hb dX12_viewed_17 (by decide) ?_
  refine cr_S (As := [.int (nI a), .int 3]) (rest := [.ref a0, .int 40, .int (nI (7123 * a + 123)), .ref a0]) hFX hKK (s_X12_at l D κ a 3) 2 gS_X12_66 hdS_X12_at rfl rfl ⟨Nat.le_of_ble_eq_true rfl, Nat.le_of_ble_eq_true rfl⟩ rfl rfl (Nat.le_of_ble_eq_true rfl) dX12_viewed_18 ⟨Nat.le_of_ble_eq_true rfl, Nat.le_of_ble_eq_true rfl⟩ hl.1 (hP.sub [] rfl) (fun _ hp_2 => ?_)
  refine W.eq (g2 := F0 m 21 ls [.int (nI (7123 * a + 3)), .ref a0, .int 40, .int (nI (7123 * a + 123)), .ref a0]) rfl ?_
  refine va_iald hx hb hK hP 1 0 rfl rfl (i := nI (7123 * a + 3)) (vp_in_nI (n := (7123 * a + 3)) (by omega) (by omega)) dX12_viewed_21 ?_
  refine kv (v := .int (w (7123 * a + 3))) (by rw [nI_clamp (by omega)]) ?_
  obtain ⟨n_3, hn_3, en_3⟩ : ∃ n9 : Nat, n9 ≤ 6 ∧ w (7123 * a + 3) = nI n9 := id ((pTOP hw (t := a) (by omega) rfl))
  refine kv (v := .int (nI n_3)) (congrArg Value.int en_3) ?_
  refine lv_imul hx hb dX12_viewed_22 ?_
  refine ki (v := (nI (40 * n_3))) (pk_mul 40 n_3) ?_
  refine lv_iadd hx hb dX12_viewed_23 ?_
  refine ki (v := (nI (7123 * a + 123 + (40 * n_3)))) (nI_add (7123 * a + 123) (40 * n_3)) ?_
  refine lv_iload_n hx hb dX12_viewed_24 rfl (lv_at hl 2 rfl) ?_
  refine lv_iadd hx hb dX12_viewed_25 ?_
  refine ki (v := (nI (7123 * a + 123 + (40 * n_3) + b))) (nI_add (7123 * a + 123 + (40 * n_3)) b) ?_
  refine va_iald hx hb hK hP 1 0 rfl rfl (i := nI (7123 * a + 123 + (40 * n_3) + b)) (vp_in_nI (n := (7123 * a + 123 + (40 * n_3) + b)) (by omega) (by omega)) dX12_viewed_26 ?_
  refine kv (v := .int (w (7123 * a + 123 + (40 * n_3) + b))) (by rw [nI_clamp (by omega)]) ?_
  obtain ⟨n_4, hn_4, en_4⟩ : ∃ n9 : Nat, n9 ≤ 39 ∧ w (7123 * a + 123 + (40 * n_3) + b) = nI n9 := id ((pVIEW hw (t := a) (i := (40 * n_3) + b) (by omega) (by omega) (by omega)))
  refine kv (v := .int (nI n_4)) (congrArg Value.int en_4) ?_
  exact cr_iret hx hb hr hlk rfl n_4 rfl (by assumption) dX12_viewed_27
set_option maxHeartbeats 4000000 in
set_option maxRecDepth 100000 in
theorem s_X12_isEnd (l : Launch) (D : va_G) (κ : Nat → ClassId) (m0 : Nat) (a0 : Nat) (a1 : Nat) (a2 : Nat) (u3 : Nat) (f4 : Int32) (a5 : Nat) (u6 : Nat) (f7 : Int32) (f8 : Int32) (f9 : Int32) (f10 : Int32) (u11 : Nat) (u12 : Nat) (u13 : Nat) (a14 : Nat) (a15 : Nat) (a16 : Nat) (a17 : Nat) (f18 : Int32) (f19 : Int32) (a20 : Nat) (a21 : Nat) (u22 : Nat) (a23 : Nat) (a24 : Nat) (a25 : Nat) (u26 : Nat) (f27 : Int32) (a28 : Nat) (u29 : Nat) (tp : Nat → Int32) (h6 : u6 ≤ 800) (h11 : u11 ≤ u6) : Cr l yX12_isEnd (wl yX12_isEnd cX12_isEnd 1 (some .boolean)) { frames := 0, cells := 0, slots := 0, locals := 0 } D κ [.ref m0] (va_P D vwCl [(m0, .inr (12, [.ref a0, .ref a1, .ref a2, .int (nI u3), .int f4, .ref a5, .int (nI u6), .int f7, .int f8, .int f9, .int f10, .int (nI u11), .int (nI u12), .int (nI u13), .ref a14, .ref a15, .ref a16, .ref a17, .int f18, .int f19, .ref a20, .ref a21, .int (nI u22), .ref a23, .ref a24, .ref a25, .int (nI u26), .int f27, .ref a28, .int (nI u29)])), (a5, .inl (κ 0, 800, .inl tp))]) (fun r : Int32 => some (.int r)) (fun r : Int32 => (r = 1) ∨ (r = 0 ∧ u11 < u6)) := by
  refine cr_of (by decide +kernel) (Nat.le_of_ble_eq_true rfl) ?_
  intro p e s m args below meth c ls hx hb hr hml hts hown hlk hKK hK hI hl
  have hP : va_P D vwCl [(m0, .inr (12, [.ref a0, .ref a1, .ref a2, .int (nI u3), .int f4, .ref a5, .int (nI u6), .int f7, .int f8, .int f9, .int f10, .int (nI u11), .int (nI u12), .int (nI u13), .ref a14, .ref a15, .ref a16, .ref a17, .int f18, .int f19, .ref a20, .ref a21, .int (nI u22), .ref a23, .ref a24, .ref a25, .int (nI u26), .int f27, .ref a28, .int (nI u29)])), (a5, .inl (κ 0, 800, .inl tp))] s.heap := hI
  have hFX : FX p s m args c cX12_isEnd 1 RX12 := ⟨hx, hb, hml, hown, hts⟩
  have hl : lv_has ls 1 [(0, .ref m0)] := hl
  refine lv_aload_n hx hb dX12_isEnd_0 rfl (lv_at hl 0 rfl) ?_
  refine va_get (D := D) (ci := 12) (v := .int (nI u11)) (C := RX12) (T := TX12) (N := 30) hx hb hts inlX12 hown hK hP 0 rfl rfl 11 (by decide) (hts _ mw_423) (fun _ h9 => h9) rfl dX12_isEnd_1 ?_
  refine lv_aload_n hx hb dX12_isEnd_4 rfl (lv_at hl 0 rfl) ?_
  refine va_get (D := D) (ci := 12) (v := .int (nI u6)) (C := RX12) (T := TX12) (N := 30) hx hb hts inlX12 hown hK hP 0 rfl rfl 6 (by decide) (hts _ mw_236) (fun _ h9 => h9) rfl dX12_isEnd_5 ?_
  refine lv_icmp_eq (tgt := 25) hx hb dX12_isEnd_8 (by decide) (fun c_1 => ?_) (fun c_1 => ?_)
  · have nc_1 := cv_eq (a := u11) (b := u6) (by omega) (by omega) c_1
    refine lv_iconst (v := 1) hx hb dX12_isEnd_25 (by decide) ?_
    refine lv_goto (tgt := 30) hx hb dX12_isEnd_26 (by decide) ?_
    exact cr_iret hx hb hr hlk rfl 1 rfl (by first | exact Or.inl (rfl)) dX12_isEnd_30
  · have nc_1 := cv_ne (a := u11) (b := u6) (by omega) (by omega) c_1
    refine lv_aload_n hx hb dX12_isEnd_11 rfl (lv_at hl 0 rfl) ?_
    refine va_get (D := D) (ci := 12) (v := .ref a5) (C := RX12) (T := TX12) (N := 30) hx hb hts inlX12 hown hK hP 0 rfl rfl 5 (by decide) (hts _ mw_191) (fun _ h9 => h9) rfl dX12_isEnd_12 ?_
    refine lv_aload_n hx hb dX12_isEnd_15 rfl (lv_at hl 0 rfl) ?_
    refine va_get (D := D) (ci := 12) (v := .int (nI u11)) (C := RX12) (T := TX12) (N := 30) hx hb hts inlX12 hown hK hP 0 rfl rfl 11 (by decide) (hts _ mw_423) (fun _ h9 => h9) rfl dX12_isEnd_16 ?_
    refine va_iald hx hb hK hP 1 0 rfl rfl (i := nI u11) (vp_in_nI (n := u11) (by omega) (by omega)) dX12_isEnd_19 ?_
    refine kv (v := .int (tp u11)) (by rw [nI_clamp (by omega)]) ?_
    refine lv_topi (fun x_2 ex_2 => ?_)
    refine lv_bipush (v := 10) hx hb dX12_isEnd_20 (by decide) ?_
    refine lv_icmp_ne (tgt := 29) hx hb dX12_isEnd_22 (by decide) (fun c_3 => ?_) (fun c_3 => ?_)
    · refine lv_iconst (v := 0) hx hb dX12_isEnd_29 (by decide) ?_
      exact cr_iret hx hb hr hlk rfl 0 rfl (by first | exact Or.inr ((⟨rfl, (by first | assumption | exact Or.inl (by assumption) | exact Or.inr (by assumption) | exact out_ne (by assumption) (by decide) (by decide) | exact ⟨_, (by assumption), rfl⟩ | omega)⟩))) dX12_isEnd_30
    · refine lv_iconst (v := 1) hx hb dX12_isEnd_25 (by decide) ?_
      refine lv_goto (tgt := 30) hx hb dX12_isEnd_26 (by decide) ?_
      exact cr_iret hx hb hr hlk rfl 1 rfl (by first | exact Or.inl (rfl)) dX12_isEnd_30
