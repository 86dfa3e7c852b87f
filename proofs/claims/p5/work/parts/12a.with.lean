/-- column by column: which are there -/
def Lg (κ : Nat → ClassId) (im : va_W) (h : Nat → Option Nat) (R W c r : Nat) : Prop := ∀ i j : Nat, i < R → j < W → (j < c ∨ j = c ∧ i < r) → ∃ q : Nat, h (i * W + j) = some q ∧ ∃ k m : Nat, Cl κ im q k m
theorem Lg.up {κ : Nat → ClassId} {im im2 : va_W} {h : Nat → Option Nat} {R W c r : Nat} (hh : Lg κ im h R W c r) (hs : Sb im im2) : Lg κ im2 h R W c r := by
  intro i j hi hj hc
  obtain ⟨q, e, k, m, h1⟩ := hh i j hi hj hc
  exact ⟨q, e, k, m, h1.up hs⟩
theorem Lg_0 {κ : Nat → ClassId} {im : va_W} {h : Nat → Option Nat} {R W : Nat} : Lg κ im h R W 0 0 := fun i j _ _ hc => absurd hc (by omega)
theorem Lg_add {κ : Nat → ClassId} {im : va_W} {h : Nat → Option Nat} {R W c r q k m : Nat} (hh : Lg κ im h R W c r) (hq : Cl κ im q k m) : Lg κ im (va_up h (r * W + c) (some q)) R W c (r + 1) := by
  intro i j hi hj hc
  unfold va_up
  by_cases e : i * W + j = r * W + c
  · exact ⟨q, by simp [e], k, m, hq⟩
  · obtain ⟨q2, e2, h2⟩ := hh i j hi hj (by
      rcases hc with hc | ⟨rfl, hc⟩
      · exact Or.inl hc
      · refine Or.inr ⟨rfl, ?_⟩
        rcases Nat.lt_or_eq_of_le (Nat.le_of_lt_succ hc) with h9 | rfl
        · exact h9
        · exact absurd rfl e)
    exact ⟨q2, by simpa [e] using e2, h2⟩
theorem Lg_next {κ : Nat → ClassId} {im : va_W} {h : Nat → Option Nat} {R W c r : Nat} (hr : R ≤ r) (hh : Lg κ im h R W c r) : Lg κ im h R W (c + 1) 0 := by
  intro i j hi hj hc
  exact hh i j hi hj (by omega)
theorem Lg_all {κ : Nat → ClassId} {im : va_W} {h : Nat → Option Nat} {R W c : Nat} (hc : W ≤ c) (hh : Lg κ im h R W c 0) : Lc κ im h (R * W) := by
  intro i hi
  have hW : 0 < W := by
    rcases Nat.eq_zero_or_pos W with rfl | h9
    · simp at hi
    · exact h9
  have h1 : i / W < R := (Nat.div_lt_iff_lt_mul hW).2 hi
  have h2 : i % W < W := Nat.mod_lt _ hW
  obtain ⟨q, e, h3⟩ := hh (i / W) (i % W) h1 h2 (Or.inl (by omega))
  rw [Nat.div_add_mod'] at e
  exact ⟨q, e, h3⟩
theorem dX5_withCell_0 : decode cX5_withCell 0 = .ok (.aload_n 0, 1) := by decide +kernel
theorem dX5_withCell_1 : decode cX5_withCell 1 = .ok (.getfield 15, 3) := by decide +kernel
theorem dX5_withCell_4 : decode cX5_withCell 4 = .ok (.arraylength, 1) := by decide +kernel
theorem dX5_withCell_5 : decode cX5_withCell 5 = .ok (.anewarray 53, 3) := by decide +kernel
theorem mw_605 : Cond.classLink RX5 53 RX0 ∈ wsL_law := lrk_26 _ (List.mem_of_getElem? (i := 5) rfl)
theorem dX5_withCell_8 : decode cX5_withCell 8 = .ok (.astore 4, 2) := by decide +kernel
theorem dX5_withCell_10 : decode cX5_withCell 10 = .ok (.iconst 0, 1) := by decide +kernel
theorem dX5_withCell_11 : decode cX5_withCell 11 = .ok (.istore 5, 2) := by decide +kernel
theorem dX5_withCell_13 : decode cX5_withCell 13 = .ok (.iload 5, 2) := by decide +kernel
theorem dX5_withCell_15 : decode cX5_withCell 15 = .ok (.aload_n 0, 1) := by decide +kernel
theorem dX5_withCell_16 : decode cX5_withCell 16 = .ok (.getfield 15, 3) := by decide +kernel
theorem dX5_withCell_19 : decode cX5_withCell 19 = .ok (.arraylength, 1) := by decide +kernel
theorem dX5_withCell_20 : decode cX5_withCell 20 = .ok (.if_icmp .ge 21, 3) := by decide +kernel
theorem dX5_withCell_41 : decode cX5_withCell 41 = .ok (.aload 4, 2) := by decide +kernel
theorem dX5_withCell_43 : decode cX5_withCell 43 = .ok (.iload_n 1, 1) := by decide +kernel
theorem dX5_withCell_44 : decode cX5_withCell 44 = .ok (.aload_n 0, 1) := by decide +kernel
theorem dX5_withCell_45 : decode cX5_withCell 45 = .ok (.getfield 9, 3) := by decide +kernel
theorem dX5_withCell_48 : decode cX5_withCell 48 = .ok (.arraylength, 1) := by decide +kernel
theorem dX5_withCell_49 : decode cX5_withCell 49 = .ok (.imul, 1) := by decide +kernel
theorem dX5_withCell_50 : decode cX5_withCell 50 = .ok (.iload_n 2, 1) := by decide +kernel
theorem dX5_withCell_51 : decode cX5_withCell 51 = .ok (.iadd, 1) := by decide +kernel
theorem dX5_withCell_52 : decode cX5_withCell 52 = .ok (.aload_n 3, 1) := by decide +kernel
theorem dX5_withCell_53 : decode cX5_withCell 53 = .ok (.aastore, 1) := by decide +kernel
theorem dX5_withCell_54 : decode cX5_withCell 54 = .ok (.new 10, 3) := by decide +kernel
theorem mw_606 : Cond.classLink RX5 10 RX5 ∈ wsL_law := lrk_26 _ (List.mem_of_getElem? (i := 6) rfl)
theorem mw_376 : Cond.instantiable RX5 4 ∈ wsL_law := lrk_16 _ (List.mem_of_getElem? (i := 16) rfl)
theorem dX5_withCell_57 : decode cX5_withCell 57 = .ok (.dup, 1) := by decide +kernel
theorem dX5_withCell_58 : decode cX5_withCell 58 = .ok (.aload_n 0, 1) := by decide +kernel
theorem dX5_withCell_59 : decode cX5_withCell 59 = .ok (.getfield 9, 3) := by decide +kernel
theorem dX5_withCell_62 : decode cX5_withCell 62 = .ok (.aload 4, 2) := by decide +kernel
theorem dX5_withCell_64 : decode cX5_withCell 64 = .ok (.aload_n 0, 1) := by decide +kernel
theorem dX5_withCell_65 : decode cX5_withCell 65 = .ok (.getfield 19, 3) := by decide +kernel
theorem dX5_withCell_68 : decode cX5_withCell 68 = .ok (.invokespecial 94, 3) := by decide +kernel
theorem hdI_X5_init : yX5_init.name = "<init>" ∧ okD yX5_init 3 := by decide +kernel
theorem mw_607 : Cond.methodLink RX5 94 yX5_init ∈ wsL_law := lrk_26 _ (List.mem_of_getElem? (i := 7) rfl)
theorem mw_379 : Cond.instanceMethod yX5_init ∈ wsL_law := lrk_16 _ (List.mem_of_getElem? (i := 19) rfl)
theorem mw_380 : Cond.code yX5_init cX5_init 6 none ∈ wsL_law := lrk_16 _ (List.mem_of_getElem? (i := 20) rfl)
theorem dX5_withCell_71 : decode cX5_withCell 71 = .ok (.areturn, 1) := by decide +kernel
theorem dX5_withCell_23 : decode cX5_withCell 23 = .ok (.aload 4, 2) := by decide +kernel
theorem dX5_withCell_25 : decode cX5_withCell 25 = .ok (.iload 5, 2) := by decide +kernel
theorem dX5_withCell_27 : decode cX5_withCell 27 = .ok (.aload_n 0, 1) := by decide +kernel
theorem dX5_withCell_28 : decode cX5_withCell 28 = .ok (.getfield 15, 3) := by decide +kernel
theorem dX5_withCell_31 : decode cX5_withCell 31 = .ok (.iload 5, 2) := by decide +kernel
theorem dX5_withCell_33 : decode cX5_withCell 33 = .ok (.aaload, 1) := by decide +kernel
theorem dX5_withCell_34 : decode cX5_withCell 34 = .ok (.aastore, 1) := by decide +kernel
theorem dX5_withCell_35 : decode cX5_withCell 35 = .ok (.iinc 5 1, 3) := by decide +kernel
theorem dX5_withCell_38 : decode cX5_withCell 38 = .ok (.goto (-25), 3) := by decide +kernel
theorem dX5_withRow_0 : decode cX5_withRow 0 = .ok (.aload_n 0, 1) := by decide +kernel
theorem dX5_withRow_1 : decode cX5_withRow 1 = .ok (.getfield 15, 3) := by decide +kernel
theorem dX5_withRow_4 : decode cX5_withRow 4 = .ok (.arraylength, 1) := by decide +kernel
theorem dX5_withRow_5 : decode cX5_withRow 5 = .ok (.aload_n 0, 1) := by decide +kernel
theorem dX5_withRow_6 : decode cX5_withRow 6 = .ok (.getfield 9, 3) := by decide +kernel
theorem dX5_withRow_9 : decode cX5_withRow 9 = .ok (.arraylength, 1) := by decide +kernel
theorem dX5_withRow_10 : decode cX5_withRow 10 = .ok (.iadd, 1) := by decide +kernel
theorem dX5_withRow_11 : decode cX5_withRow 11 = .ok (.anewarray 53, 3) := by decide +kernel
theorem dX5_withRow_14 : decode cX5_withRow 14 = .ok (.astore_n 2, 1) := by decide +kernel
theorem dX5_withRow_15 : decode cX5_withRow 15 = .ok (.iconst 0, 1) := by decide +kernel
theorem dX5_withRow_16 : decode cX5_withRow 16 = .ok (.istore_n 3, 1) := by decide +kernel
theorem dX5_withRow_17 : decode cX5_withRow 17 = .ok (.iload_n 3, 1) := by decide +kernel
theorem dX5_withRow_18 : decode cX5_withRow 18 = .ok (.aload_n 0, 1) := by decide +kernel
theorem dX5_withRow_19 : decode cX5_withRow 19 = .ok (.getfield 15, 3) := by decide +kernel
theorem dX5_withRow_22 : decode cX5_withRow 22 = .ok (.arraylength, 1) := by decide +kernel
theorem dX5_withRow_23 : decode cX5_withRow 23 = .ok (.if_icmp .ge 18, 3) := by decide +kernel
theorem dX5_withRow_41 : decode cX5_withRow 41 = .ok (.iconst 0, 1) := by decide +kernel
theorem dX5_withRow_42 : decode cX5_withRow 42 = .ok (.istore_n 3, 1) := by decide +kernel
theorem dX5_withRow_43 : decode cX5_withRow 43 = .ok (.iload_n 3, 1) := by decide +kernel
theorem dX5_withRow_44 : decode cX5_withRow 44 = .ok (.aload_n 0, 1) := by decide +kernel
theorem dX5_withRow_45 : decode cX5_withRow 45 = .ok (.getfield 9, 3) := by decide +kernel
theorem dX5_withRow_48 : decode cX5_withRow 48 = .ok (.arraylength, 1) := by decide +kernel
theorem dX5_withRow_49 : decode cX5_withRow 49 = .ok (.if_icmp .ge 21, 3) := by decide +kernel
theorem dX5_withRow_70 : decode cX5_withRow 70 = .ok (.new 10, 3) := by decide +kernel
theorem dX5_withRow_73 : decode cX5_withRow 73 = .ok (.dup, 1) := by decide +kernel
theorem dX5_withRow_74 : decode cX5_withRow 74 = .ok (.aload_n 0, 1) := by decide +kernel
theorem dX5_withRow_75 : decode cX5_withRow 75 = .ok (.getfield 9, 3) := by decide +kernel
theorem dX5_withRow_78 : decode cX5_withRow 78 = .ok (.aload_n 2, 1) := by decide +kernel
theorem dX5_withRow_79 : decode cX5_withRow 79 = .ok (.aload_n 0, 1) := by decide +kernel
theorem dX5_withRow_80 : decode cX5_withRow 80 = .ok (.getfield 19, 3) := by decide +kernel
theorem dX5_withRow_83 : decode cX5_withRow 83 = .ok (.iconst 1, 1) := by decide +kernel
theorem dX5_withRow_84 : decode cX5_withRow 84 = .ok (.iadd, 1) := by decide +kernel
theorem dX5_withRow_85 : decode cX5_withRow 85 = .ok (.invokespecial 94, 3) := by decide +kernel
theorem dX5_withRow_88 : decode cX5_withRow 88 = .ok (.areturn, 1) := by decide +kernel
theorem dX5_withRow_52 : decode cX5_withRow 52 = .ok (.aload_n 2, 1) := by decide +kernel
theorem dX5_withRow_53 : decode cX5_withRow 53 = .ok (.aload_n 0, 1) := by decide +kernel
theorem dX5_withRow_54 : decode cX5_withRow 54 = .ok (.getfield 15, 3) := by decide +kernel
theorem dX5_withRow_57 : decode cX5_withRow 57 = .ok (.arraylength, 1) := by decide +kernel
theorem dX5_withRow_58 : decode cX5_withRow 58 = .ok (.iload_n 3, 1) := by decide +kernel
theorem dX5_withRow_59 : decode cX5_withRow 59 = .ok (.iadd, 1) := by decide +kernel
theorem dX5_withRow_60 : decode cX5_withRow 60 = .ok (.aload_n 1, 1) := by decide +kernel
theorem dX5_withRow_61 : decode cX5_withRow 61 = .ok (.iload_n 3, 1) := by decide +kernel
theorem dX5_withRow_62 : decode cX5_withRow 62 = .ok (.aaload, 1) := by decide +kernel
theorem dX5_withRow_63 : decode cX5_withRow 63 = .ok (.aastore, 1) := by decide +kernel
theorem dX5_withRow_64 : decode cX5_withRow 64 = .ok (.iinc 3 1, 3) := by decide +kernel
theorem dX5_withRow_67 : decode cX5_withRow 67 = .ok (.goto (-24), 3) := by decide +kernel
theorem dX5_withRow_26 : decode cX5_withRow 26 = .ok (.aload_n 2, 1) := by decide +kernel
theorem dX5_withRow_27 : decode cX5_withRow 27 = .ok (.iload_n 3, 1) := by decide +kernel
theorem dX5_withRow_28 : decode cX5_withRow 28 = .ok (.aload_n 0, 1) := by decide +kernel
theorem dX5_withRow_29 : decode cX5_withRow 29 = .ok (.getfield 15, 3) := by decide +kernel
theorem dX5_withRow_32 : decode cX5_withRow 32 = .ok (.iload_n 3, 1) := by decide +kernel
theorem dX5_withRow_33 : decode cX5_withRow 33 = .ok (.aaload, 1) := by decide +kernel
theorem dX5_withRow_34 : decode cX5_withRow 34 = .ok (.aastore, 1) := by decide +kernel
theorem dX5_withRow_35 : decode cX5_withRow 35 = .ok (.iinc 3 1, 3) := by decide +kernel
theorem dX5_withRow_38 : decode cX5_withRow 38 = .ok (.goto (-21), 3) := by decide +kernel
theorem dX5_withoutRow_0 : decode cX5_withoutRow 0 = .ok (.aload_n 0, 1) := by decide +kernel
theorem dX5_withoutRow_1 : decode cX5_withoutRow 1 = .ok (.getfield 15, 3) := by decide +kernel
theorem dX5_withoutRow_4 : decode cX5_withoutRow 4 = .ok (.arraylength, 1) := by decide +kernel
theorem dX5_withoutRow_5 : decode cX5_withoutRow 5 = .ok (.aload_n 0, 1) := by decide +kernel
theorem dX5_withoutRow_6 : decode cX5_withoutRow 6 = .ok (.getfield 9, 3) := by decide +kernel
theorem dX5_withoutRow_9 : decode cX5_withoutRow 9 = .ok (.arraylength, 1) := by decide +kernel
theorem dX5_withoutRow_10 : decode cX5_withoutRow 10 = .ok (.isub, 1) := by decide +kernel
theorem dX5_withoutRow_11 : decode cX5_withoutRow 11 = .ok (.anewarray 53, 3) := by decide +kernel
theorem dX5_withoutRow_14 : decode cX5_withoutRow 14 = .ok (.astore_n 2, 1) := by decide +kernel
theorem dX5_withoutRow_15 : decode cX5_withoutRow 15 = .ok (.iload_n 1, 1) := by decide +kernel
theorem dX5_withoutRow_16 : decode cX5_withoutRow 16 = .ok (.aload_n 0, 1) := by decide +kernel
theorem dX5_withoutRow_17 : decode cX5_withoutRow 17 = .ok (.getfield 9, 3) := by decide +kernel
theorem dX5_withoutRow_20 : decode cX5_withoutRow 20 = .ok (.arraylength, 1) := by decide +kernel
theorem dX5_withoutRow_21 : decode cX5_withoutRow 21 = .ok (.imul, 1) := by decide +kernel
theorem dX5_withoutRow_22 : decode cX5_withoutRow 22 = .ok (.istore_n 3, 1) := by decide +kernel
theorem dX5_withoutRow_23 : decode cX5_withoutRow 23 = .ok (.iconst 0, 1) := by decide +kernel
theorem dX5_withoutRow_24 : decode cX5_withoutRow 24 = .ok (.istore 4, 2) := by decide +kernel
theorem dX5_withoutRow_26 : decode cX5_withoutRow 26 = .ok (.iload 4, 2) := by decide +kernel
theorem dX5_withoutRow_28 : decode cX5_withoutRow 28 = .ok (.aload_n 2, 1) := by decide +kernel
theorem dX5_withoutRow_29 : decode cX5_withoutRow 29 = .ok (.arraylength, 1) := by decide +kernel
theorem dX5_withoutRow_30 : decode cX5_withoutRow 30 = .ok (.if_icmp .ge 37, 3) := by decide +kernel
theorem dX5_withoutRow_67 : decode cX5_withoutRow 67 = .ok (.new 10, 3) := by decide +kernel
theorem dX5_withoutRow_70 : decode cX5_withoutRow 70 = .ok (.dup, 1) := by decide +kernel
theorem dX5_withoutRow_71 : decode cX5_withoutRow 71 = .ok (.aload_n 0, 1) := by decide +kernel
theorem dX5_withoutRow_72 : decode cX5_withoutRow 72 = .ok (.getfield 9, 3) := by decide +kernel
theorem dX5_withoutRow_75 : decode cX5_withoutRow 75 = .ok (.aload_n 2, 1) := by decide +kernel
theorem dX5_withoutRow_76 : decode cX5_withoutRow 76 = .ok (.aload_n 0, 1) := by decide +kernel
theorem dX5_withoutRow_77 : decode cX5_withoutRow 77 = .ok (.getfield 19, 3) := by decide +kernel
theorem dX5_withoutRow_80 : decode cX5_withoutRow 80 = .ok (.iconst 1, 1) := by decide +kernel
theorem dX5_withoutRow_81 : decode cX5_withoutRow 81 = .ok (.isub, 1) := by decide +kernel
theorem dX5_withoutRow_82 : decode cX5_withoutRow 82 = .ok (.invokespecial 94, 3) := by decide +kernel
theorem dX5_withoutRow_85 : decode cX5_withoutRow 85 = .ok (.areturn, 1) := by decide +kernel
theorem dX5_withoutRow_33 : decode cX5_withoutRow 33 = .ok (.aload_n 2, 1) := by decide +kernel
theorem dX5_withoutRow_34 : decode cX5_withoutRow 34 = .ok (.iload 4, 2) := by decide +kernel
theorem dX5_withoutRow_36 : decode cX5_withoutRow 36 = .ok (.aload_n 0, 1) := by decide +kernel
theorem dX5_withoutRow_37 : decode cX5_withoutRow 37 = .ok (.getfield 15, 3) := by decide +kernel
theorem dX5_withoutRow_40 : decode cX5_withoutRow 40 = .ok (.iload 4, 2) := by decide +kernel
theorem dX5_withoutRow_42 : decode cX5_withoutRow 42 = .ok (.iload_n 3, 1) := by decide +kernel
theorem dX5_withoutRow_43 : decode cX5_withoutRow 43 = .ok (.if_icmp .ge 8, 3) := by decide +kernel
theorem dX5_withoutRow_51 : decode cX5_withoutRow 51 = .ok (.iload 4, 2) := by decide +kernel
theorem dX5_withoutRow_53 : decode cX5_withoutRow 53 = .ok (.aload_n 0, 1) := by decide +kernel
theorem dX5_withoutRow_54 : decode cX5_withoutRow 54 = .ok (.getfield 9, 3) := by decide +kernel
theorem dX5_withoutRow_57 : decode cX5_withoutRow 57 = .ok (.arraylength, 1) := by decide +kernel
theorem dX5_withoutRow_58 : decode cX5_withoutRow 58 = .ok (.iadd, 1) := by decide +kernel
theorem dX5_withoutRow_59 : decode cX5_withoutRow 59 = .ok (.aaload, 1) := by decide +kernel
theorem dX5_withoutRow_60 : decode cX5_withoutRow 60 = .ok (.aastore, 1) := by decide +kernel
theorem dX5_withoutRow_61 : decode cX5_withoutRow 61 = .ok (.iinc 4 1, 3) := by decide +kernel
theorem dX5_withoutRow_64 : decode cX5_withoutRow 64 = .ok (.goto (-38), 3) := by decide +kernel
theorem dX5_withoutRow_46 : decode cX5_withoutRow 46 = .ok (.iload 4, 2) := by decide +kernel
theorem dX5_withoutRow_48 : decode cX5_withoutRow 48 = .ok (.goto 11, 3) := by decide +kernel
theorem dX5_withColumn_0 : decode cX5_withColumn 0 = .ok (.aload_n 0, 1) := by decide +kernel
theorem dX5_withColumn_1 : decode cX5_withColumn 1 = .ok (.getfield 9, 3) := by decide +kernel
theorem dX5_withColumn_4 : decode cX5_withColumn 4 = .ok (.arraylength, 1) := by decide +kernel
theorem dX5_withColumn_5 : decode cX5_withColumn 5 = .ok (.anewarray 40, 3) := by decide +kernel
theorem mw_727 : Cond.classLink RX5 40 RX1 ∈ wsL_law := lrk_31 _ (List.mem_of_getElem? (i := 7) rfl)
theorem dX5_withColumn_8 : decode cX5_withColumn 8 = .ok (.astore_n 3, 1) := by decide +kernel
theorem dX5_withColumn_9 : decode cX5_withColumn 9 = .ok (.iconst 0, 1) := by decide +kernel
theorem dX5_withColumn_10 : decode cX5_withColumn 10 = .ok (.istore 4, 2) := by decide +kernel
theorem dX5_withColumn_12 : decode cX5_withColumn 12 = .ok (.iload 4, 2) := by decide +kernel
theorem dX5_withColumn_14 : decode cX5_withColumn 14 = .ok (.aload_n 0, 1) := by decide +kernel
theorem dX5_withColumn_15 : decode cX5_withColumn 15 = .ok (.getfield 9, 3) := by decide +kernel
theorem dX5_withColumn_18 : decode cX5_withColumn 18 = .ok (.arraylength, 1) := by decide +kernel
theorem dX5_withColumn_19 : decode cX5_withColumn 19 = .ok (.if_icmp .ge 30, 3) := by decide +kernel
theorem dX5_withColumn_49 : decode cX5_withColumn 49 = .ok (.new 10, 3) := by decide +kernel
theorem dX5_withColumn_52 : decode cX5_withColumn 52 = .ok (.dup, 1) := by decide +kernel
theorem dX5_withColumn_53 : decode cX5_withColumn 53 = .ok (.aload_n 3, 1) := by decide +kernel
theorem dX5_withColumn_54 : decode cX5_withColumn 54 = .ok (.aload_n 0, 1) := by decide +kernel
theorem dX5_withColumn_55 : decode cX5_withColumn 55 = .ok (.getfield 15, 3) := by decide +kernel
theorem dX5_withColumn_58 : decode cX5_withColumn 58 = .ok (.aload_n 0, 1) := by decide +kernel
theorem dX5_withColumn_59 : decode cX5_withColumn 59 = .ok (.getfield 19, 3) := by decide +kernel
theorem dX5_withColumn_62 : decode cX5_withColumn 62 = .ok (.invokespecial 94, 3) := by decide +kernel
theorem dX5_withColumn_65 : decode cX5_withColumn 65 = .ok (.areturn, 1) := by decide +kernel
theorem dX5_withColumn_22 : decode cX5_withColumn 22 = .ok (.aload_n 3, 1) := by decide +kernel
theorem dX5_withColumn_23 : decode cX5_withColumn 23 = .ok (.iload 4, 2) := by decide +kernel
theorem dX5_withColumn_25 : decode cX5_withColumn 25 = .ok (.iload 4, 2) := by decide +kernel
theorem dX5_withColumn_27 : decode cX5_withColumn 27 = .ok (.iload_n 1, 1) := by decide +kernel
theorem dX5_withColumn_28 : decode cX5_withColumn 28 = .ok (.if_icmp .ne 7, 3) := by decide +kernel
theorem dX5_withColumn_35 : decode cX5_withColumn 35 = .ok (.aload_n 0, 1) := by decide +kernel
theorem dX5_withColumn_36 : decode cX5_withColumn 36 = .ok (.getfield 9, 3) := by decide +kernel
theorem dX5_withColumn_39 : decode cX5_withColumn 39 = .ok (.iload 4, 2) := by decide +kernel
theorem dX5_withColumn_41 : decode cX5_withColumn 41 = .ok (.aaload, 1) := by decide +kernel
theorem dX5_withColumn_42 : decode cX5_withColumn 42 = .ok (.aastore, 1) := by decide +kernel
theorem dX5_withColumn_43 : decode cX5_withColumn 43 = .ok (.iinc 4 1, 3) := by decide +kernel
theorem dX5_withColumn_46 : decode cX5_withColumn 46 = .ok (.goto (-34), 3) := by decide +kernel
theorem dX5_withColumn_31 : decode cX5_withColumn 31 = .ok (.aload_n 2, 1) := by decide +kernel
theorem dX5_withColumn_32 : decode cX5_withColumn 32 = .ok (.goto 10, 3) := by decide +kernel
theorem dX5_withoutColumn_0 : decode cX5_withoutColumn 0 = .ok (.aload_n 0, 1) := by decide +kernel
theorem dX5_withoutColumn_1 : decode cX5_withoutColumn 1 = .ok (.getfield 9, 3) := by decide +kernel
theorem dX5_withoutColumn_4 : decode cX5_withoutColumn 4 = .ok (.arraylength, 1) := by decide +kernel
theorem dX5_withoutColumn_5 : decode cX5_withoutColumn 5 = .ok (.iconst 1, 1) := by decide +kernel
theorem dX5_withoutColumn_6 : decode cX5_withoutColumn 6 = .ok (.isub, 1) := by decide +kernel
theorem dX5_withoutColumn_7 : decode cX5_withoutColumn 7 = .ok (.istore_n 2, 1) := by decide +kernel
theorem dX5_withoutColumn_8 : decode cX5_withoutColumn 8 = .ok (.iload_n 2, 1) := by decide +kernel
theorem dX5_withoutColumn_9 : decode cX5_withoutColumn 9 = .ok (.anewarray 40, 3) := by decide +kernel
theorem dX5_withoutColumn_12 : decode cX5_withoutColumn 12 = .ok (.astore_n 3, 1) := by decide +kernel
theorem dX5_withoutColumn_13 : decode cX5_withoutColumn 13 = .ok (.aload_n 0, 1) := by decide +kernel
theorem dX5_withoutColumn_14 : decode cX5_withoutColumn 14 = .ok (.getfield 19, 3) := by decide +kernel
theorem dX5_withoutColumn_17 : decode cX5_withoutColumn 17 = .ok (.iload_n 2, 1) := by decide +kernel
theorem dX5_withoutColumn_18 : decode cX5_withoutColumn 18 = .ok (.imul, 1) := by decide +kernel
theorem dX5_withoutColumn_19 : decode cX5_withoutColumn 19 = .ok (.anewarray 53, 3) := by decide +kernel
theorem dX5_withoutColumn_22 : decode cX5_withoutColumn 22 = .ok (.astore 4, 2) := by decide +kernel
theorem dX5_withoutColumn_24 : decode cX5_withoutColumn 24 = .ok (.iconst 0, 1) := by decide +kernel
theorem dX5_withoutColumn_25 : decode cX5_withoutColumn 25 = .ok (.istore 5, 2) := by decide +kernel
theorem dX5_withoutColumn_27 : decode cX5_withoutColumn 27 = .ok (.iload 5, 2) := by decide +kernel
theorem dX5_withoutColumn_29 : decode cX5_withoutColumn 29 = .ok (.iload_n 2, 1) := by decide +kernel
theorem dX5_withoutColumn_30 : decode cX5_withoutColumn 30 = .ok (.if_icmp .ge 73, 3) := by decide +kernel
theorem dX5_withoutColumn_103 : decode cX5_withoutColumn 103 = .ok (.new 10, 3) := by decide +kernel
theorem dX5_withoutColumn_106 : decode cX5_withoutColumn 106 = .ok (.dup, 1) := by decide +kernel
theorem dX5_withoutColumn_107 : decode cX5_withoutColumn 107 = .ok (.aload_n 3, 1) := by decide +kernel
theorem dX5_withoutColumn_108 : decode cX5_withoutColumn 108 = .ok (.aload 4, 2) := by decide +kernel
theorem dX5_withoutColumn_110 : decode cX5_withoutColumn 110 = .ok (.aload_n 0, 1) := by decide +kernel
theorem dX5_withoutColumn_111 : decode cX5_withoutColumn 111 = .ok (.getfield 19, 3) := by decide +kernel
theorem dX5_withoutColumn_114 : decode cX5_withoutColumn 114 = .ok (.invokespecial 94, 3) := by decide +kernel
theorem dX5_withoutColumn_117 : decode cX5_withoutColumn 117 = .ok (.areturn, 1) := by decide +kernel
theorem dX5_withoutColumn_33 : decode cX5_withoutColumn 33 = .ok (.iload 5, 2) := by decide +kernel
theorem dX5_withoutColumn_35 : decode cX5_withoutColumn 35 = .ok (.iload_n 1, 1) := by decide +kernel
theorem dX5_withoutColumn_36 : decode cX5_withoutColumn 36 = .ok (.if_icmp .ge 8, 3) := by decide +kernel
theorem dX5_withoutColumn_44 : decode cX5_withoutColumn 44 = .ok (.iload 5, 2) := by decide +kernel
theorem dX5_withoutColumn_46 : decode cX5_withoutColumn 46 = .ok (.iconst 1, 1) := by decide +kernel
theorem dX5_withoutColumn_47 : decode cX5_withoutColumn 47 = .ok (.iadd, 1) := by decide +kernel
theorem dX5_withoutColumn_48 : decode cX5_withoutColumn 48 = .ok (.istore 6, 2) := by decide +kernel
theorem dX5_withoutColumn_50 : decode cX5_withoutColumn 50 = .ok (.aload_n 3, 1) := by decide +kernel
theorem dX5_withoutColumn_51 : decode cX5_withoutColumn 51 = .ok (.iload 5, 2) := by decide +kernel
theorem dX5_withoutColumn_53 : decode cX5_withoutColumn 53 = .ok (.aload_n 0, 1) := by decide +kernel
theorem dX5_withoutColumn_54 : decode cX5_withoutColumn 54 = .ok (.getfield 9, 3) := by decide +kernel
theorem dX5_withoutColumn_57 : decode cX5_withoutColumn 57 = .ok (.iload 6, 2) := by decide +kernel
theorem dX5_withoutColumn_59 : decode cX5_withoutColumn 59 = .ok (.aaload, 1) := by decide +kernel
theorem dX5_withoutColumn_60 : decode cX5_withoutColumn 60 = .ok (.aastore, 1) := by decide +kernel
theorem dX5_withoutColumn_61 : decode cX5_withoutColumn 61 = .ok (.iconst 0, 1) := by decide +kernel
theorem dX5_withoutColumn_62 : decode cX5_withoutColumn 62 = .ok (.istore 7, 2) := by decide +kernel
theorem dX5_withoutColumn_64 : decode cX5_withoutColumn 64 = .ok (.iload 7, 2) := by decide +kernel
theorem dX5_withoutColumn_66 : decode cX5_withoutColumn 66 = .ok (.aload_n 0, 1) := by decide +kernel
theorem dX5_withoutColumn_67 : decode cX5_withoutColumn 67 = .ok (.getfield 19, 3) := by decide +kernel
theorem dX5_withoutColumn_70 : decode cX5_withoutColumn 70 = .ok (.if_icmp .ge 27, 3) := by decide +kernel
theorem dX5_withoutColumn_97 : decode cX5_withoutColumn 97 = .ok (.iinc 5 1, 3) := by decide +kernel
theorem dX5_withoutColumn_100 : decode cX5_withoutColumn 100 = .ok (.goto (-73), 3) := by decide +kernel
theorem dX5_withoutColumn_73 : decode cX5_withoutColumn 73 = .ok (.aload 4, 2) := by decide +kernel
theorem dX5_withoutColumn_75 : decode cX5_withoutColumn 75 = .ok (.iload 7, 2) := by decide +kernel
theorem dX5_withoutColumn_77 : decode cX5_withoutColumn 77 = .ok (.iload_n 2, 1) := by decide +kernel
theorem dX5_withoutColumn_78 : decode cX5_withoutColumn 78 = .ok (.imul, 1) := by decide +kernel
theorem dX5_withoutColumn_79 : decode cX5_withoutColumn 79 = .ok (.iload 5, 2) := by decide +kernel
theorem dX5_withoutColumn_81 : decode cX5_withoutColumn 81 = .ok (.iadd, 1) := by decide +kernel
theorem dX5_withoutColumn_82 : decode cX5_withoutColumn 82 = .ok (.aload_n 0, 1) := by decide +kernel
theorem dX5_withoutColumn_83 : decode cX5_withoutColumn 83 = .ok (.iload 7, 2) := by decide +kernel
theorem dX5_withoutColumn_85 : decode cX5_withoutColumn 85 = .ok (.iload 6, 2) := by decide +kernel
theorem dX5_withoutColumn_87 : decode cX5_withoutColumn 87 = .ok (.invokevirtual 48, 3) := by decide +kernel
theorem dX5_withoutColumn_90 : decode cX5_withoutColumn 90 = .ok (.aastore, 1) := by decide +kernel
theorem dX5_withoutColumn_91 : decode cX5_withoutColumn 91 = .ok (.iinc 7 1, 3) := by decide +kernel
theorem dX5_withoutColumn_94 : decode cX5_withoutColumn 94 = .ok (.goto (-30), 3) := by decide +kernel
theorem dX5_withoutColumn_39 : decode cX5_withoutColumn 39 = .ok (.iload 5, 2) := by decide +kernel
theorem dX5_withoutColumn_41 : decode cX5_withoutColumn 41 = .ok (.goto 7, 3) := by decide +kernel
set_option maxHeartbeats 4000000 in
set_option maxRecDepth 100000 in
theorem c_X5_withCell (l : Launch) (D : va_G) (κ : Nat → ClassId) (κq : Nat → Nat) (im : va_W) (a : Nat) (R : Nat) (w : Nat) (r9 : Nat) (c9 : Nat) (ce : Nat) (k : Nat) (n : Nat) (hs : Sh κ im a R w) (hr9 : r9 < R) (hc9 : c9 < w) (hce : Cl κ im ce k n) : Et l yX5_withCell (wl yX5_withCell cX5_withCell 6 (some (.object "TypedTables$Sheet"))) { frames := 3, cells := 4, slots := 367, locals := 59 } D κ κq [.ref a, .int (nI r9), .int (nI c9), .ref ce] ([] ++ im) (fun u9 : Option Nat × va_W => some (va_rf u9.1)) (fun u9 : Option Nat × va_W => Sb im u9.2 ∧ ((∃ (q : Nat), u9.1 = some q ∧ Sh κ u9.2 q R w))) (fun u9 : Option Nat × va_W => ([] ++ u9.2)) := by
  refine et_of (by decide +kernel) (Nat.le_of_ble_eq_true rfl) ?_
  intro p e s m args below meth c A ls hx hb hr hml hts hown hlk hin hKK hK hA hP hD hS hE hl
  have hS : va_S A s.heap s.heap [] := hS
  have hP : va_P D vwCl ([] ++ im) s.heap := hP
  have hD : va_D A ([] ++ im) := hD
  have hFX : FX p s m args c cX5_withCell 6 RX5 := ⟨hx, hb, hml, hown, hts⟩
  have hl : lv_has ls 6 [(0, .ref a), (1, .int (nI r9)), (2, .int (nI c9)), (3, .ref ce)] := hl
  obtain ⟨hb_1, c_2, x_3, v_4, g_5, h_6, hm_7, hm_8, hm_9, lo_10, lc_11, vw_12⟩ := id hs
  obtain ⟨hb_1_1, hb_1_2, hb_1_3⟩ := hb_1
  have hrw_hb_1 := rw_le hb_1_1 hb_1_3
  refine lv_aload_n hx hb dX5_withCell_0 rfl (lv_at hl 0 rfl) ?_
  refine va_get (D := D) (ci := 5) (v := .ref x_3) (C := RX5) (T := TX5) (N := 4) hx hb hts inlX5 hown hK (oneP (C := []) hP hm_7) 0 rfl rfl 1 (by decide) (hts _ mw_383) (fun _ h9 => h9) rfl dX5_withCell_1 ?_
  refine va_alen hx hb hK (oneP (C := []) hP hm_9) 0 2 rfl rfl (v := nI (R * w)) rfl dX5_withCell_4 ?_
  refine my_newq hx hb hown (hts _ mw_605) hKK.2.1 hK hP hD hS hA 2 rfl (N' := (R * w)) (nI_pos (by omega)) (nI_clamp (by omega)) (by omega) (Nat.le_of_ble_eq_true rfl) (by show _ ≤ 367; omega) dX5_withCell_5 (fun q_13 H hP hD hS => ?_)
  refine W.widen (k := 1) (n := 320) (Nat.le_refl _) (by omega) ?_
  replace hP : va_P D vwCl ([(q_13, .inl (κ 2, R * w, .inr (.inr (.inr (.inr (fun _ => none))))))] ++ im) H := mvP hP
  replace hD : va_D A ([(q_13, .inl (κ 2, R * w, .inr (.inr (.inr (.inr (fun _ => none))))))] ++ im) := mvD hD
  refine lv_astore (lv' := [(4, .ref q_13), (0, .ref a), (1, .int (nI r9)), (2, .int (nI c9)), (3, .ref ce)]) hx hb dX5_withCell_8 hl (by decide) rfl (fun ls hl => ?_)
  refine lv_iconst (v := 0) hx hb dX5_withCell_10 (by decide) ?_
  refine lv_istore (lv' := [(5, .int 0), (4, .ref q_13), (0, .ref a), (1, .int (nI r9)), (2, .int (nI c9)), (3, .ref ce)]) hx hb dX5_withCell_11 hl (by decide) rfl (fun ls hl => ?_)
  refine loop_dn (fun k9 H locs ls => ∃ (k5_13 : Nat), ∃ (gq_13_13 : Nat → Option Nat), (k5_13 ≤ R * w) ∧ Lc κ im gq_13_13 k5_13 ∧ R * w - k5_13 = k9 ∧ va_P D vwCl ([(q_13, .inl (κ 2, R * w, .inr (.inr (.inr (.inr gq_13_13)))))] ++ im) H ∧ va_D A ([(q_13, .inl (κ 2, R * w, .inr (.inr (.inr (.inr gq_13_13)))))] ++ im) ∧ va_S A s.heap H locs ∧ lv_has ls 6 [(5, .int (nI k5_13)), (4, .ref q_13), (0, .ref a), (1, .int (nI r9)), (2, .int (nI c9)), (3, .ref ce)]) (fun k9 H locs ls hI13 ih13 => ?_) (R * w - 0) _ _ _ ⟨0, (fun _ => none), (by omega), Lc_0, rfl, hP, hD, hS, lv_sub hl [0, 1, 2, 3, 4, 5] rfl⟩
  obtain ⟨k5_13, gq_13_13, hl13_0, hq13_0, hm13, hP, hD, hS, hl⟩ := hI13
  refine lv_iload hx hb dX5_withCell_13 (lv_at hl 0 rfl) ?_
  refine lv_aload_n hx hb dX5_withCell_15 rfl (lv_at hl 2 rfl) ?_
  refine va_get (D := D) (ci := 5) (v := .ref x_3) (C := RX5) (T := TX5) (N := 4) hx hb hts inlX5 hown hK (oneP (C := [(q_13, .inl (κ 2, R * w, .inr (.inr (.inr (.inr gq_13_13)))))]) hP hm_7) 0 rfl rfl 1 (by decide) (hts _ mw_383) (fun _ h9 => h9) rfl dX5_withCell_16 ?_
  refine va_alen hx hb hK (oneP (C := [(q_13, .inl (κ 2, R * w, .inr (.inr (.inr (.inr gq_13_13)))))]) hP hm_9) 0 2 rfl rfl (v := nI (R * w)) rfl dX5_withCell_19 ?_
  refine lv_icmp_ge (tgt := 41) hx hb dX5_withCell_20 (by decide) (fun c_14 => ?_) (fun c_14 => ?_)
  · have nc_14 := cv_le (a := (R * w)) (b := k5_13) (by omega) (by omega) c_14
    obtain rfl : R * w = k5_13 := by omega
    refine lv_aload hx hb dX5_withCell_41 (lv_at hl 1 rfl) ?_
    refine lv_iload_n hx hb dX5_withCell_43 rfl (lv_at hl 3 rfl) ?_
    refine lv_aload_n hx hb dX5_withCell_44 rfl (lv_at hl 2 rfl) ?_
    refine va_get (D := D) (ci := 5) (v := .ref c_2) (C := RX5) (T := TX5) (N := 4) hx hb hts inlX5 hown hK (oneP (C := [(q_13, .inl (κ 2, R * w, .inr (.inr (.inr (.inr gq_13_13)))))]) hP hm_7) 0 rfl rfl 0 (by decide) (hts _ mw_382) (fun _ h9 => h9) rfl dX5_withCell_45 ?_
    refine va_alen hx hb hK (oneP (C := [(q_13, .inl (κ 2, R * w, .inr (.inr (.inr (.inr gq_13_13)))))]) hP hm_8) 0 3 rfl rfl (v := nI w) rfl dX5_withCell_48 ?_
    refine lv_imul hx hb dX5_withCell_49 ?_
    refine ki (v := (nI (r9 * w))) (pk_mul r9 w) ?_
    refine lv_iload_n hx hb dX5_withCell_50 rfl (lv_at hl 4 rfl) ?_
    refine lv_iadd hx hb dX5_withCell_51 ?_
    refine ki (v := (nI (r9 * w + c9))) (nI_add (r9 * w) c9) ?_
    refine lv_aload_n hx hb dX5_withCell_52 rfl (lv_at hl 5 rfl) ?_
    obtain ⟨hk_15, b_16, x_17, hm_18, hb_19⟩ := id hce
    have hn_b_16 := hb_19.1
    obtain ⟨k_20, ek_20⟩ := tl_at [(q_13, .inl (κ 2, R * w, .inr (.inr (.inr (.inr gq_13_13)))))] hm_18
    refine va_astq hx hb hK hP hD hS 0 2 k_20 0 rfl rfl ek_20 rfl (i := nI (r9 * w + c9)) (vp_in_nI (n := r9 * w + c9) (ix_lt hr9 hc9) (by omega)) dX5_withCell_53 (fun H locs hP hD hS => ?_)
    rw [nI_clamp (by have q9 := ix_lt hr9 hc9; omega)] at hP hD
    have hP : va_P D vwCl ([(q_13, .inl (κ 2, R * w, .inr (.inr (.inr (.inr (va_up gq_13_13 (r9 * w + c9) (some ce)))))))] ++ im) H := hP
    have hD : va_D A ([(q_13, .inl (κ 2, R * w, .inr (.inr (.inr (.inr (va_up gq_13_13 (r9 * w + c9) (some ce)))))))] ++ im) := hD
    have hf_22 : Lc κ im (va_up gq_13_13 (r9 * w + c9) (some ce)) ((R * w)) := Lc_set hq13_0 hce
    generalize va_up gq_13_13 (r9 * w + c9) (some ce) = g_21 at hP hD hf_22
    refine va_new (ci := 5) (fs := [.null, .null, .int 0, .null]) (C := RX5) (T := TX5) (N := 4) hx hb hts inlX5 tyX5 tyX5_ok hown (hts _ mw_606) (hts _ mw_376) (hts _ mw_377) hK hP hD hS hA rfl (fun j hj => by rcases (show j = 0 ∨ j = 1 ∨ j = 2 ∨ j = 3 by omega) with rfl | rfl | rfl | rfl <;> rfl) (Nat.le_of_ble_eq_true rfl) (Nat.le_of_ble_eq_true rfl) dX5_withCell_54 (fun q_23 H hP hD hS => ?_)
    replace hP : va_P D vwCl ([(q_13, .inl (κ 2, R * w, .inr (.inr (.inr (.inr g_21))))), (q_23, .inr (5, [.null, .null, .int 0, .null]))] ++ im) H := mvP hP
    replace hD : va_D A ([(q_13, .inl (κ 2, R * w, .inr (.inr (.inr (.inr g_21))))), (q_23, .inr (5, [.null, .null, .int 0, .null]))] ++ im) := mvD hD
    refine lv_dup hx hb dX5_withCell_57 rfl ?_
    refine lv_aload_n hx hb dX5_withCell_58 rfl (lv_at hl 2 rfl) ?_
    refine va_get (D := D) (ci := 5) (v := .ref c_2) (C := RX5) (T := TX5) (N := 4) hx hb hts inlX5 hown hK (oneP (C := [(q_13, .inl (κ 2, R * w, .inr (.inr (.inr (.inr g_21))))), (q_23, .inr (5, [.null, .null, .int 0, .null]))]) hP hm_7) 0 rfl rfl 0 (by decide) (hts _ mw_382) (fun _ h9 => h9) rfl dX5_withCell_59 ?_
    refine lv_aload hx hb dX5_withCell_62 (lv_at hl 1 rfl) ?_
    refine lv_aload_n hx hb dX5_withCell_64 rfl (lv_at hl 2 rfl) ?_
    refine va_get (D := D) (ci := 5) (v := .int (nI R)) (C := RX5) (T := TX5) (N := 4) hx hb hts inlX5 hown hK (oneP (C := [(q_13, .inl (κ 2, R * w, .inr (.inr (.inr (.inr g_21))))), (q_23, .inr (5, [.null, .null, .int 0, .null]))]) hP hm_7) 0 rfl rfl 2 (by decide) (hts _ mw_384) (fun _ h9 => h9) rfl dX5_withCell_65 ?_
    replace hP : va_P D vwCl ([(q_23, .inr (5, [.null, .null, .int 0, .null])), (q_13, .inl (κ 2, R * w, .inr (.inr (.inr (.inr g_21)))))] ++ im) _ := subP hP [1, 0] rfl
    replace hD : va_D A ([(q_23, .inr (5, [.null, .null, .int 0, .null])), (q_13, .inl (κ 2, R * w, .inr (.inr (.inr (.inr g_21)))))] ++ im) := subD hD [1, 0] (by decide) rfl
    obtain ⟨im_24, he_25⟩ : ∃ x9 : va_W, x9 = ([(q_13, .inl (κ 2, R * w, .inr (.inr (.inr (.inr g_21)))))] ++ im) := ⟨_, rfl⟩
    have hs_26 : Sb im im_24 := by rw [he_25]; exact Sb.app
    have hm_q_13 : (q_13, .inl (κ 2, R * w, .inr (.inr (.inr (.inr g_21))))) ∈ im_24 := by rw [he_25]; exact List.mem_of_getElem? (i := 0) rfl
    replace hP : va_P D vwCl ([(q_23, .inr (5, [.null, .null, .int 0, .null]))] ++ ([(q_13, .inl (κ 2, R * w, .inr (.inr (.inr (.inr g_21)))))] ++ im)) _ := hP
    replace hD : va_D A ([(q_23, .inr (5, [.null, .null, .int 0, .null]))] ++ ([(q_13, .inl (κ 2, R * w, .inr (.inr (.inr (.inr g_21)))))] ++ im)) := hD
    rw [← he_25] at hP hD
    clear he_25
    replace hs := hs.up hs_26
    replace hce := hce.up hs_26
    replace lo_10 := lo_10.up hs_26
    replace lc_11 := lc_11.up hs_26
    replace vw_12 := vw_12.up hs_26
    replace hq13_0 := hq13_0.up hs_26
    replace hb_19 := hb_19.up hs_26
    replace hf_22 := hf_22.up hs_26
    replace hm_7 := hs_26 _ hm_7
    replace hm_8 := hs_26 _ hm_8
    replace hm_9 := hs_26 _ hm_9
    replace hm_18 := hs_26 _ hm_18
    have hf_27 : Cx κ im_24 q_13 (R * w) := ⟨_, hm_q_13, hf_22⟩
    refine et_IT (CR := []) (As := [.ref c_2, .ref q_13, .int (nI R)]) (rest := [.ref q_23]) hFX hKK hE hP hD hS hA (c_X5_init l D κ κq im_24 q_23 c_2 q_13 R w ⟨_, hm_8, lo_10⟩ hf_27 (by omega) (by omega) (by omega)) 3 mw_607 mw_379 mw_377 mw_380 hdI_X5_init ⟨Nat.le_of_ble_eq_true rfl, Nat.le_of_ble_eq_true rfl⟩ rfl rfl (Nat.le_of_ble_eq_true rfl) dX5_withCell_68 ⟨Nat.le_of_ble_eq_true rfl, Nat.le_of_ble_eq_true rfl⟩ hl.1 [0] [] rfl rfl (by decide) (by decide) (by decide) (fun im2__28 H locs hp_29 hP hD hS => ?_)
    replace hP : va_P D vwCl ([] ++ im2__28) H := subP (C := []) hP [] rfl
    replace hD : va_D A ([] ++ im2__28) := subD (C := []) hD [] (by decide) rfl
    replace hp_29 : Sb im_24 im2__28 ∧ Sh κ im2__28 q_23 R w := hp_29
    obtain ⟨h_30, h_31⟩ := hp_29
    replace hs := hs.up h_30
    replace hce := hce.up h_30
    replace lo_10 := lo_10.up h_30
    replace lc_11 := lc_11.up h_30
    replace vw_12 := vw_12.up h_30
    replace hq13_0 := hq13_0.up h_30
    replace hb_19 := hb_19.up h_30
    replace hf_22 := hf_22.up h_30
    replace hf_27 := hf_27.up h_30
    replace hm_7 := h_30 _ hm_7
    replace hm_8 := h_30 _ hm_8
    replace hm_9 := h_30 _ hm_9
    replace hm_18 := h_30 _ hm_18
    replace hm_q_13 := h_30 _ hm_q_13
    refine W.eq (g2 := F0 m 71 ls [.ref q_23]) rfl ?_
    exact et_aret hx hb hr (by first | exact Or.inl ⟨_, rfl⟩ | exact Or.inr ⟨_, rfl⟩) hlk (by first | exact Or.inl rfl | exact Or.inr ⟨_, rfl⟩) hS ((some q_23), im2__28) rfl ⟨(show Sb im im2__28 from (by first | exact Sb.rf | assumption | exact Sb.tr (by assumption) (by assumption) | exact Sb.tr (by assumption) (Sb.tr (by assumption) (by assumption)))), (by exact ⟨q_23, rfl, (show Sh κ im2__28 q_23 R w from h_31)⟩)⟩ (subP hP [] rfl) (subD hD [] (by decide) rfl) (Nat.le_of_ble_eq_true rfl) (Nat.le_of_ble_eq_true rfl) dX5_withCell_71
  · have nc_14 := cv_nle (a := (R * w)) (b := k5_13) (by omega) (by omega) c_14
    refine lv_aload hx hb dX5_withCell_23 (lv_at hl 1 rfl) ?_
    refine lv_iload hx hb dX5_withCell_25 (lv_at hl 0 rfl) ?_
    refine lv_aload_n hx hb dX5_withCell_27 rfl (lv_at hl 2 rfl) ?_
    refine va_get (D := D) (ci := 5) (v := .ref x_3) (C := RX5) (T := TX5) (N := 4) hx hb hts inlX5 hown hK (oneP (C := [(q_13, .inl (κ 2, R * w, .inr (.inr (.inr (.inr gq_13_13)))))]) hP hm_7) 0 rfl rfl 1 (by decide) (hts _ mw_383) (fun _ h9 => h9) rfl dX5_withCell_28 ?_
    refine lv_iload hx hb dX5_withCell_31 (lv_at hl 0 rfl) ?_
    refine va_aldq hx hb hK (oneP (C := [(q_13, .inl (κ 2, R * w, .inr (.inr (.inr (.inr gq_13_13)))))]) hP hm_9) 0 2 rfl rfl (i := nI k5_13) (vp_in_nI (n := k5_13) (by omega) (by omega)) dX5_withCell_33 ?_
    obtain ⟨q_32, e_33, k_34, m_35, h_36⟩ := lc_11 k5_13 (by omega)
    refine kv (v := .ref q_32) (by rw [nI_clamp (by omega)]; rw [e_33]; rfl) ?_
    obtain ⟨hk_37, b_38, x_39, hm_40, hb_41⟩ := id h_36
    have hn_b_38 := hb_41.1
    obtain ⟨k_42, ek_42⟩ := tl_at [(q_13, .inl (κ 2, R * w, .inr (.inr (.inr (.inr gq_13_13)))))] hm_40
    refine va_astq hx hb hK hP hD hS 0 2 k_42 0 rfl rfl ek_42 rfl (i := nI k5_13) (vp_in_nI (n := k5_13) (by omega) (by omega)) dX5_withCell_34 (fun H locs hP hD hS => ?_)
    rw [nI_clamp (by omega)] at hP hD
    have hP : va_P D vwCl ([(q_13, .inl (κ 2, R * w, .inr (.inr (.inr (.inr (va_up gq_13_13 k5_13 (some q_32)))))))] ++ im) H := hP
    have hD : va_D A ([(q_13, .inl (κ 2, R * w, .inr (.inr (.inr (.inr (va_up gq_13_13 k5_13 (some q_32)))))))] ++ im) := hD
    have hf_44 : Lc κ im (va_up gq_13_13 k5_13 (some q_32)) (k5_13 + 1) := Lc_add hq13_0 h_36
    generalize va_up gq_13_13 k5_13 (some q_32) = g_43 at hP hD hf_44
    refine lv_iinc (v := (nI (k5_13 + 1))) (lv' := [(5, .int (nI (k5_13 + 1))), (4, .ref q_13), (0, .ref a), (1, .int (nI r9)), (2, .int (nI c9)), (3, .ref ce)]) hx hb dX5_withCell_35 hl (k := 0) rfl (nI_i k5_13) (by decide) rfl (fun ls hl => ?_)
    refine lv_goto (tgt := 13) hx hb dX5_withCell_38 (by decide) ?_
    exact ih13 _ _ _ _ (by omega) ⟨(k5_13 + 1), g_43, (by omega), hf_44, rfl, hP, hD, hS, lv_sub hl [0, 1, 2, 3, 4, 5] rfl⟩
set_option maxHeartbeats 4000000 in
set_option maxRecDepth 100000 in
theorem c_X5_withRow (l : Launch) (D : va_G) (κ : Nat → ClassId) (κq : Nat → Nat) (im : va_W) (a : Nat) (R : Nat) (w : Nat) (x : Nat) (N : Nat) (n : Nat) (f : Nat → Option Nat) (hs : Sh κ im a R w) (hlc : Lc κ im f n) (hn : w ≤ n) (hN : n ≤ N) (hN2 : N ≤ 320) (hR9 : R ≤ 39) : Et l yX5_withRow (wl yX5_withRow cX5_withRow 4 (some (.object "TypedTables$Sheet"))) { frames := 3, cells := 4, slots := 367, locals := 59 } D κ κq [.ref a, .ref x] ([(x, .inl (κ 2, N, .inr (.inr (.inr (.inr f)))))] ++ im) (fun u9 : Option Nat × va_W => some (va_rf u9.1)) (fun u9 : Option Nat × va_W => Sb im u9.2 ∧ ((∃ (q : Nat), u9.1 = some q ∧ Sh κ u9.2 q (R + 1) w))) (fun u9 : Option Nat × va_W => ([(x, .inl (κ 2, N, .inr (.inr (.inr (.inr f)))))] ++ u9.2)) := by
  refine et_of (by decide +kernel) (Nat.le_of_ble_eq_true rfl) ?_
  intro p e s m args below meth c A ls hx hb hr hml hts hown hlk hin hKK hK hA hP hD hS hE hl
  have hS : va_S A s.heap s.heap [] := hS
  have hP : va_P D vwCl ([(x, .inl (κ 2, N, .inr (.inr (.inr (.inr f)))))] ++ im) s.heap := hP
  have hD : va_D A ([(x, .inl (κ 2, N, .inr (.inr (.inr (.inr f)))))] ++ im) := hD
  have hFX : FX p s m args c cX5_withRow 4 RX5 := ⟨hx, hb, hml, hown, hts⟩
  have hl : lv_has ls 4 [(0, .ref a), (1, .ref x)] := hl
  obtain ⟨hb_1, c_2, x_3, v_4, g_5, h_6, hm_7, hm_8, hm_9, lo_10, lc_11, vw_12⟩ := id hs
  obtain ⟨hb_1_1, hb_1_2, hb_1_3⟩ := hb_1
  have hrw_hb_1 := rw_le hb_1_1 hb_1_3
  have hbig : R * w + w ≤ 320 := by rw [← Nat.add_one_mul]; exact rw_le (by omega) (by omega)
  refine lv_aload_n hx hb dX5_withRow_0 rfl (lv_at hl 0 rfl) ?_
  refine va_get (D := D) (ci := 5) (v := .ref x_3) (C := RX5) (T := TX5) (N := 4) hx hb hts inlX5 hown hK (oneP (C := [(x, .inl (κ 2, N, .inr (.inr (.inr (.inr f)))))]) hP hm_7) 0 rfl rfl 1 (by decide) (hts _ mw_383) (fun _ h9 => h9) rfl dX5_withRow_1 ?_
  refine va_alen hx hb hK (oneP (C := [(x, .inl (κ 2, N, .inr (.inr (.inr (.inr f)))))]) hP hm_9) 0 2 rfl rfl (v := nI (R * w)) rfl dX5_withRow_4 ?_
  refine lv_aload_n hx hb dX5_withRow_5 rfl (lv_at hl 0 rfl) ?_
  refine va_get (D := D) (ci := 5) (v := .ref c_2) (C := RX5) (T := TX5) (N := 4) hx hb hts inlX5 hown hK (oneP (C := [(x, .inl (κ 2, N, .inr (.inr (.inr (.inr f)))))]) hP hm_7) 0 rfl rfl 0 (by decide) (hts _ mw_382) (fun _ h9 => h9) rfl dX5_withRow_6 ?_
  refine va_alen hx hb hK (oneP (C := [(x, .inl (κ 2, N, .inr (.inr (.inr (.inr f)))))]) hP hm_8) 0 3 rfl rfl (v := nI w) rfl dX5_withRow_9 ?_
  refine lv_iadd hx hb dX5_withRow_10 ?_
  refine ki (v := (nI (R * w + w))) (nI_add (R * w) w) ?_
  refine my_newq hx hb hown (hts _ mw_605) hKK.2.1 hK hP hD hS hA 2 rfl (N' := (R * w + w)) (nI_pos (by omega)) (nI_clamp (by omega)) (by omega) (Nat.le_of_ble_eq_true rfl) (by show _ ≤ 367; omega) dX5_withRow_11 (fun q_13 H hP hD hS => ?_)
  refine W.widen (k := 1) (n := 320) (Nat.le_refl _) (by omega) ?_
  replace hP : va_P D vwCl ([(x, .inl (κ 2, N, .inr (.inr (.inr (.inr f))))), (q_13, .inl (κ 2, R * w + w, .inr (.inr (.inr (.inr (fun _ => none))))))] ++ im) H := mvP hP
  replace hD : va_D A ([(x, .inl (κ 2, N, .inr (.inr (.inr (.inr f))))), (q_13, .inl (κ 2, R * w + w, .inr (.inr (.inr (.inr (fun _ => none))))))] ++ im) := mvD hD
  refine lv_astore_n (lv' := [(2, .ref q_13), (0, .ref a), (1, .ref x)]) hx hb dX5_withRow_14 rfl hl (by decide) rfl (fun ls hl => ?_)
  refine lv_iconst (v := 0) hx hb dX5_withRow_15 (by decide) ?_
  refine lv_istore_n (lv' := [(3, .int 0), (2, .ref q_13), (0, .ref a), (1, .ref x)]) hx hb dX5_withRow_16 rfl hl (by decide) rfl (fun ls hl => ?_)
  refine loop_dn (fun k9 H locs ls => ∃ (k3_17 : Nat), ∃ (gq_13_17 : Nat → Option Nat), (k3_17 ≤ R * w) ∧ Lc κ im gq_13_17 k3_17 ∧ R * w - k3_17 = k9 ∧ va_P D vwCl ([(x, .inl (κ 2, N, .inr (.inr (.inr (.inr f))))), (q_13, .inl (κ 2, R * w + w, .inr (.inr (.inr (.inr gq_13_17)))))] ++ im) H ∧ va_D A ([(x, .inl (κ 2, N, .inr (.inr (.inr (.inr f))))), (q_13, .inl (κ 2, R * w + w, .inr (.inr (.inr (.inr gq_13_17)))))] ++ im) ∧ va_S A s.heap H locs ∧ lv_has ls 4 [(3, .int (nI k3_17)), (2, .ref q_13), (0, .ref a), (1, .ref x)]) (fun k9 H locs ls hI17 ih17 => ?_) (R * w - 0) _ _ _ ⟨0, (fun _ => none), (by omega), Lc_0, rfl, hP, hD, hS, lv_sub hl [0, 1, 2, 3] rfl⟩
  obtain ⟨k3_17, gq_13_17, hl17_0, hq17_0, hm17, hP, hD, hS, hl⟩ := hI17
  refine lv_iload_n hx hb dX5_withRow_17 rfl (lv_at hl 0 rfl) ?_
  refine lv_aload_n hx hb dX5_withRow_18 rfl (lv_at hl 2 rfl) ?_
  refine va_get (D := D) (ci := 5) (v := .ref x_3) (C := RX5) (T := TX5) (N := 4) hx hb hts inlX5 hown hK (oneP (C := [(x, .inl (κ 2, N, .inr (.inr (.inr (.inr f))))), (q_13, .inl (κ 2, R * w + w, .inr (.inr (.inr (.inr gq_13_17)))))]) hP hm_7) 0 rfl rfl 1 (by decide) (hts _ mw_383) (fun _ h9 => h9) rfl dX5_withRow_19 ?_
  refine va_alen hx hb hK (oneP (C := [(x, .inl (κ 2, N, .inr (.inr (.inr (.inr f))))), (q_13, .inl (κ 2, R * w + w, .inr (.inr (.inr (.inr gq_13_17)))))]) hP hm_9) 0 2 rfl rfl (v := nI (R * w)) rfl dX5_withRow_22 ?_
  refine lv_icmp_ge (tgt := 41) hx hb dX5_withRow_23 (by decide) (fun c_14 => ?_) (fun c_14 => ?_)
  · have nc_14 := cv_le (a := (R * w)) (b := k3_17) (by omega) (by omega) c_14
    obtain rfl : R * w = k3_17 := by omega
    refine lv_iconst (v := 0) hx hb dX5_withRow_41 (by decide) ?_
    refine lv_istore_n (lv' := [(3, .int 0), (2, .ref q_13), (0, .ref a), (1, .ref x)]) hx hb dX5_withRow_42 rfl hl (by decide) rfl (fun ls hl => ?_)
    refine loop_dn (fun k9 H locs ls => ∃ (k3_43 : Nat), ∃ (gq_13_43 : Nat → Option Nat), (k3_43 ≤ w) ∧ Lc κ im gq_13_43 (R * w + k3_43) ∧ w - k3_43 = k9 ∧ va_P D vwCl ([(x, .inl (κ 2, N, .inr (.inr (.inr (.inr f))))), (q_13, .inl (κ 2, R * w + w, .inr (.inr (.inr (.inr gq_13_43)))))] ++ im) H ∧ va_D A ([(x, .inl (κ 2, N, .inr (.inr (.inr (.inr f))))), (q_13, .inl (κ 2, R * w + w, .inr (.inr (.inr (.inr gq_13_43)))))] ++ im) ∧ va_S A s.heap H locs ∧ lv_has ls 4 [(3, .int (nI k3_43)), (2, .ref q_13), (0, .ref a), (1, .ref x)]) (fun k9 H locs ls hI43 ih43 => ?_) (w - 0) _ _ _ ⟨0, gq_13_17, (by omega), hq17_0, rfl, hP, hD, hS, lv_sub hl [0, 1, 2, 3] rfl⟩
    obtain ⟨k3_43, gq_13_43, hl43_0, hq43_0, hm43, hP, hD, hS, hl⟩ := hI43
    refine lv_iload_n hx hb dX5_withRow_43 rfl (lv_at hl 0 rfl) ?_
    refine lv_aload_n hx hb dX5_withRow_44 rfl (lv_at hl 2 rfl) ?_
    refine va_get (D := D) (ci := 5) (v := .ref c_2) (C := RX5) (T := TX5) (N := 4) hx hb hts inlX5 hown hK (oneP (C := [(x, .inl (κ 2, N, .inr (.inr (.inr (.inr f))))), (q_13, .inl (κ 2, R * w + w, .inr (.inr (.inr (.inr gq_13_43)))))]) hP hm_7) 0 rfl rfl 0 (by decide) (hts _ mw_382) (fun _ h9 => h9) rfl dX5_withRow_45 ?_
    refine va_alen hx hb hK (oneP (C := [(x, .inl (κ 2, N, .inr (.inr (.inr (.inr f))))), (q_13, .inl (κ 2, R * w + w, .inr (.inr (.inr (.inr gq_13_43)))))]) hP hm_8) 0 3 rfl rfl (v := nI w) rfl dX5_withRow_48 ?_
    refine lv_icmp_ge (tgt := 70) hx hb dX5_withRow_49 (by decide) (fun c_15 => ?_) (fun c_15 => ?_)
    · have nc_15 := cv_le (a := w) (b := k3_43) (by omega) (by omega) c_15
      obtain rfl : w = k3_43 := by omega
      refine va_new (ci := 5) (fs := [.null, .null, .int 0, .null]) (C := RX5) (T := TX5) (N := 4) hx hb hts inlX5 tyX5 tyX5_ok hown (hts _ mw_606) (hts _ mw_376) (hts _ mw_377) hK hP hD hS hA rfl (fun j hj => by rcases (show j = 0 ∨ j = 1 ∨ j = 2 ∨ j = 3 by omega) with rfl | rfl | rfl | rfl <;> rfl) (Nat.le_of_ble_eq_true rfl) (Nat.le_of_ble_eq_true rfl) dX5_withRow_70 (fun q_16 H hP hD hS => ?_)
      replace hP : va_P D vwCl ([(x, .inl (κ 2, N, .inr (.inr (.inr (.inr f))))), (q_13, .inl (κ 2, R * w + w, .inr (.inr (.inr (.inr gq_13_43))))), (q_16, .inr (5, [.null, .null, .int 0, .null]))] ++ im) H := mvP hP
      replace hD : va_D A ([(x, .inl (κ 2, N, .inr (.inr (.inr (.inr f))))), (q_13, .inl (κ 2, R * w + w, .inr (.inr (.inr (.inr gq_13_43))))), (q_16, .inr (5, [.null, .null, .int 0, .null]))] ++ im) := mvD hD
      refine lv_dup hx hb dX5_withRow_73 rfl ?_
      refine lv_aload_n hx hb dX5_withRow_74 rfl (lv_at hl 2 rfl) ?_
      refine va_get (D := D) (ci := 5) (v := .ref c_2) (C := RX5) (T := TX5) (N := 4) hx hb hts inlX5 hown hK (oneP (C := [(x, .inl (κ 2, N, .inr (.inr (.inr (.inr f))))), (q_13, .inl (κ 2, R * w + w, .inr (.inr (.inr (.inr gq_13_43))))), (q_16, .inr (5, [.null, .null, .int 0, .null]))]) hP hm_7) 0 rfl rfl 0 (by decide) (hts _ mw_382) (fun _ h9 => h9) rfl dX5_withRow_75 ?_
      refine lv_aload_n hx hb dX5_withRow_78 rfl (lv_at hl 1 rfl) ?_
      refine lv_aload_n hx hb dX5_withRow_79 rfl (lv_at hl 2 rfl) ?_
      refine va_get (D := D) (ci := 5) (v := .int (nI R)) (C := RX5) (T := TX5) (N := 4) hx hb hts inlX5 hown hK (oneP (C := [(x, .inl (κ 2, N, .inr (.inr (.inr (.inr f))))), (q_13, .inl (κ 2, R * w + w, .inr (.inr (.inr (.inr gq_13_43))))), (q_16, .inr (5, [.null, .null, .int 0, .null]))]) hP hm_7) 0 rfl rfl 2 (by decide) (hts _ mw_384) (fun _ h9 => h9) rfl dX5_withRow_80 ?_
      refine lv_iconst (v := 1) hx hb dX5_withRow_83 (by decide) ?_
      refine lv_iadd hx hb dX5_withRow_84 ?_
      refine ki (v := (nI (R + 1))) (nI_add R 1) ?_
      replace hP : va_P D vwCl ([(x, .inl (κ 2, N, .inr (.inr (.inr (.inr f))))), (q_16, .inr (5, [.null, .null, .int 0, .null])), (q_13, .inl (κ 2, R * w + w, .inr (.inr (.inr (.inr gq_13_43)))))] ++ im) _ := subP hP [0, 2, 1] rfl
      replace hD : va_D A ([(x, .inl (κ 2, N, .inr (.inr (.inr (.inr f))))), (q_16, .inr (5, [.null, .null, .int 0, .null])), (q_13, .inl (κ 2, R * w + w, .inr (.inr (.inr (.inr gq_13_43)))))] ++ im) := subD hD [0, 2, 1] (by decide) rfl
      obtain ⟨im_17, he_18⟩ : ∃ x9 : va_W, x9 = ([(q_13, .inl (κ 2, R * w + w, .inr (.inr (.inr (.inr gq_13_43)))))] ++ im) := ⟨_, rfl⟩
      have hs_19 : Sb im im_17 := by rw [he_18]; exact Sb.app
      have hm_q_13 : (q_13, .inl (κ 2, R * w + w, .inr (.inr (.inr (.inr gq_13_43))))) ∈ im_17 := by rw [he_18]; exact List.mem_of_getElem? (i := 0) rfl
      replace hP : va_P D vwCl ([(x, .inl (κ 2, N, .inr (.inr (.inr (.inr f))))), (q_16, .inr (5, [.null, .null, .int 0, .null]))] ++ ([(q_13, .inl (κ 2, R * w + w, .inr (.inr (.inr (.inr gq_13_43)))))] ++ im)) _ := hP
      replace hD : va_D A ([(x, .inl (κ 2, N, .inr (.inr (.inr (.inr f))))), (q_16, .inr (5, [.null, .null, .int 0, .null]))] ++ ([(q_13, .inl (κ 2, R * w + w, .inr (.inr (.inr (.inr gq_13_43)))))] ++ im)) := hD
      rw [← he_18] at hP hD
      clear he_18
      replace hs := hs.up hs_19
      replace hlc := hlc.up hs_19
      replace lo_10 := lo_10.up hs_19
      replace lc_11 := lc_11.up hs_19
      replace vw_12 := vw_12.up hs_19
      replace hq17_0 := hq17_0.up hs_19
      replace hq43_0 := hq43_0.up hs_19
      replace hm_7 := hs_19 _ hm_7
      replace hm_8 := hs_19 _ hm_8
      replace hm_9 := hs_19 _ hm_9
      have hf_20 : Cx κ im_17 q_13 ((R + 1) * w) := (by rw [Nat.add_one_mul]; exact ⟨_, hm_q_13, hq43_0⟩)
      refine et_IT (CR := [(x, .inl (κ 2, N, .inr (.inr (.inr (.inr f)))))]) (As := [.ref c_2, .ref q_13, .int (nI (R + 1))]) (rest := [.ref q_16]) hFX hKK hE hP hD hS hA (c_X5_init l D κ κq im_17 q_16 c_2 q_13 (R + 1) w ⟨_, hm_8, lo_10⟩ hf_20 (by omega) (by omega) (by omega)) 3 mw_607 mw_379 mw_377 mw_380 hdI_X5_init ⟨Nat.le_of_ble_eq_true rfl, Nat.le_of_ble_eq_true rfl⟩ rfl rfl (Nat.le_of_ble_eq_true rfl) dX5_withRow_85 ⟨Nat.le_of_ble_eq_true rfl, Nat.le_of_ble_eq_true rfl⟩ hl.1 [1] [0] rfl rfl (by decide) (by decide) (by decide) (fun im2__21 H locs hp_22 hP hD hS => ?_)
      replace hP : va_P D vwCl ([(x, .inl (κ 2, N, .inr (.inr (.inr (.inr f)))))] ++ im2__21) H := subP (C := [(x, .inl (κ 2, N, .inr (.inr (.inr (.inr f)))))]) hP [0] rfl
      replace hD : va_D A ([(x, .inl (κ 2, N, .inr (.inr (.inr (.inr f)))))] ++ im2__21) := subD (C := [(x, .inl (κ 2, N, .inr (.inr (.inr (.inr f)))))]) hD [0] (by decide) rfl
      replace hp_22 : Sb im_17 im2__21 ∧ Sh κ im2__21 q_16 (R + 1) w := hp_22
      obtain ⟨h_23, h_24⟩ := hp_22
      replace hs := hs.up h_23
      replace hlc := hlc.up h_23
      replace lo_10 := lo_10.up h_23
      replace lc_11 := lc_11.up h_23
      replace vw_12 := vw_12.up h_23
      replace hq17_0 := hq17_0.up h_23
      replace hq43_0 := hq43_0.up h_23
      replace hf_20 := hf_20.up h_23
      replace hm_7 := h_23 _ hm_7
      replace hm_8 := h_23 _ hm_8
      replace hm_9 := h_23 _ hm_9
      replace hm_q_13 := h_23 _ hm_q_13
      refine W.eq (g2 := F0 m 88 ls [.ref q_16]) rfl ?_
      exact et_aret hx hb hr (by first | exact Or.inl ⟨_, rfl⟩ | exact Or.inr ⟨_, rfl⟩) hlk (by first | exact Or.inl rfl | exact Or.inr ⟨_, rfl⟩) hS ((some q_16), im2__21) rfl ⟨(show Sb im im2__21 from (by first | exact Sb.rf | assumption | exact Sb.tr (by assumption) (by assumption) | exact Sb.tr (by assumption) (Sb.tr (by assumption) (by assumption)))), (by exact ⟨q_16, rfl, (show Sh κ im2__21 q_16 (R + 1) w from h_24)⟩)⟩ (subP hP [0] rfl) (subD hD [0] (by decide) rfl) (Nat.le_of_ble_eq_true rfl) (Nat.le_of_ble_eq_true rfl) dX5_withRow_88
    · have nc_15 := cv_nle (a := w) (b := k3_43) (by omega) (by omega) c_15
      refine lv_aload_n hx hb dX5_withRow_52 rfl (lv_at hl 1 rfl) ?_
      refine lv_aload_n hx hb dX5_withRow_53 rfl (lv_at hl 2 rfl) ?_
      refine va_get (D := D) (ci := 5) (v := .ref x_3) (C := RX5) (T := TX5) (N := 4) hx hb hts inlX5 hown hK (oneP (C := [(x, .inl (κ 2, N, .inr (.inr (.inr (.inr f))))), (q_13, .inl (κ 2, R * w + w, .inr (.inr (.inr (.inr gq_13_43)))))]) hP hm_7) 0 rfl rfl 1 (by decide) (hts _ mw_383) (fun _ h9 => h9) rfl dX5_withRow_54 ?_
      refine va_alen hx hb hK (oneP (C := [(x, .inl (κ 2, N, .inr (.inr (.inr (.inr f))))), (q_13, .inl (κ 2, R * w + w, .inr (.inr (.inr (.inr gq_13_43)))))]) hP hm_9) 0 2 rfl rfl (v := nI (R * w)) rfl dX5_withRow_57 ?_
      refine lv_iload_n hx hb dX5_withRow_58 rfl (lv_at hl 0 rfl) ?_
      refine lv_iadd hx hb dX5_withRow_59 ?_
      refine ki (v := (nI (R * w + k3_43))) (nI_add (R * w) k3_43) ?_
      refine lv_aload_n hx hb dX5_withRow_60 rfl (lv_at hl 3 rfl) ?_
      refine lv_iload_n hx hb dX5_withRow_61 rfl (lv_at hl 0 rfl) ?_
      refine va_aldq hx hb hK hP 0 2 rfl rfl (i := nI k3_43) (vp_in_nI (n := k3_43) (by omega) (by omega)) dX5_withRow_62 ?_
      obtain ⟨q_25, e_26, k_27, m_28, h_29⟩ := hlc k3_43 (by omega)
      refine kv (v := .ref q_25) (by rw [nI_clamp (by omega)]; rw [e_26]; rfl) ?_
      obtain ⟨hk_30, b_31, x_32, hm_33, hb_34⟩ := id h_29
      have hn_b_31 := hb_34.1
      obtain ⟨k_35, ek_35⟩ := tl_at [(x, .inl (κ 2, N, .inr (.inr (.inr (.inr f))))), (q_13, .inl (κ 2, R * w + w, .inr (.inr (.inr (.inr gq_13_43)))))] hm_33
      refine va_astq hx hb hK hP hD hS 1 2 k_35 0 rfl rfl ek_35 rfl (i := nI (R * w + k3_43)) (vp_in_nI (n := (R * w + k3_43)) (by omega) (by omega)) dX5_withRow_63 (fun H locs hP hD hS => ?_)
      rw [nI_clamp (by omega)] at hP hD
      have hP : va_P D vwCl ([(x, .inl (κ 2, N, .inr (.inr (.inr (.inr f))))), (q_13, .inl (κ 2, R * w + w, .inr (.inr (.inr (.inr (va_up gq_13_43 (R * w + k3_43) (some q_25)))))))] ++ im) H := hP
      have hD : va_D A ([(x, .inl (κ 2, N, .inr (.inr (.inr (.inr f))))), (q_13, .inl (κ 2, R * w + w, .inr (.inr (.inr (.inr (va_up gq_13_43 (R * w + k3_43) (some q_25)))))))] ++ im) := hD
      have hf_37 : Lc κ im (va_up gq_13_43 (R * w + k3_43) (some q_25)) (R * w + k3_43 + 1) := Lc_add hq43_0 h_29
      generalize va_up gq_13_43 (R * w + k3_43) (some q_25) = g_36 at hP hD hf_37
      refine lv_iinc (v := (nI (k3_43 + 1))) (lv' := [(3, .int (nI (k3_43 + 1))), (2, .ref q_13), (0, .ref a), (1, .ref x)]) hx hb dX5_withRow_64 hl (k := 0) rfl (nI_i k3_43) (by decide) rfl (fun ls hl => ?_)
      refine lv_goto (tgt := 43) hx hb dX5_withRow_67 (by decide) ?_
      exact ih43 _ _ _ _ (by omega) ⟨(k3_43 + 1), g_36, (by omega), hf_37, rfl, hP, hD, hS, lv_sub hl [0, 1, 2, 3] rfl⟩
  · have nc_14 := cv_nle (a := (R * w)) (b := k3_17) (by omega) (by omega) c_14
    refine lv_aload_n hx hb dX5_withRow_26 rfl (lv_at hl 1 rfl) ?_
    refine lv_iload_n hx hb dX5_withRow_27 rfl (lv_at hl 0 rfl) ?_
    refine lv_aload_n hx hb dX5_withRow_28 rfl (lv_at hl 2 rfl) ?_
    refine va_get (D := D) (ci := 5) (v := .ref x_3) (C := RX5) (T := TX5) (N := 4) hx hb hts inlX5 hown hK (oneP (C := [(x, .inl (κ 2, N, .inr (.inr (.inr (.inr f))))), (q_13, .inl (κ 2, R * w + w, .inr (.inr (.inr (.inr gq_13_17)))))]) hP hm_7) 0 rfl rfl 1 (by decide) (hts _ mw_383) (fun _ h9 => h9) rfl dX5_withRow_29 ?_
    refine lv_iload_n hx hb dX5_withRow_32 rfl (lv_at hl 0 rfl) ?_
    refine va_aldq hx hb hK (oneP (C := [(x, .inl (κ 2, N, .inr (.inr (.inr (.inr f))))), (q_13, .inl (κ 2, R * w + w, .inr (.inr (.inr (.inr gq_13_17)))))]) hP hm_9) 0 2 rfl rfl (i := nI k3_17) (vp_in_nI (n := k3_17) (by omega) (by omega)) dX5_withRow_33 ?_
    obtain ⟨q_38, e_39, k_40, m_41, h_42⟩ := lc_11 k3_17 (by omega)
    refine kv (v := .ref q_38) (by rw [nI_clamp (by omega)]; rw [e_39]; rfl) ?_
    obtain ⟨hk_43, b_44, x_45, hm_46, hb_47⟩ := id h_42
    have hn_b_44 := hb_47.1
    obtain ⟨k_48, ek_48⟩ := tl_at [(x, .inl (κ 2, N, .inr (.inr (.inr (.inr f))))), (q_13, .inl (κ 2, R * w + w, .inr (.inr (.inr (.inr gq_13_17)))))] hm_46
    refine va_astq hx hb hK hP hD hS 1 2 k_48 0 rfl rfl ek_48 rfl (i := nI k3_17) (vp_in_nI (n := k3_17) (by omega) (by omega)) dX5_withRow_34 (fun H locs hP hD hS => ?_)
    rw [nI_clamp (by omega)] at hP hD
    have hP : va_P D vwCl ([(x, .inl (κ 2, N, .inr (.inr (.inr (.inr f))))), (q_13, .inl (κ 2, R * w + w, .inr (.inr (.inr (.inr (va_up gq_13_17 k3_17 (some q_38)))))))] ++ im) H := hP
    have hD : va_D A ([(x, .inl (κ 2, N, .inr (.inr (.inr (.inr f))))), (q_13, .inl (κ 2, R * w + w, .inr (.inr (.inr (.inr (va_up gq_13_17 k3_17 (some q_38)))))))] ++ im) := hD
    have hf_50 : Lc κ im (va_up gq_13_17 k3_17 (some q_38)) (k3_17 + 1) := Lc_add hq17_0 h_42
    generalize va_up gq_13_17 k3_17 (some q_38) = g_49 at hP hD hf_50
    refine lv_iinc (v := (nI (k3_17 + 1))) (lv' := [(3, .int (nI (k3_17 + 1))), (2, .ref q_13), (0, .ref a), (1, .ref x)]) hx hb dX5_withRow_35 hl (k := 0) rfl (nI_i k3_17) (by decide) rfl (fun ls hl => ?_)
    refine lv_goto (tgt := 17) hx hb dX5_withRow_38 (by decide) ?_
    exact ih17 _ _ _ _ (by omega) ⟨(k3_17 + 1), g_49, (by omega), hf_50, rfl, hP, hD, hS, lv_sub hl [0, 1, 2, 3] rfl⟩
set_option maxHeartbeats 4000000 in
set_option maxRecDepth 100000 in
theorem c_X5_withoutRow (l : Launch) (D : va_G) (κ : Nat → ClassId) (κq : Nat → Nat) (im : va_W) (a : Nat) (R : Nat) (w : Nat) (r9 : Nat) (hs : Sh κ im a R w) (hr9 : r9 < R) : Et l yX5_withoutRow (wl yX5_withoutRow cX5_withoutRow 5 (some (.object "TypedTables$Sheet"))) { frames := 3, cells := 4, slots := 367, locals := 59 } D κ κq [.ref a, .int (nI r9)] ([] ++ im) (fun u9 : Option Nat × va_W => some (va_rf u9.1)) (fun u9 : Option Nat × va_W => Sb im u9.2 ∧ ((∃ (q : Nat), u9.1 = some q ∧ Sh κ u9.2 q (R - 1) w))) (fun u9 : Option Nat × va_W => ([] ++ u9.2)) := by
  refine et_of (by decide +kernel) (Nat.le_of_ble_eq_true rfl) ?_
  intro p e s m args below meth c A ls hx hb hr hml hts hown hlk hin hKK hK hA hP hD hS hE hl
  have hS : va_S A s.heap s.heap [] := hS
  have hP : va_P D vwCl ([] ++ im) s.heap := hP
  have hD : va_D A ([] ++ im) := hD
  have hFX : FX p s m args c cX5_withoutRow 5 RX5 := ⟨hx, hb, hml, hown, hts⟩
  have hl : lv_has ls 5 [(0, .ref a), (1, .int (nI r9))] := hl
  obtain ⟨hb_1, c_2, x_3, v_4, g_5, h_6, hm_7, hm_8, hm_9, lo_10, lc_11, vw_12⟩ := id hs
  obtain ⟨hb_1_1, hb_1_2, hb_1_3⟩ := hb_1
  have hrw_hb_1 := rw_le hb_1_1 hb_1_3
  have hlew : w ≤ R * w := Nat.le_mul_of_pos_left w (by omega)
  refine lv_aload_n hx hb dX5_withoutRow_0 rfl (lv_at hl 0 rfl) ?_
  refine va_get (D := D) (ci := 5) (v := .ref x_3) (C := RX5) (T := TX5) (N := 4) hx hb hts inlX5 hown hK (oneP (C := []) hP hm_7) 0 rfl rfl 1 (by decide) (hts _ mw_383) (fun _ h9 => h9) rfl dX5_withoutRow_1 ?_
  refine va_alen hx hb hK (oneP (C := []) hP hm_9) 0 2 rfl rfl (v := nI (R * w)) rfl dX5_withoutRow_4 ?_
  refine lv_aload_n hx hb dX5_withoutRow_5 rfl (lv_at hl 0 rfl) ?_
  refine va_get (D := D) (ci := 5) (v := .ref c_2) (C := RX5) (T := TX5) (N := 4) hx hb hts inlX5 hown hK (oneP (C := []) hP hm_7) 0 rfl rfl 0 (by decide) (hts _ mw_382) (fun _ h9 => h9) rfl dX5_withoutRow_6 ?_
  refine va_alen hx hb hK (oneP (C := []) hP hm_8) 0 3 rfl rfl (v := nI w) rfl dX5_withoutRow_9 ?_
  refine lv_isub hx hb dX5_withoutRow_10 ?_
  refine ki (v := (nI (R * w - w))) (pk_sub (a := (R * w)) (b := w) (by omega)) ?_
  refine my_newq hx hb hown (hts _ mw_605) hKK.2.1 hK hP hD hS hA 2 rfl (N' := (R * w - w)) (nI_pos (by omega)) (nI_clamp (by omega)) (by omega) (Nat.le_of_ble_eq_true rfl) (by show _ ≤ 367; omega) dX5_withoutRow_11 (fun q_13 H hP hD hS => ?_)
  refine W.widen (k := 1) (n := 320) (Nat.le_refl _) (by omega) ?_
  replace hP : va_P D vwCl ([(q_13, .inl (κ 2, R * w - w, .inr (.inr (.inr (.inr (fun _ => none))))))] ++ im) H := mvP hP
  replace hD : va_D A ([(q_13, .inl (κ 2, R * w - w, .inr (.inr (.inr (.inr (fun _ => none))))))] ++ im) := mvD hD
  refine lv_astore_n (lv' := [(2, .ref q_13), (0, .ref a), (1, .int (nI r9))]) hx hb dX5_withoutRow_14 rfl hl (by decide) rfl (fun ls hl => ?_)
  refine lv_iload_n hx hb dX5_withoutRow_15 rfl (lv_at hl 2 rfl) ?_
  refine lv_aload_n hx hb dX5_withoutRow_16 rfl (lv_at hl 1 rfl) ?_
  refine va_get (D := D) (ci := 5) (v := .ref c_2) (C := RX5) (T := TX5) (N := 4) hx hb hts inlX5 hown hK (oneP (C := [(q_13, .inl (κ 2, R * w - w, .inr (.inr (.inr (.inr (fun _ => none))))))]) hP hm_7) 0 rfl rfl 0 (by decide) (hts _ mw_382) (fun _ h9 => h9) rfl dX5_withoutRow_17 ?_
  refine va_alen hx hb hK (oneP (C := [(q_13, .inl (κ 2, R * w - w, .inr (.inr (.inr (.inr (fun _ => none))))))]) hP hm_8) 0 3 rfl rfl (v := nI w) rfl dX5_withoutRow_20 ?_
  have hrb : r9 * w ≤ R * w := Nat.mul_le_mul_right w (by omega)
  refine lv_imul hx hb dX5_withoutRow_21 ?_
  refine ki (v := (nI (r9 * w))) (pk_mul r9 w) ?_
  refine lv_istore_n (lv' := [(3, .int (nI (r9 * w))), (2, .ref q_13), (0, .ref a), (1, .int (nI r9))]) hx hb dX5_withoutRow_22 rfl hl (by decide) rfl (fun ls hl => ?_)
  refine lv_iconst (v := 0) hx hb dX5_withoutRow_23 (by decide) ?_
  refine lv_istore (lv' := [(4, .int 0), (3, .int (nI (r9 * w))), (2, .ref q_13), (0, .ref a), (1, .int (nI r9))]) hx hb dX5_withoutRow_24 hl (by decide) rfl (fun ls hl => ?_)
  refine loop_dn (fun k9 H locs ls => ∃ (k4_26 : Nat), ∃ (gq_13_26 : Nat → Option Nat), (k4_26 ≤ R * w - w) ∧ Lc κ im gq_13_26 k4_26 ∧ R * w - w - k4_26 = k9 ∧ va_P D vwCl ([(q_13, .inl (κ 2, R * w - w, .inr (.inr (.inr (.inr gq_13_26)))))] ++ im) H ∧ va_D A ([(q_13, .inl (κ 2, R * w - w, .inr (.inr (.inr (.inr gq_13_26)))))] ++ im) ∧ va_S A s.heap H locs ∧ lv_has ls 5 [(4, .int (nI k4_26)), (3, .int (nI (r9 * w))), (2, .ref q_13), (0, .ref a), (1, .int (nI r9))]) (fun k9 H locs ls hI26 ih26 => ?_) (R * w - w - 0) _ _ _ ⟨0, (fun _ => none), (by omega), Lc_0, rfl, hP, hD, hS, lv_sub hl [0, 1, 2, 3, 4] rfl⟩
  obtain ⟨k4_26, gq_13_26, hl26_0, hq26_0, hm26, hP, hD, hS, hl⟩ := hI26
  refine lv_iload hx hb dX5_withoutRow_26 (lv_at hl 0 rfl) ?_
  refine lv_aload_n hx hb dX5_withoutRow_28 rfl (lv_at hl 2 rfl) ?_
  refine va_alen hx hb hK hP 0 2 rfl rfl (v := nI (R * w - w)) rfl dX5_withoutRow_29 ?_
  refine lv_icmp_ge (tgt := 67) hx hb dX5_withoutRow_30 (by decide) (fun c_14 => ?_) (fun c_14 => ?_)
  · have nc_14 := cv_le (a := (R * w - w)) (b := k4_26) (by omega) (by omega) c_14
    obtain rfl : R * w - w = k4_26 := by omega
    refine va_new (ci := 5) (fs := [.null, .null, .int 0, .null]) (C := RX5) (T := TX5) (N := 4) hx hb hts inlX5 tyX5 tyX5_ok hown (hts _ mw_606) (hts _ mw_376) (hts _ mw_377) hK hP hD hS hA rfl (fun j hj => by rcases (show j = 0 ∨ j = 1 ∨ j = 2 ∨ j = 3 by omega) with rfl | rfl | rfl | rfl <;> rfl) (Nat.le_of_ble_eq_true rfl) (Nat.le_of_ble_eq_true rfl) dX5_withoutRow_67 (fun q_15 H hP hD hS => ?_)
    replace hP : va_P D vwCl ([(q_13, .inl (κ 2, R * w - w, .inr (.inr (.inr (.inr gq_13_26))))), (q_15, .inr (5, [.null, .null, .int 0, .null]))] ++ im) H := mvP hP
    replace hD : va_D A ([(q_13, .inl (κ 2, R * w - w, .inr (.inr (.inr (.inr gq_13_26))))), (q_15, .inr (5, [.null, .null, .int 0, .null]))] ++ im) := mvD hD
    refine lv_dup hx hb dX5_withoutRow_70 rfl ?_
    refine lv_aload_n hx hb dX5_withoutRow_71 rfl (lv_at hl 3 rfl) ?_
    refine va_get (D := D) (ci := 5) (v := .ref c_2) (C := RX5) (T := TX5) (N := 4) hx hb hts inlX5 hown hK (oneP (C := [(q_13, .inl (κ 2, R * w - w, .inr (.inr (.inr (.inr gq_13_26))))), (q_15, .inr (5, [.null, .null, .int 0, .null]))]) hP hm_7) 0 rfl rfl 0 (by decide) (hts _ mw_382) (fun _ h9 => h9) rfl dX5_withoutRow_72 ?_
    refine lv_aload_n hx hb dX5_withoutRow_75 rfl (lv_at hl 2 rfl) ?_
    refine lv_aload_n hx hb dX5_withoutRow_76 rfl (lv_at hl 3 rfl) ?_
    refine va_get (D := D) (ci := 5) (v := .int (nI R)) (C := RX5) (T := TX5) (N := 4) hx hb hts inlX5 hown hK (oneP (C := [(q_13, .inl (κ 2, R * w - w, .inr (.inr (.inr (.inr gq_13_26))))), (q_15, .inr (5, [.null, .null, .int 0, .null]))]) hP hm_7) 0 rfl rfl 2 (by decide) (hts _ mw_384) (fun _ h9 => h9) rfl dX5_withoutRow_77 ?_
    refine lv_iconst (v := 1) hx hb dX5_withoutRow_80 (by decide) ?_
    refine lv_isub hx hb dX5_withoutRow_81 ?_
    refine ki (v := (nI (R - 1))) (pk_sub (a := R) (b := 1) (by omega)) ?_
    replace hP : va_P D vwCl ([(q_15, .inr (5, [.null, .null, .int 0, .null])), (q_13, .inl (κ 2, R * w - w, .inr (.inr (.inr (.inr gq_13_26)))))] ++ im) _ := subP hP [1, 0] rfl
    replace hD : va_D A ([(q_15, .inr (5, [.null, .null, .int 0, .null])), (q_13, .inl (κ 2, R * w - w, .inr (.inr (.inr (.inr gq_13_26)))))] ++ im) := subD hD [1, 0] (by decide) rfl
    obtain ⟨im_16, he_17⟩ : ∃ x9 : va_W, x9 = ([(q_13, .inl (κ 2, R * w - w, .inr (.inr (.inr (.inr gq_13_26)))))] ++ im) := ⟨_, rfl⟩
    have hs_18 : Sb im im_16 := by rw [he_17]; exact Sb.app
    have hm_q_13 : (q_13, .inl (κ 2, R * w - w, .inr (.inr (.inr (.inr gq_13_26))))) ∈ im_16 := by rw [he_17]; exact List.mem_of_getElem? (i := 0) rfl
    replace hP : va_P D vwCl ([(q_15, .inr (5, [.null, .null, .int 0, .null]))] ++ ([(q_13, .inl (κ 2, R * w - w, .inr (.inr (.inr (.inr gq_13_26)))))] ++ im)) _ := hP
    replace hD : va_D A ([(q_15, .inr (5, [.null, .null, .int 0, .null]))] ++ ([(q_13, .inl (κ 2, R * w - w, .inr (.inr (.inr (.inr gq_13_26)))))] ++ im)) := hD
    rw [← he_17] at hP hD
    clear he_17
    replace hs := hs.up hs_18
    replace lo_10 := lo_10.up hs_18
    replace lc_11 := lc_11.up hs_18
    replace vw_12 := vw_12.up hs_18
    replace hq26_0 := hq26_0.up hs_18
    replace hm_7 := hs_18 _ hm_7
    replace hm_8 := hs_18 _ hm_8
    replace hm_9 := hs_18 _ hm_9
    have hf_19 : Cx κ im_16 q_13 ((R - 1) * w) := (by rw [Nat.sub_one_mul]; exact ⟨_, hm_q_13, hq26_0⟩)
    refine et_IT (CR := []) (As := [.ref c_2, .ref q_13, .int (nI (R - 1))]) (rest := [.ref q_15]) hFX hKK hE hP hD hS hA (c_X5_init l D κ κq im_16 q_15 c_2 q_13 (R - 1) w ⟨_, hm_8, lo_10⟩ hf_19 (by omega) (by omega) (by omega)) 3 mw_607 mw_379 mw_377 mw_380 hdI_X5_init ⟨Nat.le_of_ble_eq_true rfl, Nat.le_of_ble_eq_true rfl⟩ rfl rfl (Nat.le_of_ble_eq_true rfl) dX5_withoutRow_82 ⟨Nat.le_of_ble_eq_true rfl, Nat.le_of_ble_eq_true rfl⟩ hl.1 [0] [] rfl rfl (by decide) (by decide) (by decide) (fun im2__20 H locs hp_21 hP hD hS => ?_)
    replace hP : va_P D vwCl ([] ++ im2__20) H := subP (C := []) hP [] rfl
    replace hD : va_D A ([] ++ im2__20) := subD (C := []) hD [] (by decide) rfl
    replace hp_21 : Sb im_16 im2__20 ∧ Sh κ im2__20 q_15 (R - 1) w := hp_21
    obtain ⟨h_22, h_23⟩ := hp_21
    replace hs := hs.up h_22
    replace lo_10 := lo_10.up h_22
    replace lc_11 := lc_11.up h_22
    replace vw_12 := vw_12.up h_22
    replace hq26_0 := hq26_0.up h_22
    replace hf_19 := hf_19.up h_22
    replace hm_7 := h_22 _ hm_7
    replace hm_8 := h_22 _ hm_8
    replace hm_9 := h_22 _ hm_9
    replace hm_q_13 := h_22 _ hm_q_13
    refine W.eq (g2 := F0 m 85 ls [.ref q_15]) rfl ?_
    exact et_aret hx hb hr (by first | exact Or.inl ⟨_, rfl⟩ | exact Or.inr ⟨_, rfl⟩) hlk (by first | exact Or.inl rfl | exact Or.inr ⟨_, rfl⟩) hS ((some q_15), im2__20) rfl ⟨(show Sb im im2__20 from (by first | exact Sb.rf | assumption | exact Sb.tr (by assumption) (by assumption) | exact Sb.tr (by assumption) (Sb.tr (by assumption) (by assumption)))), (by exact ⟨q_15, rfl, (show Sh κ im2__20 q_15 (R - 1) w from h_23)⟩)⟩ (subP hP [] rfl) (subD hD [] (by decide) rfl) (Nat.le_of_ble_eq_true rfl) (Nat.le_of_ble_eq_true rfl) dX5_withoutRow_85
  · have nc_14 := cv_nle (a := (R * w - w)) (b := k4_26) (by omega) (by omega) c_14
    refine lv_aload_n hx hb dX5_withoutRow_33 rfl (lv_at hl 2 rfl) ?_
    refine lv_iload hx hb dX5_withoutRow_34 (lv_at hl 0 rfl) ?_
    refine lv_aload_n hx hb dX5_withoutRow_36 rfl (lv_at hl 3 rfl) ?_
    refine va_get (D := D) (ci := 5) (v := .ref x_3) (C := RX5) (T := TX5) (N := 4) hx hb hts inlX5 hown hK (oneP (C := [(q_13, .inl (κ 2, R * w - w, .inr (.inr (.inr (.inr gq_13_26)))))]) hP hm_7) 0 rfl rfl 1 (by decide) (hts _ mw_383) (fun _ h9 => h9) rfl dX5_withoutRow_37 ?_
    refine lv_iload hx hb dX5_withoutRow_40 (lv_at hl 0 rfl) ?_
    refine lv_iload_n hx hb dX5_withoutRow_42 rfl (lv_at hl 1 rfl) ?_
    refine lv_icmp_ge (tgt := 51) hx hb dX5_withoutRow_43 (by decide) (fun c_24 => ?_) (fun c_24 => ?_)
    · have nc_24 := cv_le (a := (r9 * w)) (b := k4_26) (by omega) (by omega) c_24
      refine lv_iload hx hb dX5_withoutRow_51 (lv_at hl 0 rfl) ?_
      refine lv_aload_n hx hb dX5_withoutRow_53 rfl (lv_at hl 3 rfl) ?_
      refine va_get (D := D) (ci := 5) (v := .ref c_2) (C := RX5) (T := TX5) (N := 4) hx hb hts inlX5 hown hK (oneP (C := [(q_13, .inl (κ 2, R * w - w, .inr (.inr (.inr (.inr gq_13_26)))))]) hP hm_7) 0 rfl rfl 0 (by decide) (hts _ mw_382) (fun _ h9 => h9) rfl dX5_withoutRow_54 ?_
      refine va_alen hx hb hK (oneP (C := [(q_13, .inl (κ 2, R * w - w, .inr (.inr (.inr (.inr gq_13_26)))))]) hP hm_8) 0 3 rfl rfl (v := nI w) rfl dX5_withoutRow_57 ?_
      refine lv_iadd hx hb dX5_withoutRow_58 ?_
      refine ki (v := (nI (k4_26 + w))) (nI_add k4_26 w) ?_
      refine va_aldq hx hb hK (oneP (C := [(q_13, .inl (κ 2, R * w - w, .inr (.inr (.inr (.inr gq_13_26)))))]) hP hm_9) 0 2 rfl rfl (i := nI (k4_26 + w)) (vp_in_nI (n := (k4_26 + w)) (by omega) (by omega)) dX5_withoutRow_59 ?_
      obtain ⟨q_25, e_26, k_27, m_28, h_29⟩ := lc_11 (k4_26 + w) (by omega)
      refine kv (v := .ref q_25) (by rw [nI_clamp (by omega)]; rw [e_26]; rfl) ?_
      obtain ⟨hk_30, b_31, x_32, hm_33, hb_34⟩ := id h_29
      have hn_b_31 := hb_34.1
      obtain ⟨k_35, ek_35⟩ := tl_at [(q_13, .inl (κ 2, R * w - w, .inr (.inr (.inr (.inr gq_13_26)))))] hm_33
      refine va_astq hx hb hK hP hD hS 0 2 k_35 0 rfl rfl ek_35 rfl (i := nI k4_26) (vp_in_nI (n := k4_26) (by omega) (by omega)) dX5_withoutRow_60 (fun H locs hP hD hS => ?_)
      rw [nI_clamp (by omega)] at hP hD
      have hP : va_P D vwCl ([(q_13, .inl (κ 2, R * w - w, .inr (.inr (.inr (.inr (va_up gq_13_26 k4_26 (some q_25)))))))] ++ im) H := hP
      have hD : va_D A ([(q_13, .inl (κ 2, R * w - w, .inr (.inr (.inr (.inr (va_up gq_13_26 k4_26 (some q_25)))))))] ++ im) := hD
      have hf_37 : Lc κ im (va_up gq_13_26 k4_26 (some q_25)) (k4_26 + 1) := Lc_add hq26_0 h_29
      generalize va_up gq_13_26 k4_26 (some q_25) = g_36 at hP hD hf_37
      refine lv_iinc (v := (nI (k4_26 + 1))) (lv' := [(4, .int (nI (k4_26 + 1))), (3, .int (nI (r9 * w))), (2, .ref q_13), (0, .ref a), (1, .int (nI r9))]) hx hb dX5_withoutRow_61 hl (k := 0) rfl (nI_i k4_26) (by decide) rfl (fun ls hl => ?_)
      refine lv_goto (tgt := 26) hx hb dX5_withoutRow_64 (by decide) ?_
      exact ih26 _ _ _ _ (by omega) ⟨(k4_26 + 1), g_36, (by omega), hf_37, rfl, hP, hD, hS, lv_sub hl [0, 1, 2, 3, 4] rfl⟩
    · have nc_24 := cv_nle (a := (r9 * w)) (b := k4_26) (by omega) (by omega) c_24
      refine lv_iload hx hb dX5_withoutRow_46 (lv_at hl 0 rfl) ?_
      refine lv_goto (tgt := 59) hx hb dX5_withoutRow_48 (by decide) ?_
      refine va_aldq hx hb hK (oneP (C := [(q_13, .inl (κ 2, R * w - w, .inr (.inr (.inr (.inr gq_13_26)))))]) hP hm_9) 0 2 rfl rfl (i := nI k4_26) (vp_in_nI (n := k4_26) (by omega) (by omega)) dX5_withoutRow_59 ?_
      obtain ⟨q_38, e_39, k_40, m_41, h_42⟩ := lc_11 k4_26 (by omega)
      refine kv (v := .ref q_38) (by rw [nI_clamp (by omega)]; rw [e_39]; rfl) ?_
      obtain ⟨hk_43, b_44, x_45, hm_46, hb_47⟩ := id h_42
      have hn_b_44 := hb_47.1
      obtain ⟨k_48, ek_48⟩ := tl_at [(q_13, .inl (κ 2, R * w - w, .inr (.inr (.inr (.inr gq_13_26)))))] hm_46
      refine va_astq hx hb hK hP hD hS 0 2 k_48 0 rfl rfl ek_48 rfl (i := nI k4_26) (vp_in_nI (n := k4_26) (by omega) (by omega)) dX5_withoutRow_60 (fun H locs hP hD hS => ?_)
      rw [nI_clamp (by omega)] at hP hD
      have hP : va_P D vwCl ([(q_13, .inl (κ 2, R * w - w, .inr (.inr (.inr (.inr (va_up gq_13_26 k4_26 (some q_38)))))))] ++ im) H := hP
      have hD : va_D A ([(q_13, .inl (κ 2, R * w - w, .inr (.inr (.inr (.inr (va_up gq_13_26 k4_26 (some q_38)))))))] ++ im) := hD
      have hf_50 : Lc κ im (va_up gq_13_26 k4_26 (some q_38)) (k4_26 + 1) := Lc_add hq26_0 h_42
      generalize va_up gq_13_26 k4_26 (some q_38) = g_49 at hP hD hf_50
      refine lv_iinc (v := (nI (k4_26 + 1))) (lv' := [(4, .int (nI (k4_26 + 1))), (3, .int (nI (r9 * w))), (2, .ref q_13), (0, .ref a), (1, .int (nI r9))]) hx hb dX5_withoutRow_61 hl (k := 0) rfl (nI_i k4_26) (by decide) rfl (fun ls hl => ?_)
      refine lv_goto (tgt := 26) hx hb dX5_withoutRow_64 (by decide) ?_
      exact ih26 _ _ _ _ (by omega) ⟨(k4_26 + 1), g_49, (by omega), hf_50, rfl, hP, hD, hS, lv_sub hl [0, 1, 2, 3, 4] rfl⟩
set_option maxHeartbeats 4000000 in
set_option maxRecDepth 100000 in
theorem c_X5_withColumn (l : Launch) (D : va_G) (κ : Nat → ClassId) (κq : Nat → Nat) (im : va_W) (a : Nat) (R : Nat) (w : Nat) (c9 : Nat) (co : Nat) (n : Nat) (t : Int32) (hs : Sh κ im a R w) (hc9 : c9 < w) (hco : Co κ im co n t) : Et l yX5_withColumn (wl yX5_withColumn cX5_withColumn 5 (some (.object "TypedTables$Sheet"))) { frames := 3, cells := 4, slots := 55, locals := 59 } D κ κq [.ref a, .int (nI c9), .ref co] ([] ++ im) (fun u9 : Option Nat × va_W => some (va_rf u9.1)) (fun u9 : Option Nat × va_W => Sb im u9.2 ∧ ((∃ (q : Nat), u9.1 = some q ∧ Sh κ u9.2 q R w))) (fun u9 : Option Nat × va_W => ([] ++ u9.2)) := by
  refine et_of (by decide +kernel) (Nat.le_of_ble_eq_true rfl) ?_
  intro p e s m args below meth c A ls hx hb hr hml hts hown hlk hin hKK hK hA hP hD hS hE hl
  have hS : va_S A s.heap s.heap [] := hS
  have hP : va_P D vwCl ([] ++ im) s.heap := hP
  have hD : va_D A ([] ++ im) := hD
  have hFX : FX p s m args c cX5_withColumn 5 RX5 := ⟨hx, hb, hml, hown, hts⟩
  have hl : lv_has ls 5 [(0, .ref a), (1, .int (nI c9)), (2, .ref co)] := hl
  obtain ⟨hb_1, c_2, x_3, v_4, g_5, h_6, hm_7, hm_8, hm_9, lo_10, lc_11, vw_12⟩ := id hs
  obtain ⟨hb_1_1, hb_1_2, hb_1_3⟩ := hb_1
  have hrw_hb_1 := rw_le hb_1_1 hb_1_3
  refine lv_aload_n hx hb dX5_withColumn_0 rfl (lv_at hl 0 rfl) ?_
  refine va_get (D := D) (ci := 5) (v := .ref c_2) (C := RX5) (T := TX5) (N := 4) hx hb hts inlX5 hown hK (oneP (C := []) hP hm_7) 0 rfl rfl 0 (by decide) (hts _ mw_382) (fun _ h9 => h9) rfl dX5_withColumn_1 ?_
  refine va_alen hx hb hK (oneP (C := []) hP hm_8) 0 3 rfl rfl (v := nI w) rfl dX5_withColumn_4 ?_
  refine my_newq hx hb hown (hts _ mw_727) hKK.2.2.1 hK hP hD hS hA 3 rfl (N' := w) (nI_pos (by omega)) (nI_clamp (by omega)) (by omega) (Nat.le_of_ble_eq_true rfl) (by show _ ≤ 55; omega) dX5_withColumn_5 (fun q_13 H hP hD hS => ?_)
  refine W.widen (k := 1) (n := 8) (Nat.le_refl _) (by omega) ?_
  replace hP : va_P D vwCl ([(q_13, .inl (κ 3, w, .inr (.inr (.inr (.inr (fun _ => none))))))] ++ im) H := mvP hP
  replace hD : va_D A ([(q_13, .inl (κ 3, w, .inr (.inr (.inr (.inr (fun _ => none))))))] ++ im) := mvD hD
  refine lv_astore_n (lv' := [(3, .ref q_13), (0, .ref a), (1, .int (nI c9)), (2, .ref co)]) hx hb dX5_withColumn_8 rfl hl (by decide) rfl (fun ls hl => ?_)
  refine lv_iconst (v := 0) hx hb dX5_withColumn_9 (by decide) ?_
  refine lv_istore (lv' := [(4, .int 0), (3, .ref q_13), (0, .ref a), (1, .int (nI c9)), (2, .ref co)]) hx hb dX5_withColumn_10 hl (by decide) rfl (fun ls hl => ?_)
  refine loop_dn (fun k9 H locs ls => ∃ (k4_12 : Nat), ∃ (gq_13_12 : Nat → Option Nat), (k4_12 ≤ w) ∧ Lo κ im gq_13_12 k4_12 ∧ w - k4_12 = k9 ∧ va_P D vwCl ([(q_13, .inl (κ 3, w, .inr (.inr (.inr (.inr gq_13_12)))))] ++ im) H ∧ va_D A ([(q_13, .inl (κ 3, w, .inr (.inr (.inr (.inr gq_13_12)))))] ++ im) ∧ va_S A s.heap H locs ∧ lv_has ls 5 [(4, .int (nI k4_12)), (3, .ref q_13), (0, .ref a), (1, .int (nI c9)), (2, .ref co)]) (fun k9 H locs ls hI12 ih12 => ?_) (w - 0) _ _ _ ⟨0, (fun _ => none), (by omega), Lo_0, rfl, hP, hD, hS, lv_sub hl [0, 1, 2, 3, 4] rfl⟩
  obtain ⟨k4_12, gq_13_12, hl12_0, hq12_0, hm12, hP, hD, hS, hl⟩ := hI12
  refine lv_iload hx hb dX5_withColumn_12 (lv_at hl 0 rfl) ?_
  refine lv_aload_n hx hb dX5_withColumn_14 rfl (lv_at hl 2 rfl) ?_
  refine va_get (D := D) (ci := 5) (v := .ref c_2) (C := RX5) (T := TX5) (N := 4) hx hb hts inlX5 hown hK (oneP (C := [(q_13, .inl (κ 3, w, .inr (.inr (.inr (.inr gq_13_12)))))]) hP hm_7) 0 rfl rfl 0 (by decide) (hts _ mw_382) (fun _ h9 => h9) rfl dX5_withColumn_15 ?_
  refine va_alen hx hb hK (oneP (C := [(q_13, .inl (κ 3, w, .inr (.inr (.inr (.inr gq_13_12)))))]) hP hm_8) 0 3 rfl rfl (v := nI w) rfl dX5_withColumn_18 ?_
  refine lv_icmp_ge (tgt := 49) hx hb dX5_withColumn_19 (by decide) (fun c_14 => ?_) (fun c_14 => ?_)
  · have nc_14 := cv_le (a := w) (b := k4_12) (by omega) (by omega) c_14
    obtain rfl : w = k4_12 := by omega
    refine va_new (ci := 5) (fs := [.null, .null, .int 0, .null]) (C := RX5) (T := TX5) (N := 4) hx hb hts inlX5 tyX5 tyX5_ok hown (hts _ mw_606) (hts _ mw_376) (hts _ mw_377) hK hP hD hS hA rfl (fun j hj => by rcases (show j = 0 ∨ j = 1 ∨ j = 2 ∨ j = 3 by omega) with rfl | rfl | rfl | rfl <;> rfl) (Nat.le_of_ble_eq_true rfl) (Nat.le_of_ble_eq_true rfl) dX5_withColumn_49 (fun q_15 H hP hD hS => ?_)
    replace hP : va_P D vwCl ([(q_13, .inl (κ 3, w, .inr (.inr (.inr (.inr gq_13_12))))), (q_15, .inr (5, [.null, .null, .int 0, .null]))] ++ im) H := mvP hP
    replace hD : va_D A ([(q_13, .inl (κ 3, w, .inr (.inr (.inr (.inr gq_13_12))))), (q_15, .inr (5, [.null, .null, .int 0, .null]))] ++ im) := mvD hD
    refine lv_dup hx hb dX5_withColumn_52 rfl ?_
    refine lv_aload_n hx hb dX5_withColumn_53 rfl (lv_at hl 1 rfl) ?_
    refine lv_aload_n hx hb dX5_withColumn_54 rfl (lv_at hl 2 rfl) ?_
    refine va_get (D := D) (ci := 5) (v := .ref x_3) (C := RX5) (T := TX5) (N := 4) hx hb hts inlX5 hown hK (oneP (C := [(q_13, .inl (κ 3, w, .inr (.inr (.inr (.inr gq_13_12))))), (q_15, .inr (5, [.null, .null, .int 0, .null]))]) hP hm_7) 0 rfl rfl 1 (by decide) (hts _ mw_383) (fun _ h9 => h9) rfl dX5_withColumn_55 ?_
    refine lv_aload_n hx hb dX5_withColumn_58 rfl (lv_at hl 2 rfl) ?_
    refine va_get (D := D) (ci := 5) (v := .int (nI R)) (C := RX5) (T := TX5) (N := 4) hx hb hts inlX5 hown hK (oneP (C := [(q_13, .inl (κ 3, w, .inr (.inr (.inr (.inr gq_13_12))))), (q_15, .inr (5, [.null, .null, .int 0, .null]))]) hP hm_7) 0 rfl rfl 2 (by decide) (hts _ mw_384) (fun _ h9 => h9) rfl dX5_withColumn_59 ?_
    replace hP : va_P D vwCl ([(q_15, .inr (5, [.null, .null, .int 0, .null])), (q_13, .inl (κ 3, w, .inr (.inr (.inr (.inr gq_13_12)))))] ++ im) _ := subP hP [1, 0] rfl
    replace hD : va_D A ([(q_15, .inr (5, [.null, .null, .int 0, .null])), (q_13, .inl (κ 3, w, .inr (.inr (.inr (.inr gq_13_12)))))] ++ im) := subD hD [1, 0] (by decide) rfl
    obtain ⟨im_16, he_17⟩ : ∃ x9 : va_W, x9 = ([(q_13, .inl (κ 3, w, .inr (.inr (.inr (.inr gq_13_12)))))] ++ im) := ⟨_, rfl⟩
    have hs_18 : Sb im im_16 := by rw [he_17]; exact Sb.app
    have hm_q_13 : (q_13, .inl (κ 3, w, .inr (.inr (.inr (.inr gq_13_12))))) ∈ im_16 := by rw [he_17]; exact List.mem_of_getElem? (i := 0) rfl
    replace hP : va_P D vwCl ([(q_15, .inr (5, [.null, .null, .int 0, .null]))] ++ ([(q_13, .inl (κ 3, w, .inr (.inr (.inr (.inr gq_13_12)))))] ++ im)) _ := hP
    replace hD : va_D A ([(q_15, .inr (5, [.null, .null, .int 0, .null]))] ++ ([(q_13, .inl (κ 3, w, .inr (.inr (.inr (.inr gq_13_12)))))] ++ im)) := hD
    rw [← he_17] at hP hD
    clear he_17
    replace hs := hs.up hs_18
    replace hco := hco.up hs_18
    replace lo_10 := lo_10.up hs_18
    replace lc_11 := lc_11.up hs_18
    replace vw_12 := vw_12.up hs_18
    replace hq12_0 := hq12_0.up hs_18
    replace hm_7 := hs_18 _ hm_7
    replace hm_8 := hs_18 _ hm_8
    replace hm_9 := hs_18 _ hm_9
    have hf_19 : Ca κ im_16 q_13 w := ⟨_, hm_q_13, hq12_0⟩
    refine et_IT (CR := []) (As := [.ref q_13, .ref x_3, .int (nI R)]) (rest := [.ref q_15]) hFX hKK hE hP hD hS hA (c_X5_init l D κ κq im_16 q_15 q_13 x_3 R w hf_19 ⟨_, hm_9, lc_11⟩ (by omega) (by omega) (by omega)) 3 mw_607 mw_379 mw_377 mw_380 hdI_X5_init ⟨Nat.le_of_ble_eq_true rfl, Nat.le_of_ble_eq_true rfl⟩ rfl rfl (Nat.le_of_ble_eq_true rfl) dX5_withColumn_62 ⟨Nat.le_of_ble_eq_true rfl, Nat.le_of_ble_eq_true rfl⟩ hl.1 [0] [] rfl rfl (by decide) (by decide) (by decide) (fun im2__20 H locs hp_21 hP hD hS => ?_)
    replace hP : va_P D vwCl ([] ++ im2__20) H := subP (C := []) hP [] rfl
    replace hD : va_D A ([] ++ im2__20) := subD (C := []) hD [] (by decide) rfl
    replace hp_21 : Sb im_16 im2__20 ∧ Sh κ im2__20 q_15 R w := hp_21
    obtain ⟨h_22, h_23⟩ := hp_21
    replace hs := hs.up h_22
    replace hco := hco.up h_22
    replace lo_10 := lo_10.up h_22
    replace lc_11 := lc_11.up h_22
    replace vw_12 := vw_12.up h_22
    replace hq12_0 := hq12_0.up h_22
    replace hf_19 := hf_19.up h_22
    replace hm_7 := h_22 _ hm_7
    replace hm_8 := h_22 _ hm_8
    replace hm_9 := h_22 _ hm_9
    replace hm_q_13 := h_22 _ hm_q_13
    refine W.eq (g2 := F0 m 65 ls [.ref q_15]) rfl ?_
    exact et_aret hx hb hr (by first | exact Or.inl ⟨_, rfl⟩ | exact Or.inr ⟨_, rfl⟩) hlk (by first | exact Or.inl rfl | exact Or.inr ⟨_, rfl⟩) hS ((some q_15), im2__20) rfl ⟨(show Sb im im2__20 from (by first | exact Sb.rf | assumption | exact Sb.tr (by assumption) (by assumption) | exact Sb.tr (by assumption) (Sb.tr (by assumption) (by assumption)))), (by exact ⟨q_15, rfl, (show Sh κ im2__20 q_15 R w from h_23)⟩)⟩ (subP hP [] rfl) (subD hD [] (by decide) rfl) (Nat.le_of_ble_eq_true rfl) (Nat.le_of_ble_eq_true rfl) dX5_withColumn_65
  · have nc_14 := cv_nle (a := w) (b := k4_12) (by omega) (by omega) c_14
    refine lv_aload_n hx hb dX5_withColumn_22 rfl (lv_at hl 1 rfl) ?_
    refine lv_iload hx hb dX5_withColumn_23 (lv_at hl 0 rfl) ?_
    refine lv_iload hx hb dX5_withColumn_25 (lv_at hl 0 rfl) ?_
    refine lv_iload_n hx hb dX5_withColumn_27 rfl (lv_at hl 3 rfl) ?_
    refine lv_icmp_ne (tgt := 35) hx hb dX5_withColumn_28 (by decide) (fun c_24 => ?_) (fun c_24 => ?_)
    · have nc_24 := cv_ne (a := k4_12) (b := c9) (by omega) (by omega) c_24
      refine lv_aload_n hx hb dX5_withColumn_35 rfl (lv_at hl 2 rfl) ?_
      refine va_get (D := D) (ci := 5) (v := .ref c_2) (C := RX5) (T := TX5) (N := 4) hx hb hts inlX5 hown hK (oneP (C := [(q_13, .inl (κ 3, w, .inr (.inr (.inr (.inr gq_13_12)))))]) hP hm_7) 0 rfl rfl 0 (by decide) (hts _ mw_382) (fun _ h9 => h9) rfl dX5_withColumn_36 ?_
      refine lv_iload hx hb dX5_withColumn_39 (lv_at hl 0 rfl) ?_
      refine va_aldq hx hb hK (oneP (C := [(q_13, .inl (κ 3, w, .inr (.inr (.inr (.inr gq_13_12)))))]) hP hm_8) 0 3 rfl rfl (i := nI k4_12) (vp_in_nI (n := k4_12) (by omega) (by omega)) dX5_withColumn_41 ?_
      obtain ⟨q_25, e_26, m_27, t_28, h_29⟩ := lo_10 k4_12 (by omega)
      refine kv (v := .ref q_25) (by rw [nI_clamp (by omega)]; rw [e_26]; rfl) ?_
      obtain ⟨ht_30, b_31, hm_32, hb_33⟩ := id h_29
      have hn_b_31 := hb_33.1
      obtain ⟨k_34, ek_34⟩ := tl_at [(q_13, .inl (κ 3, w, .inr (.inr (.inr (.inr gq_13_12)))))] hm_32
      refine va_astq hx hb hK hP hD hS 0 3 k_34 1 rfl rfl ek_34 rfl (i := nI k4_12) (vp_in_nI (n := k4_12) (by omega) (by omega)) dX5_withColumn_42 (fun H locs hP hD hS => ?_)
      rw [nI_clamp (by omega)] at hP hD
      have hP : va_P D vwCl ([(q_13, .inl (κ 3, w, .inr (.inr (.inr (.inr (va_up gq_13_12 k4_12 (some q_25)))))))] ++ im) H := hP
      have hD : va_D A ([(q_13, .inl (κ 3, w, .inr (.inr (.inr (.inr (va_up gq_13_12 k4_12 (some q_25)))))))] ++ im) := hD
      have hf_36 : Lo κ im (va_up gq_13_12 k4_12 (some q_25)) (k4_12 + 1) := Lo_add hq12_0 h_29
      generalize va_up gq_13_12 k4_12 (some q_25) = g_35 at hP hD hf_36
      refine lv_iinc (v := (nI (k4_12 + 1))) (lv' := [(4, .int (nI (k4_12 + 1))), (3, .ref q_13), (0, .ref a), (1, .int (nI c9)), (2, .ref co)]) hx hb dX5_withColumn_43 hl (k := 0) rfl (nI_i k4_12) (by decide) rfl (fun ls hl => ?_)
      refine lv_goto (tgt := 12) hx hb dX5_withColumn_46 (by decide) ?_
      exact ih12 _ _ _ _ (by omega) ⟨(k4_12 + 1), g_35, (by omega), hf_36, rfl, hP, hD, hS, lv_sub hl [0, 1, 2, 3, 4] rfl⟩
    · have nc_24 := cv_eq (a := k4_12) (b := c9) (by omega) (by omega) c_24
      refine lv_aload_n hx hb dX5_withColumn_31 rfl (lv_at hl 4 rfl) ?_
      refine lv_goto (tgt := 42) hx hb dX5_withColumn_32 (by decide) ?_
      obtain ⟨ht_37, b_38, hm_39, hb_40⟩ := id hco
      have hn_b_38 := hb_40.1
      obtain ⟨k_41, ek_41⟩ := tl_at [(q_13, .inl (κ 3, w, .inr (.inr (.inr (.inr gq_13_12)))))] hm_39
      refine va_astq hx hb hK hP hD hS 0 3 k_41 1 rfl rfl ek_41 rfl (i := nI k4_12) (vp_in_nI (n := k4_12) (by omega) (by omega)) dX5_withColumn_42 (fun H locs hP hD hS => ?_)
      rw [nI_clamp (by omega)] at hP hD
      have hP : va_P D vwCl ([(q_13, .inl (κ 3, w, .inr (.inr (.inr (.inr (va_up gq_13_12 k4_12 (some co)))))))] ++ im) H := hP
      have hD : va_D A ([(q_13, .inl (κ 3, w, .inr (.inr (.inr (.inr (va_up gq_13_12 k4_12 (some co)))))))] ++ im) := hD
      have hf_43 : Lo κ im (va_up gq_13_12 k4_12 (some co)) (k4_12 + 1) := Lo_add hq12_0 hco
      generalize va_up gq_13_12 k4_12 (some co) = g_42 at hP hD hf_43
      refine lv_iinc (v := (nI (k4_12 + 1))) (lv' := [(4, .int (nI (k4_12 + 1))), (3, .ref q_13), (0, .ref a), (1, .int (nI c9)), (2, .ref co)]) hx hb dX5_withColumn_43 hl (k := 0) rfl (nI_i k4_12) (by decide) rfl (fun ls hl => ?_)
      refine lv_goto (tgt := 12) hx hb dX5_withColumn_46 (by decide) ?_
      exact ih12 _ _ _ _ (by omega) ⟨(k4_12 + 1), g_42, (by omega), hf_43, rfl, hP, hD, hS, lv_sub hl [0, 1, 2, 3, 4] rfl⟩
set_option maxHeartbeats 4000000 in
set_option maxRecDepth 100000 in
theorem c_X5_withoutColumn (l : Launch) (D : va_G) (κ : Nat → ClassId) (κq : Nat → Nat) (im : va_W) (a : Nat) (R : Nat) (w : Nat) (c9 : Nat) (hs : Sh κ im a R w) (hc9 : c9 < w) (hw2 : 2 ≤ w) : Et l yX5_withoutColumn (wl yX5_withoutColumn cX5_withoutColumn 8 (some (.object "TypedTables$Sheet"))) { frames := 3, cells := 5, slots := 375, locals := 59 } D κ κq [.ref a, .int (nI c9)] ([] ++ im) (fun u9 : Option Nat × va_W => some (va_rf u9.1)) (fun u9 : Option Nat × va_W => Sb im u9.2 ∧ ((∃ (q : Nat), u9.1 = some q ∧ Sh κ u9.2 q R (w - 1)))) (fun u9 : Option Nat × va_W => ([] ++ u9.2)) := by
  refine et_of (by decide +kernel) (Nat.le_of_ble_eq_true rfl) ?_
  intro p e s m args below meth c A ls hx hb hr hml hts hown hlk hin hKK hK hA hP hD hS hE hl
  have hS : va_S A s.heap s.heap [] := hS
  have hP : va_P D vwCl ([] ++ im) s.heap := hP
  have hD : va_D A ([] ++ im) := hD
  have hFX : FX p s m args c cX5_withoutColumn 8 RX5 := ⟨hx, hb, hml, hown, hts⟩
  have hl : lv_has ls 8 [(0, .ref a), (1, .int (nI c9))] := hl
  obtain ⟨hb_1, c_2, x_3, v_4, g_5, h_6, hm_7, hm_8, hm_9, lo_10, lc_11, vw_12⟩ := id hs
  obtain ⟨hb_1_1, hb_1_2, hb_1_3⟩ := hb_1
  have hrw_hb_1 := rw_le hb_1_1 hb_1_3
  have hbig : R * (w - 1) ≤ 320 := rw_le (by omega) (by omega)
  refine lv_aload_n hx hb dX5_withoutColumn_0 rfl (lv_at hl 0 rfl) ?_
  refine va_get (D := D) (ci := 5) (v := .ref c_2) (C := RX5) (T := TX5) (N := 4) hx hb hts inlX5 hown hK (oneP (C := []) hP hm_7) 0 rfl rfl 0 (by decide) (hts _ mw_382) (fun _ h9 => h9) rfl dX5_withoutColumn_1 ?_
  refine va_alen hx hb hK (oneP (C := []) hP hm_8) 0 3 rfl rfl (v := nI w) rfl dX5_withoutColumn_4 ?_
  refine lv_iconst (v := 1) hx hb dX5_withoutColumn_5 (by decide) ?_
  refine lv_isub hx hb dX5_withoutColumn_6 ?_
  refine ki (v := (nI (w - 1))) (pk_sub (a := w) (b := 1) (by omega)) ?_
  refine lv_istore_n (lv' := [(2, .int (nI (w - 1))), (0, .ref a), (1, .int (nI c9))]) hx hb dX5_withoutColumn_7 rfl hl (by decide) rfl (fun ls hl => ?_)
  refine lv_iload_n hx hb dX5_withoutColumn_8 rfl (lv_at hl 0 rfl) ?_
  refine my_newq hx hb hown (hts _ mw_727) hKK.2.2.1 hK hP hD hS hA 3 rfl (N' := (w - 1)) (nI_pos (by omega)) (nI_clamp (by omega)) (by omega) (Nat.le_of_ble_eq_true rfl) (by show _ ≤ 375; omega) dX5_withoutColumn_9 (fun q_13 H hP hD hS => ?_)
  refine W.widen (k := 1) (n := 8) (Nat.le_refl _) (by omega) ?_
  replace hP : va_P D vwCl ([(q_13, .inl (κ 3, w - 1, .inr (.inr (.inr (.inr (fun _ => none))))))] ++ im) H := mvP hP
  replace hD : va_D A ([(q_13, .inl (κ 3, w - 1, .inr (.inr (.inr (.inr (fun _ => none))))))] ++ im) := mvD hD
  refine lv_astore_n (lv' := [(3, .ref q_13), (2, .int (nI (w - 1))), (0, .ref a), (1, .int (nI c9))]) hx hb dX5_withoutColumn_12 rfl hl (by decide) rfl (fun ls hl => ?_)
  refine lv_aload_n hx hb dX5_withoutColumn_13 rfl (lv_at hl 2 rfl) ?_
  refine va_get (D := D) (ci := 5) (v := .int (nI R)) (C := RX5) (T := TX5) (N := 4) hx hb hts inlX5 hown hK (oneP (C := [(q_13, .inl (κ 3, w - 1, .inr (.inr (.inr (.inr (fun _ => none))))))]) hP hm_7) 0 rfl rfl 2 (by decide) (hts _ mw_384) (fun _ h9 => h9) rfl dX5_withoutColumn_14 ?_
  refine lv_iload_n hx hb dX5_withoutColumn_17 rfl (lv_at hl 1 rfl) ?_
  refine lv_imul hx hb dX5_withoutColumn_18 ?_
  refine ki (v := (nI (R * (w - 1)))) (pk_mul R (w - 1)) ?_
  refine my_newq hx hb hown (hts _ mw_605) hKK.2.1 hK hP hD hS hA 2 rfl (N' := (R * (w - 1))) (nI_pos (by omega)) (nI_clamp (by omega)) (by omega) (Nat.le_of_ble_eq_true rfl) (by show _ ≤ 375; omega) dX5_withoutColumn_19 (fun q_14 H hP hD hS => ?_)
  refine W.widen (k := 2) (n := 328) (Nat.le_refl _) (by omega) ?_
  replace hP : va_P D vwCl ([(q_13, .inl (κ 3, w - 1, .inr (.inr (.inr (.inr (fun _ => none)))))), (q_14, .inl (κ 2, R * (w - 1), .inr (.inr (.inr (.inr (fun _ => none))))))] ++ im) H := mvP hP
  replace hD : va_D A ([(q_13, .inl (κ 3, w - 1, .inr (.inr (.inr (.inr (fun _ => none)))))), (q_14, .inl (κ 2, R * (w - 1), .inr (.inr (.inr (.inr (fun _ => none))))))] ++ im) := mvD hD
  refine lv_astore (lv' := [(4, .ref q_14), (3, .ref q_13), (2, .int (nI (w - 1))), (0, .ref a), (1, .int (nI c9))]) hx hb dX5_withoutColumn_22 hl (by decide) rfl (fun ls hl => ?_)
  refine lv_iconst (v := 0) hx hb dX5_withoutColumn_24 (by decide) ?_
  refine lv_istore (lv' := [(5, .int 0), (4, .ref q_14), (3, .ref q_13), (2, .int (nI (w - 1))), (0, .ref a), (1, .int (nI c9))]) hx hb dX5_withoutColumn_25 hl (by decide) rfl (fun ls hl => ?_)
  refine loop_dn (fun k9 H locs ls => ∃ (k5_27 : Nat), ∃ (gq_13_27 : Nat → Option Nat), ∃ (gq_14_27 : Nat → Option Nat), (k5_27 ≤ w - 1) ∧ Lo κ im gq_13_27 k5_27 ∧ Lg κ im gq_14_27 R (w - 1) k5_27 0 ∧ w - 1 - k5_27 = k9 ∧ va_P D vwCl ([(q_13, .inl (κ 3, w - 1, .inr (.inr (.inr (.inr gq_13_27))))), (q_14, .inl (κ 2, R * (w - 1), .inr (.inr (.inr (.inr gq_14_27)))))] ++ im) H ∧ va_D A ([(q_13, .inl (κ 3, w - 1, .inr (.inr (.inr (.inr gq_13_27))))), (q_14, .inl (κ 2, R * (w - 1), .inr (.inr (.inr (.inr gq_14_27)))))] ++ im) ∧ va_S A s.heap H locs ∧ lv_has ls 8 [(5, .int (nI k5_27)), (4, .ref q_14), (3, .ref q_13), (2, .int (nI (w - 1))), (0, .ref a), (1, .int (nI c9))]) (fun k9 H locs ls hI27 ih27 => ?_) (w - 1 - 0) _ _ _ ⟨0, (fun _ => none), (fun _ => none), (by omega), Lo_0, Lg_0, rfl, hP, hD, hS, lv_sub hl [0, 1, 2, 3, 4, 5] rfl⟩
  obtain ⟨k5_27, gq_13_27, gq_14_27, hl27_0, hq27_0, hq27_1, hm27, hP, hD, hS, hl⟩ := hI27
  refine lv_iload hx hb dX5_withoutColumn_27 (lv_at hl 0 rfl) ?_
  refine lv_iload_n hx hb dX5_withoutColumn_29 rfl (lv_at hl 3 rfl) ?_
  refine lv_icmp_ge (tgt := 103) hx hb dX5_withoutColumn_30 (by decide) (fun c_15 => ?_) (fun c_15 => ?_)
  · have nc_15 := cv_le (a := (w - 1)) (b := k5_27) (by omega) (by omega) c_15
    obtain rfl : w - 1 = k5_27 := by omega
    have hg_16 : Lc κ im gq_14_27 (R * (w - 1)) := Lg_all (by omega) hq27_1
    refine va_new (ci := 5) (fs := [.null, .null, .int 0, .null]) (C := RX5) (T := TX5) (N := 4) hx hb hts inlX5 tyX5 tyX5_ok hown (hts _ mw_606) (hts _ mw_376) (hts _ mw_377) hK hP hD hS hA rfl (fun j hj => by rcases (show j = 0 ∨ j = 1 ∨ j = 2 ∨ j = 3 by omega) with rfl | rfl | rfl | rfl <;> rfl) (Nat.le_of_ble_eq_true rfl) (Nat.le_of_ble_eq_true rfl) dX5_withoutColumn_103 (fun q_17 H hP hD hS => ?_)
    replace hP : va_P D vwCl ([(q_13, .inl (κ 3, w - 1, .inr (.inr (.inr (.inr gq_13_27))))), (q_14, .inl (κ 2, R * (w - 1), .inr (.inr (.inr (.inr gq_14_27))))), (q_17, .inr (5, [.null, .null, .int 0, .null]))] ++ im) H := mvP hP
    replace hD : va_D A ([(q_13, .inl (κ 3, w - 1, .inr (.inr (.inr (.inr gq_13_27))))), (q_14, .inl (κ 2, R * (w - 1), .inr (.inr (.inr (.inr gq_14_27))))), (q_17, .inr (5, [.null, .null, .int 0, .null]))] ++ im) := mvD hD
    refine lv_dup hx hb dX5_withoutColumn_106 rfl ?_
    refine lv_aload_n hx hb dX5_withoutColumn_107 rfl (lv_at hl 2 rfl) ?_
    refine lv_aload hx hb dX5_withoutColumn_108 (lv_at hl 1 rfl) ?_
    refine lv_aload_n hx hb dX5_withoutColumn_110 rfl (lv_at hl 4 rfl) ?_
    refine va_get (D := D) (ci := 5) (v := .int (nI R)) (C := RX5) (T := TX5) (N := 4) hx hb hts inlX5 hown hK (oneP (C := [(q_13, .inl (κ 3, w - 1, .inr (.inr (.inr (.inr gq_13_27))))), (q_14, .inl (κ 2, R * (w - 1), .inr (.inr (.inr (.inr gq_14_27))))), (q_17, .inr (5, [.null, .null, .int 0, .null]))]) hP hm_7) 0 rfl rfl 2 (by decide) (hts _ mw_384) (fun _ h9 => h9) rfl dX5_withoutColumn_111 ?_
    replace hP : va_P D vwCl ([(q_13, .inl (κ 3, w - 1, .inr (.inr (.inr (.inr gq_13_27))))), (q_17, .inr (5, [.null, .null, .int 0, .null])), (q_14, .inl (κ 2, R * (w - 1), .inr (.inr (.inr (.inr gq_14_27)))))] ++ im) _ := subP hP [0, 2, 1] rfl
    replace hD : va_D A ([(q_13, .inl (κ 3, w - 1, .inr (.inr (.inr (.inr gq_13_27))))), (q_17, .inr (5, [.null, .null, .int 0, .null])), (q_14, .inl (κ 2, R * (w - 1), .inr (.inr (.inr (.inr gq_14_27)))))] ++ im) := subD hD [0, 2, 1] (by decide) rfl
    obtain ⟨im_18, he_19⟩ : ∃ x9 : va_W, x9 = ([(q_14, .inl (κ 2, R * (w - 1), .inr (.inr (.inr (.inr gq_14_27)))))] ++ im) := ⟨_, rfl⟩
    have hs_20 : Sb im im_18 := by rw [he_19]; exact Sb.app
    have hm_q_14 : (q_14, .inl (κ 2, R * (w - 1), .inr (.inr (.inr (.inr gq_14_27))))) ∈ im_18 := by rw [he_19]; exact List.mem_of_getElem? (i := 0) rfl
    replace hP : va_P D vwCl ([(q_13, .inl (κ 3, w - 1, .inr (.inr (.inr (.inr gq_13_27))))), (q_17, .inr (5, [.null, .null, .int 0, .null]))] ++ ([(q_14, .inl (κ 2, R * (w - 1), .inr (.inr (.inr (.inr gq_14_27)))))] ++ im)) _ := hP
    replace hD : va_D A ([(q_13, .inl (κ 3, w - 1, .inr (.inr (.inr (.inr gq_13_27))))), (q_17, .inr (5, [.null, .null, .int 0, .null]))] ++ ([(q_14, .inl (κ 2, R * (w - 1), .inr (.inr (.inr (.inr gq_14_27)))))] ++ im)) := hD
    rw [← he_19] at hP hD
    clear he_19
    replace hs := hs.up hs_20
    replace lo_10 := lo_10.up hs_20
    replace lc_11 := lc_11.up hs_20
    replace vw_12 := vw_12.up hs_20
    replace hq27_0 := hq27_0.up hs_20
    replace hq27_1 := hq27_1.up hs_20
    replace hg_16 := hg_16.up hs_20
    replace hm_7 := hs_20 _ hm_7
    replace hm_8 := hs_20 _ hm_8
    replace hm_9 := hs_20 _ hm_9
    have hf_21 : Cx κ im_18 q_14 (R * (w - 1)) := ⟨_, hm_q_14, hg_16⟩
    replace hP : va_P D vwCl ([(q_17, .inr (5, [.null, .null, .int 0, .null])), (q_13, .inl (κ 3, w - 1, .inr (.inr (.inr (.inr gq_13_27)))))] ++ im_18) _ := subP hP [1, 0] rfl
    replace hD : va_D A ([(q_17, .inr (5, [.null, .null, .int 0, .null])), (q_13, .inl (κ 3, w - 1, .inr (.inr (.inr (.inr gq_13_27)))))] ++ im_18) := subD hD [1, 0] (by decide) rfl
    obtain ⟨im_22, he_23⟩ : ∃ x9 : va_W, x9 = ([(q_13, .inl (κ 3, w - 1, .inr (.inr (.inr (.inr gq_13_27)))))] ++ im_18) := ⟨_, rfl⟩
    have hs_24 : Sb im_18 im_22 := by rw [he_23]; exact Sb.app
    have hm_q_13 : (q_13, .inl (κ 3, w - 1, .inr (.inr (.inr (.inr gq_13_27))))) ∈ im_22 := by rw [he_23]; exact List.mem_of_getElem? (i := 0) rfl
    replace hP : va_P D vwCl ([(q_17, .inr (5, [.null, .null, .int 0, .null]))] ++ ([(q_13, .inl (κ 3, w - 1, .inr (.inr (.inr (.inr gq_13_27)))))] ++ im_18)) _ := hP
    replace hD : va_D A ([(q_17, .inr (5, [.null, .null, .int 0, .null]))] ++ ([(q_13, .inl (κ 3, w - 1, .inr (.inr (.inr (.inr gq_13_27)))))] ++ im_18)) := hD
    rw [← he_23] at hP hD
    clear he_23
    replace hs := hs.up hs_24
    replace lo_10 := lo_10.up hs_24
    replace lc_11 := lc_11.up hs_24
    replace vw_12 := vw_12.up hs_24
    replace hq27_0 := hq27_0.up hs_24
    replace hq27_1 := hq27_1.up hs_24
    replace hg_16 := hg_16.up hs_24
    replace hf_21 := hf_21.up hs_24
    replace hm_7 := hs_24 _ hm_7
    replace hm_8 := hs_24 _ hm_8
    replace hm_9 := hs_24 _ hm_9
    replace hm_q_14 := hs_24 _ hm_q_14
    have hf_25 : Ca κ im_22 q_13 (w - 1) := ⟨_, hm_q_13, hq27_0⟩
    refine et_IT (CR := []) (As := [.ref q_13, .ref q_14, .int (nI R)]) (rest := [.ref q_17]) hFX hKK hE hP hD hS hA (c_X5_init l D κ κq im_22 q_17 q_13 q_14 R (w - 1) hf_25 hf_21 (by omega) (by omega) (by omega)) 3 mw_607 mw_379 mw_377 mw_380 hdI_X5_init ⟨Nat.le_of_ble_eq_true rfl, Nat.le_of_ble_eq_true rfl⟩ rfl rfl (Nat.le_of_ble_eq_true rfl) dX5_withoutColumn_114 ⟨Nat.le_of_ble_eq_true rfl, Nat.le_of_ble_eq_true rfl⟩ hl.1 [0] [] rfl rfl (by decide) (by decide) (by decide) (fun im2__26 H locs hp_27 hP hD hS => ?_)
    replace hP : va_P D vwCl ([] ++ im2__26) H := subP (C := []) hP [] rfl
    replace hD : va_D A ([] ++ im2__26) := subD (C := []) hD [] (by decide) rfl
    replace hp_27 : Sb im_22 im2__26 ∧ Sh κ im2__26 q_17 R (w - 1) := hp_27
    obtain ⟨h_28, h_29⟩ := hp_27
    replace hs := hs.up h_28
    replace lo_10 := lo_10.up h_28
    replace lc_11 := lc_11.up h_28
    replace vw_12 := vw_12.up h_28
    replace hq27_0 := hq27_0.up h_28
    replace hq27_1 := hq27_1.up h_28
    replace hg_16 := hg_16.up h_28
    replace hf_21 := hf_21.up h_28
    replace hf_25 := hf_25.up h_28
    replace hm_7 := h_28 _ hm_7
    replace hm_8 := h_28 _ hm_8
    replace hm_9 := h_28 _ hm_9
    replace hm_q_14 := h_28 _ hm_q_14
    replace hm_q_13 := h_28 _ hm_q_13
    refine W.eq (g2 := F0 m 117 ls [.ref q_17]) rfl ?_
    exact et_aret hx hb hr (by first | exact Or.inl ⟨_, rfl⟩ | exact Or.inr ⟨_, rfl⟩) hlk (by first | exact Or.inl rfl | exact Or.inr ⟨_, rfl⟩) hS ((some q_17), im2__26) rfl ⟨(show Sb im im2__26 from (by first | exact Sb.rf | assumption | exact Sb.tr (by assumption) (by assumption) | exact Sb.tr (by assumption) (Sb.tr (by assumption) (by assumption)))), (by exact ⟨q_17, rfl, (show Sh κ im2__26 q_17 R (w - 1) from h_29)⟩)⟩ (subP hP [] rfl) (subD hD [] (by decide) rfl) (Nat.le_of_ble_eq_true rfl) (Nat.le_of_ble_eq_true rfl) dX5_withoutColumn_117
  · have nc_15 := cv_nle (a := (w - 1)) (b := k5_27) (by omega) (by omega) c_15
    refine lv_iload hx hb dX5_withoutColumn_33 (lv_at hl 0 rfl) ?_
    refine lv_iload_n hx hb dX5_withoutColumn_35 rfl (lv_at hl 5 rfl) ?_
    refine lv_icmp_ge (tgt := 44) hx hb dX5_withoutColumn_36 (by decide) (fun c_30 => ?_) (fun c_30 => ?_)
    · have nc_30 := cv_le (a := c9) (b := k5_27) (by omega) (by omega) c_30
      refine lv_iload hx hb dX5_withoutColumn_44 (lv_at hl 0 rfl) ?_
      refine lv_iconst (v := 1) hx hb dX5_withoutColumn_46 (by decide) ?_
      refine lv_iadd hx hb dX5_withoutColumn_47 ?_
      refine ki (v := (nI (k5_27 + 1))) (nI_add k5_27 1) ?_
      refine lv_istore (lv' := [(6, .int (nI (k5_27 + 1))), (5, .int (nI k5_27)), (4, .ref q_14), (3, .ref q_13), (2, .int (nI (w - 1))), (0, .ref a), (1, .int (nI c9))]) hx hb dX5_withoutColumn_48 hl (by decide) rfl (fun ls hl => ?_)
      refine lv_aload_n hx hb dX5_withoutColumn_50 rfl (lv_at hl 3 rfl) ?_
      refine lv_iload hx hb dX5_withoutColumn_51 (lv_at hl 1 rfl) ?_
      refine lv_aload_n hx hb dX5_withoutColumn_53 rfl (lv_at hl 5 rfl) ?_
      refine va_get (D := D) (ci := 5) (v := .ref c_2) (C := RX5) (T := TX5) (N := 4) hx hb hts inlX5 hown hK (oneP (C := [(q_13, .inl (κ 3, w - 1, .inr (.inr (.inr (.inr gq_13_27))))), (q_14, .inl (κ 2, R * (w - 1), .inr (.inr (.inr (.inr gq_14_27)))))]) hP hm_7) 0 rfl rfl 0 (by decide) (hts _ mw_382) (fun _ h9 => h9) rfl dX5_withoutColumn_54 ?_
      refine lv_iload hx hb dX5_withoutColumn_57 (lv_at hl 0 rfl) ?_
      refine va_aldq hx hb hK (oneP (C := [(q_13, .inl (κ 3, w - 1, .inr (.inr (.inr (.inr gq_13_27))))), (q_14, .inl (κ 2, R * (w - 1), .inr (.inr (.inr (.inr gq_14_27)))))]) hP hm_8) 0 3 rfl rfl (i := nI (k5_27 + 1)) (vp_in_nI (n := (k5_27 + 1)) (by omega) (by omega)) dX5_withoutColumn_59 ?_
      obtain ⟨q_31, e_32, m_33, t_34, h_35⟩ := lo_10 (k5_27 + 1) (by omega)
      refine kv (v := .ref q_31) (by rw [nI_clamp (by omega)]; rw [e_32]; rfl) ?_
      obtain ⟨ht_36, b_37, hm_38, hb_39⟩ := id h_35
      have hn_b_37 := hb_39.1
      obtain ⟨k_40, ek_40⟩ := tl_at [(q_13, .inl (κ 3, w - 1, .inr (.inr (.inr (.inr gq_13_27))))), (q_14, .inl (κ 2, R * (w - 1), .inr (.inr (.inr (.inr gq_14_27)))))] hm_38
      refine va_astq hx hb hK hP hD hS 0 3 k_40 1 rfl rfl ek_40 rfl (i := nI k5_27) (vp_in_nI (n := k5_27) (by omega) (by omega)) dX5_withoutColumn_60 (fun H locs hP hD hS => ?_)
      rw [nI_clamp (by omega)] at hP hD
      have hP : va_P D vwCl ([(q_13, .inl (κ 3, w - 1, .inr (.inr (.inr (.inr (va_up gq_13_27 k5_27 (some q_31))))))), (q_14, .inl (κ 2, R * (w - 1), .inr (.inr (.inr (.inr gq_14_27)))))] ++ im) H := hP
      have hD : va_D A ([(q_13, .inl (κ 3, w - 1, .inr (.inr (.inr (.inr (va_up gq_13_27 k5_27 (some q_31))))))), (q_14, .inl (κ 2, R * (w - 1), .inr (.inr (.inr (.inr gq_14_27)))))] ++ im) := hD
      have hf_42 : Lo κ im (va_up gq_13_27 k5_27 (some q_31)) (k5_27 + 1) := Lo_add hq27_0 h_35
      generalize va_up gq_13_27 k5_27 (some q_31) = g_41 at hP hD hf_42
      refine lv_iconst (v := 0) hx hb dX5_withoutColumn_61 (by decide) ?_
      refine lv_istore (lv' := [(7, .int 0), (6, .int (nI (k5_27 + 1))), (5, .int (nI k5_27)), (4, .ref q_14), (3, .ref q_13), (2, .int (nI (w - 1))), (0, .ref a), (1, .int (nI c9))]) hx hb dX5_withoutColumn_62 hl (by decide) rfl (fun ls hl => ?_)
      refine loop_dn (fun k9 H locs ls => ∃ (k7_64 : Nat), ∃ (gq_14_64 : Nat → Option Nat), (k7_64 ≤ R) ∧ Lg κ im gq_14_64 R (w - 1) k5_27 k7_64 ∧ R - k7_64 = k9 ∧ va_P D vwCl ([(q_13, .inl (κ 3, w - 1, .inr (.inr (.inr (.inr g_41))))), (q_14, .inl (κ 2, R * (w - 1), .inr (.inr (.inr (.inr gq_14_64)))))] ++ im) H ∧ va_D A ([(q_13, .inl (κ 3, w - 1, .inr (.inr (.inr (.inr g_41))))), (q_14, .inl (κ 2, R * (w - 1), .inr (.inr (.inr (.inr gq_14_64)))))] ++ im) ∧ va_S A s.heap H locs ∧ lv_has ls 8 [(7, .int (nI k7_64)), (6, .int (nI (k5_27 + 1))), (5, .int (nI k5_27)), (4, .ref q_14), (3, .ref q_13), (2, .int (nI (w - 1))), (0, .ref a), (1, .int (nI c9))]) (fun k9 H locs ls hI64 ih64 => ?_) (R - 0) _ _ _ ⟨0, gq_14_27, (by omega), hq27_1, rfl, hP, hD, hS, lv_sub hl [0, 1, 2, 3, 4, 5, 6, 7] rfl⟩
      obtain ⟨k7_64, gq_14_64, hl64_0, hq64_0, hm64, hP, hD, hS, hl⟩ := hI64
      refine lv_iload hx hb dX5_withoutColumn_64 (lv_at hl 0 rfl) ?_
      refine lv_aload_n hx hb dX5_withoutColumn_66 rfl (lv_at hl 6 rfl) ?_
      refine va_get (D := D) (ci := 5) (v := .int (nI R)) (C := RX5) (T := TX5) (N := 4) hx hb hts inlX5 hown hK (oneP (C := [(q_13, .inl (κ 3, w - 1, .inr (.inr (.inr (.inr g_41))))), (q_14, .inl (κ 2, R * (w - 1), .inr (.inr (.inr (.inr gq_14_64)))))]) hP hm_7) 0 rfl rfl 2 (by decide) (hts _ mw_384) (fun _ h9 => h9) rfl dX5_withoutColumn_67 ?_
      refine lv_icmp_ge (tgt := 97) hx hb dX5_withoutColumn_70 (by decide) (fun c_43 => ?_) (fun c_43 => ?_)
      · have nc_43 := cv_le (a := R) (b := k7_64) (by omega) (by omega) c_43
        have hg_44 : Lg κ im gq_14_64 R (w - 1) (k5_27 + 1) 0 := Lg_next (by omega) hq64_0
        refine lv_iinc (v := (nI (k5_27 + 1))) (lv' := [(5, .int (nI (k5_27 + 1))), (7, .int (nI k7_64)), (6, .int (nI (k5_27 + 1))), (4, .ref q_14), (3, .ref q_13), (2, .int (nI (w - 1))), (0, .ref a), (1, .int (nI c9))]) hx hb dX5_withoutColumn_97 hl (k := 2) rfl (nI_i k5_27) (by decide) rfl (fun ls hl => ?_)
        refine lv_goto (tgt := 27) hx hb dX5_withoutColumn_100 (by decide) ?_
        exact ih27 _ _ _ _ (by omega) ⟨(k5_27 + 1), g_41, gq_14_64, (by omega), hf_42, hg_44, rfl, hP, hD, hS, lv_sub hl [0, 3, 4, 5, 6, 7] rfl⟩
      · have nc_43 := cv_nle (a := R) (b := k7_64) (by omega) (by omega) c_43
        refine lv_aload hx hb dX5_withoutColumn_73 (lv_at hl 3 rfl) ?_
        refine lv_iload hx hb dX5_withoutColumn_75 (lv_at hl 0 rfl) ?_
        refine lv_iload_n hx hb dX5_withoutColumn_77 rfl (lv_at hl 5 rfl) ?_
        refine lv_imul hx hb dX5_withoutColumn_78 ?_
        refine ki (v := (nI (k7_64 * (w - 1)))) (pk_mul k7_64 (w - 1)) ?_
        refine lv_iload hx hb dX5_withoutColumn_79 (lv_at hl 2 rfl) ?_
        refine lv_iadd hx hb dX5_withoutColumn_81 ?_
        refine ki (v := (nI (k7_64 * (w - 1) + k5_27))) (nI_add (k7_64 * (w - 1)) k5_27) ?_
        refine lv_aload_n hx hb dX5_withoutColumn_82 rfl (lv_at hl 6 rfl) ?_
        refine lv_iload hx hb dX5_withoutColumn_83 (lv_at hl 0 rfl) ?_
        refine lv_iload hx hb dX5_withoutColumn_85 (lv_at hl 1 rfl) ?_
        refine er_V (As := [.int (nI k7_64), .int (nI (k5_27 + 1))]) (rest := [.int (nI (k7_64 * (w - 1) + k5_27)), .ref q_14]) hFX hKK hE hS (c_X5_cellOf l D κ κq im a R w k7_64 (k5_27 + 1) hs (by omega) (by omega)) 2 gV_X5_48 hdV_X5_cellOf rfl rfl ⟨Nat.le_of_ble_eq_true rfl, Nat.le_of_ble_eq_true rfl⟩ rfl rfl (Nat.le_of_ble_eq_true rfl) dX5_withoutColumn_87 ⟨Nat.le_of_ble_eq_true rfl, Nat.le_of_ble_eq_true rfl⟩ hl.1 (oneP (C := [(q_13, .inl (κ 3, w - 1, .inr (.inr (.inr (.inr g_41))))), (q_14, .inl (κ 2, R * (w - 1), .inr (.inr (.inr (.inr gq_14_64)))))]) hP hm_7) 0 5 rfl rfl rfl (subP hP [] rfl) (fun r__45 hp_46 => ?_)
        replace hp_46 : ((∃ (q : Nat), ∃ (k : Nat), ∃ (m : Nat), r__45 = some q ∧ Cl κ im q k m)) := hp_46
        have ha_47 := hp_46
        clear hp_46
        rcases ha_47 with ⟨q__48, k__49, m__50, rfl, a_51⟩
        · refine W.eq (g2 := F0 m 90 ls [.ref q__48, .int (nI (k7_64 * (w - 1) + k5_27)), .ref q_14]) rfl ?_
          obtain ⟨hk_52, b_53, x_54, hm_55, hb_56⟩ := id a_51
          have hn_b_53 := hb_56.1
          obtain ⟨k_57, ek_57⟩ := tl_at [(q_13, .inl (κ 3, w - 1, .inr (.inr (.inr (.inr g_41))))), (q_14, .inl (κ 2, R * (w - 1), .inr (.inr (.inr (.inr gq_14_64)))))] hm_55
          refine va_astq hx hb hK hP hD hS 1 2 k_57 0 rfl rfl ek_57 rfl (i := nI (k7_64 * (w - 1) + k5_27)) (vp_in_nI (n := k7_64 * (w - 1) + k5_27) (ix_lt (by omega) (by omega)) (by have q9 := ix_lt (R := R) (w := w - 1) (r := k7_64) (c := k5_27) (by omega) (by omega); omega)) dX5_withoutColumn_90 (fun H locs hP hD hS => ?_)
          rw [nI_clamp (by have q9 := ix_lt (R := R) (w := w - 1) (r := k7_64) (c := k5_27) (by omega) (by omega); omega)] at hP hD
          have hP : va_P D vwCl ([(q_13, .inl (κ 3, w - 1, .inr (.inr (.inr (.inr g_41))))), (q_14, .inl (κ 2, R * (w - 1), .inr (.inr (.inr (.inr (va_up gq_14_64 (k7_64 * (w - 1) + k5_27) (some q__48)))))))] ++ im) H := hP
          have hD : va_D A ([(q_13, .inl (κ 3, w - 1, .inr (.inr (.inr (.inr g_41))))), (q_14, .inl (κ 2, R * (w - 1), .inr (.inr (.inr (.inr (va_up gq_14_64 (k7_64 * (w - 1) + k5_27) (some q__48)))))))] ++ im) := hD
          have hf_59 : Lg κ im (va_up gq_14_64 (k7_64 * (w - 1) + k5_27) (some q__48)) R (w - 1) k5_27 (k7_64 + 1) := Lg_add hq64_0 a_51
          generalize va_up gq_14_64 (k7_64 * (w - 1) + k5_27) (some q__48) = g_58 at hP hD hf_59
          refine lv_iinc (v := (nI (k7_64 + 1))) (lv' := [(7, .int (nI (k7_64 + 1))), (6, .int (nI (k5_27 + 1))), (5, .int (nI k5_27)), (4, .ref q_14), (3, .ref q_13), (2, .int (nI (w - 1))), (0, .ref a), (1, .int (nI c9))]) hx hb dX5_withoutColumn_91 hl (k := 0) rfl (nI_i k7_64) (by decide) rfl (fun ls hl => ?_)
          refine lv_goto (tgt := 64) hx hb dX5_withoutColumn_94 (by decide) ?_
          exact ih64 _ _ _ _ (by omega) ⟨(k7_64 + 1), g_58, (by omega), hf_59, rfl, hP, hD, hS, lv_sub hl [0, 1, 2, 3, 4, 5, 6, 7] rfl⟩
    · have nc_30 := cv_nle (a := c9) (b := k5_27) (by omega) (by omega) c_30
      refine lv_iload hx hb dX5_withoutColumn_39 (lv_at hl 0 rfl) ?_
      refine lv_goto (tgt := 48) hx hb dX5_withoutColumn_41 (by decide) ?_
      refine lv_istore (lv' := [(6, .int (nI k5_27)), (5, .int (nI k5_27)), (4, .ref q_14), (3, .ref q_13), (2, .int (nI (w - 1))), (0, .ref a), (1, .int (nI c9))]) hx hb dX5_withoutColumn_48 hl (by decide) rfl (fun ls hl => ?_)
      refine lv_aload_n hx hb dX5_withoutColumn_50 rfl (lv_at hl 3 rfl) ?_
      refine lv_iload hx hb dX5_withoutColumn_51 (lv_at hl 1 rfl) ?_
      refine lv_aload_n hx hb dX5_withoutColumn_53 rfl (lv_at hl 5 rfl) ?_
      refine va_get (D := D) (ci := 5) (v := .ref c_2) (C := RX5) (T := TX5) (N := 4) hx hb hts inlX5 hown hK (oneP (C := [(q_13, .inl (κ 3, w - 1, .inr (.inr (.inr (.inr gq_13_27))))), (q_14, .inl (κ 2, R * (w - 1), .inr (.inr (.inr (.inr gq_14_27)))))]) hP hm_7) 0 rfl rfl 0 (by decide) (hts _ mw_382) (fun _ h9 => h9) rfl dX5_withoutColumn_54 ?_
      refine lv_iload hx hb dX5_withoutColumn_57 (lv_at hl 0 rfl) ?_
      refine va_aldq hx hb hK (oneP (C := [(q_13, .inl (κ 3, w - 1, .inr (.inr (.inr (.inr gq_13_27))))), (q_14, .inl (κ 2, R * (w - 1), .inr (.inr (.inr (.inr gq_14_27)))))]) hP hm_8) 0 3 rfl rfl (i := nI k5_27) (vp_in_nI (n := k5_27) (by omega) (by omega)) dX5_withoutColumn_59 ?_
      obtain ⟨q_60, e_61, m_62, t_63, h_64⟩ := lo_10 k5_27 (by omega)
      refine kv (v := .ref q_60) (by rw [nI_clamp (by omega)]; rw [e_61]; rfl) ?_
      obtain ⟨ht_65, b_66, hm_67, hb_68⟩ := id h_64
      have hn_b_66 := hb_68.1
      obtain ⟨k_69, ek_69⟩ := tl_at [(q_13, .inl (κ 3, w - 1, .inr (.inr (.inr (.inr gq_13_27))))), (q_14, .inl (κ 2, R * (w - 1), .inr (.inr (.inr (.inr gq_14_27)))))] hm_67
      refine va_astq hx hb hK hP hD hS 0 3 k_69 1 rfl rfl ek_69 rfl (i := nI k5_27) (vp_in_nI (n := k5_27) (by omega) (by omega)) dX5_withoutColumn_60 (fun H locs hP hD hS => ?_)
      rw [nI_clamp (by omega)] at hP hD
      have hP : va_P D vwCl ([(q_13, .inl (κ 3, w - 1, .inr (.inr (.inr (.inr (va_up gq_13_27 k5_27 (some q_60))))))), (q_14, .inl (κ 2, R * (w - 1), .inr (.inr (.inr (.inr gq_14_27)))))] ++ im) H := hP
      have hD : va_D A ([(q_13, .inl (κ 3, w - 1, .inr (.inr (.inr (.inr (va_up gq_13_27 k5_27 (some q_60))))))), (q_14, .inl (κ 2, R * (w - 1), .inr (.inr (.inr (.inr gq_14_27)))))] ++ im) := hD
      have hf_71 : Lo κ im (va_up gq_13_27 k5_27 (some q_60)) (k5_27 + 1) := Lo_add hq27_0 h_64
      generalize va_up gq_13_27 k5_27 (some q_60) = g_70 at hP hD hf_71
      refine lv_iconst (v := 0) hx hb dX5_withoutColumn_61 (by decide) ?_
      refine lv_istore (lv' := [(7, .int 0), (6, .int (nI k5_27)), (5, .int (nI k5_27)), (4, .ref q_14), (3, .ref q_13), (2, .int (nI (w - 1))), (0, .ref a), (1, .int (nI c9))]) hx hb dX5_withoutColumn_62 hl (by decide) rfl (fun ls hl => ?_)
      refine loop_dn (fun k9 H locs ls => ∃ (k7_64 : Nat), ∃ (gq_14_64 : Nat → Option Nat), (k7_64 ≤ R) ∧ Lg κ im gq_14_64 R (w - 1) k5_27 k7_64 ∧ R - k7_64 = k9 ∧ va_P D vwCl ([(q_13, .inl (κ 3, w - 1, .inr (.inr (.inr (.inr g_70))))), (q_14, .inl (κ 2, R * (w - 1), .inr (.inr (.inr (.inr gq_14_64)))))] ++ im) H ∧ va_D A ([(q_13, .inl (κ 3, w - 1, .inr (.inr (.inr (.inr g_70))))), (q_14, .inl (κ 2, R * (w - 1), .inr (.inr (.inr (.inr gq_14_64)))))] ++ im) ∧ va_S A s.heap H locs ∧ lv_has ls 8 [(7, .int (nI k7_64)), (6, .int (nI k5_27)), (5, .int (nI k5_27)), (4, .ref q_14), (3, .ref q_13), (2, .int (nI (w - 1))), (0, .ref a), (1, .int (nI c9))]) (fun k9 H locs ls hI64 ih64 => ?_) (R - 0) _ _ _ ⟨0, gq_14_27, (by omega), hq27_1, rfl, hP, hD, hS, lv_sub hl [0, 1, 2, 3, 4, 5, 6, 7] rfl⟩
      obtain ⟨k7_64, gq_14_64, hl64_0, hq64_0, hm64, hP, hD, hS, hl⟩ := hI64
      refine lv_iload hx hb dX5_withoutColumn_64 (lv_at hl 0 rfl) ?_
      refine lv_aload_n hx hb dX5_withoutColumn_66 rfl (lv_at hl 6 rfl) ?_
      refine va_get (D := D) (ci := 5) (v := .int (nI R)) (C := RX5) (T := TX5) (N := 4) hx hb hts inlX5 hown hK (oneP (C := [(q_13, .inl (κ 3, w - 1, .inr (.inr (.inr (.inr g_70))))), (q_14, .inl (κ 2, R * (w - 1), .inr (.inr (.inr (.inr gq_14_64)))))]) hP hm_7) 0 rfl rfl 2 (by decide) (hts _ mw_384) (fun _ h9 => h9) rfl dX5_withoutColumn_67 ?_
      refine lv_icmp_ge (tgt := 97) hx hb dX5_withoutColumn_70 (by decide) (fun c_72 => ?_) (fun c_72 => ?_)
      · have nc_72 := cv_le (a := R) (b := k7_64) (by omega) (by omega) c_72
        have hg_73 : Lg κ im gq_14_64 R (w - 1) (k5_27 + 1) 0 := Lg_next (by omega) hq64_0
        refine lv_iinc (v := (nI (k5_27 + 1))) (lv' := [(5, .int (nI (k5_27 + 1))), (7, .int (nI k7_64)), (6, .int (nI k5_27)), (4, .ref q_14), (3, .ref q_13), (2, .int (nI (w - 1))), (0, .ref a), (1, .int (nI c9))]) hx hb dX5_withoutColumn_97 hl (k := 2) rfl (nI_i k5_27) (by decide) rfl (fun ls hl => ?_)
        refine lv_goto (tgt := 27) hx hb dX5_withoutColumn_100 (by decide) ?_
        exact ih27 _ _ _ _ (by omega) ⟨(k5_27 + 1), g_70, gq_14_64, (by omega), hf_71, hg_73, rfl, hP, hD, hS, lv_sub hl [0, 3, 4, 5, 6, 7] rfl⟩
      · have nc_72 := cv_nle (a := R) (b := k7_64) (by omega) (by omega) c_72
        refine lv_aload hx hb dX5_withoutColumn_73 (lv_at hl 3 rfl) ?_
        refine lv_iload hx hb dX5_withoutColumn_75 (lv_at hl 0 rfl) ?_
        refine lv_iload_n hx hb dX5_withoutColumn_77 rfl (lv_at hl 5 rfl) ?_
        refine lv_imul hx hb dX5_withoutColumn_78 ?_
        refine ki (v := (nI (k7_64 * (w - 1)))) (pk_mul k7_64 (w - 1)) ?_
        refine lv_iload hx hb dX5_withoutColumn_79 (lv_at hl 2 rfl) ?_
        refine lv_iadd hx hb dX5_withoutColumn_81 ?_
        refine ki (v := (nI (k7_64 * (w - 1) + k5_27))) (nI_add (k7_64 * (w - 1)) k5_27) ?_
        refine lv_aload_n hx hb dX5_withoutColumn_82 rfl (lv_at hl 6 rfl) ?_
        refine lv_iload hx hb dX5_withoutColumn_83 (lv_at hl 0 rfl) ?_
        refine lv_iload hx hb dX5_withoutColumn_85 (lv_at hl 1 rfl) ?_
        refine er_V (As := [.int (nI k7_64), .int (nI k5_27)]) (rest := [.int (nI (k7_64 * (w - 1) + k5_27)), .ref q_14]) hFX hKK hE hS (c_X5_cellOf l D κ κq im a R w k7_64 k5_27 hs (by omega) (by omega)) 2 gV_X5_48 hdV_X5_cellOf rfl rfl ⟨Nat.le_of_ble_eq_true rfl, Nat.le_of_ble_eq_true rfl⟩ rfl rfl (Nat.le_of_ble_eq_true rfl) dX5_withoutColumn_87 ⟨Nat.le_of_ble_eq_true rfl, Nat.le_of_ble_eq_true rfl⟩ hl.1 (oneP (C := [(q_13, .inl (κ 3, w - 1, .inr (.inr (.inr (.inr g_70))))), (q_14, .inl (κ 2, R * (w - 1), .inr (.inr (.inr (.inr gq_14_64)))))]) hP hm_7) 0 5 rfl rfl rfl (subP hP [] rfl) (fun r__74 hp_75 => ?_)
        replace hp_75 : ((∃ (q : Nat), ∃ (k : Nat), ∃ (m : Nat), r__74 = some q ∧ Cl κ im q k m)) := hp_75
        have ha_76 := hp_75
        clear hp_75
        rcases ha_76 with ⟨q__77, k__78, m__79, rfl, a_80⟩
        · refine W.eq (g2 := F0 m 90 ls [.ref q__77, .int (nI (k7_64 * (w - 1) + k5_27)), .ref q_14]) rfl ?_
          obtain ⟨hk_81, b_82, x_83, hm_84, hb_85⟩ := id a_80
          have hn_b_82 := hb_85.1
          obtain ⟨k_86, ek_86⟩ := tl_at [(q_13, .inl (κ 3, w - 1, .inr (.inr (.inr (.inr g_70))))), (q_14, .inl (κ 2, R * (w - 1), .inr (.inr (.inr (.inr gq_14_64)))))] hm_84
          refine va_astq hx hb hK hP hD hS 1 2 k_86 0 rfl rfl ek_86 rfl (i := nI (k7_64 * (w - 1) + k5_27)) (vp_in_nI (n := k7_64 * (w - 1) + k5_27) (ix_lt (by omega) (by omega)) (by have q9 := ix_lt (R := R) (w := w - 1) (r := k7_64) (c := k5_27) (by omega) (by omega); omega)) dX5_withoutColumn_90 (fun H locs hP hD hS => ?_)
          rw [nI_clamp (by have q9 := ix_lt (R := R) (w := w - 1) (r := k7_64) (c := k5_27) (by omega) (by omega); omega)] at hP hD
          have hP : va_P D vwCl ([(q_13, .inl (κ 3, w - 1, .inr (.inr (.inr (.inr g_70))))), (q_14, .inl (κ 2, R * (w - 1), .inr (.inr (.inr (.inr (va_up gq_14_64 (k7_64 * (w - 1) + k5_27) (some q__77)))))))] ++ im) H := hP
          have hD : va_D A ([(q_13, .inl (κ 3, w - 1, .inr (.inr (.inr (.inr g_70))))), (q_14, .inl (κ 2, R * (w - 1), .inr (.inr (.inr (.inr (va_up gq_14_64 (k7_64 * (w - 1) + k5_27) (some q__77)))))))] ++ im) := hD
          have hf_88 : Lg κ im (va_up gq_14_64 (k7_64 * (w - 1) + k5_27) (some q__77)) R (w - 1) k5_27 (k7_64 + 1) := Lg_add hq64_0 a_80
          generalize va_up gq_14_64 (k7_64 * (w - 1) + k5_27) (some q__77) = g_87 at hP hD hf_88
          refine lv_iinc (v := (nI (k7_64 + 1))) (lv' := [(7, .int (nI (k7_64 + 1))), (6, .int (nI k5_27)), (5, .int (nI k5_27)), (4, .ref q_14), (3, .ref q_13), (2, .int (nI (w - 1))), (0, .ref a), (1, .int (nI c9))]) hx hb dX5_withoutColumn_91 hl (k := 0) rfl (nI_i k7_64) (by decide) rfl (fun ls hl => ?_)
          refine lv_goto (tgt := 64) hx hb dX5_withoutColumn_94 (by decide) ?_
          exact ih64 _ _ _ _ (by omega) ⟨(k7_64 + 1), g_87, (by omega), hf_88, rfl, hP, hD, hS, lv_sub hl [0, 1, 2, 3, 4, 5, 6, 7] rfl⟩
