/-! the state's sayings -/
theorem va_up_same {f : Nat → Option Nat} {i : Nat} {x : Option Nat} : va_up f i x i = x := by simp [va_up]
/-- some numbers under a bound -/
def Rn (n R : Nat) (f : Nat → Int32) : Prop := ∀ i : Nat, i < n → ∃ j : Nat, j < R ∧ f i = nI j
theorem Rn_set {n R i v : Nat} {f : Nat → Int32} (h : Rn n R f) (hv : v < R) : Rn n R (upd f i (nI v)) := by
  intro k hk
  unfold upd
  by_cases e : k = i
  · exact ⟨v, hv, by simp [e]⟩
  · obtain ⟨j, h1, h2⟩ := h k hk
    exact ⟨j, h1, by simpa [e] using h2⟩
theorem Rn_add {n R v : Nat} {f : Nat → Int32} (h : Rn n R f) (hv : v < R) : Rn (n + 1) R (upd f n (nI v)) := by
  intro k hk
  unfold upd
  by_cases e : k = n
  · exact ⟨v, hv, by simp [e]⟩
  · obtain ⟨j, h1, h2⟩ := h k (by omega)
    exact ⟨j, h1, by simpa [e] using h2⟩
theorem Rn_0 {R : Nat} {f : Nat → Int32} : Rn 0 R f := fun i hi => absurd hi (by omega)
/-- a table or none, with its views -/
def tb1 (κ : Nat → ClassId) (im : va_W) (x y : Option Nat) : Prop := (x = none ∧ y = none) ∨ ∃ a R w d v : Nat, x = some a ∧ y = some v ∧ Sh κ im a R w ∧ Vw κ im d v R ∧ d ≤ 6
def Tb (κ : Nat → ClassId) (im : va_W) (fs fv : Nat → Option Nat) (k : Nat) : Prop := ∀ t : Nat, t < k → tb1 κ im (fs t) (fv t)
def Tv (κ : Nat → ClassId) (im : va_W) (fv fs : Nat → Option Nat) (k : Nat) : Prop := Tb κ im fs fv k
/-- sheets or none -/
def Ss (κ : Nat → ClassId) (im : va_W) (f : Nat → Option Nat) (n : Nat) : Prop := ∀ i : Nat, i < n → f i = none ∨ ∃ a R w : Nat, f i = some a ∧ Sh κ im a R w
section ST
variable {κ : Nat → ClassId} {im im2 : va_W} {fs fv f : Nat → Option Nat} {k n t a R w d v : Nat}
theorem Tb.up (h : Tb κ im fs fv k) (hs : Sb im im2) : Tb κ im2 fs fv k := by
  intro t ht
  rcases h t ht with h1 | ⟨a, R, w, d, v, h1, h2, h3, h4, h5⟩
  · exact Or.inl h1
  · exact Or.inr ⟨a, R, w, d, v, h1, h2, h3.up hs, h4.up hs, h5⟩
theorem Tv.up (h : Tv κ im fv fs k) (hs : Sb im im2) : Tv κ im2 fv fs k := Tb.up h hs
theorem Ss.up (h : Ss κ im f n) (hs : Sb im im2) : Ss κ im2 f n := by
  intro i hi
  rcases h i hi with h1 | ⟨a, R, w, h1, h2⟩
  · exact Or.inl h1
  · exact Or.inr ⟨a, R, w, h1, h2.up hs⟩
theorem Ss_0 : Ss κ im (fun _ => none) n := fun _ _ => Or.inl rfl
theorem Tv_0 : Tv κ im fv fs 0 := fun t ht => absurd ht (by omega)
theorem Tb_none : Tb κ im (fun _ => none) (fun _ => none) k := fun _ _ => Or.inl ⟨rfl, rfl⟩
theorem Ss_set {i : Nat} (h : Ss κ im f n) (hq : Sh κ im a R w) : Ss κ im (va_up f i (some a)) n := by
  intro j hj
  unfold va_up
  by_cases e : j = i
  · exact Or.inr ⟨a, R, w, by simp [e], hq⟩
  · rcases h j hj with h1 | ⟨a, R, w, h1, h2⟩
    · exact Or.inl (by simpa [e] using h1)
    · exact Or.inr ⟨a, R, w, by simpa [e] using h1, h2⟩
theorem Ss_non {i : Nat} (h : Ss κ im f n) : Ss κ im (va_up f i none) n := by
  intro j hj
  unfold va_up
  by_cases e : j = i
  · exact Or.inl (by simp [e])
  · rcases h j hj with h1 | ⟨a, R, w, h1, h2⟩
    · exact Or.inl (by simpa [e] using h1)
    · exact Or.inr ⟨a, R, w, by simpa [e] using h1, h2⟩
theorem Tb.ss (h : Tb κ im fs fv k) : Ss κ im fs k := by
  intro t ht
  rcases h t ht with h1 | ⟨a, R, w, d, v, h1, h2, h3, h4, h5⟩
  · exact Or.inl h1.1
  · exact Or.inr ⟨a, R, w, h1, h3⟩
theorem Tb_act (h : Tb κ im fs fv k) (hs : Sh κ im a R w) (hv : Vw κ im d v R) (hd : d ≤ 6) : Tb κ im (va_up fs t (some a)) (va_up fv t (some v)) k := by
  intro j hj
  unfold va_up
  by_cases e : j = t
  · exact Or.inr ⟨a, R, w, d, v, by simp [e], by simp [e], hs, hv, hd⟩
  · simpa [e] using h j hj
theorem Tb_view (h : Tb κ im fs fv k) (he : fs t = some a) (hs : Sh κ im a R w) (hv : Vw κ im d v R) (hd : d ≤ 6) : Tb κ im fs (va_up fv t (some v)) k := by
  intro j hj
  unfold va_up
  by_cases e : j = t
  · exact Or.inr ⟨a, R, w, d, v, by rw [e]; exact he, by simp [e], hs, hv, hd⟩
  · simpa [e] using h j hj
theorem Tv_some (h : Tv κ im fv fs t) (he : fs t = some a) (hs : Sh κ im a R w) (hv : Vw κ im d v R) (hd : d ≤ 6) : Tv κ im (va_up fv t (some v)) fs (t + 1) := by
  intro j hj
  unfold va_up
  by_cases e : j = t
  · exact Or.inr ⟨a, R, w, d, v, by rw [e]; exact he, by simp [e], hs, hv, hd⟩
  · simpa [e] using h j (by omega)
theorem Tv_none (h : Tv κ im fv fs t) (he : fs t = none) : Tv κ im (va_up fv t none) fs (t + 1) := by
  intro j hj
  unfold va_up
  by_cases e : j = t
  · exact Or.inl ⟨by rw [e]; exact he, by simp [e]⟩
  · simpa [e] using h j (by omega)
theorem Tv_put {x y : Option Nat} (h : Tv κ im fv fs t) (h1 : tb1 κ im x y) : Tv κ im (va_up fv t y) (va_up fs t x) (t + 1) := by
  intro j hj
  unfold va_up
  by_cases e : j = t
  · simpa [e] using h1
  · simpa [e] using h j (by omega)
theorem Sh.le (h : Sh κ im a R w) : R ≤ 40 ∧ 1 ≤ w ∧ w ≤ 8 := h.1
end ST
theorem pl_cases (z : Int32) : (∃ t : Nat, t < 3 ∧ z = nI t) ∨ ¬ (0 ≤ z.toInt ∧ z.toInt < 3) := by
  by_cases h : 0 ≤ z.toInt ∧ z.toInt < 3
  · left
    obtain ⟨j, h3, h4⟩ := i_nat (x := z) (B := 2) h.1 (by omega)
    exact ⟨j, by omega, h4⟩
  · exact Or.inr h
theorem dX6_isPlace_0 : decode cX6_isPlace 0 = .ok (.iload_n 0, 1) := by decide +kernel
theorem dX6_isPlace_1 : decode cX6_isPlace 1 = .ok (.ifCond .lt 12, 3) := by decide +kernel
theorem dX6_isPlace_4 : decode cX6_isPlace 4 = .ok (.iload_n 0, 1) := by decide +kernel
theorem dX6_isPlace_5 : decode cX6_isPlace 5 = .ok (.iconst 3, 1) := by decide +kernel
theorem dX6_isPlace_6 : decode cX6_isPlace 6 = .ok (.if_icmp .ge 7, 3) := by decide +kernel
theorem dX6_isPlace_9 : decode cX6_isPlace 9 = .ok (.iconst 1, 1) := by decide +kernel
theorem dX6_isPlace_10 : decode cX6_isPlace 10 = .ok (.goto 4, 3) := by decide +kernel
theorem dX6_isPlace_14 : decode cX6_isPlace 14 = .ok (.ireturn, 1) := by decide +kernel
theorem dX6_isPlace_13 : decode cX6_isPlace 13 = .ok (.iconst 0, 1) := by decide +kernel
theorem dX6_sheetOf_0 : decode cX6_sheetOf 0 = .ok (.iload_n 1, 1) := by decide +kernel
theorem dX6_sheetOf_1 : decode cX6_sheetOf 1 = .ok (.invokestatic 37, 3) := by decide +kernel
theorem mw_256 : Cond.code yX6_isPlace cX6_isPlace 1 (some .boolean) ∈ wsL_law := lrk_11 _ (List.mem_of_getElem? (i := 16) rfl)
theorem mw_575 : Cond.methodLink RX6 37 yX6_isPlace ∈ wsL_law := lrk_24 _ (List.mem_of_getElem? (i := 23) rfl)
theorem mw_14 : Cond.initialized RX6 ∈ wsL_law := lrk_1 _ (List.mem_of_getElem? (i := 14) rfl)
theorem mw_255 : Cond.static yX6_isPlace ∈ wsL_law := lrk_11 _ (List.mem_of_getElem? (i := 15) rfl)
theorem gS_X6_37 : GoodIn wsL_law (va_wsS RX6 37 yX6_isPlace (wl yX6_isPlace cX6_isPlace 1 (some .boolean))) := g_S mw_575 mw_255 mw_14 mw_256
theorem hdS_X6_isPlace : okD yX6_isPlace 1 := by decide +kernel
theorem dX6_sheetOf_4 : decode cX6_sheetOf 4 = .ok (.ifCond .eq 12, 3) := by decide +kernel
theorem dX6_sheetOf_7 : decode cX6_sheetOf 7 = .ok (.aload_n 0, 1) := by decide +kernel
theorem dX6_sheetOf_8 : decode cX6_sheetOf 8 = .ok (.getfield 17, 3) := by decide +kernel
theorem mw_42 : Cond.fieldLink RX6 17 "TypedTables$State" "sheets" "[LTypedTables$Sheet;" ∈ wsL_law := lrk_2 _ (List.mem_of_getElem? (i := 18) rfl)
theorem dX6_sheetOf_11 : decode cX6_sheetOf 11 = .ok (.iload_n 1, 1) := by decide +kernel
theorem dX6_sheetOf_12 : decode cX6_sheetOf 12 = .ok (.aaload, 1) := by decide +kernel
theorem dX6_sheetOf_13 : decode cX6_sheetOf 13 = .ok (.goto 4, 3) := by decide +kernel
theorem dX6_sheetOf_17 : decode cX6_sheetOf 17 = .ok (.areturn, 1) := by decide +kernel
theorem dX6_sheetOf_16 : decode cX6_sheetOf 16 = .ok (.aconst_null, 1) := by decide +kernel
theorem dX6_topOf_0 : decode cX6_topOf 0 = .ok (.iload_n 1, 1) := by decide +kernel
theorem dX6_topOf_1 : decode cX6_topOf 1 = .ok (.invokestatic 37, 3) := by decide +kernel
theorem dX6_topOf_4 : decode cX6_topOf 4 = .ok (.ifCond .eq 12, 3) := by decide +kernel
theorem dX6_topOf_7 : decode cX6_topOf 7 = .ok (.aload_n 0, 1) := by decide +kernel
theorem dX6_topOf_8 : decode cX6_topOf 8 = .ok (.getfield 23, 3) := by decide +kernel
theorem mw_44 : Cond.fieldLink RX6 23 "TypedTables$State" "views" "[LTypedTables$View;" ∈ wsL_law := lrk_2 _ (List.mem_of_getElem? (i := 20) rfl)
theorem dX6_topOf_11 : decode cX6_topOf 11 = .ok (.iload_n 1, 1) := by decide +kernel
theorem dX6_topOf_12 : decode cX6_topOf 12 = .ok (.aaload, 1) := by decide +kernel
theorem dX6_topOf_13 : decode cX6_topOf 13 = .ok (.goto 4, 3) := by decide +kernel
theorem dX6_topOf_17 : decode cX6_topOf 17 = .ok (.areturn, 1) := by decide +kernel
theorem dX6_topOf_16 : decode cX6_topOf 16 = .ok (.aconst_null, 1) := by decide +kernel
theorem dX6_canStack_0 : decode cX6_canStack 0 = .ok (.aload_n 0, 1) := by decide +kernel
theorem dX6_canStack_1 : decode cX6_canStack 1 = .ok (.iload_n 1, 1) := by decide +kernel
theorem dX6_canStack_2 : decode cX6_canStack 2 = .ok (.invokevirtual 45, 3) := by decide +kernel
theorem mw_800 : Cond.code yX6_topOf cX6_topOf 2 (some (.object "TypedTables$View")) ∈ wsL_law := lrk_34 _ (List.mem_of_getElem? (i := 8) rfl)
theorem mw_797 : Cond.methodLink RX6 45 yX6_topOf ∈ wsL_law := lrk_34 _ (List.mem_of_getElem? (i := 5) rfl)
theorem mw_798 : Cond.instanceMethod yX6_topOf ∈ wsL_law := lrk_34 _ (List.mem_of_getElem? (i := 6) rfl)
theorem mw_799 : Cond.selects RX6 yX6_topOf yX6_topOf ∈ wsL_law := lrk_34 _ (List.mem_of_getElem? (i := 7) rfl)
theorem gV_X6_45 : GoodIn wsL_law (wsV RX6 45 RX6 yX6_topOf (wl yX6_topOf cX6_topOf 2 (some (.object "TypedTables$View")))) := g_V mw_797 mw_798 mw_799 mw_14 mw_800
theorem hdV_X6_topOf : yX6_topOf.cls = RX6 ∧ okD yX6_topOf 1 := by decide +kernel
theorem dX6_canStack_5 : decode cX6_canStack 5 = .ok (.astore_n 2, 1) := by decide +kernel
theorem dX6_canStack_6 : decode cX6_canStack 6 = .ok (.aload_n 2, 1) := by decide +kernel
theorem dX6_canStack_7 : decode cX6_canStack 7 = .ok (.ifnull 16, 3) := by decide +kernel
theorem dX6_canStack_10 : decode cX6_canStack 10 = .ok (.aload_n 2, 1) := by decide +kernel
theorem dX6_canStack_11 : decode cX6_canStack 11 = .ok (.getfield 60, 3) := by decide +kernel
theorem mw_988 : Cond.fieldLink RX6 60 "TypedTables$View" "depth" "I" ∈ wsL_law := lrk_42 _ (List.mem_of_getElem? (i := 4) rfl)
theorem dX6_canStack_14 : decode cX6_canStack 14 = .ok (.bipush 6, 2) := by decide +kernel
theorem dX6_canStack_16 : decode cX6_canStack 16 = .ok (.if_icmp .ge 7, 3) := by decide +kernel
theorem dX6_canStack_23 : decode cX6_canStack 23 = .ok (.iconst 0, 1) := by decide +kernel
theorem dX6_canStack_24 : decode cX6_canStack 24 = .ok (.ireturn, 1) := by decide +kernel
theorem dX6_canStack_19 : decode cX6_canStack 19 = .ok (.iconst 1, 1) := by decide +kernel
theorem dX6_canStack_20 : decode cX6_canStack 20 = .ok (.goto 4, 3) := by decide +kernel
theorem dX7_init_0 : decode cX7_init 0 = .ok (.aload_n 0, 1) := by decide +kernel
theorem dX7_init_1 : decode cX7_init 1 = .ok (.invokespecial 3, 3) := by decide +kernel
theorem mw_805 : Cond.methodLink RX7 3 objectInit ∈ wsL_law := lrk_34 _ (List.mem_of_getElem? (i := 13) rfl)
theorem dX7_init_4 : decode cX7_init 4 = .ok (.aload_n 0, 1) := by decide +kernel
theorem dX7_init_5 : decode cX7_init 5 = .ok (.aload_n 1, 1) := by decide +kernel
theorem dX7_init_6 : decode cX7_init 6 = .ok (.putfield 9, 3) := by decide +kernel
theorem mw_806 : Cond.fieldLink RX7 9 "TypedTables$Strip" "sheet" "LTypedTables$Sheet;" ∈ wsL_law := lrk_34 _ (List.mem_of_getElem? (i := 14) rfl)
theorem dX7_init_9 : decode cX7_init 9 = .ok (.aload_n 0, 1) := by decide +kernel
theorem dX7_init_10 : decode cX7_init 10 = .ok (.iload_n 2, 1) := by decide +kernel
theorem dX7_init_11 : decode cX7_init 11 = .ok (.putfield 15, 3) := by decide +kernel
theorem mw_807 : Cond.fieldLink RX7 15 "TypedTables$Strip" "column" "I" ∈ wsL_law := lrk_34 _ (List.mem_of_getElem? (i := 15) rfl)
theorem dX7_init_14 : decode cX7_init 14 = .ok (.aload_n 0, 1) := by decide +kernel
theorem dX7_init_15 : decode cX7_init 15 = .ok (.aload_n 3, 1) := by decide +kernel
theorem dX7_init_16 : decode cX7_init 16 = .ok (.putfield 19, 3) := by decide +kernel
theorem mw_808 : Cond.fieldLink RX7 19 "TypedTables$Strip" "rows" "[I" ∈ wsL_law := lrk_34 _ (List.mem_of_getElem? (i := 16) rfl)
theorem dX7_init_19 : decode cX7_init 19 = .ok (.aload_n 0, 1) := by decide +kernel
theorem dX7_init_20 : decode cX7_init 20 = .ok (.aload_n 1, 1) := by decide +kernel
theorem dX7_init_21 : decode cX7_init 21 = .ok (.iload_n 2, 1) := by decide +kernel
theorem dX7_init_22 : decode cX7_init 22 = .ok (.invokevirtual 23, 3) := by decide +kernel
theorem mw_813 : Cond.code yX5_typeOf cX5_typeOf 3 (some .int) ∈ wsL_law := lrk_34 _ (List.mem_of_getElem? (i := 21) rfl)
theorem mw_810 : Cond.methodLink RX7 23 yX5_typeOf ∈ wsL_law := lrk_34 _ (List.mem_of_getElem? (i := 18) rfl)
theorem mw_811 : Cond.instanceMethod yX5_typeOf ∈ wsL_law := lrk_34 _ (List.mem_of_getElem? (i := 19) rfl)
theorem mw_812 : Cond.selects RX5 yX5_typeOf yX5_typeOf ∈ wsL_law := lrk_34 _ (List.mem_of_getElem? (i := 20) rfl)
theorem gV_X7_23 : GoodIn wsL_law (wsV RX7 23 RX5 yX5_typeOf (wl yX5_typeOf cX5_typeOf 3 (some .int))) := g_V mw_810 mw_811 mw_812 mw_377 mw_813
theorem hdV_X5_typeOf : yX5_typeOf.cls = RX5 ∧ okD yX5_typeOf 1 := by decide +kernel
theorem dX7_init_25 : decode cX7_init 25 = .ok (.putfield 29, 3) := by decide +kernel
theorem mw_809 : Cond.fieldLink RX7 29 "TypedTables$Strip" "type" "I" ∈ wsL_law := lrk_34 _ (List.mem_of_getElem? (i := 17) rfl)
theorem dX7_init_28 : decode cX7_init 28 = .ok (.return_, 1) := by decide +kernel
theorem dX6_stripOf_0 : decode cX6_stripOf 0 = .ok (.aload_n 0, 1) := by decide +kernel
theorem dX6_stripOf_1 : decode cX6_stripOf 1 = .ok (.iload_n 1, 1) := by decide +kernel
theorem dX6_stripOf_2 : decode cX6_stripOf 2 = .ok (.invokevirtual 41, 3) := by decide +kernel
theorem mw_574 : Cond.code yX6_sheetOf cX6_sheetOf 2 (some (.object "TypedTables$Sheet")) ∈ wsL_law := lrk_24 _ (List.mem_of_getElem? (i := 22) rfl)
theorem mw_796 : Cond.methodLink RX6 41 yX6_sheetOf ∈ wsL_law := lrk_34 _ (List.mem_of_getElem? (i := 4) rfl)
theorem mw_572 : Cond.instanceMethod yX6_sheetOf ∈ wsL_law := lrk_24 _ (List.mem_of_getElem? (i := 20) rfl)
theorem mw_573 : Cond.selects RX6 yX6_sheetOf yX6_sheetOf ∈ wsL_law := lrk_24 _ (List.mem_of_getElem? (i := 21) rfl)
theorem gV_X6_41 : GoodIn wsL_law (wsV RX6 41 RX6 yX6_sheetOf (wl yX6_sheetOf cX6_sheetOf 2 (some (.object "TypedTables$Sheet")))) := g_V mw_796 mw_572 mw_573 mw_14 mw_574
theorem hdV_X6_sheetOf : yX6_sheetOf.cls = RX6 ∧ okD yX6_sheetOf 1 := by decide +kernel
theorem dX6_stripOf_5 : decode cX6_stripOf 5 = .ok (.astore_n 3, 1) := by decide +kernel
theorem dX6_stripOf_6 : decode cX6_stripOf 6 = .ok (.aload_n 0, 1) := by decide +kernel
theorem dX6_stripOf_7 : decode cX6_stripOf 7 = .ok (.iload_n 1, 1) := by decide +kernel
theorem dX6_stripOf_8 : decode cX6_stripOf 8 = .ok (.invokevirtual 45, 3) := by decide +kernel
theorem dX6_stripOf_11 : decode cX6_stripOf 11 = .ok (.astore 4, 2) := by decide +kernel
theorem dX6_stripOf_13 : decode cX6_stripOf 13 = .ok (.aload_n 3, 1) := by decide +kernel
theorem dX6_stripOf_14 : decode cX6_stripOf 14 = .ok (.ifnull 16, 3) := by decide +kernel
theorem dX6_stripOf_17 : decode cX6_stripOf 17 = .ok (.aload 4, 2) := by decide +kernel
theorem dX6_stripOf_19 : decode cX6_stripOf 19 = .ok (.ifnull 11, 3) := by decide +kernel
theorem dX6_stripOf_22 : decode cX6_stripOf 22 = .ok (.aload_n 3, 1) := by decide +kernel
theorem dX6_stripOf_23 : decode cX6_stripOf 23 = .ok (.iload_n 2, 1) := by decide +kernel
theorem dX6_stripOf_24 : decode cX6_stripOf 24 = .ok (.invokevirtual 49, 3) := by decide +kernel
theorem mw_801 : Cond.methodLink RX6 49 yX5_hasColumn ∈ wsL_law := lrk_34 _ (List.mem_of_getElem? (i := 9) rfl)
theorem gV_X6_49 : GoodIn wsL_law (wsV RX6 49 RX5 yX5_hasColumn (wl yX5_hasColumn cX5_hasColumn 2 (some .boolean))) := g_V mw_801 mw_585 mw_586 mw_377 mw_587
theorem dX6_stripOf_27 : decode cX6_stripOf 27 = .ok (.ifCond .ne 5, 3) := by decide +kernel
theorem dX6_stripOf_32 : decode cX6_stripOf 32 = .ok (.new 52, 3) := by decide +kernel
theorem mw_792 : Cond.classLink RX6 52 RX7 ∈ wsL_law := lrk_34 _ (List.mem_of_getElem? (i := 0) rfl)
theorem mw_793 : Cond.instantiable RX7 4 ∈ wsL_law := lrk_34 _ (List.mem_of_getElem? (i := 1) rfl)
theorem mw_794 : Cond.initialized RX7 ∈ wsL_law := lrk_34 _ (List.mem_of_getElem? (i := 2) rfl)
theorem dX6_stripOf_35 : decode cX6_stripOf 35 = .ok (.dup, 1) := by decide +kernel
theorem dX6_stripOf_36 : decode cX6_stripOf 36 = .ok (.aload_n 3, 1) := by decide +kernel
theorem dX6_stripOf_37 : decode cX6_stripOf 37 = .ok (.iload_n 2, 1) := by decide +kernel
theorem dX6_stripOf_38 : decode cX6_stripOf 38 = .ok (.aload 4, 2) := by decide +kernel
theorem dX6_stripOf_40 : decode cX6_stripOf 40 = .ok (.getfield 54, 3) := by decide +kernel
theorem mw_795 : Cond.fieldLink RX6 54 "TypedTables$View" "rows" "[I" ∈ wsL_law := lrk_34 _ (List.mem_of_getElem? (i := 3) rfl)
theorem dX6_stripOf_43 : decode cX6_stripOf 43 = .ok (.invokespecial 57, 3) := by decide +kernel
theorem hdI_X7_init : yX7_init.name = "<init>" ∧ okD yX7_init 3 := by decide +kernel
theorem mw_802 : Cond.methodLink RX6 57 yX7_init ∈ wsL_law := lrk_34 _ (List.mem_of_getElem? (i := 10) rfl)
theorem mw_803 : Cond.instanceMethod yX7_init ∈ wsL_law := lrk_34 _ (List.mem_of_getElem? (i := 11) rfl)
theorem mw_804 : Cond.code yX7_init cX7_init 4 none ∈ wsL_law := lrk_34 _ (List.mem_of_getElem? (i := 12) rfl)
theorem dX6_stripOf_46 : decode cX6_stripOf 46 = .ok (.areturn, 1) := by decide +kernel
theorem dX6_stripOf_30 : decode cX6_stripOf 30 = .ok (.aconst_null, 1) := by decide +kernel
theorem dX6_stripOf_31 : decode cX6_stripOf 31 = .ok (.areturn, 1) := by decide +kernel
theorem dX6_stack_0 : decode cX6_stack 0 = .ok (.aload_n 0, 1) := by decide +kernel
theorem dX6_stack_1 : decode cX6_stack 1 = .ok (.getfield 23, 3) := by decide +kernel
theorem dX6_stack_4 : decode cX6_stack 4 = .ok (.iload_n 1, 1) := by decide +kernel
theorem dX6_stack_5 : decode cX6_stack 5 = .ok (.new 21, 3) := by decide +kernel
theorem mw_43 : Cond.classLink RX6 21 RX9 ∈ wsL_law := lrk_2 _ (List.mem_of_getElem? (i := 19) rfl)
theorem dX6_stack_8 : decode cX6_stack 8 = .ok (.dup, 1) := by decide +kernel
theorem dX6_stack_9 : decode cX6_stack 9 = .ok (.aload_n 2, 1) := by decide +kernel
theorem dX6_stack_10 : decode cX6_stack 10 = .ok (.aload_n 0, 1) := by decide +kernel
theorem dX6_stack_11 : decode cX6_stack 11 = .ok (.getfield 23, 3) := by decide +kernel
theorem dX6_stack_14 : decode cX6_stack 14 = .ok (.iload_n 1, 1) := by decide +kernel
theorem dX6_stack_15 : decode cX6_stack 15 = .ok (.aaload, 1) := by decide +kernel
theorem dX6_stack_16 : decode cX6_stack 16 = .ok (.invokespecial 63, 3) := by decide +kernel
theorem mw_1023 : Cond.methodLink RX6 63 yX9_init ∈ wsL_law := lrk_43 _ (List.mem_of_getElem? (i := 15) rfl)
theorem dX6_stack_19 : decode cX6_stack 19 = .ok (.aastore, 1) := by decide +kernel
theorem dX6_stack_20 : decode cX6_stack 20 = .ok (.aload_n 2, 1) := by decide +kernel
theorem dX6_stack_21 : decode cX6_stack 21 = .ok (.arraylength, 1) := by decide +kernel
theorem dX6_stack_22 : decode cX6_stack 22 = .ok (.ireturn, 1) := by decide +kernel
theorem dX6_setTop_0 : decode cX6_setTop 0 = .ok (.aload_n 0, 1) := by decide +kernel
theorem dX6_setTop_1 : decode cX6_setTop 1 = .ok (.getfield 23, 3) := by decide +kernel
theorem dX6_setTop_4 : decode cX6_setTop 4 = .ok (.iload_n 1, 1) := by decide +kernel
theorem dX6_setTop_5 : decode cX6_setTop 5 = .ok (.aload_n 2, 1) := by decide +kernel
theorem dX6_setTop_6 : decode cX6_setTop 6 = .ok (.aastore, 1) := by decide +kernel
theorem dX6_setTop_7 : decode cX6_setTop 7 = .ok (.return_, 1) := by decide +kernel
theorem dX6_takeViewsOff_0 : decode cX6_takeViewsOff 0 = .ok (.aload_n 0, 1) := by decide +kernel
theorem dX6_takeViewsOff_1 : decode cX6_takeViewsOff 1 = .ok (.getfield 17, 3) := by decide +kernel
theorem dX6_takeViewsOff_4 : decode cX6_takeViewsOff 4 = .ok (.iload_n 1, 1) := by decide +kernel
theorem dX6_takeViewsOff_5 : decode cX6_takeViewsOff 5 = .ok (.aaload, 1) := by decide +kernel
theorem dX6_takeViewsOff_6 : decode cX6_takeViewsOff 6 = .ok (.astore_n 2, 1) := by decide +kernel
theorem dX6_takeViewsOff_7 : decode cX6_takeViewsOff 7 = .ok (.aload_n 0, 1) := by decide +kernel
theorem dX6_takeViewsOff_8 : decode cX6_takeViewsOff 8 = .ok (.getfield 23, 3) := by decide +kernel
theorem dX6_takeViewsOff_11 : decode cX6_takeViewsOff 11 = .ok (.iload_n 1, 1) := by decide +kernel
theorem dX6_takeViewsOff_12 : decode cX6_takeViewsOff 12 = .ok (.aload_n 2, 1) := by decide +kernel
theorem dX6_takeViewsOff_13 : decode cX6_takeViewsOff 13 = .ok (.ifnonnull 7, 3) := by decide +kernel
theorem dX6_takeViewsOff_20 : decode cX6_takeViewsOff 20 = .ok (.aload_n 2, 1) := by decide +kernel
theorem dX6_takeViewsOff_21 : decode cX6_takeViewsOff 21 = .ok (.getfield 66, 3) := by decide +kernel
theorem mw_408 : Cond.fieldLink RX6 66 "TypedTables$Sheet" "all" "LTypedTables$View;" ∈ wsL_law := lrk_18 _ (List.mem_of_getElem? (i := 0) rfl)
theorem dX6_takeViewsOff_24 : decode cX6_takeViewsOff 24 = .ok (.aastore, 1) := by decide +kernel
theorem dX6_takeViewsOff_25 : decode cX6_takeViewsOff 25 = .ok (.return_, 1) := by decide +kernel
theorem dX6_takeViewsOff_16 : decode cX6_takeViewsOff 16 = .ok (.aconst_null, 1) := by decide +kernel
theorem dX6_takeViewsOff_17 : decode cX6_takeViewsOff 17 = .ok (.goto 7, 3) := by decide +kernel
theorem dX6_forgetFirstAct_0 : decode cX6_forgetFirstAct 0 = .ok (.iconst 1, 1) := by decide +kernel
theorem dX6_forgetFirstAct_1 : decode cX6_forgetFirstAct 1 = .ok (.istore_n 1, 1) := by decide +kernel
theorem dX6_forgetFirstAct_2 : decode cX6_forgetFirstAct 2 = .ok (.iload_n 1, 1) := by decide +kernel
theorem dX6_forgetFirstAct_3 : decode cX6_forgetFirstAct 3 = .ok (.bipush 6, 2) := by decide +kernel
theorem dX6_forgetFirstAct_5 : decode cX6_forgetFirstAct 5 = .ok (.if_icmp .ge 37, 3) := by decide +kernel
theorem dX6_forgetFirstAct_42 : decode cX6_forgetFirstAct 42 = .ok (.aload_n 0, 1) := by decide +kernel
theorem dX6_forgetFirstAct_43 : decode cX6_forgetFirstAct 43 = .ok (.dup, 1) := by decide +kernel
theorem dX6_forgetFirstAct_44 : decode cX6_forgetFirstAct 44 = .ok (.getfield 33, 3) := by decide +kernel
theorem mw_47 : Cond.fieldLink RX6 33 "TypedTables$State" "acts" "I" ∈ wsL_law := lrk_2 _ (List.mem_of_getElem? (i := 23) rfl)
theorem dX6_forgetFirstAct_47 : decode cX6_forgetFirstAct 47 = .ok (.iconst 1, 1) := by decide +kernel
theorem dX6_forgetFirstAct_48 : decode cX6_forgetFirstAct 48 = .ok (.isub, 1) := by decide +kernel
theorem dX6_forgetFirstAct_49 : decode cX6_forgetFirstAct 49 = .ok (.putfield 33, 3) := by decide +kernel
theorem dX6_forgetFirstAct_52 : decode cX6_forgetFirstAct 52 = .ok (.return_, 1) := by decide +kernel
theorem dX6_forgetFirstAct_8 : decode cX6_forgetFirstAct 8 = .ok (.aload_n 0, 1) := by decide +kernel
theorem dX6_forgetFirstAct_9 : decode cX6_forgetFirstAct 9 = .ok (.getfield 27, 3) := by decide +kernel
theorem mw_45 : Cond.fieldLink RX6 27 "TypedTables$State" "actTables" "[I" ∈ wsL_law := lrk_2 _ (List.mem_of_getElem? (i := 21) rfl)
theorem dX6_forgetFirstAct_12 : decode cX6_forgetFirstAct 12 = .ok (.iload_n 1, 1) := by decide +kernel
theorem dX6_forgetFirstAct_13 : decode cX6_forgetFirstAct 13 = .ok (.iconst 1, 1) := by decide +kernel
theorem dX6_forgetFirstAct_14 : decode cX6_forgetFirstAct 14 = .ok (.isub, 1) := by decide +kernel
theorem dX6_forgetFirstAct_15 : decode cX6_forgetFirstAct 15 = .ok (.aload_n 0, 1) := by decide +kernel
theorem dX6_forgetFirstAct_16 : decode cX6_forgetFirstAct 16 = .ok (.getfield 27, 3) := by decide +kernel
theorem dX6_forgetFirstAct_19 : decode cX6_forgetFirstAct 19 = .ok (.iload_n 1, 1) := by decide +kernel
theorem dX6_forgetFirstAct_20 : decode cX6_forgetFirstAct 20 = .ok (.iaload, 1) := by decide +kernel
theorem dX6_forgetFirstAct_21 : decode cX6_forgetFirstAct 21 = .ok (.iastore, 1) := by decide +kernel
theorem dX6_forgetFirstAct_22 : decode cX6_forgetFirstAct 22 = .ok (.aload_n 0, 1) := by decide +kernel
theorem dX6_forgetFirstAct_23 : decode cX6_forgetFirstAct 23 = .ok (.getfield 30, 3) := by decide +kernel
theorem mw_46 : Cond.fieldLink RX6 30 "TypedTables$State" "actSheets" "[LTypedTables$Sheet;" ∈ wsL_law := lrk_2 _ (List.mem_of_getElem? (i := 22) rfl)
theorem dX6_forgetFirstAct_26 : decode cX6_forgetFirstAct 26 = .ok (.iload_n 1, 1) := by decide +kernel
theorem dX6_forgetFirstAct_27 : decode cX6_forgetFirstAct 27 = .ok (.iconst 1, 1) := by decide +kernel
theorem dX6_forgetFirstAct_28 : decode cX6_forgetFirstAct 28 = .ok (.isub, 1) := by decide +kernel
theorem dX6_forgetFirstAct_29 : decode cX6_forgetFirstAct 29 = .ok (.aload_n 0, 1) := by decide +kernel
theorem dX6_forgetFirstAct_30 : decode cX6_forgetFirstAct 30 = .ok (.getfield 30, 3) := by decide +kernel
theorem dX6_forgetFirstAct_33 : decode cX6_forgetFirstAct 33 = .ok (.iload_n 1, 1) := by decide +kernel
theorem dX6_forgetFirstAct_34 : decode cX6_forgetFirstAct 34 = .ok (.aaload, 1) := by decide +kernel
theorem dX6_forgetFirstAct_35 : decode cX6_forgetFirstAct 35 = .ok (.aastore, 1) := by decide +kernel
theorem dX6_forgetFirstAct_36 : decode cX6_forgetFirstAct 36 = .ok (.iinc 1 1, 3) := by decide +kernel
theorem dX6_forgetFirstAct_39 : decode cX6_forgetFirstAct 39 = .ok (.goto (-37), 3) := by decide +kernel
theorem dX6_act_0 : decode cX6_act 0 = .ok (.aload_n 0, 1) := by decide +kernel
theorem dX6_act_1 : decode cX6_act 1 = .ok (.getfield 33, 3) := by decide +kernel
theorem dX6_act_4 : decode cX6_act 4 = .ok (.bipush 6, 2) := by decide +kernel
theorem dX6_act_6 : decode cX6_act 6 = .ok (.if_icmp .ne 7, 3) := by decide +kernel
theorem dX6_act_13 : decode cX6_act 13 = .ok (.aload_n 0, 1) := by decide +kernel
theorem dX6_act_14 : decode cX6_act 14 = .ok (.getfield 27, 3) := by decide +kernel
theorem dX6_act_17 : decode cX6_act 17 = .ok (.aload_n 0, 1) := by decide +kernel
theorem dX6_act_18 : decode cX6_act 18 = .ok (.getfield 33, 3) := by decide +kernel
theorem dX6_act_21 : decode cX6_act 21 = .ok (.iload_n 1, 1) := by decide +kernel
theorem dX6_act_22 : decode cX6_act 22 = .ok (.iastore, 1) := by decide +kernel
theorem dX6_act_23 : decode cX6_act 23 = .ok (.aload_n 0, 1) := by decide +kernel
theorem dX6_act_24 : decode cX6_act 24 = .ok (.getfield 30, 3) := by decide +kernel
theorem dX6_act_27 : decode cX6_act 27 = .ok (.aload_n 0, 1) := by decide +kernel
theorem dX6_act_28 : decode cX6_act 28 = .ok (.getfield 33, 3) := by decide +kernel
theorem dX6_act_31 : decode cX6_act 31 = .ok (.aload_n 0, 1) := by decide +kernel
theorem dX6_act_32 : decode cX6_act 32 = .ok (.getfield 17, 3) := by decide +kernel
theorem dX6_act_35 : decode cX6_act 35 = .ok (.iload_n 1, 1) := by decide +kernel
theorem dX6_act_36 : decode cX6_act 36 = .ok (.aaload, 1) := by decide +kernel
theorem dX6_act_37 : decode cX6_act 37 = .ok (.aastore, 1) := by decide +kernel
theorem dX6_act_38 : decode cX6_act 38 = .ok (.aload_n 0, 1) := by decide +kernel
theorem dX6_act_39 : decode cX6_act 39 = .ok (.dup, 1) := by decide +kernel
theorem dX6_act_40 : decode cX6_act 40 = .ok (.getfield 33, 3) := by decide +kernel
theorem dX6_act_43 : decode cX6_act 43 = .ok (.iconst 1, 1) := by decide +kernel
theorem dX6_act_44 : decode cX6_act 44 = .ok (.iadd, 1) := by decide +kernel
theorem dX6_act_45 : decode cX6_act 45 = .ok (.putfield 33, 3) := by decide +kernel
theorem dX6_act_48 : decode cX6_act 48 = .ok (.aload_n 0, 1) := by decide +kernel
theorem dX6_act_49 : decode cX6_act 49 = .ok (.getfield 17, 3) := by decide +kernel
theorem dX6_act_52 : decode cX6_act 52 = .ok (.iload_n 1, 1) := by decide +kernel
theorem dX6_act_53 : decode cX6_act 53 = .ok (.aload_n 2, 1) := by decide +kernel
theorem dX6_act_54 : decode cX6_act 54 = .ok (.aastore, 1) := by decide +kernel
theorem dX6_act_55 : decode cX6_act 55 = .ok (.aload_n 0, 1) := by decide +kernel
theorem dX6_act_56 : decode cX6_act 56 = .ok (.iload_n 1, 1) := by decide +kernel
theorem dX6_act_57 : decode cX6_act 57 = .ok (.invokevirtual 73, 3) := by decide +kernel
theorem mw_407 : Cond.code yX6_takeViewsOff cX6_takeViewsOff 3 none ∈ wsL_law := lrk_17 _ (List.mem_of_getElem? (i := 23) rfl)
theorem mw_404 : Cond.methodLink RX6 73 yX6_takeViewsOff ∈ wsL_law := lrk_17 _ (List.mem_of_getElem? (i := 20) rfl)
theorem mw_405 : Cond.instanceMethod yX6_takeViewsOff ∈ wsL_law := lrk_17 _ (List.mem_of_getElem? (i := 21) rfl)
theorem mw_406 : Cond.selects RX6 yX6_takeViewsOff yX6_takeViewsOff ∈ wsL_law := lrk_17 _ (List.mem_of_getElem? (i := 22) rfl)
theorem gV_X6_73 : GoodIn wsL_law (wsV RX6 73 RX6 yX6_takeViewsOff (wl yX6_takeViewsOff cX6_takeViewsOff 3 none)) := g_V mw_404 mw_405 mw_406 mw_14 mw_407
theorem hdV_X6_takeViewsOff : yX6_takeViewsOff.cls = RX6 ∧ okD yX6_takeViewsOff 1 := by decide +kernel
theorem dX6_act_60 : decode cX6_act 60 = .ok (.return_, 1) := by decide +kernel
theorem dX6_act_9 : decode cX6_act 9 = .ok (.aload_n 0, 1) := by decide +kernel
theorem dX6_act_10 : decode cX6_act 10 = .ok (.invokevirtual 70, 3) := by decide +kernel
theorem mw_403 : Cond.code yX6_forgetFirstAct cX6_forgetFirstAct 2 none ∈ wsL_law := lrk_17 _ (List.mem_of_getElem? (i := 19) rfl)
theorem mw_400 : Cond.methodLink RX6 70 yX6_forgetFirstAct ∈ wsL_law := lrk_17 _ (List.mem_of_getElem? (i := 16) rfl)
theorem mw_401 : Cond.instanceMethod yX6_forgetFirstAct ∈ wsL_law := lrk_17 _ (List.mem_of_getElem? (i := 17) rfl)
theorem mw_402 : Cond.selects RX6 yX6_forgetFirstAct yX6_forgetFirstAct ∈ wsL_law := lrk_17 _ (List.mem_of_getElem? (i := 18) rfl)
theorem gV_X6_70 : GoodIn wsL_law (wsV RX6 70 RX6 yX6_forgetFirstAct (wl yX6_forgetFirstAct cX6_forgetFirstAct 2 none)) := g_V mw_400 mw_401 mw_402 mw_14 mw_403
theorem hdV_X6_forgetFirstAct : yX6_forgetFirstAct.cls = RX6 ∧ okD yX6_forgetFirstAct 0 := by decide +kernel
theorem dX6_undoAct_0 : decode cX6_undoAct 0 = .ok (.aload_n 0, 1) := by decide +kernel
theorem dX6_undoAct_1 : decode cX6_undoAct 1 = .ok (.getfield 33, 3) := by decide +kernel
theorem dX6_undoAct_4 : decode cX6_undoAct 4 = .ok (.ifCond .le 54, 3) := by decide +kernel
theorem dX6_undoAct_58 : decode cX6_undoAct 58 = .ok (.return_, 1) := by decide +kernel
theorem dX6_undoAct_7 : decode cX6_undoAct 7 = .ok (.aload_n 0, 1) := by decide +kernel
theorem dX6_undoAct_8 : decode cX6_undoAct 8 = .ok (.dup, 1) := by decide +kernel
theorem dX6_undoAct_9 : decode cX6_undoAct 9 = .ok (.getfield 33, 3) := by decide +kernel
theorem dX6_undoAct_12 : decode cX6_undoAct 12 = .ok (.iconst 1, 1) := by decide +kernel
theorem dX6_undoAct_13 : decode cX6_undoAct 13 = .ok (.isub, 1) := by decide +kernel
theorem dX6_undoAct_14 : decode cX6_undoAct 14 = .ok (.putfield 33, 3) := by decide +kernel
theorem dX6_undoAct_17 : decode cX6_undoAct 17 = .ok (.aload_n 0, 1) := by decide +kernel
theorem dX6_undoAct_18 : decode cX6_undoAct 18 = .ok (.getfield 17, 3) := by decide +kernel
theorem dX6_undoAct_21 : decode cX6_undoAct 21 = .ok (.aload_n 0, 1) := by decide +kernel
theorem dX6_undoAct_22 : decode cX6_undoAct 22 = .ok (.getfield 27, 3) := by decide +kernel
theorem dX6_undoAct_25 : decode cX6_undoAct 25 = .ok (.aload_n 0, 1) := by decide +kernel
theorem dX6_undoAct_26 : decode cX6_undoAct 26 = .ok (.getfield 33, 3) := by decide +kernel
theorem dX6_undoAct_29 : decode cX6_undoAct 29 = .ok (.iaload, 1) := by decide +kernel
theorem dX6_undoAct_30 : decode cX6_undoAct 30 = .ok (.aload_n 0, 1) := by decide +kernel
theorem dX6_undoAct_31 : decode cX6_undoAct 31 = .ok (.getfield 30, 3) := by decide +kernel
theorem dX6_undoAct_34 : decode cX6_undoAct 34 = .ok (.aload_n 0, 1) := by decide +kernel
theorem dX6_undoAct_35 : decode cX6_undoAct 35 = .ok (.getfield 33, 3) := by decide +kernel
theorem dX6_undoAct_38 : decode cX6_undoAct 38 = .ok (.aaload, 1) := by decide +kernel
theorem dX6_undoAct_39 : decode cX6_undoAct 39 = .ok (.aastore, 1) := by decide +kernel
theorem dX6_undoAct_40 : decode cX6_undoAct 40 = .ok (.iconst 0, 1) := by decide +kernel
theorem dX6_undoAct_41 : decode cX6_undoAct 41 = .ok (.istore_n 1, 1) := by decide +kernel
theorem dX6_undoAct_42 : decode cX6_undoAct 42 = .ok (.iload_n 1, 1) := by decide +kernel
theorem dX6_undoAct_43 : decode cX6_undoAct 43 = .ok (.iconst 3, 1) := by decide +kernel
theorem dX6_undoAct_44 : decode cX6_undoAct 44 = .ok (.if_icmp .ge 14, 3) := by decide +kernel
theorem dX6_undoAct_47 : decode cX6_undoAct 47 = .ok (.aload_n 0, 1) := by decide +kernel
theorem dX6_undoAct_48 : decode cX6_undoAct 48 = .ok (.iload_n 1, 1) := by decide +kernel
theorem dX6_undoAct_49 : decode cX6_undoAct 49 = .ok (.invokevirtual 73, 3) := by decide +kernel
theorem dX6_undoAct_52 : decode cX6_undoAct 52 = .ok (.iinc 1 1, 3) := by decide +kernel
theorem dX6_undoAct_55 : decode cX6_undoAct 55 = .ok (.goto (-13), 3) := by decide +kernel
theorem dX6_copyFrom_0 : decode cX6_copyFrom 0 = .ok (.aload_n 1, 1) := by decide +kernel
theorem dX6_copyFrom_1 : decode cX6_copyFrom 1 = .ok (.getfield 9, 3) := by decide +kernel
theorem mw_40 : Cond.fieldLink RX6 9 "TypedTables$State" "dialect" "[I" ∈ wsL_law := lrk_2 _ (List.mem_of_getElem? (i := 16) rfl)
theorem dX6_copyFrom_4 : decode cX6_copyFrom 4 = .ok (.iconst 0, 1) := by decide +kernel
theorem dX6_copyFrom_5 : decode cX6_copyFrom 5 = .ok (.aload_n 0, 1) := by decide +kernel
theorem dX6_copyFrom_6 : decode cX6_copyFrom 6 = .ok (.getfield 9, 3) := by decide +kernel
theorem dX6_copyFrom_9 : decode cX6_copyFrom 9 = .ok (.iconst 0, 1) := by decide +kernel
theorem dX6_copyFrom_10 : decode cX6_copyFrom 10 = .ok (.bipush 6, 2) := by decide +kernel
theorem dX6_copyFrom_12 : decode cX6_copyFrom 12 = .ok (.invokestatic 77, 3) := by decide +kernel
theorem mw_1478 : Cond.methodLink RX6 77 arraycopyName ∈ wsL_law := lrk_62 _ (List.mem_of_getElem? (i := 14) rfl)
theorem mw_321 : Cond.native arraycopyName ∈ wsL_law := lrk_14 _ (List.mem_of_getElem? (i := 9) rfl)
theorem mw_322 : Cond.static arraycopyName ∈ wsL_law := lrk_14 _ (List.mem_of_getElem? (i := 10) rfl)
theorem mw_323 : Cond.initialized "java/lang/System" ∈ wsL_law := lrk_14 _ (List.mem_of_getElem? (i := 11) rfl)
theorem dX6_copyFrom_15 : decode cX6_copyFrom 15 = .ok (.iconst 0, 1) := by decide +kernel
theorem dX6_copyFrom_16 : decode cX6_copyFrom 16 = .ok (.istore_n 2, 1) := by decide +kernel
theorem dX6_copyFrom_17 : decode cX6_copyFrom 17 = .ok (.iload_n 2, 1) := by decide +kernel
theorem dX6_copyFrom_18 : decode cX6_copyFrom 18 = .ok (.iconst 3, 1) := by decide +kernel
theorem dX6_copyFrom_19 : decode cX6_copyFrom 19 = .ok (.if_icmp .ge 33, 3) := by decide +kernel
theorem dX6_copyFrom_52 : decode cX6_copyFrom 52 = .ok (.aload_n 0, 1) := by decide +kernel
theorem dX6_copyFrom_53 : decode cX6_copyFrom 53 = .ok (.iconst 0, 1) := by decide +kernel
theorem dX6_copyFrom_54 : decode cX6_copyFrom 54 = .ok (.putfield 33, 3) := by decide +kernel
theorem dX6_copyFrom_57 : decode cX6_copyFrom 57 = .ok (.return_, 1) := by decide +kernel
theorem dX6_copyFrom_22 : decode cX6_copyFrom 22 = .ok (.aload_n 0, 1) := by decide +kernel
theorem dX6_copyFrom_23 : decode cX6_copyFrom 23 = .ok (.getfield 17, 3) := by decide +kernel
theorem dX6_copyFrom_26 : decode cX6_copyFrom 26 = .ok (.iload_n 2, 1) := by decide +kernel
theorem dX6_copyFrom_27 : decode cX6_copyFrom 27 = .ok (.aload_n 1, 1) := by decide +kernel
theorem dX6_copyFrom_28 : decode cX6_copyFrom 28 = .ok (.getfield 17, 3) := by decide +kernel
theorem dX6_copyFrom_31 : decode cX6_copyFrom 31 = .ok (.iload_n 2, 1) := by decide +kernel
theorem dX6_copyFrom_32 : decode cX6_copyFrom 32 = .ok (.aaload, 1) := by decide +kernel
theorem dX6_copyFrom_33 : decode cX6_copyFrom 33 = .ok (.aastore, 1) := by decide +kernel
theorem dX6_copyFrom_34 : decode cX6_copyFrom 34 = .ok (.aload_n 0, 1) := by decide +kernel
theorem dX6_copyFrom_35 : decode cX6_copyFrom 35 = .ok (.getfield 23, 3) := by decide +kernel
theorem dX6_copyFrom_38 : decode cX6_copyFrom 38 = .ok (.iload_n 2, 1) := by decide +kernel
theorem dX6_copyFrom_39 : decode cX6_copyFrom 39 = .ok (.aload_n 1, 1) := by decide +kernel
theorem dX6_copyFrom_40 : decode cX6_copyFrom 40 = .ok (.getfield 23, 3) := by decide +kernel
theorem dX6_copyFrom_43 : decode cX6_copyFrom 43 = .ok (.iload_n 2, 1) := by decide +kernel
theorem dX6_copyFrom_44 : decode cX6_copyFrom 44 = .ok (.aaload, 1) := by decide +kernel
theorem dX6_copyFrom_45 : decode cX6_copyFrom 45 = .ok (.aastore, 1) := by decide +kernel
theorem dX6_copyFrom_46 : decode cX6_copyFrom 46 = .ok (.iinc 2 1, 3) := by decide +kernel
theorem dX6_copyFrom_49 : decode cX6_copyFrom 49 = .ok (.goto (-32), 3) := by decide +kernel
theorem dX6_tablesThere_0 : decode cX6_tablesThere 0 = .ok (.iconst 0, 1) := by decide +kernel
theorem dX6_tablesThere_1 : decode cX6_tablesThere 1 = .ok (.istore_n 1, 1) := by decide +kernel
theorem dX6_tablesThere_2 : decode cX6_tablesThere 2 = .ok (.iconst 0, 1) := by decide +kernel
theorem dX6_tablesThere_3 : decode cX6_tablesThere 3 = .ok (.istore_n 2, 1) := by decide +kernel
theorem dX6_tablesThere_4 : decode cX6_tablesThere 4 = .ok (.iload_n 2, 1) := by decide +kernel
theorem dX6_tablesThere_5 : decode cX6_tablesThere 5 = .ok (.iconst 3, 1) := by decide +kernel
theorem dX6_tablesThere_6 : decode cX6_tablesThere 6 = .ok (.if_icmp .ge 28, 3) := by decide +kernel
theorem dX6_tablesThere_34 : decode cX6_tablesThere 34 = .ok (.iload_n 1, 1) := by decide +kernel
theorem dX6_tablesThere_35 : decode cX6_tablesThere 35 = .ok (.ireturn, 1) := by decide +kernel
theorem dX6_tablesThere_9 : decode cX6_tablesThere 9 = .ok (.iload_n 1, 1) := by decide +kernel
theorem dX6_tablesThere_10 : decode cX6_tablesThere 10 = .ok (.aload_n 0, 1) := by decide +kernel
theorem dX6_tablesThere_11 : decode cX6_tablesThere 11 = .ok (.getfield 17, 3) := by decide +kernel
theorem dX6_tablesThere_14 : decode cX6_tablesThere 14 = .ok (.iload_n 2, 1) := by decide +kernel
theorem dX6_tablesThere_15 : decode cX6_tablesThere 15 = .ok (.aaload, 1) := by decide +kernel
theorem dX6_tablesThere_16 : decode cX6_tablesThere 16 = .ok (.ifnonnull 7, 3) := by decide +kernel
theorem dX6_tablesThere_19 : decode cX6_tablesThere 19 = .ok (.iconst 0, 1) := by decide +kernel
theorem dX6_tablesThere_20 : decode cX6_tablesThere 20 = .ok (.goto 6, 3) := by decide +kernel
theorem dX6_tablesThere_26 : decode cX6_tablesThere 26 = .ok (.ior, 1) := by decide +kernel
theorem dX6_tablesThere_27 : decode cX6_tablesThere 27 = .ok (.istore_n 1, 1) := by decide +kernel
theorem dX6_tablesThere_28 : decode cX6_tablesThere 28 = .ok (.iinc 2 1, 3) := by decide +kernel
theorem dX6_tablesThere_31 : decode cX6_tablesThere 31 = .ok (.goto (-27), 3) := by decide +kernel
theorem dX6_tablesThere_23 : decode cX6_tablesThere 23 = .ok (.iconst 1, 1) := by decide +kernel
theorem dX6_tablesThere_24 : decode cX6_tablesThere 24 = .ok (.iload_n 2, 1) := by decide +kernel
theorem dX6_tablesThere_25 : decode cX6_tablesThere 25 = .ok (.ishl, 1) := by decide +kernel
theorem dX6_countCells_0 : decode cX6_countCells 0 = .ok (.iconst 0, 1) := by decide +kernel
theorem dX6_countCells_1 : decode cX6_countCells 1 = .ok (.istore_n 1, 1) := by decide +kernel
theorem dX6_countCells_2 : decode cX6_countCells 2 = .ok (.iconst 0, 1) := by decide +kernel
theorem dX6_countCells_3 : decode cX6_countCells 3 = .ok (.istore_n 2, 1) := by decide +kernel
theorem dX6_countCells_4 : decode cX6_countCells 4 = .ok (.iload_n 2, 1) := by decide +kernel
theorem dX6_countCells_5 : decode cX6_countCells 5 = .ok (.iconst 3, 1) := by decide +kernel
theorem dX6_countCells_6 : decode cX6_countCells 6 = .ok (.if_icmp .ge 32, 3) := by decide +kernel
theorem dX6_countCells_38 : decode cX6_countCells 38 = .ok (.iload_n 1, 1) := by decide +kernel
theorem dX6_countCells_39 : decode cX6_countCells 39 = .ok (.ireturn, 1) := by decide +kernel
theorem dX6_countCells_9 : decode cX6_countCells 9 = .ok (.aload_n 0, 1) := by decide +kernel
theorem dX6_countCells_10 : decode cX6_countCells 10 = .ok (.getfield 17, 3) := by decide +kernel
theorem dX6_countCells_13 : decode cX6_countCells 13 = .ok (.iload_n 2, 1) := by decide +kernel
theorem dX6_countCells_14 : decode cX6_countCells 14 = .ok (.aaload, 1) := by decide +kernel
theorem dX6_countCells_15 : decode cX6_countCells 15 = .ok (.astore_n 3, 1) := by decide +kernel
theorem dX6_countCells_16 : decode cX6_countCells 16 = .ok (.iload_n 1, 1) := by decide +kernel
theorem dX6_countCells_17 : decode cX6_countCells 17 = .ok (.aload_n 3, 1) := by decide +kernel
theorem dX6_countCells_18 : decode cX6_countCells 18 = .ok (.ifnonnull 7, 3) := by decide +kernel
theorem dX6_countCells_21 : decode cX6_countCells 21 = .ok (.iconst 0, 1) := by decide +kernel
theorem dX6_countCells_22 : decode cX6_countCells 22 = .ok (.goto 8, 3) := by decide +kernel
theorem dX6_countCells_30 : decode cX6_countCells 30 = .ok (.iadd, 1) := by decide +kernel
theorem dX6_countCells_31 : decode cX6_countCells 31 = .ok (.istore_n 1, 1) := by decide +kernel
theorem dX6_countCells_32 : decode cX6_countCells 32 = .ok (.iinc 2 1, 3) := by decide +kernel
theorem dX6_countCells_35 : decode cX6_countCells 35 = .ok (.goto (-31), 3) := by decide +kernel
theorem dX6_countCells_25 : decode cX6_countCells 25 = .ok (.aload_n 3, 1) := by decide +kernel
theorem dX6_countCells_26 : decode cX6_countCells 26 = .ok (.getfield 83, 3) := by decide +kernel
theorem mw_1497 : Cond.fieldLink RX6 83 "TypedTables$Sheet" "cells" "[LTypedTables$Cell;" ∈ wsL_law := lrk_63 _ (List.mem_of_getElem? (i := 9) rfl)
theorem dX6_countCells_29 : decode cX6_countCells 29 = .ok (.arraylength, 1) := by decide +kernel
theorem dX6_init_0 : decode cX6_init 0 = .ok (.aload_n 0, 1) := by decide +kernel
theorem dX6_init_1 : decode cX6_init 1 = .ok (.invokespecial 3, 3) := by decide +kernel
theorem mw_38 : Cond.methodLink RX6 3 objectInit ∈ wsL_law := lrk_2 _ (List.mem_of_getElem? (i := 14) rfl)
theorem dX6_init_4 : decode cX6_init 4 = .ok (.aload_n 0, 1) := by decide +kernel
theorem dX6_init_5 : decode cX6_init 5 = .ok (.bipush 6, 2) := by decide +kernel
theorem dX6_init_7 : decode cX6_init 7 = .ok (.newarray .int, 2) := by decide +kernel
theorem dX6_init_9 : decode cX6_init 9 = .ok (.putfield 9, 3) := by decide +kernel
theorem dX6_init_12 : decode cX6_init 12 = .ok (.aload_n 0, 1) := by decide +kernel
theorem dX6_init_13 : decode cX6_init 13 = .ok (.iconst 3, 1) := by decide +kernel
theorem dX6_init_14 : decode cX6_init 14 = .ok (.anewarray 15, 3) := by decide +kernel
theorem mw_41 : Cond.classLink RX6 15 RX5 ∈ wsL_law := lrk_2 _ (List.mem_of_getElem? (i := 17) rfl)
theorem dX6_init_17 : decode cX6_init 17 = .ok (.putfield 17, 3) := by decide +kernel
theorem dX6_init_20 : decode cX6_init 20 = .ok (.aload_n 0, 1) := by decide +kernel
theorem dX6_init_21 : decode cX6_init 21 = .ok (.iconst 3, 1) := by decide +kernel
theorem dX6_init_22 : decode cX6_init 22 = .ok (.anewarray 21, 3) := by decide +kernel
theorem dX6_init_25 : decode cX6_init 25 = .ok (.putfield 23, 3) := by decide +kernel
theorem dX6_init_28 : decode cX6_init 28 = .ok (.aload_n 0, 1) := by decide +kernel
theorem dX6_init_29 : decode cX6_init 29 = .ok (.bipush 6, 2) := by decide +kernel
theorem dX6_init_31 : decode cX6_init 31 = .ok (.newarray .int, 2) := by decide +kernel
theorem dX6_init_33 : decode cX6_init 33 = .ok (.putfield 27, 3) := by decide +kernel
theorem dX6_init_36 : decode cX6_init 36 = .ok (.aload_n 0, 1) := by decide +kernel
theorem dX6_init_37 : decode cX6_init 37 = .ok (.bipush 6, 2) := by decide +kernel
theorem dX6_init_39 : decode cX6_init 39 = .ok (.anewarray 15, 3) := by decide +kernel
theorem dX6_init_42 : decode cX6_init 42 = .ok (.putfield 30, 3) := by decide +kernel
theorem dX6_init_45 : decode cX6_init 45 = .ok (.aload_n 0, 1) := by decide +kernel
theorem dX6_init_46 : decode cX6_init 46 = .ok (.iconst 0, 1) := by decide +kernel
theorem dX6_init_47 : decode cX6_init 47 = .ok (.putfield 33, 3) := by decide +kernel
theorem dX6_init_50 : decode cX6_init 50 = .ok (.aload_n 0, 1) := by decide +kernel
theorem dX6_init_51 : decode cX6_init 51 = .ok (.getfield 9, 3) := by decide +kernel
theorem dX6_init_54 : decode cX6_init 54 = .ok (.iconst 0, 1) := by decide +kernel
theorem dX6_init_55 : decode cX6_init 55 = .ok (.bipush 44, 2) := by decide +kernel
theorem dX6_init_57 : decode cX6_init 57 = .ok (.iastore, 1) := by decide +kernel
theorem dX6_init_58 : decode cX6_init 58 = .ok (.aload_n 0, 1) := by decide +kernel
theorem dX6_init_59 : decode cX6_init 59 = .ok (.getfield 9, 3) := by decide +kernel
theorem dX6_init_62 : decode cX6_init 62 = .ok (.iconst 1, 1) := by decide +kernel
theorem dX6_init_63 : decode cX6_init 63 = .ok (.bipush 34, 2) := by decide +kernel
theorem dX6_init_65 : decode cX6_init 65 = .ok (.iastore, 1) := by decide +kernel
theorem dX6_init_66 : decode cX6_init 66 = .ok (.aload_n 0, 1) := by decide +kernel
theorem dX6_init_67 : decode cX6_init 67 = .ok (.getfield 9, 3) := by decide +kernel
theorem dX6_init_70 : decode cX6_init 70 = .ok (.iconst 2, 1) := by decide +kernel
theorem dX6_init_71 : decode cX6_init 71 = .ok (.iconst 1, 1) := by decide +kernel
theorem dX6_init_72 : decode cX6_init 72 = .ok (.iastore, 1) := by decide +kernel
theorem dX6_init_73 : decode cX6_init 73 = .ok (.return_, 1) := by decide +kernel
set_option maxHeartbeats 4000000 in
set_option maxRecDepth 100000 in
theorem c_X6_isPlace_t (l : Launch) (D : va_G) (κ : Nat → ClassId) (κq : Nat → Nat) (t : Nat) (ht : t < 3) : Er l yX6_isPlace (wl yX6_isPlace cX6_isPlace 1 (some .boolean)) { frames := 0, cells := 0, slots := 0, locals := 0 } D κ κq [.int (nI t)] [] (fun _ : Unit => some (.int 1)) (fun _ : Unit => True) := by
  refine er_of (by decide +kernel) (Nat.le_of_ble_eq_true rfl) ?_
  intro p e s m args below meth c A ls hx hb hr hml hts hown hlk hKK hK hP hE hl
  have hS : va_S A s.heap s.heap [] := va_S.rf
  have hP : va_P D vwCl ([] ++ []) s.heap := hP
  have hFX : FX p s m args c cX6_isPlace 1 RX6 := ⟨hx, hb, hml, hown, hts⟩
  have hl : lv_has ls 1 [(0, .int (nI t))] := hl
  refine lv_iload_n hx hb dX6_isPlace_0 rfl (lv_at hl 0 rfl) ?_
  refine lv_if_lt (tgt := 13) hx hb dX6_isPlace_1 (by decide) (fun c_1 => ?_) (fun c_1 => ?_)
  · have nc_1 := cv_lt (a := t) (b := 0) (by omega) (by omega) c_1
    omega
  · have nc_1 := cv_nlt (a := t) (b := 0) (by omega) (by omega) c_1
    refine lv_iload_n hx hb dX6_isPlace_4 rfl (lv_at hl 0 rfl) ?_
    refine lv_iconst (v := 3) hx hb dX6_isPlace_5 (by decide) ?_
    refine lv_icmp_ge (tgt := 13) hx hb dX6_isPlace_6 (by decide) (fun c_2 => ?_) (fun c_2 => ?_)
    · have nc_2 := cv_le (a := 3) (b := t) (by omega) (by omega) c_2
      omega
    · have nc_2 := cv_nle (a := 3) (b := t) (by omega) (by omega) c_2
      refine lv_iconst (v := 1) hx hb dX6_isPlace_9 (by decide) ?_
      refine lv_goto (tgt := 14) hx hb dX6_isPlace_10 (by decide) ?_
      exact cr_iret hx hb hr hlk rfl () rfl trivial dX6_isPlace_14
set_option maxHeartbeats 4000000 in
set_option maxRecDepth 100000 in
theorem c_X6_isPlace_x (l : Launch) (D : va_G) (κ : Nat → ClassId) (κq : Nat → Nat) (za : Int32) (hnp : ¬ (0 ≤ za.toInt ∧ za.toInt < 3)) : Er l yX6_isPlace (wl yX6_isPlace cX6_isPlace 1 (some .boolean)) { frames := 0, cells := 0, slots := 0, locals := 0 } D κ κq [.int za] [] (fun _ : Unit => some (.int 0)) (fun _ : Unit => True) := by
  refine er_of (by decide +kernel) (Nat.le_of_ble_eq_true rfl) ?_
  intro p e s m args below meth c A ls hx hb hr hml hts hown hlk hKK hK hP hE hl
  have hS : va_S A s.heap s.heap [] := va_S.rf
  have hP : va_P D vwCl ([] ++ []) s.heap := hP
  have hFX : FX p s m args c cX6_isPlace 1 RX6 := ⟨hx, hb, hml, hown, hts⟩
  have hl : lv_has ls 1 [(0, .int za)] := hl
  refine lv_iload_n hx hb dX6_isPlace_0 rfl (lv_at hl 0 rfl) ?_
  refine lv_if_lt (tgt := 13) hx hb dX6_isPlace_1 (by decide) (fun c_1 => ?_) (fun c_1 => ?_)
  · have nc_1 := cz_lt (a := za.toInt) (b := (0 : Int)) rfl (by decide) c_1
    refine lv_iconst (v := 0) hx hb dX6_isPlace_13 (by decide) ?_
    exact cr_iret hx hb hr hlk rfl () rfl trivial dX6_isPlace_14
  · have nc_1 := cz_nlt (a := za.toInt) (b := (0 : Int)) rfl (by decide) c_1
    refine lv_iload_n hx hb dX6_isPlace_4 rfl (lv_at hl 0 rfl) ?_
    refine lv_iconst (v := 3) hx hb dX6_isPlace_5 (by decide) ?_
    refine lv_icmp_ge (tgt := 13) hx hb dX6_isPlace_6 (by decide) (fun c_2 => ?_) (fun c_2 => ?_)
    · have nc_2 := cz_le (a := (3 : Int)) (b := za.toInt) (by decide) rfl c_2
      refine lv_iconst (v := 0) hx hb dX6_isPlace_13 (by decide) ?_
      exact cr_iret hx hb hr hlk rfl () rfl trivial dX6_isPlace_14
    · have nc_2 := cz_nle (a := (3 : Int)) (b := za.toInt) (by decide) rfl c_2
      omega
set_option maxHeartbeats 4000000 in
set_option maxRecDepth 100000 in
theorem c_X6_isPlace_o (l : Launch) (D : va_G) (κ : Nat → ClassId) (κq : Nat → Nat) (za : Int32) : Er l yX6_isPlace (wl yX6_isPlace cX6_isPlace 1 (some .boolean)) { frames := 0, cells := 0, slots := 0, locals := 0 } D κ κq [.int za] [] (fun r : Int32 => some (.int r)) (fun r : Int32 => ((r = 1 ∧ (∃ t : Nat, t < 3 ∧ za = nI t)) ∨ (r = 0))) := by
  refine er_of (by decide +kernel) (Nat.le_of_ble_eq_true rfl) ?_
  intro p e s m args below meth c A ls hx hb hr hml hts hown hlk hKK hK hP hE hl
  have hS : va_S A s.heap s.heap [] := va_S.rf
  have hP : va_P D vwCl ([] ++ []) s.heap := hP
  have hFX : FX p s m args c cX6_isPlace 1 RX6 := ⟨hx, hb, hml, hown, hts⟩
  have hl : lv_has ls 1 [(0, .int za)] := hl
  refine lv_iload_n hx hb dX6_isPlace_0 rfl (lv_at hl 0 rfl) ?_
  refine lv_if_lt (tgt := 13) hx hb dX6_isPlace_1 (by decide) (fun c_1 => ?_) (fun c_1 => ?_)
  · have nc_1 := cz_lt (a := za.toInt) (b := (0 : Int)) rfl (by decide) c_1
    refine lv_iconst (v := 0) hx hb dX6_isPlace_13 (by decide) ?_
    exact cr_iret hx hb hr hlk rfl 0 rfl (by exact Or.inr ((rfl))) dX6_isPlace_14
  · have nc_1 := cz_nlt (a := za.toInt) (b := (0 : Int)) rfl (by decide) c_1
    refine lv_iload_n hx hb dX6_isPlace_4 rfl (lv_at hl 0 rfl) ?_
    refine lv_iconst (v := 3) hx hb dX6_isPlace_5 (by decide) ?_
    refine lv_icmp_ge (tgt := 13) hx hb dX6_isPlace_6 (by decide) (fun c_2 => ?_) (fun c_2 => ?_)
    · have nc_2 := cz_le (a := (3 : Int)) (b := za.toInt) (by decide) rfl c_2
      refine lv_iconst (v := 0) hx hb dX6_isPlace_13 (by decide) ?_
      exact cr_iret hx hb hr hlk rfl 0 rfl (by exact Or.inr ((rfl))) dX6_isPlace_14
    · have nc_2 := cz_nle (a := (3 : Int)) (b := za.toInt) (by decide) rfl c_2
      refine lv_iconst (v := 1) hx hb dX6_isPlace_9 (by decide) ?_
      refine lv_goto (tgt := 14) hx hb dX6_isPlace_10 (by decide) ?_
      exact cr_iret hx hb hr hlk rfl 1 rfl (by exact Or.inl (⟨rfl, (show ∃ t : Nat, t < 3 ∧ za = nI t from (in_nat (by omega) (by omega)))⟩)) dX6_isPlace_14
set_option maxHeartbeats 4000000 in
set_option maxRecDepth 100000 in
theorem c_X6_sheetOf_s (l : Launch) (D : va_G) (κ : Nat → ClassId) (κq : Nat → Nat) (st : Nat) (d : Nat) (sh : Nat) (vw : Nat) (ta : Nat) (sa : Nat) (n : Nat) (fs : Nat → Option Nat) (t : Nat) (a : Nat) (ht : t < 3) (es : fs t = some a) : Er l yX6_sheetOf (wl yX6_sheetOf cX6_sheetOf 2 (some (.object "TypedTables$Sheet"))) { frames := 1, cells := 0, slots := 0, locals := 20 } D κ κq [.ref st, .int (nI t)] [(st, .inr (6, [.ref d, .ref sh, .ref vw, .ref ta, .ref sa, .int (nI n)])), (sh, .inl (κ 4, 3, .inr (.inr (.inr (.inr fs)))))] (fun _ : Unit => some (.ref a)) (fun _ : Unit => True) := by
  refine er_of (by decide +kernel) (Nat.le_of_ble_eq_true rfl) ?_
  intro p e s m args below meth c A ls hx hb hr hml hts hown hlk hKK hK hP hE hl
  have hS : va_S A s.heap s.heap [] := va_S.rf
  have hP : va_P D vwCl ([(st, .inr (6, [.ref d, .ref sh, .ref vw, .ref ta, .ref sa, .int (nI n)])), (sh, .inl (κ 4, 3, .inr (.inr (.inr (.inr fs)))))] ++ []) s.heap := hP
  have hFX : FX p s m args c cX6_sheetOf 2 RX6 := ⟨hx, hb, hml, hown, hts⟩
  have hl : lv_has ls 2 [(0, .ref st), (1, .int (nI t))] := hl
  refine lv_iload_n hx hb dX6_sheetOf_0 rfl (lv_at hl 1 rfl) ?_
  refine er_S (As := [.int (nI t)]) (rest := []) hFX hKK hE hS (c_X6_isPlace_t l D κ κq t (by omega)) 1 gS_X6_37 hdS_X6_isPlace rfl rfl ⟨Nat.le_of_ble_eq_true rfl, Nat.le_of_ble_eq_true rfl⟩ rfl rfl (Nat.le_of_ble_eq_true rfl) dX6_sheetOf_1 ⟨Nat.le_of_ble_eq_true rfl, Nat.le_of_ble_eq_true rfl⟩ hl.1 (subP0 hP [] rfl) (fun _ hp_1 => ?_)
  refine W.eq (g2 := F0 m 4 ls [.int 1]) rfl ?_
  refine lv_if_eq (tgt := 16) hx hb dX6_sheetOf_4 (by decide) (fun c_2 => absurd c_2 (by decide)) (fun c_2 => ?_)
  refine lv_aload_n hx hb dX6_sheetOf_7 rfl (lv_at hl 0 rfl) ?_
  refine va_get (D := D) (ci := 6) (v := .ref sh) (C := RX6) (T := TX6) (N := 6) hx hb hts inlX6 hown hK hP 0 rfl rfl 1 (by decide) (hts _ mw_42) (fun _ h9 => h9) rfl dX6_sheetOf_8 ?_
  refine lv_iload_n hx hb dX6_sheetOf_11 rfl (lv_at hl 1 rfl) ?_
  refine va_aldq hx hb hK hP 1 4 rfl rfl (i := nI t) (vp_in_nI (n := t) (by omega) (by omega)) dX6_sheetOf_12 ?_
  refine kv (v := .ref a) (by rw [nI_clamp (by omega)]; rw [es]; rfl) ?_
  refine lv_goto (tgt := 17) hx hb dX6_sheetOf_13 (by decide) ?_
  exact cr_aret hx hb hr (by first | exact Or.inl ⟨_, rfl⟩ | exact Or.inr ⟨_, rfl⟩) hlk (by first | exact Or.inl rfl | exact Or.inr ⟨_, rfl⟩) () rfl trivial dX6_sheetOf_17
set_option maxHeartbeats 4000000 in
set_option maxRecDepth 100000 in
theorem c_X6_sheetOf_n (l : Launch) (D : va_G) (κ : Nat → ClassId) (κq : Nat → Nat) (st : Nat) (d : Nat) (sh : Nat) (vw : Nat) (ta : Nat) (sa : Nat) (n : Nat) (fs : Nat → Option Nat) (t : Nat) (ht : t < 3) (es : fs t = none) : Er l yX6_sheetOf (wl yX6_sheetOf cX6_sheetOf 2 (some (.object "TypedTables$Sheet"))) { frames := 1, cells := 0, slots := 0, locals := 20 } D κ κq [.ref st, .int (nI t)] [(st, .inr (6, [.ref d, .ref sh, .ref vw, .ref ta, .ref sa, .int (nI n)])), (sh, .inl (κ 4, 3, .inr (.inr (.inr (.inr fs)))))] (fun _ : Unit => some (.null)) (fun _ : Unit => True) := by
  refine er_of (by decide +kernel) (Nat.le_of_ble_eq_true rfl) ?_
  intro p e s m args below meth c A ls hx hb hr hml hts hown hlk hKK hK hP hE hl
  have hS : va_S A s.heap s.heap [] := va_S.rf
  have hP : va_P D vwCl ([(st, .inr (6, [.ref d, .ref sh, .ref vw, .ref ta, .ref sa, .int (nI n)])), (sh, .inl (κ 4, 3, .inr (.inr (.inr (.inr fs)))))] ++ []) s.heap := hP
  have hFX : FX p s m args c cX6_sheetOf 2 RX6 := ⟨hx, hb, hml, hown, hts⟩
  have hl : lv_has ls 2 [(0, .ref st), (1, .int (nI t))] := hl
  refine lv_iload_n hx hb dX6_sheetOf_0 rfl (lv_at hl 1 rfl) ?_
  refine er_S (As := [.int (nI t)]) (rest := []) hFX hKK hE hS (c_X6_isPlace_t l D κ κq t (by omega)) 1 gS_X6_37 hdS_X6_isPlace rfl rfl ⟨Nat.le_of_ble_eq_true rfl, Nat.le_of_ble_eq_true rfl⟩ rfl rfl (Nat.le_of_ble_eq_true rfl) dX6_sheetOf_1 ⟨Nat.le_of_ble_eq_true rfl, Nat.le_of_ble_eq_true rfl⟩ hl.1 (subP0 hP [] rfl) (fun _ hp_1 => ?_)
  refine W.eq (g2 := F0 m 4 ls [.int 1]) rfl ?_
  refine lv_if_eq (tgt := 16) hx hb dX6_sheetOf_4 (by decide) (fun c_2 => absurd c_2 (by decide)) (fun c_2 => ?_)
  refine lv_aload_n hx hb dX6_sheetOf_7 rfl (lv_at hl 0 rfl) ?_
  refine va_get (D := D) (ci := 6) (v := .ref sh) (C := RX6) (T := TX6) (N := 6) hx hb hts inlX6 hown hK hP 0 rfl rfl 1 (by decide) (hts _ mw_42) (fun _ h9 => h9) rfl dX6_sheetOf_8 ?_
  refine lv_iload_n hx hb dX6_sheetOf_11 rfl (lv_at hl 1 rfl) ?_
  refine va_aldq hx hb hK hP 1 4 rfl rfl (i := nI t) (vp_in_nI (n := t) (by omega) (by omega)) dX6_sheetOf_12 ?_
  refine kv (v := .null) (by rw [nI_clamp (by omega)]; rw [es]; rfl) ?_
  refine lv_goto (tgt := 17) hx hb dX6_sheetOf_13 (by decide) ?_
  exact cr_aret hx hb hr (by first | exact Or.inl ⟨_, rfl⟩ | exact Or.inr ⟨_, rfl⟩) hlk (by first | exact Or.inl rfl | exact Or.inr ⟨_, rfl⟩) () rfl trivial dX6_sheetOf_17
set_option maxHeartbeats 4000000 in
set_option maxRecDepth 100000 in
theorem c_X6_sheetOf_x (l : Launch) (D : va_G) (κ : Nat → ClassId) (κq : Nat → Nat) (st : Nat) (d : Nat) (sh : Nat) (vw : Nat) (ta : Nat) (sa : Nat) (n : Nat) (za : Int32) (hnp : ¬ (0 ≤ za.toInt ∧ za.toInt < 3)) : Er l yX6_sheetOf (wl yX6_sheetOf cX6_sheetOf 2 (some (.object "TypedTables$Sheet"))) { frames := 1, cells := 0, slots := 0, locals := 20 } D κ κq [.ref st, .int za] [(st, .inr (6, [.ref d, .ref sh, .ref vw, .ref ta, .ref sa, .int (nI n)]))] (fun _ : Unit => some (.null)) (fun _ : Unit => True) := by
  refine er_of (by decide +kernel) (Nat.le_of_ble_eq_true rfl) ?_
  intro p e s m args below meth c A ls hx hb hr hml hts hown hlk hKK hK hP hE hl
  have hS : va_S A s.heap s.heap [] := va_S.rf
  have hP : va_P D vwCl ([(st, .inr (6, [.ref d, .ref sh, .ref vw, .ref ta, .ref sa, .int (nI n)]))] ++ []) s.heap := hP
  have hFX : FX p s m args c cX6_sheetOf 2 RX6 := ⟨hx, hb, hml, hown, hts⟩
  have hl : lv_has ls 2 [(0, .ref st), (1, .int za)] := hl
  refine lv_iload_n hx hb dX6_sheetOf_0 rfl (lv_at hl 1 rfl) ?_
  refine er_S (As := [.int za]) (rest := []) hFX hKK hE hS (c_X6_isPlace_x l D κ κq za (by assumption)) 1 gS_X6_37 hdS_X6_isPlace rfl rfl ⟨Nat.le_of_ble_eq_true rfl, Nat.le_of_ble_eq_true rfl⟩ rfl rfl (Nat.le_of_ble_eq_true rfl) dX6_sheetOf_1 ⟨Nat.le_of_ble_eq_true rfl, Nat.le_of_ble_eq_true rfl⟩ hl.1 (subP0 hP [] rfl) (fun _ hp_1 => ?_)
  refine W.eq (g2 := F0 m 4 ls [.int 0]) rfl ?_
  refine lv_if_eq (tgt := 16) hx hb dX6_sheetOf_4 (by decide) (fun c_2 => ?_) (fun c_2 => absurd (by decide) c_2)
  refine lv_null hx hb dX6_sheetOf_16 ?_
  exact cr_aret hx hb hr (by first | exact Or.inl ⟨_, rfl⟩ | exact Or.inr ⟨_, rfl⟩) hlk (by first | exact Or.inl rfl | exact Or.inr ⟨_, rfl⟩) () rfl trivial dX6_sheetOf_17
set_option maxHeartbeats 4000000 in
set_option maxRecDepth 100000 in
theorem c_X6_topOf_s (l : Launch) (D : va_G) (κ : Nat → ClassId) (κq : Nat → Nat) (st : Nat) (d : Nat) (sh : Nat) (vw : Nat) (ta : Nat) (sa : Nat) (n : Nat) (fv : Nat → Option Nat) (t : Nat) (v : Nat) (ht : t < 3) (ev : fv t = some v) : Er l yX6_topOf (wl yX6_topOf cX6_topOf 2 (some (.object "TypedTables$View"))) { frames := 1, cells := 0, slots := 0, locals := 20 } D κ κq [.ref st, .int (nI t)] [(st, .inr (6, [.ref d, .ref sh, .ref vw, .ref ta, .ref sa, .int (nI n)])), (vw, .inl (κ 5, 3, .inr (.inr (.inr (.inr fv)))))] (fun _ : Unit => some (.ref v)) (fun _ : Unit => True) := by
  refine er_of (by decide +kernel) (Nat.le_of_ble_eq_true rfl) ?_
  intro p e s m args below meth c A ls hx hb hr hml hts hown hlk hKK hK hP hE hl
  have hS : va_S A s.heap s.heap [] := va_S.rf
  have hP : va_P D vwCl ([(st, .inr (6, [.ref d, .ref sh, .ref vw, .ref ta, .ref sa, .int (nI n)])), (vw, .inl (κ 5, 3, .inr (.inr (.inr (.inr fv)))))] ++ []) s.heap := hP
  have hFX : FX p s m args c cX6_topOf 2 RX6 := ⟨hx, hb, hml, hown, hts⟩
  have hl : lv_has ls 2 [(0, .ref st), (1, .int (nI t))] := hl
  refine lv_iload_n hx hb dX6_topOf_0 rfl (lv_at hl 1 rfl) ?_
  refine er_S (As := [.int (nI t)]) (rest := []) hFX hKK hE hS (c_X6_isPlace_t l D κ κq t (by omega)) 1 gS_X6_37 hdS_X6_isPlace rfl rfl ⟨Nat.le_of_ble_eq_true rfl, Nat.le_of_ble_eq_true rfl⟩ rfl rfl (Nat.le_of_ble_eq_true rfl) dX6_topOf_1 ⟨Nat.le_of_ble_eq_true rfl, Nat.le_of_ble_eq_true rfl⟩ hl.1 (subP0 hP [] rfl) (fun _ hp_1 => ?_)
  refine W.eq (g2 := F0 m 4 ls [.int 1]) rfl ?_
  refine lv_if_eq (tgt := 16) hx hb dX6_topOf_4 (by decide) (fun c_2 => absurd c_2 (by decide)) (fun c_2 => ?_)
  refine lv_aload_n hx hb dX6_topOf_7 rfl (lv_at hl 0 rfl) ?_
  refine va_get (D := D) (ci := 6) (v := .ref vw) (C := RX6) (T := TX6) (N := 6) hx hb hts inlX6 hown hK hP 0 rfl rfl 2 (by decide) (hts _ mw_44) (fun _ h9 => h9) rfl dX6_topOf_8 ?_
  refine lv_iload_n hx hb dX6_topOf_11 rfl (lv_at hl 1 rfl) ?_
  refine va_aldq hx hb hK hP 1 5 rfl rfl (i := nI t) (vp_in_nI (n := t) (by omega) (by omega)) dX6_topOf_12 ?_
  refine kv (v := .ref v) (by rw [nI_clamp (by omega)]; rw [ev]; rfl) ?_
  refine lv_goto (tgt := 17) hx hb dX6_topOf_13 (by decide) ?_
  exact cr_aret hx hb hr (by first | exact Or.inl ⟨_, rfl⟩ | exact Or.inr ⟨_, rfl⟩) hlk (by first | exact Or.inl rfl | exact Or.inr ⟨_, rfl⟩) () rfl trivial dX6_topOf_17
set_option maxHeartbeats 4000000 in
set_option maxRecDepth 100000 in
theorem c_X6_topOf_n (l : Launch) (D : va_G) (κ : Nat → ClassId) (κq : Nat → Nat) (st : Nat) (d : Nat) (sh : Nat) (vw : Nat) (ta : Nat) (sa : Nat) (n : Nat) (fv : Nat → Option Nat) (t : Nat) (ht : t < 3) (ev : fv t = none) : Er l yX6_topOf (wl yX6_topOf cX6_topOf 2 (some (.object "TypedTables$View"))) { frames := 1, cells := 0, slots := 0, locals := 20 } D κ κq [.ref st, .int (nI t)] [(st, .inr (6, [.ref d, .ref sh, .ref vw, .ref ta, .ref sa, .int (nI n)])), (vw, .inl (κ 5, 3, .inr (.inr (.inr (.inr fv)))))] (fun _ : Unit => some (.null)) (fun _ : Unit => True) := by
  refine er_of (by decide +kernel) (Nat.le_of_ble_eq_true rfl) ?_
  intro p e s m args below meth c A ls hx hb hr hml hts hown hlk hKK hK hP hE hl
  have hS : va_S A s.heap s.heap [] := va_S.rf
  have hP : va_P D vwCl ([(st, .inr (6, [.ref d, .ref sh, .ref vw, .ref ta, .ref sa, .int (nI n)])), (vw, .inl (κ 5, 3, .inr (.inr (.inr (.inr fv)))))] ++ []) s.heap := hP
  have hFX : FX p s m args c cX6_topOf 2 RX6 := ⟨hx, hb, hml, hown, hts⟩
  have hl : lv_has ls 2 [(0, .ref st), (1, .int (nI t))] := hl
  refine lv_iload_n hx hb dX6_topOf_0 rfl (lv_at hl 1 rfl) ?_
  refine er_S (As := [.int (nI t)]) (rest := []) hFX hKK hE hS (c_X6_isPlace_t l D κ κq t (by omega)) 1 gS_X6_37 hdS_X6_isPlace rfl rfl ⟨Nat.le_of_ble_eq_true rfl, Nat.le_of_ble_eq_true rfl⟩ rfl rfl (Nat.le_of_ble_eq_true rfl) dX6_topOf_1 ⟨Nat.le_of_ble_eq_true rfl, Nat.le_of_ble_eq_true rfl⟩ hl.1 (subP0 hP [] rfl) (fun _ hp_1 => ?_)
  refine W.eq (g2 := F0 m 4 ls [.int 1]) rfl ?_
  refine lv_if_eq (tgt := 16) hx hb dX6_topOf_4 (by decide) (fun c_2 => absurd c_2 (by decide)) (fun c_2 => ?_)
  refine lv_aload_n hx hb dX6_topOf_7 rfl (lv_at hl 0 rfl) ?_
  refine va_get (D := D) (ci := 6) (v := .ref vw) (C := RX6) (T := TX6) (N := 6) hx hb hts inlX6 hown hK hP 0 rfl rfl 2 (by decide) (hts _ mw_44) (fun _ h9 => h9) rfl dX6_topOf_8 ?_
  refine lv_iload_n hx hb dX6_topOf_11 rfl (lv_at hl 1 rfl) ?_
  refine va_aldq hx hb hK hP 1 5 rfl rfl (i := nI t) (vp_in_nI (n := t) (by omega) (by omega)) dX6_topOf_12 ?_
  refine kv (v := .null) (by rw [nI_clamp (by omega)]; rw [ev]; rfl) ?_
  refine lv_goto (tgt := 17) hx hb dX6_topOf_13 (by decide) ?_
  exact cr_aret hx hb hr (by first | exact Or.inl ⟨_, rfl⟩ | exact Or.inr ⟨_, rfl⟩) hlk (by first | exact Or.inl rfl | exact Or.inr ⟨_, rfl⟩) () rfl trivial dX6_topOf_17
set_option maxHeartbeats 4000000 in
set_option maxRecDepth 100000 in
theorem c_X6_topOf_x (l : Launch) (D : va_G) (κ : Nat → ClassId) (κq : Nat → Nat) (st : Nat) (d : Nat) (sh : Nat) (vw : Nat) (ta : Nat) (sa : Nat) (n : Nat) (za : Int32) (hnp : ¬ (0 ≤ za.toInt ∧ za.toInt < 3)) : Er l yX6_topOf (wl yX6_topOf cX6_topOf 2 (some (.object "TypedTables$View"))) { frames := 1, cells := 0, slots := 0, locals := 20 } D κ κq [.ref st, .int za] [(st, .inr (6, [.ref d, .ref sh, .ref vw, .ref ta, .ref sa, .int (nI n)]))] (fun _ : Unit => some (.null)) (fun _ : Unit => True) := by
  refine er_of (by decide +kernel) (Nat.le_of_ble_eq_true rfl) ?_
  intro p e s m args below meth c A ls hx hb hr hml hts hown hlk hKK hK hP hE hl
  have hS : va_S A s.heap s.heap [] := va_S.rf
  have hP : va_P D vwCl ([(st, .inr (6, [.ref d, .ref sh, .ref vw, .ref ta, .ref sa, .int (nI n)]))] ++ []) s.heap := hP
  have hFX : FX p s m args c cX6_topOf 2 RX6 := ⟨hx, hb, hml, hown, hts⟩
  have hl : lv_has ls 2 [(0, .ref st), (1, .int za)] := hl
  refine lv_iload_n hx hb dX6_topOf_0 rfl (lv_at hl 1 rfl) ?_
  refine er_S (As := [.int za]) (rest := []) hFX hKK hE hS (c_X6_isPlace_x l D κ κq za (by assumption)) 1 gS_X6_37 hdS_X6_isPlace rfl rfl ⟨Nat.le_of_ble_eq_true rfl, Nat.le_of_ble_eq_true rfl⟩ rfl rfl (Nat.le_of_ble_eq_true rfl) dX6_topOf_1 ⟨Nat.le_of_ble_eq_true rfl, Nat.le_of_ble_eq_true rfl⟩ hl.1 (subP0 hP [] rfl) (fun _ hp_1 => ?_)
  refine W.eq (g2 := F0 m 4 ls [.int 0]) rfl ?_
  refine lv_if_eq (tgt := 16) hx hb dX6_topOf_4 (by decide) (fun c_2 => ?_) (fun c_2 => absurd (by decide) c_2)
  refine lv_null hx hb dX6_topOf_16 ?_
  exact cr_aret hx hb hr (by first | exact Or.inl ⟨_, rfl⟩ | exact Or.inr ⟨_, rfl⟩) hlk (by first | exact Or.inl rfl | exact Or.inr ⟨_, rfl⟩) () rfl trivial dX6_topOf_17
set_option maxHeartbeats 4000000 in
set_option maxRecDepth 100000 in
theorem c_X6_canStack_s (l : Launch) (D : va_G) (κ : Nat → ClassId) (κq : Nat → Nat) (im : va_W) (st : Nat) (d : Nat) (sh : Nat) (vw : Nat) (ta : Nat) (sa : Nat) (n : Nat) (fv : Nat → Option Nat) (t : Nat) (v : Nat) (vd : Nat) (R : Nat) (ht : t < 3) (ev : fv t = some v) (hv : Vw κ im vd v R) (hd6 : vd ≤ 6) : Er l yX6_canStack (wl yX6_canStack cX6_canStack 3 (some .boolean)) { frames := 2, cells := 0, slots := 0, locals := 41 } D κ κq [.ref st, .int (nI t)] ([(st, .inr (6, [.ref d, .ref sh, .ref vw, .ref ta, .ref sa, .int (nI n)])), (vw, .inl (κ 5, 3, .inr (.inr (.inr (.inr fv)))))] ++ im) (fun r : Int32 => some (.int r)) (fun r : Int32 => ((r = 1 ∧ vd ≤ 5) ∨ (r = 0))) := by
  refine er_of (by decide +kernel) (Nat.le_of_ble_eq_true rfl) ?_
  intro p e s m args below meth c A ls hx hb hr hml hts hown hlk hKK hK hP hE hl
  have hS : va_S A s.heap s.heap [] := va_S.rf
  have hP : va_P D vwCl ([(st, .inr (6, [.ref d, .ref sh, .ref vw, .ref ta, .ref sa, .int (nI n)])), (vw, .inl (κ 5, 3, .inr (.inr (.inr (.inr fv)))))] ++ im) s.heap := hP
  have hFX : FX p s m args c cX6_canStack 3 RX6 := ⟨hx, hb, hml, hown, hts⟩
  have hl : lv_has ls 3 [(0, .ref st), (1, .int (nI t))] := hl
  refine lv_aload_n hx hb dX6_canStack_0 rfl (lv_at hl 0 rfl) ?_
  refine lv_iload_n hx hb dX6_canStack_1 rfl (lv_at hl 1 rfl) ?_
  refine er_V (As := [.int (nI t)]) (rest := []) hFX hKK hE hS (c_X6_topOf_s l D κ κq st d sh vw ta sa n fv t v (by omega) ev) 1 gV_X6_45 hdV_X6_topOf rfl rfl ⟨Nat.le_of_ble_eq_true rfl, Nat.le_of_ble_eq_true rfl⟩ rfl rfl (Nat.le_of_ble_eq_true rfl) dX6_canStack_2 ⟨Nat.le_of_ble_eq_true rfl, Nat.le_of_ble_eq_true rfl⟩ hl.1 hP 0 6 rfl rfl rfl (subP0 hP [0, 1] rfl) (fun _ hp_1 => ?_)
  refine W.eq (g2 := F0 m 5 ls [.ref v]) rfl ?_
  refine lv_astore_n (lv' := [(2, .ref v), (0, .ref st), (1, .int (nI t))]) hx hb dX6_canStack_5 rfl hl (by decide) rfl (fun ls hl => ?_)
  refine lv_aload_n hx hb dX6_canStack_6 rfl (lv_at hl 0 rfl) ?_
  refine lv_ifnull hx hb dX6_canStack_7 ?_
  refine lv_aload_n hx hb dX6_canStack_10 rfl (lv_at hl 0 rfl) ?_
  obtain ⟨r_2, n_3, u_4, hm_5, ix_6⟩ := Vw_cell hv
  refine va_get (D := D) (ci := 9) (v := .int (nI vd)) (C := RX9) (T := TX9) (N := 3) hx hb hts inlX9 hown hK (oneP (C := [(st, .inr (6, [.ref d, .ref sh, .ref vw, .ref ta, .ref sa, .int (nI n)])), (vw, .inl (κ 5, 3, .inr (.inr (.inr (.inr fv)))))]) hP hm_5) 0 rfl rfl 2 (by decide) (hts _ mw_988) (fun _ h9 => h9) rfl dX6_canStack_11 ?_
  refine lv_bipush (v := 6) hx hb dX6_canStack_14 (by decide) ?_
  refine lv_icmp_ge (tgt := 23) hx hb dX6_canStack_16 (by decide) (fun c_7 => ?_) (fun c_7 => ?_)
  · have nc_7 := cv_le (a := 6) (b := vd) (by omega) (by omega) c_7
    refine lv_iconst (v := 0) hx hb dX6_canStack_23 (by decide) ?_
    exact cr_iret hx hb hr hlk rfl 0 rfl (by exact Or.inr ((rfl))) dX6_canStack_24
  · have nc_7 := cv_nle (a := 6) (b := vd) (by omega) (by omega) c_7
    refine lv_iconst (v := 1) hx hb dX6_canStack_19 (by decide) ?_
    refine lv_goto (tgt := 24) hx hb dX6_canStack_20 (by decide) ?_
    exact cr_iret hx hb hr hlk rfl 1 rfl (by exact Or.inl (⟨rfl, (show vd ≤ 5 from (by first | assumption | omega | rfl | exact Or.inl (by assumption) | exact Or.inr (by assumption)))⟩)) dX6_canStack_24
set_option maxHeartbeats 4000000 in
set_option maxRecDepth 100000 in
theorem c_X6_canStack_n (l : Launch) (D : va_G) (κ : Nat → ClassId) (κq : Nat → Nat) (st : Nat) (d : Nat) (sh : Nat) (vw : Nat) (ta : Nat) (sa : Nat) (n : Nat) (fv : Nat → Option Nat) (t : Nat) (ht : t < 3) (ev : fv t = none) : Er l yX6_canStack (wl yX6_canStack cX6_canStack 3 (some .boolean)) { frames := 2, cells := 0, slots := 0, locals := 41 } D κ κq [.ref st, .int (nI t)] [(st, .inr (6, [.ref d, .ref sh, .ref vw, .ref ta, .ref sa, .int (nI n)])), (vw, .inl (κ 5, 3, .inr (.inr (.inr (.inr fv)))))] (fun _ : Unit => some (.int 0)) (fun _ : Unit => True) := by
  refine er_of (by decide +kernel) (Nat.le_of_ble_eq_true rfl) ?_
  intro p e s m args below meth c A ls hx hb hr hml hts hown hlk hKK hK hP hE hl
  have hS : va_S A s.heap s.heap [] := va_S.rf
  have hP : va_P D vwCl ([(st, .inr (6, [.ref d, .ref sh, .ref vw, .ref ta, .ref sa, .int (nI n)])), (vw, .inl (κ 5, 3, .inr (.inr (.inr (.inr fv)))))] ++ []) s.heap := hP
  have hFX : FX p s m args c cX6_canStack 3 RX6 := ⟨hx, hb, hml, hown, hts⟩
  have hl : lv_has ls 3 [(0, .ref st), (1, .int (nI t))] := hl
  refine lv_aload_n hx hb dX6_canStack_0 rfl (lv_at hl 0 rfl) ?_
  refine lv_iload_n hx hb dX6_canStack_1 rfl (lv_at hl 1 rfl) ?_
  refine er_V (As := [.int (nI t)]) (rest := []) hFX hKK hE hS (c_X6_topOf_n l D κ κq st d sh vw ta sa n fv t (by omega) ev) 1 gV_X6_45 hdV_X6_topOf rfl rfl ⟨Nat.le_of_ble_eq_true rfl, Nat.le_of_ble_eq_true rfl⟩ rfl rfl (Nat.le_of_ble_eq_true rfl) dX6_canStack_2 ⟨Nat.le_of_ble_eq_true rfl, Nat.le_of_ble_eq_true rfl⟩ hl.1 hP 0 6 rfl rfl rfl (subP0 hP [0, 1] rfl) (fun _ hp_1 => ?_)
  refine W.eq (g2 := F0 m 5 ls [.null]) rfl ?_
  refine lv_astore_nN (lv' := [(2, .null), (0, .ref st), (1, .int (nI t))]) hx hb dX6_canStack_5 rfl hl (by decide) rfl (fun ls hl => ?_)
  refine lv_aload_nN hx hb dX6_canStack_6 rfl (lv_at hl 0 rfl) ?_
  refine lv_ifnullN (tgt := 23) hx hb dX6_canStack_7 (by decide) ?_
  refine lv_iconst (v := 0) hx hb dX6_canStack_23 (by decide) ?_
  exact cr_iret hx hb hr hlk rfl () rfl trivial dX6_canStack_24
set_option maxHeartbeats 4000000 in
set_option maxRecDepth 100000 in
theorem c_X6_canStack_x (l : Launch) (D : va_G) (κ : Nat → ClassId) (κq : Nat → Nat) (st : Nat) (d : Nat) (sh : Nat) (vw : Nat) (ta : Nat) (sa : Nat) (n : Nat) (za : Int32) (hnp : ¬ (0 ≤ za.toInt ∧ za.toInt < 3)) : Er l yX6_canStack (wl yX6_canStack cX6_canStack 3 (some .boolean)) { frames := 2, cells := 0, slots := 0, locals := 41 } D κ κq [.ref st, .int za] [(st, .inr (6, [.ref d, .ref sh, .ref vw, .ref ta, .ref sa, .int (nI n)]))] (fun _ : Unit => some (.int 0)) (fun _ : Unit => True) := by
  refine er_of (by decide +kernel) (Nat.le_of_ble_eq_true rfl) ?_
  intro p e s m args below meth c A ls hx hb hr hml hts hown hlk hKK hK hP hE hl
  have hS : va_S A s.heap s.heap [] := va_S.rf
  have hP : va_P D vwCl ([(st, .inr (6, [.ref d, .ref sh, .ref vw, .ref ta, .ref sa, .int (nI n)]))] ++ []) s.heap := hP
  have hFX : FX p s m args c cX6_canStack 3 RX6 := ⟨hx, hb, hml, hown, hts⟩
  have hl : lv_has ls 3 [(0, .ref st), (1, .int za)] := hl
  refine lv_aload_n hx hb dX6_canStack_0 rfl (lv_at hl 0 rfl) ?_
  refine lv_iload_n hx hb dX6_canStack_1 rfl (lv_at hl 1 rfl) ?_
  refine er_V (As := [.int za]) (rest := []) hFX hKK hE hS (c_X6_topOf_x l D κ κq st d sh vw ta sa n za (by assumption)) 1 gV_X6_45 hdV_X6_topOf rfl rfl ⟨Nat.le_of_ble_eq_true rfl, Nat.le_of_ble_eq_true rfl⟩ rfl rfl (Nat.le_of_ble_eq_true rfl) dX6_canStack_2 ⟨Nat.le_of_ble_eq_true rfl, Nat.le_of_ble_eq_true rfl⟩ hl.1 hP 0 6 rfl rfl rfl (subP0 hP [0] rfl) (fun _ hp_1 => ?_)
  refine W.eq (g2 := F0 m 5 ls [.null]) rfl ?_
  refine lv_astore_nN (lv' := [(2, .null), (0, .ref st), (1, .int za)]) hx hb dX6_canStack_5 rfl hl (by decide) rfl (fun ls hl => ?_)
  refine lv_aload_nN hx hb dX6_canStack_6 rfl (lv_at hl 0 rfl) ?_
  refine lv_ifnullN (tgt := 23) hx hb dX6_canStack_7 (by decide) ?_
  refine lv_iconst (v := 0) hx hb dX6_canStack_23 (by decide) ?_
  exact cr_iret hx hb hr hlk rfl () rfl trivial dX6_canStack_24
set_option maxHeartbeats 4000000 in
set_option maxRecDepth 100000 in
theorem c_X7_init (l : Launch) (D : va_G) (κ : Nat → ClassId) (κq : Nat → Nat) (im : va_W) (q : Nat) (a : Nat) (R : Nat) (w : Nat) (co : Nat) (ra : Nat) (n : Nat) (hs : Sh κ im a R w) (hco : co < w) (hix : Ix κ im ra n R) : Et l yX7_init (wl yX7_init cX7_init 4 none) { frames := 4, cells := 0, slots := 0, locals := 87 } D κ κq [.ref q, .ref a, .int (nI co), .ref ra] ([(q, .inr (7, [.null, .int 0, .null, .int 0]))] ++ im) (fun u9 : Nat × va_W => none) (fun u9 : Nat × va_W => Sb im u9.2 ∧ Sp κ u9.2 q a R w co ra n u9.1) (fun u9 : Nat × va_W => ([] ++ u9.2)) := by
  refine et_of (by decide +kernel) (Nat.le_of_ble_eq_true rfl) ?_
  intro p e s m args below meth c A ls hx hb hr hml hts hown hlk hin hKK hK hA hP hD hS hE hl
  have hS : va_S A s.heap s.heap [] := hS
  have hP : va_P D vwCl ([(q, .inr (7, [.null, .int 0, .null, .int 0]))] ++ im) s.heap := hP
  have hD : va_D A ([(q, .inr (7, [.null, .int 0, .null, .int 0]))] ++ im) := hD
  have hFX : FX p s m args c cX7_init 4 RX7 := ⟨hx, hb, hml, hown, hts⟩
  have hl : lv_has ls 4 [(0, .ref q), (1, .ref a), (2, .int (nI co)), (3, .ref ra)] := hl
  refine lv_aload_n hx hb dX7_init_0 rfl (lv_at hl 0 rfl) ?_
  refine W.objInit hx hb hown (hts _ mw_805) (hts _ mw_10) (hts _ mw_11) rfl (by rw [hml]; exact hl.1) rfl dX7_init_1 (Nat.le_of_ble_eq_true rfl) (Nat.le_of_ble_eq_true rfl) ?_
  refine W.eq (g2 := F0 m 4 ls []) rfl ?_
  refine lv_aload_n hx hb dX7_init_4 rfl (lv_at hl 0 rfl) ?_
  refine lv_aload_n hx hb dX7_init_5 rfl (lv_at hl 1 rfl) ?_
  refine va_putF (D := D) (ci := 7) (v := .ref a) (ty := tyX7 0) (C := RX7) (T := TX7) (N := 4) hx hb hts inlX7 tyX7 tyX7_ok nmX7 hown hK hP hD hS 0 rfl rfl 0 (by decide) (hts _ mw_806) (fun _ h9 => h9) rfl hin rfl (tyX7_ok 0 (by decide)) rfl rfl (Nat.le_of_ble_eq_true rfl) dX7_init_6 (fun H locs hP hD hS => ?_)
  have hP : va_P D vwCl ([(q, .inr (7, [.ref a, .int 0, .null, .int 0]))] ++ im) H := hP
  have hD : va_D A ([(q, .inr (7, [.ref a, .int 0, .null, .int 0]))] ++ im) := hD
  refine lv_aload_n hx hb dX7_init_9 rfl (lv_at hl 0 rfl) ?_
  refine lv_iload_n hx hb dX7_init_10 rfl (lv_at hl 2 rfl) ?_
  refine va_putF (D := D) (ci := 7) (v := .int (nI co)) (ty := tyX7 1) (C := RX7) (T := TX7) (N := 4) hx hb hts inlX7 tyX7 tyX7_ok nmX7 hown hK hP hD hS 0 rfl rfl 1 (by decide) (hts _ mw_807) (fun _ h9 => h9) rfl hin rfl (tyX7_ok 1 (by decide)) rfl rfl (Nat.le_of_ble_eq_true rfl) dX7_init_11 (fun H locs hP hD hS => ?_)
  have hP : va_P D vwCl ([(q, .inr (7, [.ref a, .int (nI co), .null, .int 0]))] ++ im) H := hP
  have hD : va_D A ([(q, .inr (7, [.ref a, .int (nI co), .null, .int 0]))] ++ im) := hD
  refine lv_aload_n hx hb dX7_init_14 rfl (lv_at hl 0 rfl) ?_
  refine lv_aload_n hx hb dX7_init_15 rfl (lv_at hl 3 rfl) ?_
  refine va_putF (D := D) (ci := 7) (v := .ref ra) (ty := tyX7 2) (C := RX7) (T := TX7) (N := 4) hx hb hts inlX7 tyX7 tyX7_ok nmX7 hown hK hP hD hS 0 rfl rfl 2 (by decide) (hts _ mw_808) (fun _ h9 => h9) rfl hin rfl (tyX7_ok 2 (by decide)) rfl rfl (Nat.le_of_ble_eq_true rfl) dX7_init_16 (fun H locs hP hD hS => ?_)
  have hP : va_P D vwCl ([(q, .inr (7, [.ref a, .int (nI co), .ref ra, .int 0]))] ++ im) H := hP
  have hD : va_D A ([(q, .inr (7, [.ref a, .int (nI co), .ref ra, .int 0]))] ++ im) := hD
  refine lv_aload_n hx hb dX7_init_19 rfl (lv_at hl 0 rfl) ?_
  refine lv_aload_n hx hb dX7_init_20 rfl (lv_at hl 1 rfl) ?_
  refine lv_iload_n hx hb dX7_init_21 rfl (lv_at hl 2 rfl) ?_
  obtain ⟨hb_3, c_4, x_5, v_6, g_7, h_8, hm_9, hm_10, hm_11, lo_12, lc_13, vw_14⟩ := id hs
  obtain ⟨hb_3_1, hb_3_2, hb_3_3⟩ := hb_3
  have hrw_hb_3 := rw_le hb_3_1 hb_3_3
  refine er_V (As := [.int (nI co)]) (rest := [.ref q]) hFX hKK hE hS (c_X5_typeOf l D κ κq im a R w co hs (by omega)) 1 gV_X7_23 hdV_X5_typeOf rfl rfl ⟨Nat.le_of_ble_eq_true rfl, Nat.le_of_ble_eq_true rfl⟩ rfl rfl (Nat.le_of_ble_eq_true rfl) dX7_init_22 ⟨Nat.le_of_ble_eq_true rfl, Nat.le_of_ble_eq_true rfl⟩ hl.1 (oneP (C := [(q, .inr (7, [.ref a, .int (nI co), .ref ra, .int 0]))]) hP hm_9) 0 5 rfl rfl rfl (subP hP [] rfl) (fun r__1 hp_2 => ?_)
  replace hp_2 : r__1 ≤ 5 := hp_2
  have h_15 := hp_2
  clear hp_2
  refine W.eq (g2 := F0 m 25 ls [.int (nI r__1), .ref q]) rfl ?_
  refine va_putF (D := D) (ci := 7) (v := .int (nI r__1)) (ty := tyX7 3) (C := RX7) (T := TX7) (N := 4) hx hb hts inlX7 tyX7 tyX7_ok nmX7 hown hK hP hD hS 0 rfl rfl 3 (by decide) (hts _ mw_809) (fun _ h9 => h9) rfl hin rfl (tyX7_ok 3 (by decide)) rfl rfl (Nat.le_of_ble_eq_true rfl) dX7_init_25 (fun H locs hP hD hS => ?_)
  have hP : va_P D vwCl ([(q, .inr (7, [.ref a, .int (nI co), .ref ra, .int (nI r__1)]))] ++ im) H := hP
  have hD : va_D A ([(q, .inr (7, [.ref a, .int (nI co), .ref ra, .int (nI r__1)]))] ++ im) := hD
  replace hP : va_P D vwCl ([(q, .inr (7, [.ref a, .int (nI co), .ref ra, .int (nI r__1)]))] ++ im) _ := subP hP [0] rfl
  replace hD : va_D A ([(q, .inr (7, [.ref a, .int (nI co), .ref ra, .int (nI r__1)]))] ++ im) := subD hD [0] (by decide) rfl
  obtain ⟨im_16, he_17⟩ : ∃ x9 : va_W, x9 = ([(q, .inr (7, [.ref a, .int (nI co), .ref ra, .int (nI r__1)]))] ++ im) := ⟨_, rfl⟩
  have hs_18 : Sb im im_16 := by rw [he_17]; exact Sb.app
  have hm_q : (q, .inr (7, [.ref a, .int (nI co), .ref ra, .int (nI r__1)])) ∈ im_16 := by rw [he_17]; exact List.mem_of_getElem? (i := 0) rfl
  replace hP : va_P D vwCl ([] ++ ([(q, .inr (7, [.ref a, .int (nI co), .ref ra, .int (nI r__1)]))] ++ im)) _ := hP
  replace hD : va_D A ([] ++ ([(q, .inr (7, [.ref a, .int (nI co), .ref ra, .int (nI r__1)]))] ++ im)) := hD
  rw [← he_17] at hP hD
  clear he_17
  replace hs := hs.up hs_18
  replace hix := hix.up hs_18
  replace lo_12 := lo_12.up hs_18
  replace lc_13 := lc_13.up hs_18
  replace vw_14 := vw_14.up hs_18
  replace hm_9 := hs_18 _ hm_9
  replace hm_10 := hs_18 _ hm_10
  replace hm_11 := hs_18 _ hm_11
  have hf_19 : Sp κ im_16 q a R w co ra n r__1 := ⟨hco, by omega, hm_q, hs, hix⟩
  exact et_vret hx hb hr hlk hS (r__1, im_16) rfl ⟨(show Sb im im_16 from (by first | exact Sb.rf | assumption | exact Sb.tr (by assumption) (by assumption) | exact Sb.tr (by assumption) (Sb.tr (by assumption) (by assumption)))), (show Sp κ im_16 q a R w co ra n r__1 from hf_19)⟩ (subP hP [] rfl) (subD hD [] (by decide) rfl) (Nat.le_of_ble_eq_true rfl) (Nat.le_of_ble_eq_true rfl) dX7_init_28
set_option maxHeartbeats 4000000 in
set_option maxRecDepth 100000 in
theorem c_X6_stripOf_s (l : Launch) (D : va_G) (κ : Nat → ClassId) (κq : Nat → Nat) (im : va_W) (st : Nat) (d : Nat) (sh : Nat) (vw : Nat) (ta : Nat) (sa : Nat) (n : Nat) (fs : Nat → Option Nat) (fv : Nat → Option Nat) (t : Nat) (a : Nat) (R : Nat) (w : Nat) (v : Nat) (vd : Nat) (zc : Int32) (ht : t < 3) (es : fs t = some a) (ev : fv t = some v) (hs : Sh κ im a R w) (hv : Vw κ im vd v R) : Et l yX6_stripOf (wl yX6_stripOf cX6_stripOf 5 (some (.object "TypedTables$Strip"))) { frames := 5, cells := 1, slots := 4, locals := 110 } D κ κq [.ref st, .int (nI t), .int zc] ([(st, .inr (6, [.ref d, .ref sh, .ref vw, .ref ta, .ref sa, .int (nI n)])), (sh, .inl (κ 4, 3, .inr (.inr (.inr (.inr fs))))), (vw, .inl (κ 5, 3, .inr (.inr (.inr (.inr fv)))))] ++ im) (fun u9 : Option Nat × va_W => some (va_rf u9.1)) (fun u9 : Option Nat × va_W => Sb im u9.2 ∧ ((u9.1 = none) ∨ (∃ (q : Nat), ∃ (co : Nat), ∃ (ra : Nat), ∃ (mq : Nat), ∃ (ty : Nat), u9.1 = some q ∧ Sp κ u9.2 q a R w co ra mq ty))) (fun u9 : Option Nat × va_W => ([(st, .inr (6, [.ref d, .ref sh, .ref vw, .ref ta, .ref sa, .int (nI n)])), (sh, .inl (κ 4, 3, .inr (.inr (.inr (.inr fs))))), (vw, .inl (κ 5, 3, .inr (.inr (.inr (.inr fv)))))] ++ u9.2)) := by
  refine et_of (by decide +kernel) (Nat.le_of_ble_eq_true rfl) ?_
  intro p e s m args below meth c A ls hx hb hr hml hts hown hlk hin hKK hK hA hP hD hS hE hl
  have hS : va_S A s.heap s.heap [] := hS
  have hP : va_P D vwCl ([(st, .inr (6, [.ref d, .ref sh, .ref vw, .ref ta, .ref sa, .int (nI n)])), (sh, .inl (κ 4, 3, .inr (.inr (.inr (.inr fs))))), (vw, .inl (κ 5, 3, .inr (.inr (.inr (.inr fv)))))] ++ im) s.heap := hP
  have hD : va_D A ([(st, .inr (6, [.ref d, .ref sh, .ref vw, .ref ta, .ref sa, .int (nI n)])), (sh, .inl (κ 4, 3, .inr (.inr (.inr (.inr fs))))), (vw, .inl (κ 5, 3, .inr (.inr (.inr (.inr fv)))))] ++ im) := hD
  have hFX : FX p s m args c cX6_stripOf 5 RX6 := ⟨hx, hb, hml, hown, hts⟩
  have hl : lv_has ls 5 [(0, .ref st), (1, .int (nI t)), (2, .int zc)] := hl
  refine lv_aload_n hx hb dX6_stripOf_0 rfl (lv_at hl 0 rfl) ?_
  refine lv_iload_n hx hb dX6_stripOf_1 rfl (lv_at hl 1 rfl) ?_
  refine er_V (As := [.int (nI t)]) (rest := []) hFX hKK hE hS (c_X6_sheetOf_s l D κ κq st d sh vw ta sa n fs t a (by omega) es) 1 gV_X6_41 hdV_X6_sheetOf rfl rfl ⟨Nat.le_of_ble_eq_true rfl, Nat.le_of_ble_eq_true rfl⟩ rfl rfl (Nat.le_of_ble_eq_true rfl) dX6_stripOf_2 ⟨Nat.le_of_ble_eq_true rfl, Nat.le_of_ble_eq_true rfl⟩ hl.1 hP 0 6 rfl rfl rfl (subP0 hP [0, 1] rfl) (fun _ hp_1 => ?_)
  refine W.eq (g2 := F0 m 5 ls [.ref a]) rfl ?_
  refine lv_astore_n (lv' := [(3, .ref a), (0, .ref st), (1, .int (nI t)), (2, .int zc)]) hx hb dX6_stripOf_5 rfl hl (by decide) rfl (fun ls hl => ?_)
  refine lv_aload_n hx hb dX6_stripOf_6 rfl (lv_at hl 1 rfl) ?_
  refine lv_iload_n hx hb dX6_stripOf_7 rfl (lv_at hl 2 rfl) ?_
  refine er_V (As := [.int (nI t)]) (rest := []) hFX hKK hE hS (c_X6_topOf_s l D κ κq st d sh vw ta sa n fv t v (by omega) ev) 1 gV_X6_45 hdV_X6_topOf rfl rfl ⟨Nat.le_of_ble_eq_true rfl, Nat.le_of_ble_eq_true rfl⟩ rfl rfl (Nat.le_of_ble_eq_true rfl) dX6_stripOf_8 ⟨Nat.le_of_ble_eq_true rfl, Nat.le_of_ble_eq_true rfl⟩ hl.1 hP 0 6 rfl rfl rfl (subP0 hP [0, 2] rfl) (fun _ hp_2 => ?_)
  refine W.eq (g2 := F0 m 11 ls [.ref v]) rfl ?_
  refine lv_astore (lv' := [(4, .ref v), (3, .ref a), (0, .ref st), (1, .int (nI t)), (2, .int zc)]) hx hb dX6_stripOf_11 hl (by decide) rfl (fun ls hl => ?_)
  refine lv_aload_n hx hb dX6_stripOf_13 rfl (lv_at hl 1 rfl) ?_
  refine lv_ifnull hx hb dX6_stripOf_14 ?_
  refine lv_aload hx hb dX6_stripOf_17 (lv_at hl 0 rfl) ?_
  refine lv_ifnull hx hb dX6_stripOf_19 ?_
  refine lv_aload_n hx hb dX6_stripOf_22 rfl (lv_at hl 1 rfl) ?_
  refine lv_iload_n hx hb dX6_stripOf_23 rfl (lv_at hl 4 rfl) ?_
  obtain ⟨hb_5, c_6, x_7, v_8, g_9, h_10, hm_11, hm_12, hm_13, lo_14, lc_15, vw_16⟩ := id hs
  obtain ⟨hb_5_1, hb_5_2, hb_5_3⟩ := hb_5
  have hrw_hb_5 := rw_le hb_5_1 hb_5_3
  refine er_V (As := [.int zc]) (rest := []) hFX hKK hE hS (c_X5_hasColumn l D κ κq im a R w zc hs) 1 gV_X6_49 hdV_X5_hasColumn rfl rfl ⟨Nat.le_of_ble_eq_true rfl, Nat.le_of_ble_eq_true rfl⟩ rfl rfl (Nat.le_of_ble_eq_true rfl) dX6_stripOf_24 ⟨Nat.le_of_ble_eq_true rfl, Nat.le_of_ble_eq_true rfl⟩ hl.1 (oneP (C := [(st, .inr (6, [.ref d, .ref sh, .ref vw, .ref ta, .ref sa, .int (nI n)])), (sh, .inl (κ 4, 3, .inr (.inr (.inr (.inr fs))))), (vw, .inl (κ 5, 3, .inr (.inr (.inr (.inr fv)))))]) hP hm_11) 0 5 rfl rfl rfl (subP hP [] rfl) (fun r__3 hp_4 => ?_)
  replace hp_4 : ((r__3 = 1 ∧ (∃ j : Nat, j < w ∧ zc = nI j)) ∨ (r__3 = 0)) := hp_4
  have ha_17 := hp_4
  clear hp_4
  rcases ha_17 with ⟨rfl, ⟨j_18, hj_18, rfl⟩⟩ | rfl
  · refine W.eq (g2 := F0 m 27 ls [.int 1]) rfl ?_
    refine lv_if_ne (tgt := 32) hx hb dX6_stripOf_27 (by decide) (fun c_20 => ?_) (fun c_20 => absurd c_20 (by decide))
    refine va_new (ci := 7) (fs := [.null, .int 0, .null, .int 0]) (C := RX7) (T := TX7) (N := 4) hx hb hts inlX7 tyX7 tyX7_ok hown (hts _ mw_792) (hts _ mw_793) (hts _ mw_794) hK hP hD hS hA rfl (fun j hj => by rcases (show j = 0 ∨ j = 1 ∨ j = 2 ∨ j = 3 by omega) with rfl | rfl | rfl | rfl <;> rfl) (Nat.le_of_ble_eq_true rfl) (Nat.le_of_ble_eq_true rfl) dX6_stripOf_32 (fun q_21 H hP hD hS => ?_)
    replace hP : va_P D vwCl ([(st, .inr (6, [.ref d, .ref sh, .ref vw, .ref ta, .ref sa, .int (nI n)])), (sh, .inl (κ 4, 3, .inr (.inr (.inr (.inr fs))))), (vw, .inl (κ 5, 3, .inr (.inr (.inr (.inr fv))))), (q_21, .inr (7, [.null, .int 0, .null, .int 0]))] ++ im) H := mvP hP
    replace hD : va_D A ([(st, .inr (6, [.ref d, .ref sh, .ref vw, .ref ta, .ref sa, .int (nI n)])), (sh, .inl (κ 4, 3, .inr (.inr (.inr (.inr fs))))), (vw, .inl (κ 5, 3, .inr (.inr (.inr (.inr fv))))), (q_21, .inr (7, [.null, .int 0, .null, .int 0]))] ++ im) := mvD hD
    refine lv_dup hx hb dX6_stripOf_35 rfl ?_
    refine lv_aload_n hx hb dX6_stripOf_36 rfl (lv_at hl 1 rfl) ?_
    refine lv_iload_n hx hb dX6_stripOf_37 rfl (lv_at hl 4 rfl) ?_
    refine lv_aload hx hb dX6_stripOf_38 (lv_at hl 0 rfl) ?_
    obtain ⟨r_22, n_23, u_24, hm_25, ix_26⟩ := Vw_cell hv
    refine va_get (D := D) (ci := 9) (v := .ref r_22) (C := RX9) (T := TX9) (N := 3) hx hb hts inlX9 hown hK (oneP (C := [(st, .inr (6, [.ref d, .ref sh, .ref vw, .ref ta, .ref sa, .int (nI n)])), (sh, .inl (κ 4, 3, .inr (.inr (.inr (.inr fs))))), (vw, .inl (κ 5, 3, .inr (.inr (.inr (.inr fv))))), (q_21, .inr (7, [.null, .int 0, .null, .int 0]))]) hP hm_25) 0 rfl rfl 0 (by decide) (hts _ mw_795) (fun _ h9 => h9) rfl dX6_stripOf_40 ?_
    refine et_IT (CR := [(st, .inr (6, [.ref d, .ref sh, .ref vw, .ref ta, .ref sa, .int (nI n)])), (sh, .inl (κ 4, 3, .inr (.inr (.inr (.inr fs))))), (vw, .inl (κ 5, 3, .inr (.inr (.inr (.inr fv)))))]) (As := [.ref a, .int (nI j_18), .ref r_22]) (rest := [.ref q_21]) hFX hKK hE hP hD hS hA (c_X7_init l D κ κq im q_21 a R w j_18 r_22 n_23 hs (by omega) ix_26) 3 mw_802 mw_803 mw_794 mw_804 hdI_X7_init ⟨Nat.le_of_ble_eq_true rfl, Nat.le_of_ble_eq_true rfl⟩ rfl rfl (Nat.le_of_ble_eq_true rfl) dX6_stripOf_43 ⟨Nat.le_of_ble_eq_true rfl, Nat.le_of_ble_eq_true rfl⟩ hl.1 [3] [0, 1, 2] rfl rfl (by decide) (by decide) (by decide) (fun u_29 H locs hp_30 hP hD hS => ?_)
    obtain ⟨ty__27, im2__28⟩ := u_29
    replace hP : va_P D vwCl ([(st, .inr (6, [.ref d, .ref sh, .ref vw, .ref ta, .ref sa, .int (nI n)])), (sh, .inl (κ 4, 3, .inr (.inr (.inr (.inr fs))))), (vw, .inl (κ 5, 3, .inr (.inr (.inr (.inr fv)))))] ++ im2__28) H := subP (C := [(st, .inr (6, [.ref d, .ref sh, .ref vw, .ref ta, .ref sa, .int (nI n)])), (sh, .inl (κ 4, 3, .inr (.inr (.inr (.inr fs))))), (vw, .inl (κ 5, 3, .inr (.inr (.inr (.inr fv)))))]) hP [0, 1, 2] rfl
    replace hD : va_D A ([(st, .inr (6, [.ref d, .ref sh, .ref vw, .ref ta, .ref sa, .int (nI n)])), (sh, .inl (κ 4, 3, .inr (.inr (.inr (.inr fs))))), (vw, .inl (κ 5, 3, .inr (.inr (.inr (.inr fv)))))] ++ im2__28) := subD (C := [(st, .inr (6, [.ref d, .ref sh, .ref vw, .ref ta, .ref sa, .int (nI n)])), (sh, .inl (κ 4, 3, .inr (.inr (.inr (.inr fs))))), (vw, .inl (κ 5, 3, .inr (.inr (.inr (.inr fv)))))]) hD [0, 1, 2] (by decide) rfl
    replace hp_30 : Sb im im2__28 ∧ Sp κ im2__28 q_21 a R w j_18 r_22 n_23 ty__27 := hp_30
    obtain ⟨h_31, h_32⟩ := hp_30
    replace hs := hs.up h_31
    replace hv := hv.up h_31
    replace lo_14 := lo_14.up h_31
    replace lc_15 := lc_15.up h_31
    replace vw_16 := vw_16.up h_31
    replace ix_26 := ix_26.up h_31
    replace hm_11 := h_31 _ hm_11
    replace hm_12 := h_31 _ hm_12
    replace hm_13 := h_31 _ hm_13
    replace hm_25 := h_31 _ hm_25
    refine W.eq (g2 := F0 m 46 ls [.ref q_21]) rfl ?_
    exact et_aret hx hb hr (by first | exact Or.inl ⟨_, rfl⟩ | exact Or.inr ⟨_, rfl⟩) hlk (by first | exact Or.inl rfl | exact Or.inr ⟨_, rfl⟩) hS ((some q_21), im2__28) rfl ⟨(show Sb im im2__28 from (by first | exact Sb.rf | assumption | exact Sb.tr (by assumption) (by assumption) | exact Sb.tr (by assumption) (Sb.tr (by assumption) (by assumption)))), (by exact Or.inr ((⟨q_21, j_18, r_22, n_23, ty__27, rfl, (show Sp κ im2__28 q_21 a R w j_18 r_22 n_23 ty__27 from h_32)⟩)))⟩ (subP hP [0, 1, 2] rfl) (subD hD [0, 1, 2] (by decide) rfl) (Nat.le_of_ble_eq_true rfl) (Nat.le_of_ble_eq_true rfl) dX6_stripOf_46
  · refine W.eq (g2 := F0 m 27 ls [.int 0]) rfl ?_
    refine lv_if_ne (tgt := 32) hx hb dX6_stripOf_27 (by decide) (fun c_33 => absurd c_33 (by decide)) (fun c_33 => ?_)
    refine lv_null hx hb dX6_stripOf_30 ?_
    exact et_aret hx hb hr (by first | exact Or.inl ⟨_, rfl⟩ | exact Or.inr ⟨_, rfl⟩) hlk (by first | exact Or.inl rfl | exact Or.inr ⟨_, rfl⟩) hS (none, im) rfl ⟨(show Sb im im from (by first | exact Sb.rf | assumption | exact Sb.tr (by assumption) (by assumption) | exact Sb.tr (by assumption) (Sb.tr (by assumption) (by assumption)))), (by exact Or.inl (rfl))⟩ (subP hP [0, 1, 2] rfl) (subD hD [0, 1, 2] (by decide) rfl) (Nat.le_of_ble_eq_true rfl) (Nat.le_of_ble_eq_true rfl) dX6_stripOf_31
set_option maxHeartbeats 4000000 in
set_option maxRecDepth 100000 in
theorem c_X6_stripOf_n (l : Launch) (D : va_G) (κ : Nat → ClassId) (κq : Nat → Nat) (st : Nat) (d : Nat) (sh : Nat) (vw : Nat) (ta : Nat) (sa : Nat) (n : Nat) (fs : Nat → Option Nat) (fv : Nat → Option Nat) (t : Nat) (zc : Int32) (ht : t < 3) (es : fs t = none) (ev : fv t = none) : Er l yX6_stripOf (wl yX6_stripOf cX6_stripOf 5 (some (.object "TypedTables$Strip"))) { frames := 2, cells := 0, slots := 0, locals := 41 } D κ κq [.ref st, .int (nI t), .int zc] [(st, .inr (6, [.ref d, .ref sh, .ref vw, .ref ta, .ref sa, .int (nI n)])), (sh, .inl (κ 4, 3, .inr (.inr (.inr (.inr fs))))), (vw, .inl (κ 5, 3, .inr (.inr (.inr (.inr fv)))))] (fun _ : Unit => some (.null)) (fun _ : Unit => True) := by
  refine er_of (by decide +kernel) (Nat.le_of_ble_eq_true rfl) ?_
  intro p e s m args below meth c A ls hx hb hr hml hts hown hlk hKK hK hP hE hl
  have hS : va_S A s.heap s.heap [] := va_S.rf
  have hP : va_P D vwCl ([(st, .inr (6, [.ref d, .ref sh, .ref vw, .ref ta, .ref sa, .int (nI n)])), (sh, .inl (κ 4, 3, .inr (.inr (.inr (.inr fs))))), (vw, .inl (κ 5, 3, .inr (.inr (.inr (.inr fv)))))] ++ []) s.heap := hP
  have hFX : FX p s m args c cX6_stripOf 5 RX6 := ⟨hx, hb, hml, hown, hts⟩
  have hl : lv_has ls 5 [(0, .ref st), (1, .int (nI t)), (2, .int zc)] := hl
  refine lv_aload_n hx hb dX6_stripOf_0 rfl (lv_at hl 0 rfl) ?_
  refine lv_iload_n hx hb dX6_stripOf_1 rfl (lv_at hl 1 rfl) ?_
  refine er_V (As := [.int (nI t)]) (rest := []) hFX hKK hE hS (c_X6_sheetOf_n l D κ κq st d sh vw ta sa n fs t (by omega) es) 1 gV_X6_41 hdV_X6_sheetOf rfl rfl ⟨Nat.le_of_ble_eq_true rfl, Nat.le_of_ble_eq_true rfl⟩ rfl rfl (Nat.le_of_ble_eq_true rfl) dX6_stripOf_2 ⟨Nat.le_of_ble_eq_true rfl, Nat.le_of_ble_eq_true rfl⟩ hl.1 hP 0 6 rfl rfl rfl (subP0 hP [0, 1] rfl) (fun _ hp_1 => ?_)
  refine W.eq (g2 := F0 m 5 ls [.null]) rfl ?_
  refine lv_astore_nN (lv' := [(3, .null), (0, .ref st), (1, .int (nI t)), (2, .int zc)]) hx hb dX6_stripOf_5 rfl hl (by decide) rfl (fun ls hl => ?_)
  refine lv_aload_n hx hb dX6_stripOf_6 rfl (lv_at hl 1 rfl) ?_
  refine lv_iload_n hx hb dX6_stripOf_7 rfl (lv_at hl 2 rfl) ?_
  refine er_V (As := [.int (nI t)]) (rest := []) hFX hKK hE hS (c_X6_topOf_n l D κ κq st d sh vw ta sa n fv t (by omega) ev) 1 gV_X6_45 hdV_X6_topOf rfl rfl ⟨Nat.le_of_ble_eq_true rfl, Nat.le_of_ble_eq_true rfl⟩ rfl rfl (Nat.le_of_ble_eq_true rfl) dX6_stripOf_8 ⟨Nat.le_of_ble_eq_true rfl, Nat.le_of_ble_eq_true rfl⟩ hl.1 hP 0 6 rfl rfl rfl (subP0 hP [0, 2] rfl) (fun _ hp_2 => ?_)
  refine W.eq (g2 := F0 m 11 ls [.null]) rfl ?_
  refine lv_astoreN (lv' := [(4, .null), (3, .null), (0, .ref st), (1, .int (nI t)), (2, .int zc)]) hx hb dX6_stripOf_11 hl (by decide) rfl (fun ls hl => ?_)
  refine lv_aload_nN hx hb dX6_stripOf_13 rfl (lv_at hl 1 rfl) ?_
  refine lv_ifnullN (tgt := 30) hx hb dX6_stripOf_14 (by decide) ?_
  refine lv_null hx hb dX6_stripOf_30 ?_
  exact cr_aret hx hb hr (by first | exact Or.inl ⟨_, rfl⟩ | exact Or.inr ⟨_, rfl⟩) hlk (by first | exact Or.inl rfl | exact Or.inr ⟨_, rfl⟩) () rfl trivial dX6_stripOf_31
set_option maxHeartbeats 4000000 in
set_option maxRecDepth 100000 in
theorem c_X6_stripOf_x (l : Launch) (D : va_G) (κ : Nat → ClassId) (κq : Nat → Nat) (st : Nat) (d : Nat) (sh : Nat) (vw : Nat) (ta : Nat) (sa : Nat) (n : Nat) (za : Int32) (zc : Int32) (hnp : ¬ (0 ≤ za.toInt ∧ za.toInt < 3)) : Er l yX6_stripOf (wl yX6_stripOf cX6_stripOf 5 (some (.object "TypedTables$Strip"))) { frames := 2, cells := 0, slots := 0, locals := 41 } D κ κq [.ref st, .int za, .int zc] [(st, .inr (6, [.ref d, .ref sh, .ref vw, .ref ta, .ref sa, .int (nI n)]))] (fun _ : Unit => some (.null)) (fun _ : Unit => True) := by
  refine er_of (by decide +kernel) (Nat.le_of_ble_eq_true rfl) ?_
  intro p e s m args below meth c A ls hx hb hr hml hts hown hlk hKK hK hP hE hl
  have hS : va_S A s.heap s.heap [] := va_S.rf
  have hP : va_P D vwCl ([(st, .inr (6, [.ref d, .ref sh, .ref vw, .ref ta, .ref sa, .int (nI n)]))] ++ []) s.heap := hP
  have hFX : FX p s m args c cX6_stripOf 5 RX6 := ⟨hx, hb, hml, hown, hts⟩
  have hl : lv_has ls 5 [(0, .ref st), (1, .int za), (2, .int zc)] := hl
  refine lv_aload_n hx hb dX6_stripOf_0 rfl (lv_at hl 0 rfl) ?_
  refine lv_iload_n hx hb dX6_stripOf_1 rfl (lv_at hl 1 rfl) ?_
  refine er_V (As := [.int za]) (rest := []) hFX hKK hE hS (c_X6_sheetOf_x l D κ κq st d sh vw ta sa n za (by assumption)) 1 gV_X6_41 hdV_X6_sheetOf rfl rfl ⟨Nat.le_of_ble_eq_true rfl, Nat.le_of_ble_eq_true rfl⟩ rfl rfl (Nat.le_of_ble_eq_true rfl) dX6_stripOf_2 ⟨Nat.le_of_ble_eq_true rfl, Nat.le_of_ble_eq_true rfl⟩ hl.1 hP 0 6 rfl rfl rfl (subP0 hP [0] rfl) (fun _ hp_1 => ?_)
  refine W.eq (g2 := F0 m 5 ls [.null]) rfl ?_
  refine lv_astore_nN (lv' := [(3, .null), (0, .ref st), (1, .int za), (2, .int zc)]) hx hb dX6_stripOf_5 rfl hl (by decide) rfl (fun ls hl => ?_)
  refine lv_aload_n hx hb dX6_stripOf_6 rfl (lv_at hl 1 rfl) ?_
  refine lv_iload_n hx hb dX6_stripOf_7 rfl (lv_at hl 2 rfl) ?_
  refine er_V (As := [.int za]) (rest := []) hFX hKK hE hS (c_X6_topOf_x l D κ κq st d sh vw ta sa n za (by assumption)) 1 gV_X6_45 hdV_X6_topOf rfl rfl ⟨Nat.le_of_ble_eq_true rfl, Nat.le_of_ble_eq_true rfl⟩ rfl rfl (Nat.le_of_ble_eq_true rfl) dX6_stripOf_8 ⟨Nat.le_of_ble_eq_true rfl, Nat.le_of_ble_eq_true rfl⟩ hl.1 hP 0 6 rfl rfl rfl (subP0 hP [0] rfl) (fun _ hp_2 => ?_)
  refine W.eq (g2 := F0 m 11 ls [.null]) rfl ?_
  refine lv_astoreN (lv' := [(4, .null), (3, .null), (0, .ref st), (1, .int za), (2, .int zc)]) hx hb dX6_stripOf_11 hl (by decide) rfl (fun ls hl => ?_)
  refine lv_aload_nN hx hb dX6_stripOf_13 rfl (lv_at hl 1 rfl) ?_
  refine lv_ifnullN (tgt := 30) hx hb dX6_stripOf_14 (by decide) ?_
  refine lv_null hx hb dX6_stripOf_30 ?_
  exact cr_aret hx hb hr (by first | exact Or.inl ⟨_, rfl⟩ | exact Or.inr ⟨_, rfl⟩) hlk (by first | exact Or.inl rfl | exact Or.inr ⟨_, rfl⟩) () rfl trivial dX6_stripOf_31
set_option maxHeartbeats 4000000 in
set_option maxRecDepth 100000 in
theorem c_X6_stack (l : Launch) (D : va_G) (κ : Nat → ClassId) (κq : Nat → Nat) (im : va_W) (st : Nat) (d : Nat) (sh : Nat) (vw : Nat) (ta : Nat) (sa : Nat) (n : Nat) (fs : Nat → Option Nat) (fv : Nat → Option Nat) (t : Nat) (a : Nat) (R : Nat) (w : Nat) (v : Nat) (vd : Nat) (ra : Nat) (mq : Nat) (ht : t < 3) (htb : Tb κ im fs fv 3) (es : fs t = some a) (ev : fv t = some v) (hs : Sh κ im a R w) (hv : Vw κ im vd v R) (hd5 : vd ≤ 5) (hix : Ix κ im ra mq R) : Et l yX6_stack (wl yX6_stack cX6_stack 3 (some .int)) { frames := 2, cells := 1, slots := 3, locals := 34 } D κ κq [.ref st, .int (nI t), .ref ra] ([(st, .inr (6, [.ref d, .ref sh, .ref vw, .ref ta, .ref sa, .int (nI n)])), (vw, .inl (κ 5, 3, .inr (.inr (.inr (.inr fv)))))] ++ im) (fun u9 : (Nat → Option Nat) × va_W => some (.int (nI mq))) (fun u9 : (Nat → Option Nat) × va_W => Sb im u9.2 ∧ Tb κ u9.2 fs u9.1 3) (fun u9 : (Nat → Option Nat) × va_W => ([(st, .inr (6, [.ref d, .ref sh, .ref vw, .ref ta, .ref sa, .int (nI n)])), (vw, .inl (κ 5, 3, .inr (.inr (.inr (.inr u9.1)))))] ++ u9.2)) := by
  refine et_of (by decide +kernel) (Nat.le_of_ble_eq_true rfl) ?_
  intro p e s m args below meth c A ls hx hb hr hml hts hown hlk hin hKK hK hA hP hD hS hE hl
  have hS : va_S A s.heap s.heap [] := hS
  have hP : va_P D vwCl ([(st, .inr (6, [.ref d, .ref sh, .ref vw, .ref ta, .ref sa, .int (nI n)])), (vw, .inl (κ 5, 3, .inr (.inr (.inr (.inr fv)))))] ++ im) s.heap := hP
  have hD : va_D A ([(st, .inr (6, [.ref d, .ref sh, .ref vw, .ref ta, .ref sa, .int (nI n)])), (vw, .inl (κ 5, 3, .inr (.inr (.inr (.inr fv)))))] ++ im) := hD
  have hFX : FX p s m args c cX6_stack 3 RX6 := ⟨hx, hb, hml, hown, hts⟩
  have hl : lv_has ls 3 [(0, .ref st), (1, .int (nI t)), (2, .ref ra)] := hl
  obtain ⟨hn_1, f_2, hm_3, hf_4⟩ := id hix
  refine lv_aload_n hx hb dX6_stack_0 rfl (lv_at hl 0 rfl) ?_
  refine va_get (D := D) (ci := 6) (v := .ref vw) (C := RX6) (T := TX6) (N := 6) hx hb hts inlX6 hown hK hP 0 rfl rfl 2 (by decide) (hts _ mw_44) (fun _ h9 => h9) rfl dX6_stack_1 ?_
  refine lv_iload_n hx hb dX6_stack_4 rfl (lv_at hl 1 rfl) ?_
  refine va_new (ci := 9) (fs := [.null, .null, .int 0]) (C := RX9) (T := TX9) (N := 3) hx hb hts inlX9 tyX9 tyX9_ok hown (hts _ mw_43) (hts _ mw_386) (hts _ mw_387) hK hP hD hS hA rfl (fun j hj => by rcases (show j = 0 ∨ j = 1 ∨ j = 2 by omega) with rfl | rfl | rfl <;> rfl) (Nat.le_of_ble_eq_true rfl) (Nat.le_of_ble_eq_true rfl) dX6_stack_5 (fun q_5 H hP hD hS => ?_)
  replace hP : va_P D vwCl ([(st, .inr (6, [.ref d, .ref sh, .ref vw, .ref ta, .ref sa, .int (nI n)])), (vw, .inl (κ 5, 3, .inr (.inr (.inr (.inr fv))))), (q_5, .inr (9, [.null, .null, .int 0]))] ++ im) H := mvP hP
  replace hD : va_D A ([(st, .inr (6, [.ref d, .ref sh, .ref vw, .ref ta, .ref sa, .int (nI n)])), (vw, .inl (κ 5, 3, .inr (.inr (.inr (.inr fv))))), (q_5, .inr (9, [.null, .null, .int 0]))] ++ im) := mvD hD
  refine lv_dup hx hb dX6_stack_8 rfl ?_
  refine lv_aload_n hx hb dX6_stack_9 rfl (lv_at hl 2 rfl) ?_
  refine lv_aload_n hx hb dX6_stack_10 rfl (lv_at hl 0 rfl) ?_
  refine va_get (D := D) (ci := 6) (v := .ref vw) (C := RX6) (T := TX6) (N := 6) hx hb hts inlX6 hown hK hP 0 rfl rfl 2 (by decide) (hts _ mw_44) (fun _ h9 => h9) rfl dX6_stack_11 ?_
  refine lv_iload_n hx hb dX6_stack_14 rfl (lv_at hl 1 rfl) ?_
  refine va_aldq hx hb hK hP 1 5 rfl rfl (i := nI t) (vp_in_nI (n := t) (by omega) (by omega)) dX6_stack_15 ?_
  refine kv (v := .ref v) (by rw [nI_clamp (by omega)]; rw [ev]; rfl) ?_
  refine et_IT (CR := [(st, .inr (6, [.ref d, .ref sh, .ref vw, .ref ta, .ref sa, .int (nI n)])), (vw, .inl (κ 5, 3, .inr (.inr (.inr (.inr fv)))))]) (As := [.ref ra, .ref v]) (rest := [.ref q_5, .int (nI t), .ref vw]) hFX hKK hE hP hD hS hA (c_X9_init_1 l D κ κq im q_5 ra mq R v vd hix hv (by omega)) 2 mw_1023 mw_390 mw_387 mw_391 hdI_X9_init ⟨Nat.le_of_ble_eq_true rfl, Nat.le_of_ble_eq_true rfl⟩ rfl rfl (Nat.le_of_ble_eq_true rfl) dX6_stack_16 ⟨Nat.le_of_ble_eq_true rfl, Nat.le_of_ble_eq_true rfl⟩ hl.1 [2] [0, 1] rfl rfl (by decide) (by decide) (by decide) (fun im2__6 H locs hp_7 hP hD hS => ?_)
  replace hP : va_P D vwCl ([(st, .inr (6, [.ref d, .ref sh, .ref vw, .ref ta, .ref sa, .int (nI n)])), (vw, .inl (κ 5, 3, .inr (.inr (.inr (.inr fv)))))] ++ im2__6) H := subP (C := [(st, .inr (6, [.ref d, .ref sh, .ref vw, .ref ta, .ref sa, .int (nI n)])), (vw, .inl (κ 5, 3, .inr (.inr (.inr (.inr fv)))))]) hP [0, 1] rfl
  replace hD : va_D A ([(st, .inr (6, [.ref d, .ref sh, .ref vw, .ref ta, .ref sa, .int (nI n)])), (vw, .inl (κ 5, 3, .inr (.inr (.inr (.inr fv)))))] ++ im2__6) := subD (C := [(st, .inr (6, [.ref d, .ref sh, .ref vw, .ref ta, .ref sa, .int (nI n)])), (vw, .inl (κ 5, 3, .inr (.inr (.inr (.inr fv)))))]) hD [0, 1] (by decide) rfl
  replace hp_7 : Sb im im2__6 ∧ Vw κ im2__6 (vd + 1) q_5 R := hp_7
  obtain ⟨h_8, h_9⟩ := hp_7
  replace htb := htb.up h_8
  replace hs := hs.up h_8
  replace hv := hv.up h_8
  replace hix := hix.up h_8
  replace hm_3 := h_8 _ hm_3
  refine W.eq (g2 := F0 m 19 ls [.ref q_5, .int (nI t), .ref vw]) rfl ?_
  obtain ⟨r_10, n_11, u_12, hm_13, ix_14, hu_15⟩ := id h_9
  obtain ⟨k_16, ek_16⟩ := tl_at [(st, .inr (6, [.ref d, .ref sh, .ref vw, .ref ta, .ref sa, .int (nI n)])), (vw, .inl (κ 5, 3, .inr (.inr (.inr (.inr fv)))))] hm_13
  refine va_astq hx hb hK hP hD hS 1 5 k_16 9 rfl rfl ek_16 rfl (i := nI t) (vp_in_nI (n := t) (by omega) (by omega)) dX6_stack_19 (fun H locs hP hD hS => ?_)
  rw [nI_clamp (by omega)] at hP hD
  have hP : va_P D vwCl ([(st, .inr (6, [.ref d, .ref sh, .ref vw, .ref ta, .ref sa, .int (nI n)])), (vw, .inl (κ 5, 3, .inr (.inr (.inr (.inr (va_up fv t (some q_5)))))))] ++ im2__6) H := hP
  have hD : va_D A ([(st, .inr (6, [.ref d, .ref sh, .ref vw, .ref ta, .ref sa, .int (nI n)])), (vw, .inl (κ 5, 3, .inr (.inr (.inr (.inr (va_up fv t (some q_5)))))))] ++ im2__6) := hD
  refine lv_aload_n hx hb dX6_stack_20 rfl (lv_at hl 2 rfl) ?_
  refine va_alen hx hb hK (oneP (C := [(st, .inr (6, [.ref d, .ref sh, .ref vw, .ref ta, .ref sa, .int (nI n)])), (vw, .inl (κ 5, 3, .inr (.inr (.inr (.inr (va_up fv t (some q_5)))))))]) hP hm_3) 0 0 rfl rfl (v := nI mq) rfl dX6_stack_21 ?_
  exact et_iret hx hb hr hlk rfl hS (va_up fv t (some q_5), im2__6) rfl ⟨(show Sb im im2__6 from (by first | exact Sb.rf | assumption | exact Sb.tr (by assumption) (by assumption) | exact Sb.tr (by assumption) (Sb.tr (by assumption) (by assumption)))), (show Tb κ im2__6 fs (va_up fv t (some q_5)) 3 from (Tb_view htb es hs h_9 (by omega)))⟩ (subP hP [0, 1] rfl) (subD hD [0, 1] (by decide) rfl) (Nat.le_of_ble_eq_true rfl) (Nat.le_of_ble_eq_true rfl) dX6_stack_22
set_option maxHeartbeats 4000000 in
set_option maxRecDepth 100000 in
theorem c_X6_setTop (l : Launch) (D : va_G) (κ : Nat → ClassId) (κq : Nat → Nat) (im : va_W) (st : Nat) (d : Nat) (sh : Nat) (vw : Nat) (ta : Nat) (sa : Nat) (n : Nat) (fs : Nat → Option Nat) (fv : Nat → Option Nat) (t : Nat) (a : Nat) (R : Nat) (w : Nat) (u : Nat) (vd : Nat) (ht : t < 3) (htb : Tb κ im fs fv 3) (es : fs t = some a) (hs : Sh κ im a R w) (hv : Vw κ im vd u R) (hd6 : vd ≤ 6) : Et l yX6_setTop (wl yX6_setTop cX6_setTop 3 none) { frames := 0, cells := 0, slots := 0, locals := 0 } D κ κq [.ref st, .int (nI t), .ref u] ([(st, .inr (6, [.ref d, .ref sh, .ref vw, .ref ta, .ref sa, .int (nI n)])), (vw, .inl (κ 5, 3, .inr (.inr (.inr (.inr fv)))))] ++ im) (fun gv : (Nat → Option Nat) => none) (fun gv : (Nat → Option Nat) => Tb κ im fs gv 3) (fun gv : (Nat → Option Nat) => ([(st, .inr (6, [.ref d, .ref sh, .ref vw, .ref ta, .ref sa, .int (nI n)])), (vw, .inl (κ 5, 3, .inr (.inr (.inr (.inr gv)))))] ++ im)) := by
  refine et_of (by decide +kernel) (Nat.le_of_ble_eq_true rfl) ?_
  intro p e s m args below meth c A ls hx hb hr hml hts hown hlk hin hKK hK hA hP hD hS hE hl
  have hS : va_S A s.heap s.heap [] := hS
  have hP : va_P D vwCl ([(st, .inr (6, [.ref d, .ref sh, .ref vw, .ref ta, .ref sa, .int (nI n)])), (vw, .inl (κ 5, 3, .inr (.inr (.inr (.inr fv)))))] ++ im) s.heap := hP
  have hD : va_D A ([(st, .inr (6, [.ref d, .ref sh, .ref vw, .ref ta, .ref sa, .int (nI n)])), (vw, .inl (κ 5, 3, .inr (.inr (.inr (.inr fv)))))] ++ im) := hD
  have hFX : FX p s m args c cX6_setTop 3 RX6 := ⟨hx, hb, hml, hown, hts⟩
  have hl : lv_has ls 3 [(0, .ref st), (1, .int (nI t)), (2, .ref u)] := hl
  refine lv_aload_n hx hb dX6_setTop_0 rfl (lv_at hl 0 rfl) ?_
  refine va_get (D := D) (ci := 6) (v := .ref vw) (C := RX6) (T := TX6) (N := 6) hx hb hts inlX6 hown hK hP 0 rfl rfl 2 (by decide) (hts _ mw_44) (fun _ h9 => h9) rfl dX6_setTop_1 ?_
  refine lv_iload_n hx hb dX6_setTop_4 rfl (lv_at hl 1 rfl) ?_
  refine lv_aload_n hx hb dX6_setTop_5 rfl (lv_at hl 2 rfl) ?_
  obtain ⟨r_1, n_2, u_3, hm_4, ix_5⟩ := Vw_cell hv
  obtain ⟨k_6, ek_6⟩ := tl_at [(st, .inr (6, [.ref d, .ref sh, .ref vw, .ref ta, .ref sa, .int (nI n)])), (vw, .inl (κ 5, 3, .inr (.inr (.inr (.inr fv)))))] hm_4
  refine va_astq hx hb hK hP hD hS 1 5 k_6 9 rfl rfl ek_6 rfl (i := nI t) (vp_in_nI (n := t) (by omega) (by omega)) dX6_setTop_6 (fun H locs hP hD hS => ?_)
  rw [nI_clamp (by omega)] at hP hD
  have hP : va_P D vwCl ([(st, .inr (6, [.ref d, .ref sh, .ref vw, .ref ta, .ref sa, .int (nI n)])), (vw, .inl (κ 5, 3, .inr (.inr (.inr (.inr (va_up fv t (some u)))))))] ++ im) H := hP
  have hD : va_D A ([(st, .inr (6, [.ref d, .ref sh, .ref vw, .ref ta, .ref sa, .int (nI n)])), (vw, .inl (κ 5, 3, .inr (.inr (.inr (.inr (va_up fv t (some u)))))))] ++ im) := hD
  exact et_vret hx hb hr hlk hS (va_up fv t (some u)) rfl (show Tb κ im fs (va_up fv t (some u)) 3 from (Tb_view htb es hs hv hd6)) (subP hP [0, 1] rfl) (subD hD [0, 1] (by decide) rfl) (Nat.le_of_ble_eq_true rfl) (Nat.le_of_ble_eq_true rfl) dX6_setTop_7
set_option maxHeartbeats 4000000 in
set_option maxRecDepth 100000 in
theorem c_X6_takeViewsOff_s (l : Launch) (D : va_G) (κ : Nat → ClassId) (κq : Nat → Nat) (im : va_W) (st : Nat) (d : Nat) (sh : Nat) (vw : Nat) (ta : Nat) (sa : Nat) (n : Nat) (fs : Nat → Option Nat) (fv : Nat → Option Nat) (t : Nat) (a : Nat) (R : Nat) (w : Nat) (ht : t < 3) (es : fs t = some a) (hs : Sh κ im a R w) : Et l yX6_takeViewsOff (wl yX6_takeViewsOff cX6_takeViewsOff 3 none) { frames := 0, cells := 0, slots := 0, locals := 0 } D κ κq [.ref st, .int (nI t)] ([(st, .inr (6, [.ref d, .ref sh, .ref vw, .ref ta, .ref sa, .int (nI n)])), (sh, .inl (κ 4, 3, .inr (.inr (.inr (.inr fs))))), (vw, .inl (κ 5, 3, .inr (.inr (.inr (.inr fv)))))] ++ im) (fun v : Nat => none) (fun v : Nat => Vw κ im 0 v R) (fun v : Nat => ([(st, .inr (6, [.ref d, .ref sh, .ref vw, .ref ta, .ref sa, .int (nI n)])), (sh, .inl (κ 4, 3, .inr (.inr (.inr (.inr fs))))), (vw, .inl (κ 5, 3, .inr (.inr (.inr (.inr (va_up fv t (some v)))))))] ++ im)) := by
  refine et_of (by decide +kernel) (Nat.le_of_ble_eq_true rfl) ?_
  intro p e s m args below meth c A ls hx hb hr hml hts hown hlk hin hKK hK hA hP hD hS hE hl
  have hS : va_S A s.heap s.heap [] := hS
  have hP : va_P D vwCl ([(st, .inr (6, [.ref d, .ref sh, .ref vw, .ref ta, .ref sa, .int (nI n)])), (sh, .inl (κ 4, 3, .inr (.inr (.inr (.inr fs))))), (vw, .inl (κ 5, 3, .inr (.inr (.inr (.inr fv)))))] ++ im) s.heap := hP
  have hD : va_D A ([(st, .inr (6, [.ref d, .ref sh, .ref vw, .ref ta, .ref sa, .int (nI n)])), (sh, .inl (κ 4, 3, .inr (.inr (.inr (.inr fs))))), (vw, .inl (κ 5, 3, .inr (.inr (.inr (.inr fv)))))] ++ im) := hD
  have hFX : FX p s m args c cX6_takeViewsOff 3 RX6 := ⟨hx, hb, hml, hown, hts⟩
  have hl : lv_has ls 3 [(0, .ref st), (1, .int (nI t))] := hl
  refine lv_aload_n hx hb dX6_takeViewsOff_0 rfl (lv_at hl 0 rfl) ?_
  refine va_get (D := D) (ci := 6) (v := .ref sh) (C := RX6) (T := TX6) (N := 6) hx hb hts inlX6 hown hK hP 0 rfl rfl 1 (by decide) (hts _ mw_42) (fun _ h9 => h9) rfl dX6_takeViewsOff_1 ?_
  refine lv_iload_n hx hb dX6_takeViewsOff_4 rfl (lv_at hl 1 rfl) ?_
  refine va_aldq hx hb hK hP 1 4 rfl rfl (i := nI t) (vp_in_nI (n := t) (by omega) (by omega)) dX6_takeViewsOff_5 ?_
  refine kv (v := .ref a) (by rw [nI_clamp (by omega)]; rw [es]; rfl) ?_
  refine lv_astore_n (lv' := [(2, .ref a), (0, .ref st), (1, .int (nI t))]) hx hb dX6_takeViewsOff_6 rfl hl (by decide) rfl (fun ls hl => ?_)
  refine lv_aload_n hx hb dX6_takeViewsOff_7 rfl (lv_at hl 1 rfl) ?_
  refine va_get (D := D) (ci := 6) (v := .ref vw) (C := RX6) (T := TX6) (N := 6) hx hb hts inlX6 hown hK hP 0 rfl rfl 2 (by decide) (hts _ mw_44) (fun _ h9 => h9) rfl dX6_takeViewsOff_8 ?_
  refine lv_iload_n hx hb dX6_takeViewsOff_11 rfl (lv_at hl 2 rfl) ?_
  refine lv_aload_n hx hb dX6_takeViewsOff_12 rfl (lv_at hl 0 rfl) ?_
  refine lv_ifnonnull (tgt := 20) hx hb dX6_takeViewsOff_13 (by decide) ?_
  refine lv_aload_n hx hb dX6_takeViewsOff_20 rfl (lv_at hl 0 rfl) ?_
  obtain ⟨hb_1, c_2, x_3, v_4, g_5, h_6, hm_7, hm_8, hm_9, lo_10, lc_11, vw_12⟩ := id hs
  obtain ⟨hb_1_1, hb_1_2, hb_1_3⟩ := hb_1
  have hrw_hb_1 := rw_le hb_1_1 hb_1_3
  refine va_get (D := D) (ci := 5) (v := .ref v_4) (C := RX5) (T := TX5) (N := 4) hx hb hts inlX5 hown hK (oneP (C := [(st, .inr (6, [.ref d, .ref sh, .ref vw, .ref ta, .ref sa, .int (nI n)])), (sh, .inl (κ 4, 3, .inr (.inr (.inr (.inr fs))))), (vw, .inl (κ 5, 3, .inr (.inr (.inr (.inr fv)))))]) hP hm_7) 0 rfl rfl 3 (by decide) (hts _ mw_408) (fun _ h9 => h9) rfl dX6_takeViewsOff_21 ?_
  obtain ⟨r_13, n_14, hm_15, ix_16⟩ := id vw_12
  obtain ⟨k_17, ek_17⟩ := tl_at [(st, .inr (6, [.ref d, .ref sh, .ref vw, .ref ta, .ref sa, .int (nI n)])), (sh, .inl (κ 4, 3, .inr (.inr (.inr (.inr fs))))), (vw, .inl (κ 5, 3, .inr (.inr (.inr (.inr fv)))))] hm_15
  refine va_astq hx hb hK hP hD hS 2 5 k_17 9 rfl rfl ek_17 rfl (i := nI t) (vp_in_nI (n := t) (by omega) (by omega)) dX6_takeViewsOff_24 (fun H locs hP hD hS => ?_)
  rw [nI_clamp (by omega)] at hP hD
  have hP : va_P D vwCl ([(st, .inr (6, [.ref d, .ref sh, .ref vw, .ref ta, .ref sa, .int (nI n)])), (sh, .inl (κ 4, 3, .inr (.inr (.inr (.inr fs))))), (vw, .inl (κ 5, 3, .inr (.inr (.inr (.inr (va_up fv t (some v_4)))))))] ++ im) H := hP
  have hD : va_D A ([(st, .inr (6, [.ref d, .ref sh, .ref vw, .ref ta, .ref sa, .int (nI n)])), (sh, .inl (κ 4, 3, .inr (.inr (.inr (.inr fs))))), (vw, .inl (κ 5, 3, .inr (.inr (.inr (.inr (va_up fv t (some v_4)))))))] ++ im) := hD
  exact et_vret hx hb hr hlk hS v_4 rfl (show Vw κ im 0 v_4 R from vw_12) (subP hP [0, 1, 2] rfl) (subD hD [0, 1, 2] (by decide) rfl) (Nat.le_of_ble_eq_true rfl) (Nat.le_of_ble_eq_true rfl) dX6_takeViewsOff_25
set_option maxHeartbeats 4000000 in
set_option maxRecDepth 100000 in
theorem c_X6_takeViewsOff_n (l : Launch) (D : va_G) (κ : Nat → ClassId) (κq : Nat → Nat) (im : va_W) (st : Nat) (d : Nat) (sh : Nat) (vw : Nat) (ta : Nat) (sa : Nat) (n : Nat) (fs : Nat → Option Nat) (fv : Nat → Option Nat) (t : Nat) (ht : t < 3) (es : fs t = none) : Et l yX6_takeViewsOff (wl yX6_takeViewsOff cX6_takeViewsOff 3 none) { frames := 0, cells := 0, slots := 0, locals := 0 } D κ κq [.ref st, .int (nI t)] ([(st, .inr (6, [.ref d, .ref sh, .ref vw, .ref ta, .ref sa, .int (nI n)])), (sh, .inl (κ 4, 3, .inr (.inr (.inr (.inr fs))))), (vw, .inl (κ 5, 3, .inr (.inr (.inr (.inr fv)))))] ++ im) (fun _ : Unit => none) (fun _ : Unit => True) (fun _ : Unit => ([(st, .inr (6, [.ref d, .ref sh, .ref vw, .ref ta, .ref sa, .int (nI n)])), (sh, .inl (κ 4, 3, .inr (.inr (.inr (.inr fs))))), (vw, .inl (κ 5, 3, .inr (.inr (.inr (.inr (va_up fv t none))))))] ++ im)) := by
  refine et_of (by decide +kernel) (Nat.le_of_ble_eq_true rfl) ?_
  intro p e s m args below meth c A ls hx hb hr hml hts hown hlk hin hKK hK hA hP hD hS hE hl
  have hS : va_S A s.heap s.heap [] := hS
  have hP : va_P D vwCl ([(st, .inr (6, [.ref d, .ref sh, .ref vw, .ref ta, .ref sa, .int (nI n)])), (sh, .inl (κ 4, 3, .inr (.inr (.inr (.inr fs))))), (vw, .inl (κ 5, 3, .inr (.inr (.inr (.inr fv)))))] ++ im) s.heap := hP
  have hD : va_D A ([(st, .inr (6, [.ref d, .ref sh, .ref vw, .ref ta, .ref sa, .int (nI n)])), (sh, .inl (κ 4, 3, .inr (.inr (.inr (.inr fs))))), (vw, .inl (κ 5, 3, .inr (.inr (.inr (.inr fv)))))] ++ im) := hD
  have hFX : FX p s m args c cX6_takeViewsOff 3 RX6 := ⟨hx, hb, hml, hown, hts⟩
  have hl : lv_has ls 3 [(0, .ref st), (1, .int (nI t))] := hl
  refine lv_aload_n hx hb dX6_takeViewsOff_0 rfl (lv_at hl 0 rfl) ?_
  refine va_get (D := D) (ci := 6) (v := .ref sh) (C := RX6) (T := TX6) (N := 6) hx hb hts inlX6 hown hK hP 0 rfl rfl 1 (by decide) (hts _ mw_42) (fun _ h9 => h9) rfl dX6_takeViewsOff_1 ?_
  refine lv_iload_n hx hb dX6_takeViewsOff_4 rfl (lv_at hl 1 rfl) ?_
  refine va_aldq hx hb hK hP 1 4 rfl rfl (i := nI t) (vp_in_nI (n := t) (by omega) (by omega)) dX6_takeViewsOff_5 ?_
  refine kv (v := .null) (by rw [nI_clamp (by omega)]; rw [es]; rfl) ?_
  refine lv_astore_nN (lv' := [(2, .null), (0, .ref st), (1, .int (nI t))]) hx hb dX6_takeViewsOff_6 rfl hl (by decide) rfl (fun ls hl => ?_)
  refine lv_aload_n hx hb dX6_takeViewsOff_7 rfl (lv_at hl 1 rfl) ?_
  refine va_get (D := D) (ci := 6) (v := .ref vw) (C := RX6) (T := TX6) (N := 6) hx hb hts inlX6 hown hK hP 0 rfl rfl 2 (by decide) (hts _ mw_44) (fun _ h9 => h9) rfl dX6_takeViewsOff_8 ?_
  refine lv_iload_n hx hb dX6_takeViewsOff_11 rfl (lv_at hl 2 rfl) ?_
  refine lv_aload_nN hx hb dX6_takeViewsOff_12 rfl (lv_at hl 0 rfl) ?_
  refine lv_ifnonnullN hx hb dX6_takeViewsOff_13 ?_
  refine lv_null hx hb dX6_takeViewsOff_16 ?_
  refine lv_goto (tgt := 24) hx hb dX6_takeViewsOff_17 (by decide) ?_
  refine va_astqN hx hb hK hP hD hS 2 5 rfl rfl (i := nI t) (vp_in_nI (n := t) (by omega) (by omega)) dX6_takeViewsOff_24 (fun H locs hP hD hS => ?_)
  rw [nI_clamp (by omega)] at hP hD
  have hP : va_P D vwCl ([(st, .inr (6, [.ref d, .ref sh, .ref vw, .ref ta, .ref sa, .int (nI n)])), (sh, .inl (κ 4, 3, .inr (.inr (.inr (.inr fs))))), (vw, .inl (κ 5, 3, .inr (.inr (.inr (.inr (va_up fv t none))))))] ++ im) H := hP
  have hD : va_D A ([(st, .inr (6, [.ref d, .ref sh, .ref vw, .ref ta, .ref sa, .int (nI n)])), (sh, .inl (κ 4, 3, .inr (.inr (.inr (.inr fs))))), (vw, .inl (κ 5, 3, .inr (.inr (.inr (.inr (va_up fv t none))))))] ++ im) := hD
  exact et_vret hx hb hr hlk hS () rfl trivial (subP hP [0, 1, 2] rfl) (subD hD [0, 1, 2] (by decide) rfl) (Nat.le_of_ble_eq_true rfl) (Nat.le_of_ble_eq_true rfl) dX6_takeViewsOff_25
set_option maxHeartbeats 4000000 in
set_option maxRecDepth 100000 in
theorem c_X6_forgetFirstAct (l : Launch) (D : va_G) (κ : Nat → ClassId) (κq : Nat → Nat) (im : va_W) (st : Nat) (d : Nat) (sh : Nat) (vw : Nat) (ta : Nat) (sa : Nat) (n : Nat) (fa : Nat → Int32) (ga : Nat → Option Nat) (hn6 : n = 6) (hrn : Rn 6 3 fa) (hss : Ss κ im ga 6) : Et l yX6_forgetFirstAct (wl yX6_forgetFirstAct cX6_forgetFirstAct 2 none) { frames := 0, cells := 0, slots := 0, locals := 0 } D κ κq [.ref st] ([(st, .inr (6, [.ref d, .ref sh, .ref vw, .ref ta, .ref sa, .int (nI n)])), (ta, .inl (κ 0, 6, .inl fa)), (sa, .inl (κ 4, 6, .inr (.inr (.inr (.inr ga)))))] ++ im) (fun u9 : (Nat → Int32) × (Nat → Option Nat) => none) (fun u9 : (Nat → Int32) × (Nat → Option Nat) => Rn 6 3 u9.1 ∧ Ss κ im u9.2 6) (fun u9 : (Nat → Int32) × (Nat → Option Nat) => ([(st, .inr (6, [.ref d, .ref sh, .ref vw, .ref ta, .ref sa, .int (nI (n - 1))])), (ta, .inl (κ 0, 6, .inl u9.1)), (sa, .inl (κ 4, 6, .inr (.inr (.inr (.inr u9.2)))))] ++ im)) := by
  refine et_of (by decide +kernel) (Nat.le_of_ble_eq_true rfl) ?_
  intro p e s m args below meth c A ls hx hb hr hml hts hown hlk hin hKK hK hA hP hD hS hE hl
  have hS : va_S A s.heap s.heap [] := hS
  have hP : va_P D vwCl ([(st, .inr (6, [.ref d, .ref sh, .ref vw, .ref ta, .ref sa, .int (nI n)])), (ta, .inl (κ 0, 6, .inl fa)), (sa, .inl (κ 4, 6, .inr (.inr (.inr (.inr ga)))))] ++ im) s.heap := hP
  have hD : va_D A ([(st, .inr (6, [.ref d, .ref sh, .ref vw, .ref ta, .ref sa, .int (nI n)])), (ta, .inl (κ 0, 6, .inl fa)), (sa, .inl (κ 4, 6, .inr (.inr (.inr (.inr ga)))))] ++ im) := hD
  have hFX : FX p s m args c cX6_forgetFirstAct 2 RX6 := ⟨hx, hb, hml, hown, hts⟩
  have hl : lv_has ls 2 [(0, .ref st)] := hl
  refine lv_iconst (v := 1) hx hb dX6_forgetFirstAct_0 (by decide) ?_
  refine lv_istore_n (lv' := [(1, .int 1), (0, .ref st)]) hx hb dX6_forgetFirstAct_1 rfl hl (by decide) rfl (fun ls hl => ?_)
  refine loop_dn (fun k9 H locs ls => ∃ (k1_2 : Nat), ∃ (gta_2 : Nat → Int32), ∃ (gsa_2 : Nat → Option Nat), (1 ≤ k1_2) ∧ (k1_2 ≤ 6) ∧ Rn 6 3 gta_2 ∧ Ss κ im gsa_2 6 ∧ 6 - k1_2 = k9 ∧ va_P D vwCl ([(st, .inr (6, [.ref d, .ref sh, .ref vw, .ref ta, .ref sa, .int (nI n)])), (ta, .inl (κ 0, 6, .inl gta_2)), (sa, .inl (κ 4, 6, .inr (.inr (.inr (.inr gsa_2)))))] ++ im) H ∧ va_D A ([(st, .inr (6, [.ref d, .ref sh, .ref vw, .ref ta, .ref sa, .int (nI n)])), (ta, .inl (κ 0, 6, .inl gta_2)), (sa, .inl (κ 4, 6, .inr (.inr (.inr (.inr gsa_2)))))] ++ im) ∧ va_S A s.heap H locs ∧ lv_has ls 2 [(1, .int (nI k1_2)), (0, .ref st)]) (fun k9 H locs ls hI2 ih2 => ?_) (6 - 1) _ _ _ ⟨1, fa, ga, (by omega), (by omega), hrn, hss, rfl, hP, hD, hS, lv_sub hl [0, 1] rfl⟩
  obtain ⟨k1_2, gta_2, gsa_2, hl2_0, hl2_1, hg2_0, hq2_0, hm2, hP, hD, hS, hl⟩ := hI2
  refine lv_iload_n hx hb dX6_forgetFirstAct_2 rfl (lv_at hl 0 rfl) ?_
  refine lv_bipush (v := 6) hx hb dX6_forgetFirstAct_3 (by decide) ?_
  refine lv_icmp_ge (tgt := 42) hx hb dX6_forgetFirstAct_5 (by decide) (fun c_1 => ?_) (fun c_1 => ?_)
  · have nc_1 := cv_le (a := 6) (b := k1_2) (by omega) (by omega) c_1
    refine lv_aload_n hx hb dX6_forgetFirstAct_42 rfl (lv_at hl 1 rfl) ?_
    refine lv_dup hx hb dX6_forgetFirstAct_43 rfl ?_
    refine va_get (D := D) (ci := 6) (v := .int (nI n)) (C := RX6) (T := TX6) (N := 6) hx hb hts inlX6 hown hK hP 0 rfl rfl 5 (by decide) (hts _ mw_47) (fun _ h9 => h9) rfl dX6_forgetFirstAct_44 ?_
    refine lv_iconst (v := 1) hx hb dX6_forgetFirstAct_47 (by decide) ?_
    refine lv_isub hx hb dX6_forgetFirstAct_48 ?_
    refine ki (v := (nI (n - 1))) (pk_sub (a := n) (b := 1) (by omega)) ?_
    refine va_put (D := D) (ci := 6) (v := .int (nI (n - 1))) (ty := tyX6 5) (C := RX6) (T := TX6) (N := 6) hx hb hts inlX6 tyX6 tyX6_ok nmX6 hown hK hP hD hS 0 rfl rfl 5 (by decide) (hts _ mw_47) (fun _ h9 => h9) rfl (tyX6_ok 5 (by decide)) rfl rfl (Nat.le_of_ble_eq_true rfl) dX6_forgetFirstAct_49 (fun H locs hP hD hS => ?_)
    have hP : va_P D vwCl ([(st, .inr (6, [.ref d, .ref sh, .ref vw, .ref ta, .ref sa, .int (nI (n - 1))])), (ta, .inl (κ 0, 6, .inl gta_2)), (sa, .inl (κ 4, 6, .inr (.inr (.inr (.inr gsa_2)))))] ++ im) H := hP
    have hD : va_D A ([(st, .inr (6, [.ref d, .ref sh, .ref vw, .ref ta, .ref sa, .int (nI (n - 1))])), (ta, .inl (κ 0, 6, .inl gta_2)), (sa, .inl (κ 4, 6, .inr (.inr (.inr (.inr gsa_2)))))] ++ im) := hD
    exact et_vret hx hb hr hlk hS (gta_2, gsa_2) rfl ⟨(show Rn 6 3 gta_2 from (by first | assumption | omega | rfl | exact Or.inl (by assumption) | exact Or.inr (by assumption))), (show Ss κ im gsa_2 6 from hq2_0)⟩ (subP hP [0, 1, 2] rfl) (subD hD [0, 1, 2] (by decide) rfl) (Nat.le_of_ble_eq_true rfl) (Nat.le_of_ble_eq_true rfl) dX6_forgetFirstAct_52
  · have nc_1 := cv_nle (a := 6) (b := k1_2) (by omega) (by omega) c_1
    refine lv_aload_n hx hb dX6_forgetFirstAct_8 rfl (lv_at hl 1 rfl) ?_
    refine va_get (D := D) (ci := 6) (v := .ref ta) (C := RX6) (T := TX6) (N := 6) hx hb hts inlX6 hown hK hP 0 rfl rfl 3 (by decide) (hts _ mw_45) (fun _ h9 => h9) rfl dX6_forgetFirstAct_9 ?_
    refine lv_iload_n hx hb dX6_forgetFirstAct_12 rfl (lv_at hl 0 rfl) ?_
    refine lv_iconst (v := 1) hx hb dX6_forgetFirstAct_13 (by decide) ?_
    refine lv_isub hx hb dX6_forgetFirstAct_14 ?_
    refine ki (v := (nI (k1_2 - 1))) (pk_sub (a := k1_2) (b := 1) (by omega)) ?_
    refine lv_aload_n hx hb dX6_forgetFirstAct_15 rfl (lv_at hl 1 rfl) ?_
    refine va_get (D := D) (ci := 6) (v := .ref ta) (C := RX6) (T := TX6) (N := 6) hx hb hts inlX6 hown hK hP 0 rfl rfl 3 (by decide) (hts _ mw_45) (fun _ h9 => h9) rfl dX6_forgetFirstAct_16 ?_
    refine lv_iload_n hx hb dX6_forgetFirstAct_19 rfl (lv_at hl 0 rfl) ?_
    refine va_iald hx hb hK hP 1 0 rfl rfl (i := nI k1_2) (vp_in_nI (n := k1_2) (by omega) (by omega)) dX6_forgetFirstAct_20 ?_
    refine kv (v := .int (gta_2 k1_2)) (by rw [nI_clamp (by omega)]) ?_
    obtain ⟨n_2, hn_2, en_2⟩ := hg2_0 k1_2 (by omega)
    refine kv (v := .int (nI n_2)) (congrArg Value.int en_2) ?_
    refine va_iast hx hb hK hP hD hS 1 0 rfl rfl (i := nI (k1_2 - 1)) (x := nI n_2) (vp_in_nI (n := (k1_2 - 1)) (by omega) (by omega)) dX6_forgetFirstAct_21 (fun H locs hP hD hS => ?_)
    rw [nI_clamp (by omega)] at hP hD
    have hP : va_P D vwCl ([(st, .inr (6, [.ref d, .ref sh, .ref vw, .ref ta, .ref sa, .int (nI n)])), (ta, .inl (κ 0, 6, .inl (upd gta_2 (k1_2 - 1) (nI n_2)))), (sa, .inl (κ 4, 6, .inr (.inr (.inr (.inr gsa_2)))))] ++ im) H := hP
    have hD : va_D A ([(st, .inr (6, [.ref d, .ref sh, .ref vw, .ref ta, .ref sa, .int (nI n)])), (ta, .inl (κ 0, 6, .inl (upd gta_2 (k1_2 - 1) (nI n_2)))), (sa, .inl (κ 4, 6, .inr (.inr (.inr (.inr gsa_2)))))] ++ im) := hD
    have hf_4 : Rn 6 3 (upd gta_2 (k1_2 - 1) (nI n_2)) := Rn_set hg2_0 (v := n_2) (by omega)
    generalize upd gta_2 (k1_2 - 1) (nI n_2) = g_3 at hP hD hf_4
    refine lv_aload_n hx hb dX6_forgetFirstAct_22 rfl (lv_at hl 1 rfl) ?_
    refine va_get (D := D) (ci := 6) (v := .ref sa) (C := RX6) (T := TX6) (N := 6) hx hb hts inlX6 hown hK hP 0 rfl rfl 4 (by decide) (hts _ mw_46) (fun _ h9 => h9) rfl dX6_forgetFirstAct_23 ?_
    refine lv_iload_n hx hb dX6_forgetFirstAct_26 rfl (lv_at hl 0 rfl) ?_
    refine lv_iconst (v := 1) hx hb dX6_forgetFirstAct_27 (by decide) ?_
    refine lv_isub hx hb dX6_forgetFirstAct_28 ?_
    refine ki (v := (nI (k1_2 - 1))) (pk_sub (a := k1_2) (b := 1) (by omega)) ?_
    refine lv_aload_n hx hb dX6_forgetFirstAct_29 rfl (lv_at hl 1 rfl) ?_
    refine va_get (D := D) (ci := 6) (v := .ref sa) (C := RX6) (T := TX6) (N := 6) hx hb hts inlX6 hown hK hP 0 rfl rfl 4 (by decide) (hts _ mw_46) (fun _ h9 => h9) rfl dX6_forgetFirstAct_30 ?_
    refine lv_iload_n hx hb dX6_forgetFirstAct_33 rfl (lv_at hl 0 rfl) ?_
    refine va_aldq hx hb hK hP 2 4 rfl rfl (i := nI k1_2) (vp_in_nI (n := k1_2) (by omega) (by omega)) dX6_forgetFirstAct_34 ?_
    rcases hq2_0 k1_2 (by omega) with e_5 | ⟨a_6, R_7, w_8, e_5, h_9⟩
    · refine kv (v := .null) (by rw [nI_clamp (by omega)]; rw [e_5]; rfl) ?_
      refine va_astqN hx hb hK hP hD hS 2 4 rfl rfl (i := nI (k1_2 - 1)) (vp_in_nI (n := (k1_2 - 1)) (by omega) (by omega)) dX6_forgetFirstAct_35 (fun H locs hP hD hS => ?_)
      rw [nI_clamp (by omega)] at hP hD
      have hP : va_P D vwCl ([(st, .inr (6, [.ref d, .ref sh, .ref vw, .ref ta, .ref sa, .int (nI n)])), (ta, .inl (κ 0, 6, .inl g_3)), (sa, .inl (κ 4, 6, .inr (.inr (.inr (.inr (va_up gsa_2 (k1_2 - 1) none))))))] ++ im) H := hP
      have hD : va_D A ([(st, .inr (6, [.ref d, .ref sh, .ref vw, .ref ta, .ref sa, .int (nI n)])), (ta, .inl (κ 0, 6, .inl g_3)), (sa, .inl (κ 4, 6, .inr (.inr (.inr (.inr (va_up gsa_2 (k1_2 - 1) none))))))] ++ im) := hD
      have hf_11 : Ss κ im (va_up gsa_2 (k1_2 - 1) none) 6 := Ss_non hq2_0
      generalize va_up gsa_2 (k1_2 - 1) none = g_10 at hP hD hf_11
      refine lv_iinc (v := (nI (k1_2 + 1))) (lv' := [(1, .int (nI (k1_2 + 1))), (0, .ref st)]) hx hb dX6_forgetFirstAct_36 hl (k := 0) rfl (nI_i k1_2) (by decide) rfl (fun ls hl => ?_)
      refine lv_goto (tgt := 2) hx hb dX6_forgetFirstAct_39 (by decide) ?_
      exact ih2 _ _ _ _ (by omega) ⟨(k1_2 + 1), g_3, g_10, (by omega), (by omega), hf_4, hf_11, rfl, hP, hD, hS, lv_sub hl [0, 1] rfl⟩
    · refine kv (v := .ref a_6) (by rw [nI_clamp (by omega)]; rw [e_5]; rfl) ?_
      obtain ⟨hb_12, c_13, x_14, v_15, g_16, h_17, hm_18, hm_19, hm_20, lo_21, lc_22, vw_23⟩ := id h_9
      obtain ⟨hb_12_1, hb_12_2, hb_12_3⟩ := hb_12
      have hrw_hb_12 := rw_le hb_12_1 hb_12_3
      obtain ⟨k_24, ek_24⟩ := tl_at [(st, .inr (6, [.ref d, .ref sh, .ref vw, .ref ta, .ref sa, .int (nI n)])), (ta, .inl (κ 0, 6, .inl g_3)), (sa, .inl (κ 4, 6, .inr (.inr (.inr (.inr gsa_2)))))] hm_18
      refine va_astq hx hb hK hP hD hS 2 4 k_24 5 rfl rfl ek_24 rfl (i := nI (k1_2 - 1)) (vp_in_nI (n := (k1_2 - 1)) (by omega) (by omega)) dX6_forgetFirstAct_35 (fun H locs hP hD hS => ?_)
      rw [nI_clamp (by omega)] at hP hD
      have hP : va_P D vwCl ([(st, .inr (6, [.ref d, .ref sh, .ref vw, .ref ta, .ref sa, .int (nI n)])), (ta, .inl (κ 0, 6, .inl g_3)), (sa, .inl (κ 4, 6, .inr (.inr (.inr (.inr (va_up gsa_2 (k1_2 - 1) (some a_6)))))))] ++ im) H := hP
      have hD : va_D A ([(st, .inr (6, [.ref d, .ref sh, .ref vw, .ref ta, .ref sa, .int (nI n)])), (ta, .inl (κ 0, 6, .inl g_3)), (sa, .inl (κ 4, 6, .inr (.inr (.inr (.inr (va_up gsa_2 (k1_2 - 1) (some a_6)))))))] ++ im) := hD
      have hf_26 : Ss κ im (va_up gsa_2 (k1_2 - 1) (some a_6)) 6 := Ss_set hq2_0 h_9
      generalize va_up gsa_2 (k1_2 - 1) (some a_6) = g_25 at hP hD hf_26
      refine lv_iinc (v := (nI (k1_2 + 1))) (lv' := [(1, .int (nI (k1_2 + 1))), (0, .ref st)]) hx hb dX6_forgetFirstAct_36 hl (k := 0) rfl (nI_i k1_2) (by decide) rfl (fun ls hl => ?_)
      refine lv_goto (tgt := 2) hx hb dX6_forgetFirstAct_39 (by decide) ?_
      exact ih2 _ _ _ _ (by omega) ⟨(k1_2 + 1), g_3, g_25, (by omega), (by omega), hf_4, hf_26, rfl, hP, hD, hS, lv_sub hl [0, 1] rfl⟩
set_option maxHeartbeats 4000000 in
set_option maxRecDepth 100000 in
theorem c_X6_act (l : Launch) (D : va_G) (κ : Nat → ClassId) (κq : Nat → Nat) (im : va_W) (st : Nat) (d : Nat) (sh : Nat) (vw : Nat) (ta : Nat) (sa : Nat) (n : Nat) (fs : Nat → Option Nat) (fv : Nat → Option Nat) (fa : Nat → Int32) (ga : Nat → Option Nat) (t : Nat) (a : Nat) (R : Nat) (w : Nat) (hn6 : n ≤ 6) (htb : Tb κ im fs fv 3) (hrn : Rn 6 3 fa) (hss : Ss κ im ga 6) (ht : t < 3) (hs : Sh κ im a R w) : Et l yX6_act (wl yX6_act cX6_act 3 none) { frames := 1, cells := 0, slots := 0, locals := 22 } D κ κq [.ref st, .int (nI t), .ref a] ([(st, .inr (6, [.ref d, .ref sh, .ref vw, .ref ta, .ref sa, .int (nI n)])), (sh, .inl (κ 4, 3, .inr (.inr (.inr (.inr fs))))), (vw, .inl (κ 5, 3, .inr (.inr (.inr (.inr fv))))), (ta, .inl (κ 0, 6, .inl fa)), (sa, .inl (κ 4, 6, .inr (.inr (.inr (.inr ga)))))] ++ im) (fun u9 : Nat × (Nat → Option Nat) × (Nat → Option Nat) × (Nat → Int32) × (Nat → Option Nat) => none) (fun u9 : Nat × (Nat → Option Nat) × (Nat → Option Nat) × (Nat → Int32) × (Nat → Option Nat) => u9.1 ≤ 6 ∧ Tb κ im u9.2.1 u9.2.2.1 3 ∧ Rn 6 3 u9.2.2.2.1 ∧ Ss κ im u9.2.2.2.2 6) (fun u9 : Nat × (Nat → Option Nat) × (Nat → Option Nat) × (Nat → Int32) × (Nat → Option Nat) => ([(st, .inr (6, [.ref d, .ref sh, .ref vw, .ref ta, .ref sa, .int (nI u9.1)])), (sh, .inl (κ 4, 3, .inr (.inr (.inr (.inr u9.2.1))))), (vw, .inl (κ 5, 3, .inr (.inr (.inr (.inr u9.2.2.1))))), (ta, .inl (κ 0, 6, .inl u9.2.2.2.1)), (sa, .inl (κ 4, 6, .inr (.inr (.inr (.inr u9.2.2.2.2)))))] ++ im)) := by
  refine et_of (by decide +kernel) (Nat.le_of_ble_eq_true rfl) ?_
  intro p e s m args below meth c A ls hx hb hr hml hts hown hlk hin hKK hK hA hP hD hS hE hl
  have hS : va_S A s.heap s.heap [] := hS
  have hP : va_P D vwCl ([(st, .inr (6, [.ref d, .ref sh, .ref vw, .ref ta, .ref sa, .int (nI n)])), (sh, .inl (κ 4, 3, .inr (.inr (.inr (.inr fs))))), (vw, .inl (κ 5, 3, .inr (.inr (.inr (.inr fv))))), (ta, .inl (κ 0, 6, .inl fa)), (sa, .inl (κ 4, 6, .inr (.inr (.inr (.inr ga)))))] ++ im) s.heap := hP
  have hD : va_D A ([(st, .inr (6, [.ref d, .ref sh, .ref vw, .ref ta, .ref sa, .int (nI n)])), (sh, .inl (κ 4, 3, .inr (.inr (.inr (.inr fs))))), (vw, .inl (κ 5, 3, .inr (.inr (.inr (.inr fv))))), (ta, .inl (κ 0, 6, .inl fa)), (sa, .inl (κ 4, 6, .inr (.inr (.inr (.inr ga)))))] ++ im) := hD
  have hFX : FX p s m args c cX6_act 3 RX6 := ⟨hx, hb, hml, hown, hts⟩
  have hl : lv_has ls 3 [(0, .ref st), (1, .int (nI t)), (2, .ref a)] := hl
  refine lv_aload_n hx hb dX6_act_0 rfl (lv_at hl 0 rfl) ?_
  refine va_get (D := D) (ci := 6) (v := .int (nI n)) (C := RX6) (T := TX6) (N := 6) hx hb hts inlX6 hown hK hP 0 rfl rfl 5 (by decide) (hts _ mw_47) (fun _ h9 => h9) rfl dX6_act_1 ?_
  refine lv_bipush (v := 6) hx hb dX6_act_4 (by decide) ?_
  refine lv_icmp_ne (tgt := 13) hx hb dX6_act_6 (by decide) (fun c_1 => ?_) (fun c_1 => ?_)
  · have nc_1 := cv_ne (a := n) (b := 6) (by omega) (by omega) c_1
    refine lv_aload_n hx hb dX6_act_13 rfl (lv_at hl 0 rfl) ?_
    refine va_get (D := D) (ci := 6) (v := .ref ta) (C := RX6) (T := TX6) (N := 6) hx hb hts inlX6 hown hK hP 0 rfl rfl 3 (by decide) (hts _ mw_45) (fun _ h9 => h9) rfl dX6_act_14 ?_
    refine lv_aload_n hx hb dX6_act_17 rfl (lv_at hl 0 rfl) ?_
    refine va_get (D := D) (ci := 6) (v := .int (nI n)) (C := RX6) (T := TX6) (N := 6) hx hb hts inlX6 hown hK hP 0 rfl rfl 5 (by decide) (hts _ mw_47) (fun _ h9 => h9) rfl dX6_act_18 ?_
    refine lv_iload_n hx hb dX6_act_21 rfl (lv_at hl 1 rfl) ?_
    refine va_iast hx hb hK hP hD hS 3 0 rfl rfl (i := nI n) (x := nI t) (vp_in_nI (n := n) (by omega) (by omega)) dX6_act_22 (fun H locs hP hD hS => ?_)
    rw [nI_clamp (by omega)] at hP hD
    have hP : va_P D vwCl ([(st, .inr (6, [.ref d, .ref sh, .ref vw, .ref ta, .ref sa, .int (nI n)])), (sh, .inl (κ 4, 3, .inr (.inr (.inr (.inr fs))))), (vw, .inl (κ 5, 3, .inr (.inr (.inr (.inr fv))))), (ta, .inl (κ 0, 6, .inl (upd fa n (nI t)))), (sa, .inl (κ 4, 6, .inr (.inr (.inr (.inr ga)))))] ++ im) H := hP
    have hD : va_D A ([(st, .inr (6, [.ref d, .ref sh, .ref vw, .ref ta, .ref sa, .int (nI n)])), (sh, .inl (κ 4, 3, .inr (.inr (.inr (.inr fs))))), (vw, .inl (κ 5, 3, .inr (.inr (.inr (.inr fv))))), (ta, .inl (κ 0, 6, .inl (upd fa n (nI t)))), (sa, .inl (κ 4, 6, .inr (.inr (.inr (.inr ga)))))] ++ im) := hD
    have hf_3 : Rn 6 3 (upd fa n (nI t)) := Rn_set hrn (v := t) (by omega)
    generalize upd fa n (nI t) = g_2 at hP hD hf_3
    refine lv_aload_n hx hb dX6_act_23 rfl (lv_at hl 0 rfl) ?_
    refine va_get (D := D) (ci := 6) (v := .ref sa) (C := RX6) (T := TX6) (N := 6) hx hb hts inlX6 hown hK hP 0 rfl rfl 4 (by decide) (hts _ mw_46) (fun _ h9 => h9) rfl dX6_act_24 ?_
    refine lv_aload_n hx hb dX6_act_27 rfl (lv_at hl 0 rfl) ?_
    refine va_get (D := D) (ci := 6) (v := .int (nI n)) (C := RX6) (T := TX6) (N := 6) hx hb hts inlX6 hown hK hP 0 rfl rfl 5 (by decide) (hts _ mw_47) (fun _ h9 => h9) rfl dX6_act_28 ?_
    refine lv_aload_n hx hb dX6_act_31 rfl (lv_at hl 0 rfl) ?_
    refine va_get (D := D) (ci := 6) (v := .ref sh) (C := RX6) (T := TX6) (N := 6) hx hb hts inlX6 hown hK hP 0 rfl rfl 1 (by decide) (hts _ mw_42) (fun _ h9 => h9) rfl dX6_act_32 ?_
    refine lv_iload_n hx hb dX6_act_35 rfl (lv_at hl 1 rfl) ?_
    refine va_aldq hx hb hK hP 1 4 rfl rfl (i := nI t) (vp_in_nI (n := t) (by omega) (by omega)) dX6_act_36 ?_
    rcases htb t (by omega) with ⟨e_4, e_5⟩ | ⟨a_6, R_7, w_8, d_9, v_10, e_4, e_5, h_11, h_12, hd_13⟩
    · skip
      refine kv (v := .null) (by rw [nI_clamp (by omega)]; rw [e_4]; rfl) ?_
      refine va_astqN hx hb hK hP hD hS 4 4 rfl rfl (i := nI n) (vp_in_nI (n := n) (by omega) (by omega)) dX6_act_37 (fun H locs hP hD hS => ?_)
      rw [nI_clamp (by omega)] at hP hD
      have hP : va_P D vwCl ([(st, .inr (6, [.ref d, .ref sh, .ref vw, .ref ta, .ref sa, .int (nI n)])), (sh, .inl (κ 4, 3, .inr (.inr (.inr (.inr fs))))), (vw, .inl (κ 5, 3, .inr (.inr (.inr (.inr fv))))), (ta, .inl (κ 0, 6, .inl g_2)), (sa, .inl (κ 4, 6, .inr (.inr (.inr (.inr (va_up ga n none))))))] ++ im) H := hP
      have hD : va_D A ([(st, .inr (6, [.ref d, .ref sh, .ref vw, .ref ta, .ref sa, .int (nI n)])), (sh, .inl (κ 4, 3, .inr (.inr (.inr (.inr fs))))), (vw, .inl (κ 5, 3, .inr (.inr (.inr (.inr fv))))), (ta, .inl (κ 0, 6, .inl g_2)), (sa, .inl (κ 4, 6, .inr (.inr (.inr (.inr (va_up ga n none))))))] ++ im) := hD
      have hf_15 : Ss κ im (va_up ga n none) 6 := Ss_non hss
      generalize va_up ga n none = g_14 at hP hD hf_15
      refine lv_aload_n hx hb dX6_act_38 rfl (lv_at hl 0 rfl) ?_
      refine lv_dup hx hb dX6_act_39 rfl ?_
      refine va_get (D := D) (ci := 6) (v := .int (nI n)) (C := RX6) (T := TX6) (N := 6) hx hb hts inlX6 hown hK hP 0 rfl rfl 5 (by decide) (hts _ mw_47) (fun _ h9 => h9) rfl dX6_act_40 ?_
      refine lv_iconst (v := 1) hx hb dX6_act_43 (by decide) ?_
      refine lv_iadd hx hb dX6_act_44 ?_
      refine ki (v := (nI (n + 1))) (nI_add n 1) ?_
      refine va_put (D := D) (ci := 6) (v := .int (nI (n + 1))) (ty := tyX6 5) (C := RX6) (T := TX6) (N := 6) hx hb hts inlX6 tyX6 tyX6_ok nmX6 hown hK hP hD hS 0 rfl rfl 5 (by decide) (hts _ mw_47) (fun _ h9 => h9) rfl (tyX6_ok 5 (by decide)) rfl rfl (Nat.le_of_ble_eq_true rfl) dX6_act_45 (fun H locs hP hD hS => ?_)
      have hP : va_P D vwCl ([(st, .inr (6, [.ref d, .ref sh, .ref vw, .ref ta, .ref sa, .int (nI (n + 1))])), (sh, .inl (κ 4, 3, .inr (.inr (.inr (.inr fs))))), (vw, .inl (κ 5, 3, .inr (.inr (.inr (.inr fv))))), (ta, .inl (κ 0, 6, .inl g_2)), (sa, .inl (κ 4, 6, .inr (.inr (.inr (.inr g_14)))))] ++ im) H := hP
      have hD : va_D A ([(st, .inr (6, [.ref d, .ref sh, .ref vw, .ref ta, .ref sa, .int (nI (n + 1))])), (sh, .inl (κ 4, 3, .inr (.inr (.inr (.inr fs))))), (vw, .inl (κ 5, 3, .inr (.inr (.inr (.inr fv))))), (ta, .inl (κ 0, 6, .inl g_2)), (sa, .inl (κ 4, 6, .inr (.inr (.inr (.inr g_14)))))] ++ im) := hD
      refine lv_aload_n hx hb dX6_act_48 rfl (lv_at hl 0 rfl) ?_
      refine va_get (D := D) (ci := 6) (v := .ref sh) (C := RX6) (T := TX6) (N := 6) hx hb hts inlX6 hown hK hP 0 rfl rfl 1 (by decide) (hts _ mw_42) (fun _ h9 => h9) rfl dX6_act_49 ?_
      refine lv_iload_n hx hb dX6_act_52 rfl (lv_at hl 1 rfl) ?_
      refine lv_aload_n hx hb dX6_act_53 rfl (lv_at hl 2 rfl) ?_
      obtain ⟨hb_16, c_17, x_18, v_19, g_20, h_21, hm_22, hm_23, hm_24, lo_25, lc_26, vw_27⟩ := id hs
      obtain ⟨hb_16_1, hb_16_2, hb_16_3⟩ := hb_16
      have hrw_hb_16 := rw_le hb_16_1 hb_16_3
      obtain ⟨k_28, ek_28⟩ := tl_at [(st, .inr (6, [.ref d, .ref sh, .ref vw, .ref ta, .ref sa, .int (nI (n + 1))])), (sh, .inl (κ 4, 3, .inr (.inr (.inr (.inr fs))))), (vw, .inl (κ 5, 3, .inr (.inr (.inr (.inr fv))))), (ta, .inl (κ 0, 6, .inl g_2)), (sa, .inl (κ 4, 6, .inr (.inr (.inr (.inr g_14)))))] hm_22
      refine va_astq hx hb hK hP hD hS 1 4 k_28 5 rfl rfl ek_28 rfl (i := nI t) (vp_in_nI (n := t) (by omega) (by omega)) dX6_act_54 (fun H locs hP hD hS => ?_)
      rw [nI_clamp (by omega)] at hP hD
      have hP : va_P D vwCl ([(st, .inr (6, [.ref d, .ref sh, .ref vw, .ref ta, .ref sa, .int (nI (n + 1))])), (sh, .inl (κ 4, 3, .inr (.inr (.inr (.inr (va_up fs t (some a))))))), (vw, .inl (κ 5, 3, .inr (.inr (.inr (.inr fv))))), (ta, .inl (κ 0, 6, .inl g_2)), (sa, .inl (κ 4, 6, .inr (.inr (.inr (.inr g_14)))))] ++ im) H := hP
      have hD : va_D A ([(st, .inr (6, [.ref d, .ref sh, .ref vw, .ref ta, .ref sa, .int (nI (n + 1))])), (sh, .inl (κ 4, 3, .inr (.inr (.inr (.inr (va_up fs t (some a))))))), (vw, .inl (κ 5, 3, .inr (.inr (.inr (.inr fv))))), (ta, .inl (κ 0, 6, .inl g_2)), (sa, .inl (κ 4, 6, .inr (.inr (.inr (.inr g_14)))))] ++ im) := hD
      refine lv_aload_n hx hb dX6_act_55 rfl (lv_at hl 0 rfl) ?_
      refine lv_iload_n hx hb dX6_act_56 rfl (lv_at hl 1 rfl) ?_
      refine et_VT (CR := [(ta, .inl (κ 0, 6, .inl g_2)), (sa, .inl (κ 4, 6, .inr (.inr (.inr (.inr g_14)))))]) (As := [.int (nI t)]) (rest := []) hFX hKK hE hP hD hS hA (c_X6_takeViewsOff_s l D κ κq im st d sh vw ta sa (n + 1) (va_up fs t (some a)) fv t a R w (by omega) va_up_same hs) 1 gV_X6_73 hdV_X6_takeViewsOff ⟨Nat.le_of_ble_eq_true rfl, Nat.le_of_ble_eq_true rfl⟩ rfl rfl (Nat.le_of_ble_eq_true rfl) dX6_act_57 ⟨Nat.le_of_ble_eq_true rfl, Nat.le_of_ble_eq_true rfl⟩ hl.1 [0, 1, 2] [3, 4] rfl rfl (by decide) (by decide) (by decide) hP 0 6 rfl rfl rfl (fun v__29 H locs hp_30 hP hD hS => ?_)
      replace hP : va_P D vwCl ([(st, .inr (6, [.ref d, .ref sh, .ref vw, .ref ta, .ref sa, .int (nI (n + 1))])), (sh, .inl (κ 4, 3, .inr (.inr (.inr (.inr (va_up fs t (some a))))))), (vw, .inl (κ 5, 3, .inr (.inr (.inr (.inr (va_up fv t (some v__29))))))), (ta, .inl (κ 0, 6, .inl g_2)), (sa, .inl (κ 4, 6, .inr (.inr (.inr (.inr g_14)))))] ++ im) H := subP (C := [(ta, .inl (κ 0, 6, .inl g_2)), (sa, .inl (κ 4, 6, .inr (.inr (.inr (.inr g_14))))), (st, .inr (6, [.ref d, .ref sh, .ref vw, .ref ta, .ref sa, .int (nI (n + 1))])), (sh, .inl (κ 4, 3, .inr (.inr (.inr (.inr (va_up fs t (some a))))))), (vw, .inl (κ 5, 3, .inr (.inr (.inr (.inr (va_up fv t (some v__29)))))))]) hP [2, 3, 4, 0, 1] rfl
      replace hD : va_D A ([(st, .inr (6, [.ref d, .ref sh, .ref vw, .ref ta, .ref sa, .int (nI (n + 1))])), (sh, .inl (κ 4, 3, .inr (.inr (.inr (.inr (va_up fs t (some a))))))), (vw, .inl (κ 5, 3, .inr (.inr (.inr (.inr (va_up fv t (some v__29))))))), (ta, .inl (κ 0, 6, .inl g_2)), (sa, .inl (κ 4, 6, .inr (.inr (.inr (.inr g_14)))))] ++ im) := subD (C := [(ta, .inl (κ 0, 6, .inl g_2)), (sa, .inl (κ 4, 6, .inr (.inr (.inr (.inr g_14))))), (st, .inr (6, [.ref d, .ref sh, .ref vw, .ref ta, .ref sa, .int (nI (n + 1))])), (sh, .inl (κ 4, 3, .inr (.inr (.inr (.inr (va_up fs t (some a))))))), (vw, .inl (κ 5, 3, .inr (.inr (.inr (.inr (va_up fv t (some v__29)))))))]) hD [2, 3, 4, 0, 1] (by decide) rfl
      replace hp_30 : Vw κ im 0 v__29 R := hp_30
      have h_31 := hp_30
      clear hp_30
      refine W.eq (g2 := F0 m 60 ls []) rfl ?_
      exact et_vret hx hb hr hlk hS (n + 1, va_up fs t (some a), va_up fv t (some v__29), g_2, g_14) rfl ⟨(show (n + 1) ≤ 6 from (by first | assumption | omega | rfl | exact Or.inl (by assumption) | exact Or.inr (by assumption))), (show Tb κ im (va_up fs t (some a)) (va_up fv t (some v__29)) 3 from (Tb_act htb hs h_31 (by omega))), (show Rn 6 3 g_2 from (by first | assumption | omega | rfl | exact Or.inl (by assumption) | exact Or.inr (by assumption))), (show Ss κ im g_14 6 from hf_15)⟩ (subP hP [0, 1, 2, 3, 4] rfl) (subD hD [0, 1, 2, 3, 4] (by decide) rfl) (Nat.le_of_ble_eq_true rfl) (Nat.le_of_ble_eq_true rfl) dX6_act_60
    · have hle_a_6 := h_11.le
      refine kv (v := .ref a_6) (by rw [nI_clamp (by omega)]; rw [e_4]; rfl) ?_
      obtain ⟨hb_32, c_33, x_34, v_35, g_36, h_37, hm_38, hm_39, hm_40, lo_41, lc_42, vw_43⟩ := id h_11
      obtain ⟨hb_32_1, hb_32_2, hb_32_3⟩ := hb_32
      have hrw_hb_32 := rw_le hb_32_1 hb_32_3
      obtain ⟨k_44, ek_44⟩ := tl_at [(st, .inr (6, [.ref d, .ref sh, .ref vw, .ref ta, .ref sa, .int (nI n)])), (sh, .inl (κ 4, 3, .inr (.inr (.inr (.inr fs))))), (vw, .inl (κ 5, 3, .inr (.inr (.inr (.inr fv))))), (ta, .inl (κ 0, 6, .inl g_2)), (sa, .inl (κ 4, 6, .inr (.inr (.inr (.inr ga)))))] hm_38
      refine va_astq hx hb hK hP hD hS 4 4 k_44 5 rfl rfl ek_44 rfl (i := nI n) (vp_in_nI (n := n) (by omega) (by omega)) dX6_act_37 (fun H locs hP hD hS => ?_)
      rw [nI_clamp (by omega)] at hP hD
      have hP : va_P D vwCl ([(st, .inr (6, [.ref d, .ref sh, .ref vw, .ref ta, .ref sa, .int (nI n)])), (sh, .inl (κ 4, 3, .inr (.inr (.inr (.inr fs))))), (vw, .inl (κ 5, 3, .inr (.inr (.inr (.inr fv))))), (ta, .inl (κ 0, 6, .inl g_2)), (sa, .inl (κ 4, 6, .inr (.inr (.inr (.inr (va_up ga n (some a_6)))))))] ++ im) H := hP
      have hD : va_D A ([(st, .inr (6, [.ref d, .ref sh, .ref vw, .ref ta, .ref sa, .int (nI n)])), (sh, .inl (κ 4, 3, .inr (.inr (.inr (.inr fs))))), (vw, .inl (κ 5, 3, .inr (.inr (.inr (.inr fv))))), (ta, .inl (κ 0, 6, .inl g_2)), (sa, .inl (κ 4, 6, .inr (.inr (.inr (.inr (va_up ga n (some a_6)))))))] ++ im) := hD
      have hf_46 : Ss κ im (va_up ga n (some a_6)) 6 := Ss_set hss h_11
      generalize va_up ga n (some a_6) = g_45 at hP hD hf_46
      refine lv_aload_n hx hb dX6_act_38 rfl (lv_at hl 0 rfl) ?_
      refine lv_dup hx hb dX6_act_39 rfl ?_
      refine va_get (D := D) (ci := 6) (v := .int (nI n)) (C := RX6) (T := TX6) (N := 6) hx hb hts inlX6 hown hK hP 0 rfl rfl 5 (by decide) (hts _ mw_47) (fun _ h9 => h9) rfl dX6_act_40 ?_
      refine lv_iconst (v := 1) hx hb dX6_act_43 (by decide) ?_
      refine lv_iadd hx hb dX6_act_44 ?_
      refine ki (v := (nI (n + 1))) (nI_add n 1) ?_
      refine va_put (D := D) (ci := 6) (v := .int (nI (n + 1))) (ty := tyX6 5) (C := RX6) (T := TX6) (N := 6) hx hb hts inlX6 tyX6 tyX6_ok nmX6 hown hK hP hD hS 0 rfl rfl 5 (by decide) (hts _ mw_47) (fun _ h9 => h9) rfl (tyX6_ok 5 (by decide)) rfl rfl (Nat.le_of_ble_eq_true rfl) dX6_act_45 (fun H locs hP hD hS => ?_)
      have hP : va_P D vwCl ([(st, .inr (6, [.ref d, .ref sh, .ref vw, .ref ta, .ref sa, .int (nI (n + 1))])), (sh, .inl (κ 4, 3, .inr (.inr (.inr (.inr fs))))), (vw, .inl (κ 5, 3, .inr (.inr (.inr (.inr fv))))), (ta, .inl (κ 0, 6, .inl g_2)), (sa, .inl (κ 4, 6, .inr (.inr (.inr (.inr g_45)))))] ++ im) H := hP
      have hD : va_D A ([(st, .inr (6, [.ref d, .ref sh, .ref vw, .ref ta, .ref sa, .int (nI (n + 1))])), (sh, .inl (κ 4, 3, .inr (.inr (.inr (.inr fs))))), (vw, .inl (κ 5, 3, .inr (.inr (.inr (.inr fv))))), (ta, .inl (κ 0, 6, .inl g_2)), (sa, .inl (κ 4, 6, .inr (.inr (.inr (.inr g_45)))))] ++ im) := hD
      refine lv_aload_n hx hb dX6_act_48 rfl (lv_at hl 0 rfl) ?_
      refine va_get (D := D) (ci := 6) (v := .ref sh) (C := RX6) (T := TX6) (N := 6) hx hb hts inlX6 hown hK hP 0 rfl rfl 1 (by decide) (hts _ mw_42) (fun _ h9 => h9) rfl dX6_act_49 ?_
      refine lv_iload_n hx hb dX6_act_52 rfl (lv_at hl 1 rfl) ?_
      refine lv_aload_n hx hb dX6_act_53 rfl (lv_at hl 2 rfl) ?_
      obtain ⟨hb_47, c_48, x_49, v_50, g_51, h_52, hm_53, hm_54, hm_55, lo_56, lc_57, vw_58⟩ := id hs
      obtain ⟨hb_47_1, hb_47_2, hb_47_3⟩ := hb_47
      have hrw_hb_47 := rw_le hb_47_1 hb_47_3
      obtain ⟨k_59, ek_59⟩ := tl_at [(st, .inr (6, [.ref d, .ref sh, .ref vw, .ref ta, .ref sa, .int (nI (n + 1))])), (sh, .inl (κ 4, 3, .inr (.inr (.inr (.inr fs))))), (vw, .inl (κ 5, 3, .inr (.inr (.inr (.inr fv))))), (ta, .inl (κ 0, 6, .inl g_2)), (sa, .inl (κ 4, 6, .inr (.inr (.inr (.inr g_45)))))] hm_53
      refine va_astq hx hb hK hP hD hS 1 4 k_59 5 rfl rfl ek_59 rfl (i := nI t) (vp_in_nI (n := t) (by omega) (by omega)) dX6_act_54 (fun H locs hP hD hS => ?_)
      rw [nI_clamp (by omega)] at hP hD
      have hP : va_P D vwCl ([(st, .inr (6, [.ref d, .ref sh, .ref vw, .ref ta, .ref sa, .int (nI (n + 1))])), (sh, .inl (κ 4, 3, .inr (.inr (.inr (.inr (va_up fs t (some a))))))), (vw, .inl (κ 5, 3, .inr (.inr (.inr (.inr fv))))), (ta, .inl (κ 0, 6, .inl g_2)), (sa, .inl (κ 4, 6, .inr (.inr (.inr (.inr g_45)))))] ++ im) H := hP
      have hD : va_D A ([(st, .inr (6, [.ref d, .ref sh, .ref vw, .ref ta, .ref sa, .int (nI (n + 1))])), (sh, .inl (κ 4, 3, .inr (.inr (.inr (.inr (va_up fs t (some a))))))), (vw, .inl (κ 5, 3, .inr (.inr (.inr (.inr fv))))), (ta, .inl (κ 0, 6, .inl g_2)), (sa, .inl (κ 4, 6, .inr (.inr (.inr (.inr g_45)))))] ++ im) := hD
      refine lv_aload_n hx hb dX6_act_55 rfl (lv_at hl 0 rfl) ?_
      refine lv_iload_n hx hb dX6_act_56 rfl (lv_at hl 1 rfl) ?_
      refine et_VT (CR := [(ta, .inl (κ 0, 6, .inl g_2)), (sa, .inl (κ 4, 6, .inr (.inr (.inr (.inr g_45)))))]) (As := [.int (nI t)]) (rest := []) hFX hKK hE hP hD hS hA (c_X6_takeViewsOff_s l D κ κq im st d sh vw ta sa (n + 1) (va_up fs t (some a)) fv t a R w (by omega) va_up_same hs) 1 gV_X6_73 hdV_X6_takeViewsOff ⟨Nat.le_of_ble_eq_true rfl, Nat.le_of_ble_eq_true rfl⟩ rfl rfl (Nat.le_of_ble_eq_true rfl) dX6_act_57 ⟨Nat.le_of_ble_eq_true rfl, Nat.le_of_ble_eq_true rfl⟩ hl.1 [0, 1, 2] [3, 4] rfl rfl (by decide) (by decide) (by decide) hP 0 6 rfl rfl rfl (fun v__60 H locs hp_61 hP hD hS => ?_)
      replace hP : va_P D vwCl ([(st, .inr (6, [.ref d, .ref sh, .ref vw, .ref ta, .ref sa, .int (nI (n + 1))])), (sh, .inl (κ 4, 3, .inr (.inr (.inr (.inr (va_up fs t (some a))))))), (vw, .inl (κ 5, 3, .inr (.inr (.inr (.inr (va_up fv t (some v__60))))))), (ta, .inl (κ 0, 6, .inl g_2)), (sa, .inl (κ 4, 6, .inr (.inr (.inr (.inr g_45)))))] ++ im) H := subP (C := [(ta, .inl (κ 0, 6, .inl g_2)), (sa, .inl (κ 4, 6, .inr (.inr (.inr (.inr g_45))))), (st, .inr (6, [.ref d, .ref sh, .ref vw, .ref ta, .ref sa, .int (nI (n + 1))])), (sh, .inl (κ 4, 3, .inr (.inr (.inr (.inr (va_up fs t (some a))))))), (vw, .inl (κ 5, 3, .inr (.inr (.inr (.inr (va_up fv t (some v__60)))))))]) hP [2, 3, 4, 0, 1] rfl
      replace hD : va_D A ([(st, .inr (6, [.ref d, .ref sh, .ref vw, .ref ta, .ref sa, .int (nI (n + 1))])), (sh, .inl (κ 4, 3, .inr (.inr (.inr (.inr (va_up fs t (some a))))))), (vw, .inl (κ 5, 3, .inr (.inr (.inr (.inr (va_up fv t (some v__60))))))), (ta, .inl (κ 0, 6, .inl g_2)), (sa, .inl (κ 4, 6, .inr (.inr (.inr (.inr g_45)))))] ++ im) := subD (C := [(ta, .inl (κ 0, 6, .inl g_2)), (sa, .inl (κ 4, 6, .inr (.inr (.inr (.inr g_45))))), (st, .inr (6, [.ref d, .ref sh, .ref vw, .ref ta, .ref sa, .int (nI (n + 1))])), (sh, .inl (κ 4, 3, .inr (.inr (.inr (.inr (va_up fs t (some a))))))), (vw, .inl (κ 5, 3, .inr (.inr (.inr (.inr (va_up fv t (some v__60)))))))]) hD [2, 3, 4, 0, 1] (by decide) rfl
      replace hp_61 : Vw κ im 0 v__60 R := hp_61
      have h_62 := hp_61
      clear hp_61
      refine W.eq (g2 := F0 m 60 ls []) rfl ?_
      exact et_vret hx hb hr hlk hS (n + 1, va_up fs t (some a), va_up fv t (some v__60), g_2, g_45) rfl ⟨(show (n + 1) ≤ 6 from (by first | assumption | omega | rfl | exact Or.inl (by assumption) | exact Or.inr (by assumption))), (show Tb κ im (va_up fs t (some a)) (va_up fv t (some v__60)) 3 from (Tb_act htb hs h_62 (by omega))), (show Rn 6 3 g_2 from (by first | assumption | omega | rfl | exact Or.inl (by assumption) | exact Or.inr (by assumption))), (show Ss κ im g_45 6 from hf_46)⟩ (subP hP [0, 1, 2, 3, 4] rfl) (subD hD [0, 1, 2, 3, 4] (by decide) rfl) (Nat.le_of_ble_eq_true rfl) (Nat.le_of_ble_eq_true rfl) dX6_act_60
  · have nc_1 := cv_eq (a := n) (b := 6) (by omega) (by omega) c_1
    refine lv_aload_n hx hb dX6_act_9 rfl (lv_at hl 0 rfl) ?_
    refine et_VT (CR := [(sh, .inl (κ 4, 3, .inr (.inr (.inr (.inr fs))))), (vw, .inl (κ 5, 3, .inr (.inr (.inr (.inr fv)))))]) (As := []) (rest := []) hFX hKK hE hP hD hS hA (c_X6_forgetFirstAct l D κ κq im st d sh vw ta sa n fa ga (by omega) hrn hss) 0 gV_X6_70 hdV_X6_forgetFirstAct ⟨Nat.le_of_ble_eq_true rfl, Nat.le_of_ble_eq_true rfl⟩ rfl rfl (Nat.le_of_ble_eq_true rfl) dX6_act_10 ⟨Nat.le_of_ble_eq_true rfl, Nat.le_of_ble_eq_true rfl⟩ hl.1 [0, 3, 4] [1, 2] rfl rfl (by decide) (by decide) (by decide) hP 0 6 rfl rfl rfl (fun u_65 H locs hp_66 hP hD hS => ?_)
    obtain ⟨fb__63, gb__64⟩ := u_65
    replace hP : va_P D vwCl ([(st, .inr (6, [.ref d, .ref sh, .ref vw, .ref ta, .ref sa, .int (nI (n - 1))])), (sh, .inl (κ 4, 3, .inr (.inr (.inr (.inr fs))))), (vw, .inl (κ 5, 3, .inr (.inr (.inr (.inr fv))))), (ta, .inl (κ 0, 6, .inl fb__63)), (sa, .inl (κ 4, 6, .inr (.inr (.inr (.inr gb__64)))))] ++ im) H := subP (C := [(sh, .inl (κ 4, 3, .inr (.inr (.inr (.inr fs))))), (vw, .inl (κ 5, 3, .inr (.inr (.inr (.inr fv))))), (st, .inr (6, [.ref d, .ref sh, .ref vw, .ref ta, .ref sa, .int (nI (n - 1))])), (ta, .inl (κ 0, 6, .inl fb__63)), (sa, .inl (κ 4, 6, .inr (.inr (.inr (.inr gb__64)))))]) hP [2, 0, 1, 3, 4] rfl
    replace hD : va_D A ([(st, .inr (6, [.ref d, .ref sh, .ref vw, .ref ta, .ref sa, .int (nI (n - 1))])), (sh, .inl (κ 4, 3, .inr (.inr (.inr (.inr fs))))), (vw, .inl (κ 5, 3, .inr (.inr (.inr (.inr fv))))), (ta, .inl (κ 0, 6, .inl fb__63)), (sa, .inl (κ 4, 6, .inr (.inr (.inr (.inr gb__64)))))] ++ im) := subD (C := [(sh, .inl (κ 4, 3, .inr (.inr (.inr (.inr fs))))), (vw, .inl (κ 5, 3, .inr (.inr (.inr (.inr fv))))), (st, .inr (6, [.ref d, .ref sh, .ref vw, .ref ta, .ref sa, .int (nI (n - 1))])), (ta, .inl (κ 0, 6, .inl fb__63)), (sa, .inl (κ 4, 6, .inr (.inr (.inr (.inr gb__64)))))]) hD [2, 0, 1, 3, 4] (by decide) rfl
    replace hp_66 : Rn 6 3 fb__63 ∧ Ss κ im gb__64 6 := hp_66
    obtain ⟨h_67, h_68⟩ := hp_66
    refine W.eq (g2 := F0 m 13 ls []) rfl ?_
    refine lv_aload_n hx hb dX6_act_13 rfl (lv_at hl 0 rfl) ?_
    refine va_get (D := D) (ci := 6) (v := .ref ta) (C := RX6) (T := TX6) (N := 6) hx hb hts inlX6 hown hK hP 0 rfl rfl 3 (by decide) (hts _ mw_45) (fun _ h9 => h9) rfl dX6_act_14 ?_
    refine lv_aload_n hx hb dX6_act_17 rfl (lv_at hl 0 rfl) ?_
    refine va_get (D := D) (ci := 6) (v := .int (nI (n - 1))) (C := RX6) (T := TX6) (N := 6) hx hb hts inlX6 hown hK hP 0 rfl rfl 5 (by decide) (hts _ mw_47) (fun _ h9 => h9) rfl dX6_act_18 ?_
    refine lv_iload_n hx hb dX6_act_21 rfl (lv_at hl 1 rfl) ?_
    refine va_iast hx hb hK hP hD hS 3 0 rfl rfl (i := nI (n - 1)) (x := nI t) (vp_in_nI (n := (n - 1)) (by omega) (by omega)) dX6_act_22 (fun H locs hP hD hS => ?_)
    rw [nI_clamp (by omega)] at hP hD
    have hP : va_P D vwCl ([(st, .inr (6, [.ref d, .ref sh, .ref vw, .ref ta, .ref sa, .int (nI (n - 1))])), (sh, .inl (κ 4, 3, .inr (.inr (.inr (.inr fs))))), (vw, .inl (κ 5, 3, .inr (.inr (.inr (.inr fv))))), (ta, .inl (κ 0, 6, .inl (upd fb__63 (n - 1) (nI t)))), (sa, .inl (κ 4, 6, .inr (.inr (.inr (.inr gb__64)))))] ++ im) H := hP
    have hD : va_D A ([(st, .inr (6, [.ref d, .ref sh, .ref vw, .ref ta, .ref sa, .int (nI (n - 1))])), (sh, .inl (κ 4, 3, .inr (.inr (.inr (.inr fs))))), (vw, .inl (κ 5, 3, .inr (.inr (.inr (.inr fv))))), (ta, .inl (κ 0, 6, .inl (upd fb__63 (n - 1) (nI t)))), (sa, .inl (κ 4, 6, .inr (.inr (.inr (.inr gb__64)))))] ++ im) := hD
    have hf_70 : Rn 6 3 (upd fb__63 (n - 1) (nI t)) := Rn_set h_67 (v := t) (by omega)
    generalize upd fb__63 (n - 1) (nI t) = g_69 at hP hD hf_70
    refine lv_aload_n hx hb dX6_act_23 rfl (lv_at hl 0 rfl) ?_
    refine va_get (D := D) (ci := 6) (v := .ref sa) (C := RX6) (T := TX6) (N := 6) hx hb hts inlX6 hown hK hP 0 rfl rfl 4 (by decide) (hts _ mw_46) (fun _ h9 => h9) rfl dX6_act_24 ?_
    refine lv_aload_n hx hb dX6_act_27 rfl (lv_at hl 0 rfl) ?_
    refine va_get (D := D) (ci := 6) (v := .int (nI (n - 1))) (C := RX6) (T := TX6) (N := 6) hx hb hts inlX6 hown hK hP 0 rfl rfl 5 (by decide) (hts _ mw_47) (fun _ h9 => h9) rfl dX6_act_28 ?_
    refine lv_aload_n hx hb dX6_act_31 rfl (lv_at hl 0 rfl) ?_
    refine va_get (D := D) (ci := 6) (v := .ref sh) (C := RX6) (T := TX6) (N := 6) hx hb hts inlX6 hown hK hP 0 rfl rfl 1 (by decide) (hts _ mw_42) (fun _ h9 => h9) rfl dX6_act_32 ?_
    refine lv_iload_n hx hb dX6_act_35 rfl (lv_at hl 1 rfl) ?_
    refine va_aldq hx hb hK hP 1 4 rfl rfl (i := nI t) (vp_in_nI (n := t) (by omega) (by omega)) dX6_act_36 ?_
    rcases htb t (by omega) with ⟨e_71, e_72⟩ | ⟨a_73, R_74, w_75, d_76, v_77, e_71, e_72, h_78, h_79, hd_80⟩
    · skip
      refine kv (v := .null) (by rw [nI_clamp (by omega)]; rw [e_71]; rfl) ?_
      refine va_astqN hx hb hK hP hD hS 4 4 rfl rfl (i := nI (n - 1)) (vp_in_nI (n := (n - 1)) (by omega) (by omega)) dX6_act_37 (fun H locs hP hD hS => ?_)
      rw [nI_clamp (by omega)] at hP hD
      have hP : va_P D vwCl ([(st, .inr (6, [.ref d, .ref sh, .ref vw, .ref ta, .ref sa, .int (nI (n - 1))])), (sh, .inl (κ 4, 3, .inr (.inr (.inr (.inr fs))))), (vw, .inl (κ 5, 3, .inr (.inr (.inr (.inr fv))))), (ta, .inl (κ 0, 6, .inl g_69)), (sa, .inl (κ 4, 6, .inr (.inr (.inr (.inr (va_up gb__64 (n - 1) none))))))] ++ im) H := hP
      have hD : va_D A ([(st, .inr (6, [.ref d, .ref sh, .ref vw, .ref ta, .ref sa, .int (nI (n - 1))])), (sh, .inl (κ 4, 3, .inr (.inr (.inr (.inr fs))))), (vw, .inl (κ 5, 3, .inr (.inr (.inr (.inr fv))))), (ta, .inl (κ 0, 6, .inl g_69)), (sa, .inl (κ 4, 6, .inr (.inr (.inr (.inr (va_up gb__64 (n - 1) none))))))] ++ im) := hD
      have hf_82 : Ss κ im (va_up gb__64 (n - 1) none) 6 := Ss_non h_68
      generalize va_up gb__64 (n - 1) none = g_81 at hP hD hf_82
      refine lv_aload_n hx hb dX6_act_38 rfl (lv_at hl 0 rfl) ?_
      refine lv_dup hx hb dX6_act_39 rfl ?_
      refine va_get (D := D) (ci := 6) (v := .int (nI (n - 1))) (C := RX6) (T := TX6) (N := 6) hx hb hts inlX6 hown hK hP 0 rfl rfl 5 (by decide) (hts _ mw_47) (fun _ h9 => h9) rfl dX6_act_40 ?_
      refine lv_iconst (v := 1) hx hb dX6_act_43 (by decide) ?_
      refine lv_iadd hx hb dX6_act_44 ?_
      refine ki (v := (nI (n - 1 + 1))) (nI_add (n - 1) 1) ?_
      refine va_put (D := D) (ci := 6) (v := .int (nI (n - 1 + 1))) (ty := tyX6 5) (C := RX6) (T := TX6) (N := 6) hx hb hts inlX6 tyX6 tyX6_ok nmX6 hown hK hP hD hS 0 rfl rfl 5 (by decide) (hts _ mw_47) (fun _ h9 => h9) rfl (tyX6_ok 5 (by decide)) rfl rfl (Nat.le_of_ble_eq_true rfl) dX6_act_45 (fun H locs hP hD hS => ?_)
      have hP : va_P D vwCl ([(st, .inr (6, [.ref d, .ref sh, .ref vw, .ref ta, .ref sa, .int (nI (n - 1 + 1))])), (sh, .inl (κ 4, 3, .inr (.inr (.inr (.inr fs))))), (vw, .inl (κ 5, 3, .inr (.inr (.inr (.inr fv))))), (ta, .inl (κ 0, 6, .inl g_69)), (sa, .inl (κ 4, 6, .inr (.inr (.inr (.inr g_81)))))] ++ im) H := hP
      have hD : va_D A ([(st, .inr (6, [.ref d, .ref sh, .ref vw, .ref ta, .ref sa, .int (nI (n - 1 + 1))])), (sh, .inl (κ 4, 3, .inr (.inr (.inr (.inr fs))))), (vw, .inl (κ 5, 3, .inr (.inr (.inr (.inr fv))))), (ta, .inl (κ 0, 6, .inl g_69)), (sa, .inl (κ 4, 6, .inr (.inr (.inr (.inr g_81)))))] ++ im) := hD
      refine lv_aload_n hx hb dX6_act_48 rfl (lv_at hl 0 rfl) ?_
      refine va_get (D := D) (ci := 6) (v := .ref sh) (C := RX6) (T := TX6) (N := 6) hx hb hts inlX6 hown hK hP 0 rfl rfl 1 (by decide) (hts _ mw_42) (fun _ h9 => h9) rfl dX6_act_49 ?_
      refine lv_iload_n hx hb dX6_act_52 rfl (lv_at hl 1 rfl) ?_
      refine lv_aload_n hx hb dX6_act_53 rfl (lv_at hl 2 rfl) ?_
      obtain ⟨hb_83, c_84, x_85, v_86, g_87, h_88, hm_89, hm_90, hm_91, lo_92, lc_93, vw_94⟩ := id hs
      obtain ⟨hb_83_1, hb_83_2, hb_83_3⟩ := hb_83
      have hrw_hb_83 := rw_le hb_83_1 hb_83_3
      obtain ⟨k_95, ek_95⟩ := tl_at [(st, .inr (6, [.ref d, .ref sh, .ref vw, .ref ta, .ref sa, .int (nI (n - 1 + 1))])), (sh, .inl (κ 4, 3, .inr (.inr (.inr (.inr fs))))), (vw, .inl (κ 5, 3, .inr (.inr (.inr (.inr fv))))), (ta, .inl (κ 0, 6, .inl g_69)), (sa, .inl (κ 4, 6, .inr (.inr (.inr (.inr g_81)))))] hm_89
      refine va_astq hx hb hK hP hD hS 1 4 k_95 5 rfl rfl ek_95 rfl (i := nI t) (vp_in_nI (n := t) (by omega) (by omega)) dX6_act_54 (fun H locs hP hD hS => ?_)
      rw [nI_clamp (by omega)] at hP hD
      have hP : va_P D vwCl ([(st, .inr (6, [.ref d, .ref sh, .ref vw, .ref ta, .ref sa, .int (nI (n - 1 + 1))])), (sh, .inl (κ 4, 3, .inr (.inr (.inr (.inr (va_up fs t (some a))))))), (vw, .inl (κ 5, 3, .inr (.inr (.inr (.inr fv))))), (ta, .inl (κ 0, 6, .inl g_69)), (sa, .inl (κ 4, 6, .inr (.inr (.inr (.inr g_81)))))] ++ im) H := hP
      have hD : va_D A ([(st, .inr (6, [.ref d, .ref sh, .ref vw, .ref ta, .ref sa, .int (nI (n - 1 + 1))])), (sh, .inl (κ 4, 3, .inr (.inr (.inr (.inr (va_up fs t (some a))))))), (vw, .inl (κ 5, 3, .inr (.inr (.inr (.inr fv))))), (ta, .inl (κ 0, 6, .inl g_69)), (sa, .inl (κ 4, 6, .inr (.inr (.inr (.inr g_81)))))] ++ im) := hD
      refine lv_aload_n hx hb dX6_act_55 rfl (lv_at hl 0 rfl) ?_
      refine lv_iload_n hx hb dX6_act_56 rfl (lv_at hl 1 rfl) ?_
      refine et_VT (CR := [(ta, .inl (κ 0, 6, .inl g_69)), (sa, .inl (κ 4, 6, .inr (.inr (.inr (.inr g_81)))))]) (As := [.int (nI t)]) (rest := []) hFX hKK hE hP hD hS hA (c_X6_takeViewsOff_s l D κ κq im st d sh vw ta sa (n - 1 + 1) (va_up fs t (some a)) fv t a R w (by omega) va_up_same hs) 1 gV_X6_73 hdV_X6_takeViewsOff ⟨Nat.le_of_ble_eq_true rfl, Nat.le_of_ble_eq_true rfl⟩ rfl rfl (Nat.le_of_ble_eq_true rfl) dX6_act_57 ⟨Nat.le_of_ble_eq_true rfl, Nat.le_of_ble_eq_true rfl⟩ hl.1 [0, 1, 2] [3, 4] rfl rfl (by decide) (by decide) (by decide) hP 0 6 rfl rfl rfl (fun v__96 H locs hp_97 hP hD hS => ?_)
      replace hP : va_P D vwCl ([(st, .inr (6, [.ref d, .ref sh, .ref vw, .ref ta, .ref sa, .int (nI (n - 1 + 1))])), (sh, .inl (κ 4, 3, .inr (.inr (.inr (.inr (va_up fs t (some a))))))), (vw, .inl (κ 5, 3, .inr (.inr (.inr (.inr (va_up fv t (some v__96))))))), (ta, .inl (κ 0, 6, .inl g_69)), (sa, .inl (κ 4, 6, .inr (.inr (.inr (.inr g_81)))))] ++ im) H := subP (C := [(ta, .inl (κ 0, 6, .inl g_69)), (sa, .inl (κ 4, 6, .inr (.inr (.inr (.inr g_81))))), (st, .inr (6, [.ref d, .ref sh, .ref vw, .ref ta, .ref sa, .int (nI (n - 1 + 1))])), (sh, .inl (κ 4, 3, .inr (.inr (.inr (.inr (va_up fs t (some a))))))), (vw, .inl (κ 5, 3, .inr (.inr (.inr (.inr (va_up fv t (some v__96)))))))]) hP [2, 3, 4, 0, 1] rfl
      replace hD : va_D A ([(st, .inr (6, [.ref d, .ref sh, .ref vw, .ref ta, .ref sa, .int (nI (n - 1 + 1))])), (sh, .inl (κ 4, 3, .inr (.inr (.inr (.inr (va_up fs t (some a))))))), (vw, .inl (κ 5, 3, .inr (.inr (.inr (.inr (va_up fv t (some v__96))))))), (ta, .inl (κ 0, 6, .inl g_69)), (sa, .inl (κ 4, 6, .inr (.inr (.inr (.inr g_81)))))] ++ im) := subD (C := [(ta, .inl (κ 0, 6, .inl g_69)), (sa, .inl (κ 4, 6, .inr (.inr (.inr (.inr g_81))))), (st, .inr (6, [.ref d, .ref sh, .ref vw, .ref ta, .ref sa, .int (nI (n - 1 + 1))])), (sh, .inl (κ 4, 3, .inr (.inr (.inr (.inr (va_up fs t (some a))))))), (vw, .inl (κ 5, 3, .inr (.inr (.inr (.inr (va_up fv t (some v__96)))))))]) hD [2, 3, 4, 0, 1] (by decide) rfl
      replace hp_97 : Vw κ im 0 v__96 R := hp_97
      have h_98 := hp_97
      clear hp_97
      refine W.eq (g2 := F0 m 60 ls []) rfl ?_
      exact et_vret hx hb hr hlk hS (n - 1 + 1, va_up fs t (some a), va_up fv t (some v__96), g_69, g_81) rfl ⟨(show (n - 1 + 1) ≤ 6 from (by first | assumption | omega | rfl | exact Or.inl (by assumption) | exact Or.inr (by assumption))), (show Tb κ im (va_up fs t (some a)) (va_up fv t (some v__96)) 3 from (Tb_act htb hs h_98 (by omega))), (show Rn 6 3 g_69 from (by first | assumption | omega | rfl | exact Or.inl (by assumption) | exact Or.inr (by assumption))), (show Ss κ im g_81 6 from hf_82)⟩ (subP hP [0, 1, 2, 3, 4] rfl) (subD hD [0, 1, 2, 3, 4] (by decide) rfl) (Nat.le_of_ble_eq_true rfl) (Nat.le_of_ble_eq_true rfl) dX6_act_60
    · have hle_a_73 := h_78.le
      refine kv (v := .ref a_73) (by rw [nI_clamp (by omega)]; rw [e_71]; rfl) ?_
      obtain ⟨hb_99, c_100, x_101, v_102, g_103, h_104, hm_105, hm_106, hm_107, lo_108, lc_109, vw_110⟩ := id h_78
      obtain ⟨hb_99_1, hb_99_2, hb_99_3⟩ := hb_99
      have hrw_hb_99 := rw_le hb_99_1 hb_99_3
      obtain ⟨k_111, ek_111⟩ := tl_at [(st, .inr (6, [.ref d, .ref sh, .ref vw, .ref ta, .ref sa, .int (nI (n - 1))])), (sh, .inl (κ 4, 3, .inr (.inr (.inr (.inr fs))))), (vw, .inl (κ 5, 3, .inr (.inr (.inr (.inr fv))))), (ta, .inl (κ 0, 6, .inl g_69)), (sa, .inl (κ 4, 6, .inr (.inr (.inr (.inr gb__64)))))] hm_105
      refine va_astq hx hb hK hP hD hS 4 4 k_111 5 rfl rfl ek_111 rfl (i := nI (n - 1)) (vp_in_nI (n := (n - 1)) (by omega) (by omega)) dX6_act_37 (fun H locs hP hD hS => ?_)
      rw [nI_clamp (by omega)] at hP hD
      have hP : va_P D vwCl ([(st, .inr (6, [.ref d, .ref sh, .ref vw, .ref ta, .ref sa, .int (nI (n - 1))])), (sh, .inl (κ 4, 3, .inr (.inr (.inr (.inr fs))))), (vw, .inl (κ 5, 3, .inr (.inr (.inr (.inr fv))))), (ta, .inl (κ 0, 6, .inl g_69)), (sa, .inl (κ 4, 6, .inr (.inr (.inr (.inr (va_up gb__64 (n - 1) (some a_73)))))))] ++ im) H := hP
      have hD : va_D A ([(st, .inr (6, [.ref d, .ref sh, .ref vw, .ref ta, .ref sa, .int (nI (n - 1))])), (sh, .inl (κ 4, 3, .inr (.inr (.inr (.inr fs))))), (vw, .inl (κ 5, 3, .inr (.inr (.inr (.inr fv))))), (ta, .inl (κ 0, 6, .inl g_69)), (sa, .inl (κ 4, 6, .inr (.inr (.inr (.inr (va_up gb__64 (n - 1) (some a_73)))))))] ++ im) := hD
      have hf_113 : Ss κ im (va_up gb__64 (n - 1) (some a_73)) 6 := Ss_set h_68 h_78
      generalize va_up gb__64 (n - 1) (some a_73) = g_112 at hP hD hf_113
      refine lv_aload_n hx hb dX6_act_38 rfl (lv_at hl 0 rfl) ?_
      refine lv_dup hx hb dX6_act_39 rfl ?_
      refine va_get (D := D) (ci := 6) (v := .int (nI (n - 1))) (C := RX6) (T := TX6) (N := 6) hx hb hts inlX6 hown hK hP 0 rfl rfl 5 (by decide) (hts _ mw_47) (fun _ h9 => h9) rfl dX6_act_40 ?_
      refine lv_iconst (v := 1) hx hb dX6_act_43 (by decide) ?_
      refine lv_iadd hx hb dX6_act_44 ?_
      refine ki (v := (nI (n - 1 + 1))) (nI_add (n - 1) 1) ?_
      refine va_put (D := D) (ci := 6) (v := .int (nI (n - 1 + 1))) (ty := tyX6 5) (C := RX6) (T := TX6) (N := 6) hx hb hts inlX6 tyX6 tyX6_ok nmX6 hown hK hP hD hS 0 rfl rfl 5 (by decide) (hts _ mw_47) (fun _ h9 => h9) rfl (tyX6_ok 5 (by decide)) rfl rfl (Nat.le_of_ble_eq_true rfl) dX6_act_45 (fun H locs hP hD hS => ?_)
      have hP : va_P D vwCl ([(st, .inr (6, [.ref d, .ref sh, .ref vw, .ref ta, .ref sa, .int (nI (n - 1 + 1))])), (sh, .inl (κ 4, 3, .inr (.inr (.inr (.inr fs))))), (vw, .inl (κ 5, 3, .inr (.inr (.inr (.inr fv))))), (ta, .inl (κ 0, 6, .inl g_69)), (sa, .inl (κ 4, 6, .inr (.inr (.inr (.inr g_112)))))] ++ im) H := hP
      have hD : va_D A ([(st, .inr (6, [.ref d, .ref sh, .ref vw, .ref ta, .ref sa, .int (nI (n - 1 + 1))])), (sh, .inl (κ 4, 3, .inr (.inr (.inr (.inr fs))))), (vw, .inl (κ 5, 3, .inr (.inr (.inr (.inr fv))))), (ta, .inl (κ 0, 6, .inl g_69)), (sa, .inl (κ 4, 6, .inr (.inr (.inr (.inr g_112)))))] ++ im) := hD
      refine lv_aload_n hx hb dX6_act_48 rfl (lv_at hl 0 rfl) ?_
      refine va_get (D := D) (ci := 6) (v := .ref sh) (C := RX6) (T := TX6) (N := 6) hx hb hts inlX6 hown hK hP 0 rfl rfl 1 (by decide) (hts _ mw_42) (fun _ h9 => h9) rfl dX6_act_49 ?_
      refine lv_iload_n hx hb dX6_act_52 rfl (lv_at hl 1 rfl) ?_
      refine lv_aload_n hx hb dX6_act_53 rfl (lv_at hl 2 rfl) ?_
      obtain ⟨hb_114, c_115, x_116, v_117, g_118, h_119, hm_120, hm_121, hm_122, lo_123, lc_124, vw_125⟩ := id hs
      obtain ⟨hb_114_1, hb_114_2, hb_114_3⟩ := hb_114
      have hrw_hb_114 := rw_le hb_114_1 hb_114_3
      obtain ⟨k_126, ek_126⟩ := tl_at [(st, .inr (6, [.ref d, .ref sh, .ref vw, .ref ta, .ref sa, .int (nI (n - 1 + 1))])), (sh, .inl (κ 4, 3, .inr (.inr (.inr (.inr fs))))), (vw, .inl (κ 5, 3, .inr (.inr (.inr (.inr fv))))), (ta, .inl (κ 0, 6, .inl g_69)), (sa, .inl (κ 4, 6, .inr (.inr (.inr (.inr g_112)))))] hm_120
      refine va_astq hx hb hK hP hD hS 1 4 k_126 5 rfl rfl ek_126 rfl (i := nI t) (vp_in_nI (n := t) (by omega) (by omega)) dX6_act_54 (fun H locs hP hD hS => ?_)
      rw [nI_clamp (by omega)] at hP hD
      have hP : va_P D vwCl ([(st, .inr (6, [.ref d, .ref sh, .ref vw, .ref ta, .ref sa, .int (nI (n - 1 + 1))])), (sh, .inl (κ 4, 3, .inr (.inr (.inr (.inr (va_up fs t (some a))))))), (vw, .inl (κ 5, 3, .inr (.inr (.inr (.inr fv))))), (ta, .inl (κ 0, 6, .inl g_69)), (sa, .inl (κ 4, 6, .inr (.inr (.inr (.inr g_112)))))] ++ im) H := hP
      have hD : va_D A ([(st, .inr (6, [.ref d, .ref sh, .ref vw, .ref ta, .ref sa, .int (nI (n - 1 + 1))])), (sh, .inl (κ 4, 3, .inr (.inr (.inr (.inr (va_up fs t (some a))))))), (vw, .inl (κ 5, 3, .inr (.inr (.inr (.inr fv))))), (ta, .inl (κ 0, 6, .inl g_69)), (sa, .inl (κ 4, 6, .inr (.inr (.inr (.inr g_112)))))] ++ im) := hD
      refine lv_aload_n hx hb dX6_act_55 rfl (lv_at hl 0 rfl) ?_
      refine lv_iload_n hx hb dX6_act_56 rfl (lv_at hl 1 rfl) ?_
      refine et_VT (CR := [(ta, .inl (κ 0, 6, .inl g_69)), (sa, .inl (κ 4, 6, .inr (.inr (.inr (.inr g_112)))))]) (As := [.int (nI t)]) (rest := []) hFX hKK hE hP hD hS hA (c_X6_takeViewsOff_s l D κ κq im st d sh vw ta sa (n - 1 + 1) (va_up fs t (some a)) fv t a R w (by omega) va_up_same hs) 1 gV_X6_73 hdV_X6_takeViewsOff ⟨Nat.le_of_ble_eq_true rfl, Nat.le_of_ble_eq_true rfl⟩ rfl rfl (Nat.le_of_ble_eq_true rfl) dX6_act_57 ⟨Nat.le_of_ble_eq_true rfl, Nat.le_of_ble_eq_true rfl⟩ hl.1 [0, 1, 2] [3, 4] rfl rfl (by decide) (by decide) (by decide) hP 0 6 rfl rfl rfl (fun v__127 H locs hp_128 hP hD hS => ?_)
      replace hP : va_P D vwCl ([(st, .inr (6, [.ref d, .ref sh, .ref vw, .ref ta, .ref sa, .int (nI (n - 1 + 1))])), (sh, .inl (κ 4, 3, .inr (.inr (.inr (.inr (va_up fs t (some a))))))), (vw, .inl (κ 5, 3, .inr (.inr (.inr (.inr (va_up fv t (some v__127))))))), (ta, .inl (κ 0, 6, .inl g_69)), (sa, .inl (κ 4, 6, .inr (.inr (.inr (.inr g_112)))))] ++ im) H := subP (C := [(ta, .inl (κ 0, 6, .inl g_69)), (sa, .inl (κ 4, 6, .inr (.inr (.inr (.inr g_112))))), (st, .inr (6, [.ref d, .ref sh, .ref vw, .ref ta, .ref sa, .int (nI (n - 1 + 1))])), (sh, .inl (κ 4, 3, .inr (.inr (.inr (.inr (va_up fs t (some a))))))), (vw, .inl (κ 5, 3, .inr (.inr (.inr (.inr (va_up fv t (some v__127)))))))]) hP [2, 3, 4, 0, 1] rfl
      replace hD : va_D A ([(st, .inr (6, [.ref d, .ref sh, .ref vw, .ref ta, .ref sa, .int (nI (n - 1 + 1))])), (sh, .inl (κ 4, 3, .inr (.inr (.inr (.inr (va_up fs t (some a))))))), (vw, .inl (κ 5, 3, .inr (.inr (.inr (.inr (va_up fv t (some v__127))))))), (ta, .inl (κ 0, 6, .inl g_69)), (sa, .inl (κ 4, 6, .inr (.inr (.inr (.inr g_112)))))] ++ im) := subD (C := [(ta, .inl (κ 0, 6, .inl g_69)), (sa, .inl (κ 4, 6, .inr (.inr (.inr (.inr g_112))))), (st, .inr (6, [.ref d, .ref sh, .ref vw, .ref ta, .ref sa, .int (nI (n - 1 + 1))])), (sh, .inl (κ 4, 3, .inr (.inr (.inr (.inr (va_up fs t (some a))))))), (vw, .inl (κ 5, 3, .inr (.inr (.inr (.inr (va_up fv t (some v__127)))))))]) hD [2, 3, 4, 0, 1] (by decide) rfl
      replace hp_128 : Vw κ im 0 v__127 R := hp_128
      have h_129 := hp_128
      clear hp_128
      refine W.eq (g2 := F0 m 60 ls []) rfl ?_
      exact et_vret hx hb hr hlk hS (n - 1 + 1, va_up fs t (some a), va_up fv t (some v__127), g_69, g_112) rfl ⟨(show (n - 1 + 1) ≤ 6 from (by first | assumption | omega | rfl | exact Or.inl (by assumption) | exact Or.inr (by assumption))), (show Tb κ im (va_up fs t (some a)) (va_up fv t (some v__127)) 3 from (Tb_act htb hs h_129 (by omega))), (show Rn 6 3 g_69 from (by first | assumption | omega | rfl | exact Or.inl (by assumption) | exact Or.inr (by assumption))), (show Ss κ im g_112 6 from hf_113)⟩ (subP hP [0, 1, 2, 3, 4] rfl) (subD hD [0, 1, 2, 3, 4] (by decide) rfl) (Nat.le_of_ble_eq_true rfl) (Nat.le_of_ble_eq_true rfl) dX6_act_60
set_option maxHeartbeats 4000000 in
set_option maxRecDepth 100000 in
theorem c_X6_undoAct (l : Launch) (D : va_G) (κ : Nat → ClassId) (κq : Nat → Nat) (im : va_W) (st : Nat) (d : Nat) (sh : Nat) (vw : Nat) (ta : Nat) (sa : Nat) (n : Nat) (fs : Nat → Option Nat) (fv : Nat → Option Nat) (fa : Nat → Int32) (ga : Nat → Option Nat) (hn6 : n ≤ 6) (htb : Tb κ im fs fv 3) (hrn : Rn 6 3 fa) (hss : Ss κ im ga 6) : Et l yX6_undoAct (wl yX6_undoAct cX6_undoAct 2 none) { frames := 1, cells := 0, slots := 0, locals := 22 } D κ κq [.ref st] ([(st, .inr (6, [.ref d, .ref sh, .ref vw, .ref ta, .ref sa, .int (nI n)])), (sh, .inl (κ 4, 3, .inr (.inr (.inr (.inr fs))))), (vw, .inl (κ 5, 3, .inr (.inr (.inr (.inr fv))))), (ta, .inl (κ 0, 6, .inl fa)), (sa, .inl (κ 4, 6, .inr (.inr (.inr (.inr ga)))))] ++ im) (fun u9 : Nat × (Nat → Option Nat) × (Nat → Option Nat) × (Nat → Int32) × (Nat → Option Nat) => none) (fun u9 : Nat × (Nat → Option Nat) × (Nat → Option Nat) × (Nat → Int32) × (Nat → Option Nat) => u9.1 ≤ 6 ∧ Tb κ im u9.2.1 u9.2.2.1 3 ∧ Rn 6 3 u9.2.2.2.1 ∧ Ss κ im u9.2.2.2.2 6) (fun u9 : Nat × (Nat → Option Nat) × (Nat → Option Nat) × (Nat → Int32) × (Nat → Option Nat) => ([(st, .inr (6, [.ref d, .ref sh, .ref vw, .ref ta, .ref sa, .int (nI u9.1)])), (sh, .inl (κ 4, 3, .inr (.inr (.inr (.inr u9.2.1))))), (vw, .inl (κ 5, 3, .inr (.inr (.inr (.inr u9.2.2.1))))), (ta, .inl (κ 0, 6, .inl u9.2.2.2.1)), (sa, .inl (κ 4, 6, .inr (.inr (.inr (.inr u9.2.2.2.2)))))] ++ im)) := by
  refine et_of (by decide +kernel) (Nat.le_of_ble_eq_true rfl) ?_
  intro p e s m args below meth c A ls hx hb hr hml hts hown hlk hin hKK hK hA hP hD hS hE hl
  have hS : va_S A s.heap s.heap [] := hS
  have hP : va_P D vwCl ([(st, .inr (6, [.ref d, .ref sh, .ref vw, .ref ta, .ref sa, .int (nI n)])), (sh, .inl (κ 4, 3, .inr (.inr (.inr (.inr fs))))), (vw, .inl (κ 5, 3, .inr (.inr (.inr (.inr fv))))), (ta, .inl (κ 0, 6, .inl fa)), (sa, .inl (κ 4, 6, .inr (.inr (.inr (.inr ga)))))] ++ im) s.heap := hP
  have hD : va_D A ([(st, .inr (6, [.ref d, .ref sh, .ref vw, .ref ta, .ref sa, .int (nI n)])), (sh, .inl (κ 4, 3, .inr (.inr (.inr (.inr fs))))), (vw, .inl (κ 5, 3, .inr (.inr (.inr (.inr fv))))), (ta, .inl (κ 0, 6, .inl fa)), (sa, .inl (κ 4, 6, .inr (.inr (.inr (.inr ga)))))] ++ im) := hD
  have hFX : FX p s m args c cX6_undoAct 2 RX6 := ⟨hx, hb, hml, hown, hts⟩
  have hl : lv_has ls 2 [(0, .ref st)] := hl
  refine lv_aload_n hx hb dX6_undoAct_0 rfl (lv_at hl 0 rfl) ?_
  refine va_get (D := D) (ci := 6) (v := .int (nI n)) (C := RX6) (T := TX6) (N := 6) hx hb hts inlX6 hown hK hP 0 rfl rfl 5 (by decide) (hts _ mw_47) (fun _ h9 => h9) rfl dX6_undoAct_1 ?_
  refine lv_if_le (tgt := 58) hx hb dX6_undoAct_4 (by decide) (fun c_1 => ?_) (fun c_1 => ?_)
  · have nc_1 := cv_le (a := n) (b := 0) (by omega) (by omega) c_1
    exact et_vret hx hb hr hlk hS (n, fs, fv, fa, ga) rfl ⟨(show n ≤ 6 from (by first | assumption | omega | rfl | exact Or.inl (by assumption) | exact Or.inr (by assumption))), (show Tb κ im fs fv 3 from htb), (show Rn 6 3 fa from (by first | assumption | omega | rfl | exact Or.inl (by assumption) | exact Or.inr (by assumption))), (show Ss κ im ga 6 from hss)⟩ (subP hP [0, 1, 2, 3, 4] rfl) (subD hD [0, 1, 2, 3, 4] (by decide) rfl) (Nat.le_of_ble_eq_true rfl) (Nat.le_of_ble_eq_true rfl) dX6_undoAct_58
  · have nc_1 := cv_nle (a := n) (b := 0) (by omega) (by omega) c_1
    have hss_2 := htb.ss
    refine lv_aload_n hx hb dX6_undoAct_7 rfl (lv_at hl 0 rfl) ?_
    refine lv_dup hx hb dX6_undoAct_8 rfl ?_
    refine va_get (D := D) (ci := 6) (v := .int (nI n)) (C := RX6) (T := TX6) (N := 6) hx hb hts inlX6 hown hK hP 0 rfl rfl 5 (by decide) (hts _ mw_47) (fun _ h9 => h9) rfl dX6_undoAct_9 ?_
    refine lv_iconst (v := 1) hx hb dX6_undoAct_12 (by decide) ?_
    refine lv_isub hx hb dX6_undoAct_13 ?_
    refine ki (v := (nI (n - 1))) (pk_sub (a := n) (b := 1) (by omega)) ?_
    refine va_put (D := D) (ci := 6) (v := .int (nI (n - 1))) (ty := tyX6 5) (C := RX6) (T := TX6) (N := 6) hx hb hts inlX6 tyX6 tyX6_ok nmX6 hown hK hP hD hS 0 rfl rfl 5 (by decide) (hts _ mw_47) (fun _ h9 => h9) rfl (tyX6_ok 5 (by decide)) rfl rfl (Nat.le_of_ble_eq_true rfl) dX6_undoAct_14 (fun H locs hP hD hS => ?_)
    have hP : va_P D vwCl ([(st, .inr (6, [.ref d, .ref sh, .ref vw, .ref ta, .ref sa, .int (nI (n - 1))])), (sh, .inl (κ 4, 3, .inr (.inr (.inr (.inr fs))))), (vw, .inl (κ 5, 3, .inr (.inr (.inr (.inr fv))))), (ta, .inl (κ 0, 6, .inl fa)), (sa, .inl (κ 4, 6, .inr (.inr (.inr (.inr ga)))))] ++ im) H := hP
    have hD : va_D A ([(st, .inr (6, [.ref d, .ref sh, .ref vw, .ref ta, .ref sa, .int (nI (n - 1))])), (sh, .inl (κ 4, 3, .inr (.inr (.inr (.inr fs))))), (vw, .inl (κ 5, 3, .inr (.inr (.inr (.inr fv))))), (ta, .inl (κ 0, 6, .inl fa)), (sa, .inl (κ 4, 6, .inr (.inr (.inr (.inr ga)))))] ++ im) := hD
    refine lv_aload_n hx hb dX6_undoAct_17 rfl (lv_at hl 0 rfl) ?_
    refine va_get (D := D) (ci := 6) (v := .ref sh) (C := RX6) (T := TX6) (N := 6) hx hb hts inlX6 hown hK hP 0 rfl rfl 1 (by decide) (hts _ mw_42) (fun _ h9 => h9) rfl dX6_undoAct_18 ?_
    refine lv_aload_n hx hb dX6_undoAct_21 rfl (lv_at hl 0 rfl) ?_
    refine va_get (D := D) (ci := 6) (v := .ref ta) (C := RX6) (T := TX6) (N := 6) hx hb hts inlX6 hown hK hP 0 rfl rfl 3 (by decide) (hts _ mw_45) (fun _ h9 => h9) rfl dX6_undoAct_22 ?_
    refine lv_aload_n hx hb dX6_undoAct_25 rfl (lv_at hl 0 rfl) ?_
    refine va_get (D := D) (ci := 6) (v := .int (nI (n - 1))) (C := RX6) (T := TX6) (N := 6) hx hb hts inlX6 hown hK hP 0 rfl rfl 5 (by decide) (hts _ mw_47) (fun _ h9 => h9) rfl dX6_undoAct_26 ?_
    refine va_iald hx hb hK hP 3 0 rfl rfl (i := nI (n - 1)) (vp_in_nI (n := (n - 1)) (by omega) (by omega)) dX6_undoAct_29 ?_
    refine kv (v := .int (fa (n - 1))) (by rw [nI_clamp (by omega)]) ?_
    obtain ⟨n_3, hn_3, en_3⟩ := hrn (n - 1) (by omega)
    refine kv (v := .int (nI n_3)) (congrArg Value.int en_3) ?_
    refine lv_aload_n hx hb dX6_undoAct_30 rfl (lv_at hl 0 rfl) ?_
    refine va_get (D := D) (ci := 6) (v := .ref sa) (C := RX6) (T := TX6) (N := 6) hx hb hts inlX6 hown hK hP 0 rfl rfl 4 (by decide) (hts _ mw_46) (fun _ h9 => h9) rfl dX6_undoAct_31 ?_
    refine lv_aload_n hx hb dX6_undoAct_34 rfl (lv_at hl 0 rfl) ?_
    refine va_get (D := D) (ci := 6) (v := .int (nI (n - 1))) (C := RX6) (T := TX6) (N := 6) hx hb hts inlX6 hown hK hP 0 rfl rfl 5 (by decide) (hts _ mw_47) (fun _ h9 => h9) rfl dX6_undoAct_35 ?_
    refine va_aldq hx hb hK hP 4 4 rfl rfl (i := nI (n - 1)) (vp_in_nI (n := (n - 1)) (by omega) (by omega)) dX6_undoAct_38 ?_
    rcases hss (n - 1) (by omega) with e_4 | ⟨a_5, R_6, w_7, e_4, h_8⟩
    · refine kv (v := .null) (by rw [nI_clamp (by omega)]; rw [e_4]; rfl) ?_
      refine va_astqN hx hb hK hP hD hS 1 4 rfl rfl (i := nI n_3) (vp_in_nI (n := n_3) (by omega) (by omega)) dX6_undoAct_39 (fun H locs hP hD hS => ?_)
      rw [nI_clamp (by omega)] at hP hD
      have hP : va_P D vwCl ([(st, .inr (6, [.ref d, .ref sh, .ref vw, .ref ta, .ref sa, .int (nI (n - 1))])), (sh, .inl (κ 4, 3, .inr (.inr (.inr (.inr (va_up fs n_3 none)))))), (vw, .inl (κ 5, 3, .inr (.inr (.inr (.inr fv))))), (ta, .inl (κ 0, 6, .inl fa)), (sa, .inl (κ 4, 6, .inr (.inr (.inr (.inr ga)))))] ++ im) H := hP
      have hD : va_D A ([(st, .inr (6, [.ref d, .ref sh, .ref vw, .ref ta, .ref sa, .int (nI (n - 1))])), (sh, .inl (κ 4, 3, .inr (.inr (.inr (.inr (va_up fs n_3 none)))))), (vw, .inl (κ 5, 3, .inr (.inr (.inr (.inr fv))))), (ta, .inl (κ 0, 6, .inl fa)), (sa, .inl (κ 4, 6, .inr (.inr (.inr (.inr ga)))))] ++ im) := hD
      have hf_10 : Ss κ im (va_up fs n_3 none) 3 := Ss_non hss_2
      generalize va_up fs n_3 none = g_9 at hP hD hf_10
      refine lv_iconst (v := 0) hx hb dX6_undoAct_40 (by decide) ?_
      refine lv_istore_n (lv' := [(1, .int 0), (0, .ref st)]) hx hb dX6_undoAct_41 rfl hl (by decide) rfl (fun ls hl => ?_)
      refine loop_dn (fun k9 H locs ls => ∃ (k1_42 : Nat), ∃ (gvw_42 : Nat → Option Nat), (k1_42 ≤ 3) ∧ Tv κ im gvw_42 g_9 k1_42 ∧ 3 - k1_42 = k9 ∧ va_P D vwCl ([(st, .inr (6, [.ref d, .ref sh, .ref vw, .ref ta, .ref sa, .int (nI (n - 1))])), (sh, .inl (κ 4, 3, .inr (.inr (.inr (.inr g_9))))), (vw, .inl (κ 5, 3, .inr (.inr (.inr (.inr gvw_42))))), (ta, .inl (κ 0, 6, .inl fa)), (sa, .inl (κ 4, 6, .inr (.inr (.inr (.inr ga)))))] ++ im) H ∧ va_D A ([(st, .inr (6, [.ref d, .ref sh, .ref vw, .ref ta, .ref sa, .int (nI (n - 1))])), (sh, .inl (κ 4, 3, .inr (.inr (.inr (.inr g_9))))), (vw, .inl (κ 5, 3, .inr (.inr (.inr (.inr gvw_42))))), (ta, .inl (κ 0, 6, .inl fa)), (sa, .inl (κ 4, 6, .inr (.inr (.inr (.inr ga)))))] ++ im) ∧ va_S A s.heap H locs ∧ lv_has ls 2 [(1, .int (nI k1_42)), (0, .ref st)]) (fun k9 H locs ls hI42 ih42 => ?_) (3 - 0) _ _ _ ⟨0, fv, (by omega), (Tv_0 (fs := g_9)), rfl, hP, hD, hS, lv_sub hl [0, 1] rfl⟩
      obtain ⟨k1_42, gvw_42, hl42_0, hq42_0, hm42, hP, hD, hS, hl⟩ := hI42
      refine lv_iload_n hx hb dX6_undoAct_42 rfl (lv_at hl 0 rfl) ?_
      refine lv_iconst (v := 3) hx hb dX6_undoAct_43 (by decide) ?_
      refine lv_icmp_ge (tgt := 58) hx hb dX6_undoAct_44 (by decide) (fun c_11 => ?_) (fun c_11 => ?_)
      · have nc_11 := cv_le (a := 3) (b := k1_42) (by omega) (by omega) c_11
        exact et_vret hx hb hr hlk hS (n - 1, g_9, gvw_42, fa, ga) rfl ⟨(show (n - 1) ≤ 6 from (by first | assumption | omega | rfl | exact Or.inl (by assumption) | exact Or.inr (by assumption))), (show Tb κ im g_9 gvw_42 3 from (by have e9 : k1_42 = 3 := (by omega); rw [← e9]; exact hq42_0)), (show Rn 6 3 fa from (by first | assumption | omega | rfl | exact Or.inl (by assumption) | exact Or.inr (by assumption))), (show Ss κ im ga 6 from hss)⟩ (subP hP [0, 1, 2, 3, 4] rfl) (subD hD [0, 1, 2, 3, 4] (by decide) rfl) (Nat.le_of_ble_eq_true rfl) (Nat.le_of_ble_eq_true rfl) dX6_undoAct_58
      · have nc_11 := cv_nle (a := 3) (b := k1_42) (by omega) (by omega) c_11
        rcases hf_10 k1_42 (by omega) with e_12 | ⟨a_13, R_14, w_15, e_12, h_16⟩
        · skip
          refine lv_aload_n hx hb dX6_undoAct_47 rfl (lv_at hl 1 rfl) ?_
          refine lv_iload_n hx hb dX6_undoAct_48 rfl (lv_at hl 0 rfl) ?_
          refine et_VT (CR := [(ta, .inl (κ 0, 6, .inl fa)), (sa, .inl (κ 4, 6, .inr (.inr (.inr (.inr ga)))))]) (As := [.int (nI k1_42)]) (rest := []) hFX hKK hE hP hD hS hA (c_X6_takeViewsOff_n l D κ κq im st d sh vw ta sa (n - 1) g_9 gvw_42 k1_42 (by omega) e_12) 1 gV_X6_73 hdV_X6_takeViewsOff ⟨Nat.le_of_ble_eq_true rfl, Nat.le_of_ble_eq_true rfl⟩ rfl rfl (Nat.le_of_ble_eq_true rfl) dX6_undoAct_49 ⟨Nat.le_of_ble_eq_true rfl, Nat.le_of_ble_eq_true rfl⟩ hl.1 [0, 1, 2] [3, 4] rfl rfl (by decide) (by decide) (by decide) hP 0 6 rfl rfl rfl (fun _ H locs hp_17 hP hD hS => ?_)
          replace hP : va_P D vwCl ([(st, .inr (6, [.ref d, .ref sh, .ref vw, .ref ta, .ref sa, .int (nI (n - 1))])), (sh, .inl (κ 4, 3, .inr (.inr (.inr (.inr g_9))))), (vw, .inl (κ 5, 3, .inr (.inr (.inr (.inr (va_up gvw_42 k1_42 none)))))), (ta, .inl (κ 0, 6, .inl fa)), (sa, .inl (κ 4, 6, .inr (.inr (.inr (.inr ga)))))] ++ im) H := subP (C := [(ta, .inl (κ 0, 6, .inl fa)), (sa, .inl (κ 4, 6, .inr (.inr (.inr (.inr ga))))), (st, .inr (6, [.ref d, .ref sh, .ref vw, .ref ta, .ref sa, .int (nI (n - 1))])), (sh, .inl (κ 4, 3, .inr (.inr (.inr (.inr g_9))))), (vw, .inl (κ 5, 3, .inr (.inr (.inr (.inr (va_up gvw_42 k1_42 none))))))]) hP [2, 3, 4, 0, 1] rfl
          replace hD : va_D A ([(st, .inr (6, [.ref d, .ref sh, .ref vw, .ref ta, .ref sa, .int (nI (n - 1))])), (sh, .inl (κ 4, 3, .inr (.inr (.inr (.inr g_9))))), (vw, .inl (κ 5, 3, .inr (.inr (.inr (.inr (va_up gvw_42 k1_42 none)))))), (ta, .inl (κ 0, 6, .inl fa)), (sa, .inl (κ 4, 6, .inr (.inr (.inr (.inr ga)))))] ++ im) := subD (C := [(ta, .inl (κ 0, 6, .inl fa)), (sa, .inl (κ 4, 6, .inr (.inr (.inr (.inr ga))))), (st, .inr (6, [.ref d, .ref sh, .ref vw, .ref ta, .ref sa, .int (nI (n - 1))])), (sh, .inl (κ 4, 3, .inr (.inr (.inr (.inr g_9))))), (vw, .inl (κ 5, 3, .inr (.inr (.inr (.inr (va_up gvw_42 k1_42 none))))))]) hD [2, 3, 4, 0, 1] (by decide) rfl
          refine W.eq (g2 := F0 m 52 ls []) rfl ?_
          have htv_18 : Tv κ im (va_up gvw_42 k1_42 none) g_9 (k1_42 + 1) := Tv_none hq42_0 e_12
          refine lv_iinc (v := (nI (k1_42 + 1))) (lv' := [(1, .int (nI (k1_42 + 1))), (0, .ref st)]) hx hb dX6_undoAct_52 hl (k := 0) rfl (nI_i k1_42) (by decide) rfl (fun ls hl => ?_)
          refine lv_goto (tgt := 42) hx hb dX6_undoAct_55 (by decide) ?_
          exact ih42 _ _ _ _ (by omega) ⟨(k1_42 + 1), (va_up gvw_42 k1_42 none), (by omega), htv_18, rfl, hP, hD, hS, lv_sub hl [0, 1] rfl⟩
        · skip
          refine lv_aload_n hx hb dX6_undoAct_47 rfl (lv_at hl 1 rfl) ?_
          refine lv_iload_n hx hb dX6_undoAct_48 rfl (lv_at hl 0 rfl) ?_
          refine et_VT (CR := [(ta, .inl (κ 0, 6, .inl fa)), (sa, .inl (κ 4, 6, .inr (.inr (.inr (.inr ga)))))]) (As := [.int (nI k1_42)]) (rest := []) hFX hKK hE hP hD hS hA (c_X6_takeViewsOff_s l D κ κq im st d sh vw ta sa (n - 1) g_9 gvw_42 k1_42 a_13 R_14 w_15 (by omega) e_12 h_16) 1 gV_X6_73 hdV_X6_takeViewsOff ⟨Nat.le_of_ble_eq_true rfl, Nat.le_of_ble_eq_true rfl⟩ rfl rfl (Nat.le_of_ble_eq_true rfl) dX6_undoAct_49 ⟨Nat.le_of_ble_eq_true rfl, Nat.le_of_ble_eq_true rfl⟩ hl.1 [0, 1, 2] [3, 4] rfl rfl (by decide) (by decide) (by decide) hP 0 6 rfl rfl rfl (fun v__19 H locs hp_20 hP hD hS => ?_)
          replace hP : va_P D vwCl ([(st, .inr (6, [.ref d, .ref sh, .ref vw, .ref ta, .ref sa, .int (nI (n - 1))])), (sh, .inl (κ 4, 3, .inr (.inr (.inr (.inr g_9))))), (vw, .inl (κ 5, 3, .inr (.inr (.inr (.inr (va_up gvw_42 k1_42 (some v__19))))))), (ta, .inl (κ 0, 6, .inl fa)), (sa, .inl (κ 4, 6, .inr (.inr (.inr (.inr ga)))))] ++ im) H := subP (C := [(ta, .inl (κ 0, 6, .inl fa)), (sa, .inl (κ 4, 6, .inr (.inr (.inr (.inr ga))))), (st, .inr (6, [.ref d, .ref sh, .ref vw, .ref ta, .ref sa, .int (nI (n - 1))])), (sh, .inl (κ 4, 3, .inr (.inr (.inr (.inr g_9))))), (vw, .inl (κ 5, 3, .inr (.inr (.inr (.inr (va_up gvw_42 k1_42 (some v__19)))))))]) hP [2, 3, 4, 0, 1] rfl
          replace hD : va_D A ([(st, .inr (6, [.ref d, .ref sh, .ref vw, .ref ta, .ref sa, .int (nI (n - 1))])), (sh, .inl (κ 4, 3, .inr (.inr (.inr (.inr g_9))))), (vw, .inl (κ 5, 3, .inr (.inr (.inr (.inr (va_up gvw_42 k1_42 (some v__19))))))), (ta, .inl (κ 0, 6, .inl fa)), (sa, .inl (κ 4, 6, .inr (.inr (.inr (.inr ga)))))] ++ im) := subD (C := [(ta, .inl (κ 0, 6, .inl fa)), (sa, .inl (κ 4, 6, .inr (.inr (.inr (.inr ga))))), (st, .inr (6, [.ref d, .ref sh, .ref vw, .ref ta, .ref sa, .int (nI (n - 1))])), (sh, .inl (κ 4, 3, .inr (.inr (.inr (.inr g_9))))), (vw, .inl (κ 5, 3, .inr (.inr (.inr (.inr (va_up gvw_42 k1_42 (some v__19)))))))]) hD [2, 3, 4, 0, 1] (by decide) rfl
          replace hp_20 : Vw κ im 0 v__19 R_14 := hp_20
          have h_21 := hp_20
          clear hp_20
          refine W.eq (g2 := F0 m 52 ls []) rfl ?_
          have htv_22 : Tv κ im (va_up gvw_42 k1_42 (some v__19)) g_9 (k1_42 + 1) := Tv_some hq42_0 e_12 h_16 h_21 (by omega)
          refine lv_iinc (v := (nI (k1_42 + 1))) (lv' := [(1, .int (nI (k1_42 + 1))), (0, .ref st)]) hx hb dX6_undoAct_52 hl (k := 0) rfl (nI_i k1_42) (by decide) rfl (fun ls hl => ?_)
          refine lv_goto (tgt := 42) hx hb dX6_undoAct_55 (by decide) ?_
          exact ih42 _ _ _ _ (by omega) ⟨(k1_42 + 1), (va_up gvw_42 k1_42 (some v__19)), (by omega), htv_22, rfl, hP, hD, hS, lv_sub hl [0, 1] rfl⟩
    · refine kv (v := .ref a_5) (by rw [nI_clamp (by omega)]; rw [e_4]; rfl) ?_
      obtain ⟨hb_23, c_24, x_25, v_26, g_27, h_28, hm_29, hm_30, hm_31, lo_32, lc_33, vw_34⟩ := id h_8
      obtain ⟨hb_23_1, hb_23_2, hb_23_3⟩ := hb_23
      have hrw_hb_23 := rw_le hb_23_1 hb_23_3
      obtain ⟨k_35, ek_35⟩ := tl_at [(st, .inr (6, [.ref d, .ref sh, .ref vw, .ref ta, .ref sa, .int (nI (n - 1))])), (sh, .inl (κ 4, 3, .inr (.inr (.inr (.inr fs))))), (vw, .inl (κ 5, 3, .inr (.inr (.inr (.inr fv))))), (ta, .inl (κ 0, 6, .inl fa)), (sa, .inl (κ 4, 6, .inr (.inr (.inr (.inr ga)))))] hm_29
      refine va_astq hx hb hK hP hD hS 1 4 k_35 5 rfl rfl ek_35 rfl (i := nI n_3) (vp_in_nI (n := n_3) (by omega) (by omega)) dX6_undoAct_39 (fun H locs hP hD hS => ?_)
      rw [nI_clamp (by omega)] at hP hD
      have hP : va_P D vwCl ([(st, .inr (6, [.ref d, .ref sh, .ref vw, .ref ta, .ref sa, .int (nI (n - 1))])), (sh, .inl (κ 4, 3, .inr (.inr (.inr (.inr (va_up fs n_3 (some a_5))))))), (vw, .inl (κ 5, 3, .inr (.inr (.inr (.inr fv))))), (ta, .inl (κ 0, 6, .inl fa)), (sa, .inl (κ 4, 6, .inr (.inr (.inr (.inr ga)))))] ++ im) H := hP
      have hD : va_D A ([(st, .inr (6, [.ref d, .ref sh, .ref vw, .ref ta, .ref sa, .int (nI (n - 1))])), (sh, .inl (κ 4, 3, .inr (.inr (.inr (.inr (va_up fs n_3 (some a_5))))))), (vw, .inl (κ 5, 3, .inr (.inr (.inr (.inr fv))))), (ta, .inl (κ 0, 6, .inl fa)), (sa, .inl (κ 4, 6, .inr (.inr (.inr (.inr ga)))))] ++ im) := hD
      have hf_37 : Ss κ im (va_up fs n_3 (some a_5)) 3 := Ss_set hss_2 h_8
      generalize va_up fs n_3 (some a_5) = g_36 at hP hD hf_37
      refine lv_iconst (v := 0) hx hb dX6_undoAct_40 (by decide) ?_
      refine lv_istore_n (lv' := [(1, .int 0), (0, .ref st)]) hx hb dX6_undoAct_41 rfl hl (by decide) rfl (fun ls hl => ?_)
      refine loop_dn (fun k9 H locs ls => ∃ (k1_42 : Nat), ∃ (gvw_42 : Nat → Option Nat), (k1_42 ≤ 3) ∧ Tv κ im gvw_42 g_36 k1_42 ∧ 3 - k1_42 = k9 ∧ va_P D vwCl ([(st, .inr (6, [.ref d, .ref sh, .ref vw, .ref ta, .ref sa, .int (nI (n - 1))])), (sh, .inl (κ 4, 3, .inr (.inr (.inr (.inr g_36))))), (vw, .inl (κ 5, 3, .inr (.inr (.inr (.inr gvw_42))))), (ta, .inl (κ 0, 6, .inl fa)), (sa, .inl (κ 4, 6, .inr (.inr (.inr (.inr ga)))))] ++ im) H ∧ va_D A ([(st, .inr (6, [.ref d, .ref sh, .ref vw, .ref ta, .ref sa, .int (nI (n - 1))])), (sh, .inl (κ 4, 3, .inr (.inr (.inr (.inr g_36))))), (vw, .inl (κ 5, 3, .inr (.inr (.inr (.inr gvw_42))))), (ta, .inl (κ 0, 6, .inl fa)), (sa, .inl (κ 4, 6, .inr (.inr (.inr (.inr ga)))))] ++ im) ∧ va_S A s.heap H locs ∧ lv_has ls 2 [(1, .int (nI k1_42)), (0, .ref st)]) (fun k9 H locs ls hI42 ih42 => ?_) (3 - 0) _ _ _ ⟨0, fv, (by omega), (Tv_0 (fs := g_36)), rfl, hP, hD, hS, lv_sub hl [0, 1] rfl⟩
      obtain ⟨k1_42, gvw_42, hl42_0, hq42_0, hm42, hP, hD, hS, hl⟩ := hI42
      refine lv_iload_n hx hb dX6_undoAct_42 rfl (lv_at hl 0 rfl) ?_
      refine lv_iconst (v := 3) hx hb dX6_undoAct_43 (by decide) ?_
      refine lv_icmp_ge (tgt := 58) hx hb dX6_undoAct_44 (by decide) (fun c_38 => ?_) (fun c_38 => ?_)
      · have nc_38 := cv_le (a := 3) (b := k1_42) (by omega) (by omega) c_38
        exact et_vret hx hb hr hlk hS (n - 1, g_36, gvw_42, fa, ga) rfl ⟨(show (n - 1) ≤ 6 from (by first | assumption | omega | rfl | exact Or.inl (by assumption) | exact Or.inr (by assumption))), (show Tb κ im g_36 gvw_42 3 from (by have e9 : k1_42 = 3 := (by omega); rw [← e9]; exact hq42_0)), (show Rn 6 3 fa from (by first | assumption | omega | rfl | exact Or.inl (by assumption) | exact Or.inr (by assumption))), (show Ss κ im ga 6 from hss)⟩ (subP hP [0, 1, 2, 3, 4] rfl) (subD hD [0, 1, 2, 3, 4] (by decide) rfl) (Nat.le_of_ble_eq_true rfl) (Nat.le_of_ble_eq_true rfl) dX6_undoAct_58
      · have nc_38 := cv_nle (a := 3) (b := k1_42) (by omega) (by omega) c_38
        rcases hf_37 k1_42 (by omega) with e_39 | ⟨a_40, R_41, w_42, e_39, h_43⟩
        · skip
          refine lv_aload_n hx hb dX6_undoAct_47 rfl (lv_at hl 1 rfl) ?_
          refine lv_iload_n hx hb dX6_undoAct_48 rfl (lv_at hl 0 rfl) ?_
          refine et_VT (CR := [(ta, .inl (κ 0, 6, .inl fa)), (sa, .inl (κ 4, 6, .inr (.inr (.inr (.inr ga)))))]) (As := [.int (nI k1_42)]) (rest := []) hFX hKK hE hP hD hS hA (c_X6_takeViewsOff_n l D κ κq im st d sh vw ta sa (n - 1) g_36 gvw_42 k1_42 (by omega) e_39) 1 gV_X6_73 hdV_X6_takeViewsOff ⟨Nat.le_of_ble_eq_true rfl, Nat.le_of_ble_eq_true rfl⟩ rfl rfl (Nat.le_of_ble_eq_true rfl) dX6_undoAct_49 ⟨Nat.le_of_ble_eq_true rfl, Nat.le_of_ble_eq_true rfl⟩ hl.1 [0, 1, 2] [3, 4] rfl rfl (by decide) (by decide) (by decide) hP 0 6 rfl rfl rfl (fun _ H locs hp_44 hP hD hS => ?_)
          replace hP : va_P D vwCl ([(st, .inr (6, [.ref d, .ref sh, .ref vw, .ref ta, .ref sa, .int (nI (n - 1))])), (sh, .inl (κ 4, 3, .inr (.inr (.inr (.inr g_36))))), (vw, .inl (κ 5, 3, .inr (.inr (.inr (.inr (va_up gvw_42 k1_42 none)))))), (ta, .inl (κ 0, 6, .inl fa)), (sa, .inl (κ 4, 6, .inr (.inr (.inr (.inr ga)))))] ++ im) H := subP (C := [(ta, .inl (κ 0, 6, .inl fa)), (sa, .inl (κ 4, 6, .inr (.inr (.inr (.inr ga))))), (st, .inr (6, [.ref d, .ref sh, .ref vw, .ref ta, .ref sa, .int (nI (n - 1))])), (sh, .inl (κ 4, 3, .inr (.inr (.inr (.inr g_36))))), (vw, .inl (κ 5, 3, .inr (.inr (.inr (.inr (va_up gvw_42 k1_42 none))))))]) hP [2, 3, 4, 0, 1] rfl
          replace hD : va_D A ([(st, .inr (6, [.ref d, .ref sh, .ref vw, .ref ta, .ref sa, .int (nI (n - 1))])), (sh, .inl (κ 4, 3, .inr (.inr (.inr (.inr g_36))))), (vw, .inl (κ 5, 3, .inr (.inr (.inr (.inr (va_up gvw_42 k1_42 none)))))), (ta, .inl (κ 0, 6, .inl fa)), (sa, .inl (κ 4, 6, .inr (.inr (.inr (.inr ga)))))] ++ im) := subD (C := [(ta, .inl (κ 0, 6, .inl fa)), (sa, .inl (κ 4, 6, .inr (.inr (.inr (.inr ga))))), (st, .inr (6, [.ref d, .ref sh, .ref vw, .ref ta, .ref sa, .int (nI (n - 1))])), (sh, .inl (κ 4, 3, .inr (.inr (.inr (.inr g_36))))), (vw, .inl (κ 5, 3, .inr (.inr (.inr (.inr (va_up gvw_42 k1_42 none))))))]) hD [2, 3, 4, 0, 1] (by decide) rfl
          refine W.eq (g2 := F0 m 52 ls []) rfl ?_
          have htv_45 : Tv κ im (va_up gvw_42 k1_42 none) g_36 (k1_42 + 1) := Tv_none hq42_0 e_39
          refine lv_iinc (v := (nI (k1_42 + 1))) (lv' := [(1, .int (nI (k1_42 + 1))), (0, .ref st)]) hx hb dX6_undoAct_52 hl (k := 0) rfl (nI_i k1_42) (by decide) rfl (fun ls hl => ?_)
          refine lv_goto (tgt := 42) hx hb dX6_undoAct_55 (by decide) ?_
          exact ih42 _ _ _ _ (by omega) ⟨(k1_42 + 1), (va_up gvw_42 k1_42 none), (by omega), htv_45, rfl, hP, hD, hS, lv_sub hl [0, 1] rfl⟩
        · skip
          refine lv_aload_n hx hb dX6_undoAct_47 rfl (lv_at hl 1 rfl) ?_
          refine lv_iload_n hx hb dX6_undoAct_48 rfl (lv_at hl 0 rfl) ?_
          refine et_VT (CR := [(ta, .inl (κ 0, 6, .inl fa)), (sa, .inl (κ 4, 6, .inr (.inr (.inr (.inr ga)))))]) (As := [.int (nI k1_42)]) (rest := []) hFX hKK hE hP hD hS hA (c_X6_takeViewsOff_s l D κ κq im st d sh vw ta sa (n - 1) g_36 gvw_42 k1_42 a_40 R_41 w_42 (by omega) e_39 h_43) 1 gV_X6_73 hdV_X6_takeViewsOff ⟨Nat.le_of_ble_eq_true rfl, Nat.le_of_ble_eq_true rfl⟩ rfl rfl (Nat.le_of_ble_eq_true rfl) dX6_undoAct_49 ⟨Nat.le_of_ble_eq_true rfl, Nat.le_of_ble_eq_true rfl⟩ hl.1 [0, 1, 2] [3, 4] rfl rfl (by decide) (by decide) (by decide) hP 0 6 rfl rfl rfl (fun v__46 H locs hp_47 hP hD hS => ?_)
          replace hP : va_P D vwCl ([(st, .inr (6, [.ref d, .ref sh, .ref vw, .ref ta, .ref sa, .int (nI (n - 1))])), (sh, .inl (κ 4, 3, .inr (.inr (.inr (.inr g_36))))), (vw, .inl (κ 5, 3, .inr (.inr (.inr (.inr (va_up gvw_42 k1_42 (some v__46))))))), (ta, .inl (κ 0, 6, .inl fa)), (sa, .inl (κ 4, 6, .inr (.inr (.inr (.inr ga)))))] ++ im) H := subP (C := [(ta, .inl (κ 0, 6, .inl fa)), (sa, .inl (κ 4, 6, .inr (.inr (.inr (.inr ga))))), (st, .inr (6, [.ref d, .ref sh, .ref vw, .ref ta, .ref sa, .int (nI (n - 1))])), (sh, .inl (κ 4, 3, .inr (.inr (.inr (.inr g_36))))), (vw, .inl (κ 5, 3, .inr (.inr (.inr (.inr (va_up gvw_42 k1_42 (some v__46)))))))]) hP [2, 3, 4, 0, 1] rfl
          replace hD : va_D A ([(st, .inr (6, [.ref d, .ref sh, .ref vw, .ref ta, .ref sa, .int (nI (n - 1))])), (sh, .inl (κ 4, 3, .inr (.inr (.inr (.inr g_36))))), (vw, .inl (κ 5, 3, .inr (.inr (.inr (.inr (va_up gvw_42 k1_42 (some v__46))))))), (ta, .inl (κ 0, 6, .inl fa)), (sa, .inl (κ 4, 6, .inr (.inr (.inr (.inr ga)))))] ++ im) := subD (C := [(ta, .inl (κ 0, 6, .inl fa)), (sa, .inl (κ 4, 6, .inr (.inr (.inr (.inr ga))))), (st, .inr (6, [.ref d, .ref sh, .ref vw, .ref ta, .ref sa, .int (nI (n - 1))])), (sh, .inl (κ 4, 3, .inr (.inr (.inr (.inr g_36))))), (vw, .inl (κ 5, 3, .inr (.inr (.inr (.inr (va_up gvw_42 k1_42 (some v__46)))))))]) hD [2, 3, 4, 0, 1] (by decide) rfl
          replace hp_47 : Vw κ im 0 v__46 R_41 := hp_47
          have h_48 := hp_47
          clear hp_47
          refine W.eq (g2 := F0 m 52 ls []) rfl ?_
          have htv_49 : Tv κ im (va_up gvw_42 k1_42 (some v__46)) g_36 (k1_42 + 1) := Tv_some hq42_0 e_39 h_43 h_48 (by omega)
          refine lv_iinc (v := (nI (k1_42 + 1))) (lv' := [(1, .int (nI (k1_42 + 1))), (0, .ref st)]) hx hb dX6_undoAct_52 hl (k := 0) rfl (nI_i k1_42) (by decide) rfl (fun ls hl => ?_)
          refine lv_goto (tgt := 42) hx hb dX6_undoAct_55 (by decide) ?_
          exact ih42 _ _ _ _ (by omega) ⟨(k1_42 + 1), (va_up gvw_42 k1_42 (some v__46)), (by omega), htv_49, rfl, hP, hD, hS, lv_sub hl [0, 1] rfl⟩
set_option maxHeartbeats 4000000 in
set_option maxRecDepth 100000 in
theorem c_X6_copyFrom (l : Launch) (D : va_G) (κ : Nat → ClassId) (κq : Nat → Nat) (im : va_W) (st : Nat) (d : Nat) (sh : Nat) (vw : Nat) (ta : Nat) (sa : Nat) (n : Nat) (dl : Nat → Int32) (fs : Nat → Option Nat) (fv : Nat → Option Nat) (st2 : Nat) (d2 : Nat) (sh2 : Nat) (vw2 : Nat) (ta2 : Nat) (sa2 : Nat) (n2 : Nat) (fs2 : Nat → Option Nat) (fv2 : Nat → Option Nat) (dl2 : Nat → Int32) (htb2 : Tb κ im fs2 fv2 3) : Et l yX6_copyFrom (wl yX6_copyFrom cX6_copyFrom 3 none) { frames := 1, cells := 0, slots := 0, locals := 18 } D κ κq [.ref st, .ref st2] ([(st, .inr (6, [.ref d, .ref sh, .ref vw, .ref ta, .ref sa, .int (nI n)])), (d, .inl (κ 0, 6, .inl dl)), (sh, .inl (κ 4, 3, .inr (.inr (.inr (.inr fs))))), (vw, .inl (κ 5, 3, .inr (.inr (.inr (.inr fv))))), (st2, .inr (6, [.ref d2, .ref sh2, .ref vw2, .ref ta2, .ref sa2, .int (nI n2)])), (sh2, .inl (κ 4, 3, .inr (.inr (.inr (.inr fs2))))), (vw2, .inl (κ 5, 3, .inr (.inr (.inr (.inr fv2))))), (d2, .inl (κ 0, 6, .inl dl2))] ++ im) (fun u9 : (Nat → Int32) × (Nat → Option Nat) × (Nat → Option Nat) => none) (fun u9 : (Nat → Int32) × (Nat → Option Nat) × (Nat → Option Nat) => Tb κ im u9.2.1 u9.2.2 3) (fun u9 : (Nat → Int32) × (Nat → Option Nat) × (Nat → Option Nat) => ([(st, .inr (6, [.ref d, .ref sh, .ref vw, .ref ta, .ref sa, .int 0])), (d, .inl (κ 0, 6, .inl u9.1)), (sh, .inl (κ 4, 3, .inr (.inr (.inr (.inr u9.2.1))))), (vw, .inl (κ 5, 3, .inr (.inr (.inr (.inr u9.2.2))))), (st2, .inr (6, [.ref d2, .ref sh2, .ref vw2, .ref ta2, .ref sa2, .int (nI n2)])), (sh2, .inl (κ 4, 3, .inr (.inr (.inr (.inr fs2))))), (vw2, .inl (κ 5, 3, .inr (.inr (.inr (.inr fv2))))), (d2, .inl (κ 0, 6, .inl dl2))] ++ im)) := by
  refine et_of (by decide +kernel) (Nat.le_of_ble_eq_true rfl) ?_
  intro p e s m args below meth c A ls hx hb hr hml hts hown hlk hin hKK hK hA hP hD hS hE hl
  have hS : va_S A s.heap s.heap [] := hS
  have hP : va_P D vwCl ([(st, .inr (6, [.ref d, .ref sh, .ref vw, .ref ta, .ref sa, .int (nI n)])), (d, .inl (κ 0, 6, .inl dl)), (sh, .inl (κ 4, 3, .inr (.inr (.inr (.inr fs))))), (vw, .inl (κ 5, 3, .inr (.inr (.inr (.inr fv))))), (st2, .inr (6, [.ref d2, .ref sh2, .ref vw2, .ref ta2, .ref sa2, .int (nI n2)])), (sh2, .inl (κ 4, 3, .inr (.inr (.inr (.inr fs2))))), (vw2, .inl (κ 5, 3, .inr (.inr (.inr (.inr fv2))))), (d2, .inl (κ 0, 6, .inl dl2))] ++ im) s.heap := hP
  have hD : va_D A ([(st, .inr (6, [.ref d, .ref sh, .ref vw, .ref ta, .ref sa, .int (nI n)])), (d, .inl (κ 0, 6, .inl dl)), (sh, .inl (κ 4, 3, .inr (.inr (.inr (.inr fs))))), (vw, .inl (κ 5, 3, .inr (.inr (.inr (.inr fv))))), (st2, .inr (6, [.ref d2, .ref sh2, .ref vw2, .ref ta2, .ref sa2, .int (nI n2)])), (sh2, .inl (κ 4, 3, .inr (.inr (.inr (.inr fs2))))), (vw2, .inl (κ 5, 3, .inr (.inr (.inr (.inr fv2))))), (d2, .inl (κ 0, 6, .inl dl2))] ++ im) := hD
  have hFX : FX p s m args c cX6_copyFrom 3 RX6 := ⟨hx, hb, hml, hown, hts⟩
  have hl : lv_has ls 3 [(0, .ref st), (1, .ref st2)] := hl
  refine lv_aload_n hx hb dX6_copyFrom_0 rfl (lv_at hl 1 rfl) ?_
  refine va_get (D := D) (ci := 6) (v := .ref d2) (C := RX6) (T := TX6) (N := 6) hx hb hts inlX6 hown hK hP 4 rfl rfl 0 (by decide) (hts _ mw_40) (fun _ h9 => h9) rfl dX6_copyFrom_1 ?_
  refine lv_iconst (v := 0) hx hb dX6_copyFrom_4 (by decide) ?_
  refine lv_aload_n hx hb dX6_copyFrom_5 rfl (lv_at hl 0 rfl) ?_
  refine va_get (D := D) (ci := 6) (v := .ref d) (C := RX6) (T := TX6) (N := 6) hx hb hts inlX6 hown hK hP 0 rfl rfl 0 (by decide) (hts _ mw_40) (fun _ h9 => h9) rfl dX6_copyFrom_6 ?_
  refine lv_iconst (v := 0) hx hb dX6_copyFrom_9 (by decide) ?_
  refine lv_bipush (v := 6) hx hb dX6_copyFrom_10 (by decide) ?_
  refine va_copyi hx hb (hml.trans hl.1.symm) hown (hts _ mw_1478) (hts _ mw_321) (hts _ mw_322) (hts _ mw_323) hK hP hD hS 7 1 0 0 rfl rfl rfl rfl rfl (sp := 0) (dp := 0) (n := 6) (by decide) (by decide) (by decide) (by show 0 + 6 ≤ _; omega) (by show 0 + 6 ≤ _; omega) (fun _ _ => rfl) (Nat.le_of_ble_eq_true rfl) (Nat.le_of_ble_eq_true rfl) dX6_copyFrom_12 (fun H locs hP hD hS => ?_)
  have hP : va_P D vwCl ([(st, .inr (6, [.ref d, .ref sh, .ref vw, .ref ta, .ref sa, .int (nI n)])), (d, .inl (κ 0, 6, .inl (va_cpy dl2 dl 0 0 6))), (sh, .inl (κ 4, 3, .inr (.inr (.inr (.inr fs))))), (vw, .inl (κ 5, 3, .inr (.inr (.inr (.inr fv))))), (st2, .inr (6, [.ref d2, .ref sh2, .ref vw2, .ref ta2, .ref sa2, .int (nI n2)])), (sh2, .inl (κ 4, 3, .inr (.inr (.inr (.inr fs2))))), (vw2, .inl (κ 5, 3, .inr (.inr (.inr (.inr fv2))))), (d2, .inl (κ 0, 6, .inl dl2))] ++ im) H := hP
  have hD : va_D A ([(st, .inr (6, [.ref d, .ref sh, .ref vw, .ref ta, .ref sa, .int (nI n)])), (d, .inl (κ 0, 6, .inl (va_cpy dl2 dl 0 0 6))), (sh, .inl (κ 4, 3, .inr (.inr (.inr (.inr fs))))), (vw, .inl (κ 5, 3, .inr (.inr (.inr (.inr fv))))), (st2, .inr (6, [.ref d2, .ref sh2, .ref vw2, .ref ta2, .ref sa2, .int (nI n2)])), (sh2, .inl (κ 4, 3, .inr (.inr (.inr (.inr fs2))))), (vw2, .inl (κ 5, 3, .inr (.inr (.inr (.inr fv2))))), (d2, .inl (κ 0, 6, .inl dl2))] ++ im) := hD
  refine W.eq (g2 := F0 m 15 ls []) rfl ?_
  refine lv_iconst (v := 0) hx hb dX6_copyFrom_15 (by decide) ?_
  refine lv_istore_n (lv' := [(2, .int 0), (0, .ref st), (1, .ref st2)]) hx hb dX6_copyFrom_16 rfl hl (by decide) rfl (fun ls hl => ?_)
  refine loop_dn (fun k9 H locs ls => ∃ (k2_17 : Nat), ∃ (gsh_17 : Nat → Option Nat), ∃ (gvw_17 : Nat → Option Nat), (k2_17 ≤ 3) ∧ Tv κ im gvw_17 gsh_17 k2_17 ∧ 3 - k2_17 = k9 ∧ va_P D vwCl ([(st, .inr (6, [.ref d, .ref sh, .ref vw, .ref ta, .ref sa, .int (nI n)])), (d, .inl (κ 0, 6, .inl (va_cpy dl2 dl 0 0 6))), (sh, .inl (κ 4, 3, .inr (.inr (.inr (.inr gsh_17))))), (vw, .inl (κ 5, 3, .inr (.inr (.inr (.inr gvw_17))))), (st2, .inr (6, [.ref d2, .ref sh2, .ref vw2, .ref ta2, .ref sa2, .int (nI n2)])), (sh2, .inl (κ 4, 3, .inr (.inr (.inr (.inr fs2))))), (vw2, .inl (κ 5, 3, .inr (.inr (.inr (.inr fv2))))), (d2, .inl (κ 0, 6, .inl dl2))] ++ im) H ∧ va_D A ([(st, .inr (6, [.ref d, .ref sh, .ref vw, .ref ta, .ref sa, .int (nI n)])), (d, .inl (κ 0, 6, .inl (va_cpy dl2 dl 0 0 6))), (sh, .inl (κ 4, 3, .inr (.inr (.inr (.inr gsh_17))))), (vw, .inl (κ 5, 3, .inr (.inr (.inr (.inr gvw_17))))), (st2, .inr (6, [.ref d2, .ref sh2, .ref vw2, .ref ta2, .ref sa2, .int (nI n2)])), (sh2, .inl (κ 4, 3, .inr (.inr (.inr (.inr fs2))))), (vw2, .inl (κ 5, 3, .inr (.inr (.inr (.inr fv2))))), (d2, .inl (κ 0, 6, .inl dl2))] ++ im) ∧ va_S A s.heap H locs ∧ lv_has ls 3 [(2, .int (nI k2_17)), (0, .ref st), (1, .ref st2)]) (fun k9 H locs ls hI17 ih17 => ?_) (3 - 0) _ _ _ ⟨0, fs, fv, (by omega), (Tv_0 (fs := fs)), rfl, hP, hD, hS, lv_sub hl [0, 1, 2] rfl⟩
  obtain ⟨k2_17, gsh_17, gvw_17, hl17_0, hq17_0, hm17, hP, hD, hS, hl⟩ := hI17
  refine lv_iload_n hx hb dX6_copyFrom_17 rfl (lv_at hl 0 rfl) ?_
  refine lv_iconst (v := 3) hx hb dX6_copyFrom_18 (by decide) ?_
  refine lv_icmp_ge (tgt := 52) hx hb dX6_copyFrom_19 (by decide) (fun c_1 => ?_) (fun c_1 => ?_)
  · have nc_1 := cv_le (a := 3) (b := k2_17) (by omega) (by omega) c_1
    refine lv_aload_n hx hb dX6_copyFrom_52 rfl (lv_at hl 1 rfl) ?_
    refine lv_iconst (v := 0) hx hb dX6_copyFrom_53 (by decide) ?_
    refine va_put (D := D) (ci := 6) (v := .int 0) (ty := tyX6 5) (C := RX6) (T := TX6) (N := 6) hx hb hts inlX6 tyX6 tyX6_ok nmX6 hown hK hP hD hS 0 rfl rfl 5 (by decide) (hts _ mw_47) (fun _ h9 => h9) rfl (tyX6_ok 5 (by decide)) rfl rfl (Nat.le_of_ble_eq_true rfl) dX6_copyFrom_54 (fun H locs hP hD hS => ?_)
    have hP : va_P D vwCl ([(st, .inr (6, [.ref d, .ref sh, .ref vw, .ref ta, .ref sa, .int 0])), (d, .inl (κ 0, 6, .inl (va_cpy dl2 dl 0 0 6))), (sh, .inl (κ 4, 3, .inr (.inr (.inr (.inr gsh_17))))), (vw, .inl (κ 5, 3, .inr (.inr (.inr (.inr gvw_17))))), (st2, .inr (6, [.ref d2, .ref sh2, .ref vw2, .ref ta2, .ref sa2, .int (nI n2)])), (sh2, .inl (κ 4, 3, .inr (.inr (.inr (.inr fs2))))), (vw2, .inl (κ 5, 3, .inr (.inr (.inr (.inr fv2))))), (d2, .inl (κ 0, 6, .inl dl2))] ++ im) H := hP
    have hD : va_D A ([(st, .inr (6, [.ref d, .ref sh, .ref vw, .ref ta, .ref sa, .int 0])), (d, .inl (κ 0, 6, .inl (va_cpy dl2 dl 0 0 6))), (sh, .inl (κ 4, 3, .inr (.inr (.inr (.inr gsh_17))))), (vw, .inl (κ 5, 3, .inr (.inr (.inr (.inr gvw_17))))), (st2, .inr (6, [.ref d2, .ref sh2, .ref vw2, .ref ta2, .ref sa2, .int (nI n2)])), (sh2, .inl (κ 4, 3, .inr (.inr (.inr (.inr fs2))))), (vw2, .inl (κ 5, 3, .inr (.inr (.inr (.inr fv2))))), (d2, .inl (κ 0, 6, .inl dl2))] ++ im) := hD
    exact et_vret hx hb hr hlk hS (va_cpy dl2 dl 0 0 6, gsh_17, gvw_17) rfl (show Tb κ im gsh_17 gvw_17 3 from (by have e9 : k2_17 = 3 := (by omega); rw [← e9]; exact hq17_0)) (subP hP [0, 1, 2, 3, 4, 5, 6, 7] rfl) (subD hD [0, 1, 2, 3, 4, 5, 6, 7] (by decide) rfl) (Nat.le_of_ble_eq_true rfl) (Nat.le_of_ble_eq_true rfl) dX6_copyFrom_57
  · have nc_1 := cv_nle (a := 3) (b := k2_17) (by omega) (by omega) c_1
    rcases htb2 k2_17 (by omega) with ⟨e_2, e_3⟩ | ⟨a_4, R_5, w_6, d_7, v_8, e_2, e_3, h_9, h_10, hd_11⟩
    · skip
      refine lv_aload_n hx hb dX6_copyFrom_22 rfl (lv_at hl 1 rfl) ?_
      refine va_get (D := D) (ci := 6) (v := .ref sh) (C := RX6) (T := TX6) (N := 6) hx hb hts inlX6 hown hK hP 0 rfl rfl 1 (by decide) (hts _ mw_42) (fun _ h9 => h9) rfl dX6_copyFrom_23 ?_
      refine lv_iload_n hx hb dX6_copyFrom_26 rfl (lv_at hl 0 rfl) ?_
      refine lv_aload_n hx hb dX6_copyFrom_27 rfl (lv_at hl 2 rfl) ?_
      refine va_get (D := D) (ci := 6) (v := .ref sh2) (C := RX6) (T := TX6) (N := 6) hx hb hts inlX6 hown hK hP 4 rfl rfl 1 (by decide) (hts _ mw_42) (fun _ h9 => h9) rfl dX6_copyFrom_28 ?_
      refine lv_iload_n hx hb dX6_copyFrom_31 rfl (lv_at hl 0 rfl) ?_
      refine va_aldq hx hb hK hP 5 4 rfl rfl (i := nI k2_17) (vp_in_nI (n := k2_17) (by omega) (by omega)) dX6_copyFrom_32 ?_
      refine kv (v := .null) (by rw [nI_clamp (by omega)]; rw [e_2]; rfl) ?_
      refine va_astqN hx hb hK hP hD hS 2 4 rfl rfl (i := nI k2_17) (vp_in_nI (n := k2_17) (by omega) (by omega)) dX6_copyFrom_33 (fun H locs hP hD hS => ?_)
      rw [nI_clamp (by omega)] at hP hD
      have hP : va_P D vwCl ([(st, .inr (6, [.ref d, .ref sh, .ref vw, .ref ta, .ref sa, .int (nI n)])), (d, .inl (κ 0, 6, .inl (va_cpy dl2 dl 0 0 6))), (sh, .inl (κ 4, 3, .inr (.inr (.inr (.inr (va_up gsh_17 k2_17 none)))))), (vw, .inl (κ 5, 3, .inr (.inr (.inr (.inr gvw_17))))), (st2, .inr (6, [.ref d2, .ref sh2, .ref vw2, .ref ta2, .ref sa2, .int (nI n2)])), (sh2, .inl (κ 4, 3, .inr (.inr (.inr (.inr fs2))))), (vw2, .inl (κ 5, 3, .inr (.inr (.inr (.inr fv2))))), (d2, .inl (κ 0, 6, .inl dl2))] ++ im) H := hP
      have hD : va_D A ([(st, .inr (6, [.ref d, .ref sh, .ref vw, .ref ta, .ref sa, .int (nI n)])), (d, .inl (κ 0, 6, .inl (va_cpy dl2 dl 0 0 6))), (sh, .inl (κ 4, 3, .inr (.inr (.inr (.inr (va_up gsh_17 k2_17 none)))))), (vw, .inl (κ 5, 3, .inr (.inr (.inr (.inr gvw_17))))), (st2, .inr (6, [.ref d2, .ref sh2, .ref vw2, .ref ta2, .ref sa2, .int (nI n2)])), (sh2, .inl (κ 4, 3, .inr (.inr (.inr (.inr fs2))))), (vw2, .inl (κ 5, 3, .inr (.inr (.inr (.inr fv2))))), (d2, .inl (κ 0, 6, .inl dl2))] ++ im) := hD
      refine lv_aload_n hx hb dX6_copyFrom_34 rfl (lv_at hl 1 rfl) ?_
      refine va_get (D := D) (ci := 6) (v := .ref vw) (C := RX6) (T := TX6) (N := 6) hx hb hts inlX6 hown hK hP 0 rfl rfl 2 (by decide) (hts _ mw_44) (fun _ h9 => h9) rfl dX6_copyFrom_35 ?_
      refine lv_iload_n hx hb dX6_copyFrom_38 rfl (lv_at hl 0 rfl) ?_
      refine lv_aload_n hx hb dX6_copyFrom_39 rfl (lv_at hl 2 rfl) ?_
      refine va_get (D := D) (ci := 6) (v := .ref vw2) (C := RX6) (T := TX6) (N := 6) hx hb hts inlX6 hown hK hP 4 rfl rfl 2 (by decide) (hts _ mw_44) (fun _ h9 => h9) rfl dX6_copyFrom_40 ?_
      refine lv_iload_n hx hb dX6_copyFrom_43 rfl (lv_at hl 0 rfl) ?_
      refine va_aldq hx hb hK hP 6 5 rfl rfl (i := nI k2_17) (vp_in_nI (n := k2_17) (by omega) (by omega)) dX6_copyFrom_44 ?_
      refine kv (v := .null) (by rw [nI_clamp (by omega)]; rw [e_3]; rfl) ?_
      refine va_astqN hx hb hK hP hD hS 3 5 rfl rfl (i := nI k2_17) (vp_in_nI (n := k2_17) (by omega) (by omega)) dX6_copyFrom_45 (fun H locs hP hD hS => ?_)
      rw [nI_clamp (by omega)] at hP hD
      have hP : va_P D vwCl ([(st, .inr (6, [.ref d, .ref sh, .ref vw, .ref ta, .ref sa, .int (nI n)])), (d, .inl (κ 0, 6, .inl (va_cpy dl2 dl 0 0 6))), (sh, .inl (κ 4, 3, .inr (.inr (.inr (.inr (va_up gsh_17 k2_17 none)))))), (vw, .inl (κ 5, 3, .inr (.inr (.inr (.inr (va_up gvw_17 k2_17 none)))))), (st2, .inr (6, [.ref d2, .ref sh2, .ref vw2, .ref ta2, .ref sa2, .int (nI n2)])), (sh2, .inl (κ 4, 3, .inr (.inr (.inr (.inr fs2))))), (vw2, .inl (κ 5, 3, .inr (.inr (.inr (.inr fv2))))), (d2, .inl (κ 0, 6, .inl dl2))] ++ im) H := hP
      have hD : va_D A ([(st, .inr (6, [.ref d, .ref sh, .ref vw, .ref ta, .ref sa, .int (nI n)])), (d, .inl (κ 0, 6, .inl (va_cpy dl2 dl 0 0 6))), (sh, .inl (κ 4, 3, .inr (.inr (.inr (.inr (va_up gsh_17 k2_17 none)))))), (vw, .inl (κ 5, 3, .inr (.inr (.inr (.inr (va_up gvw_17 k2_17 none)))))), (st2, .inr (6, [.ref d2, .ref sh2, .ref vw2, .ref ta2, .ref sa2, .int (nI n2)])), (sh2, .inl (κ 4, 3, .inr (.inr (.inr (.inr fs2))))), (vw2, .inl (κ 5, 3, .inr (.inr (.inr (.inr fv2))))), (d2, .inl (κ 0, 6, .inl dl2))] ++ im) := hD
      have htv_12 : Tv κ im (va_up gvw_17 k2_17 none) (va_up gsh_17 k2_17 none) (k2_17 + 1) := Tv_put hq17_0 (by have q9 := htb2 k2_17 (by omega); rw [e_2, e_3] at q9; exact q9)
      refine lv_iinc (v := (nI (k2_17 + 1))) (lv' := [(2, .int (nI (k2_17 + 1))), (0, .ref st), (1, .ref st2)]) hx hb dX6_copyFrom_46 hl (k := 0) rfl (nI_i k2_17) (by decide) rfl (fun ls hl => ?_)
      refine lv_goto (tgt := 17) hx hb dX6_copyFrom_49 (by decide) ?_
      exact ih17 _ _ _ _ (by omega) ⟨(k2_17 + 1), (va_up gsh_17 k2_17 none), (va_up gvw_17 k2_17 none), (by omega), htv_12, rfl, hP, hD, hS, lv_sub hl [0, 1, 2] rfl⟩
    · have hle_a_4 := h_9.le
      refine lv_aload_n hx hb dX6_copyFrom_22 rfl (lv_at hl 1 rfl) ?_
      refine va_get (D := D) (ci := 6) (v := .ref sh) (C := RX6) (T := TX6) (N := 6) hx hb hts inlX6 hown hK hP 0 rfl rfl 1 (by decide) (hts _ mw_42) (fun _ h9 => h9) rfl dX6_copyFrom_23 ?_
      refine lv_iload_n hx hb dX6_copyFrom_26 rfl (lv_at hl 0 rfl) ?_
      refine lv_aload_n hx hb dX6_copyFrom_27 rfl (lv_at hl 2 rfl) ?_
      refine va_get (D := D) (ci := 6) (v := .ref sh2) (C := RX6) (T := TX6) (N := 6) hx hb hts inlX6 hown hK hP 4 rfl rfl 1 (by decide) (hts _ mw_42) (fun _ h9 => h9) rfl dX6_copyFrom_28 ?_
      refine lv_iload_n hx hb dX6_copyFrom_31 rfl (lv_at hl 0 rfl) ?_
      refine va_aldq hx hb hK hP 5 4 rfl rfl (i := nI k2_17) (vp_in_nI (n := k2_17) (by omega) (by omega)) dX6_copyFrom_32 ?_
      refine kv (v := .ref a_4) (by rw [nI_clamp (by omega)]; rw [e_2]; rfl) ?_
      obtain ⟨hb_13, c_14, x_15, v_16, g_17, h_18, hm_19, hm_20, hm_21, lo_22, lc_23, vw_24⟩ := id h_9
      obtain ⟨hb_13_1, hb_13_2, hb_13_3⟩ := hb_13
      have hrw_hb_13 := rw_le hb_13_1 hb_13_3
      obtain ⟨k_25, ek_25⟩ := tl_at [(st, .inr (6, [.ref d, .ref sh, .ref vw, .ref ta, .ref sa, .int (nI n)])), (d, .inl (κ 0, 6, .inl (va_cpy dl2 dl 0 0 6))), (sh, .inl (κ 4, 3, .inr (.inr (.inr (.inr gsh_17))))), (vw, .inl (κ 5, 3, .inr (.inr (.inr (.inr gvw_17))))), (st2, .inr (6, [.ref d2, .ref sh2, .ref vw2, .ref ta2, .ref sa2, .int (nI n2)])), (sh2, .inl (κ 4, 3, .inr (.inr (.inr (.inr fs2))))), (vw2, .inl (κ 5, 3, .inr (.inr (.inr (.inr fv2))))), (d2, .inl (κ 0, 6, .inl dl2))] hm_19
      refine va_astq hx hb hK hP hD hS 2 4 k_25 5 rfl rfl ek_25 rfl (i := nI k2_17) (vp_in_nI (n := k2_17) (by omega) (by omega)) dX6_copyFrom_33 (fun H locs hP hD hS => ?_)
      rw [nI_clamp (by omega)] at hP hD
      have hP : va_P D vwCl ([(st, .inr (6, [.ref d, .ref sh, .ref vw, .ref ta, .ref sa, .int (nI n)])), (d, .inl (κ 0, 6, .inl (va_cpy dl2 dl 0 0 6))), (sh, .inl (κ 4, 3, .inr (.inr (.inr (.inr (va_up gsh_17 k2_17 (some a_4))))))), (vw, .inl (κ 5, 3, .inr (.inr (.inr (.inr gvw_17))))), (st2, .inr (6, [.ref d2, .ref sh2, .ref vw2, .ref ta2, .ref sa2, .int (nI n2)])), (sh2, .inl (κ 4, 3, .inr (.inr (.inr (.inr fs2))))), (vw2, .inl (κ 5, 3, .inr (.inr (.inr (.inr fv2))))), (d2, .inl (κ 0, 6, .inl dl2))] ++ im) H := hP
      have hD : va_D A ([(st, .inr (6, [.ref d, .ref sh, .ref vw, .ref ta, .ref sa, .int (nI n)])), (d, .inl (κ 0, 6, .inl (va_cpy dl2 dl 0 0 6))), (sh, .inl (κ 4, 3, .inr (.inr (.inr (.inr (va_up gsh_17 k2_17 (some a_4))))))), (vw, .inl (κ 5, 3, .inr (.inr (.inr (.inr gvw_17))))), (st2, .inr (6, [.ref d2, .ref sh2, .ref vw2, .ref ta2, .ref sa2, .int (nI n2)])), (sh2, .inl (κ 4, 3, .inr (.inr (.inr (.inr fs2))))), (vw2, .inl (κ 5, 3, .inr (.inr (.inr (.inr fv2))))), (d2, .inl (κ 0, 6, .inl dl2))] ++ im) := hD
      refine lv_aload_n hx hb dX6_copyFrom_34 rfl (lv_at hl 1 rfl) ?_
      refine va_get (D := D) (ci := 6) (v := .ref vw) (C := RX6) (T := TX6) (N := 6) hx hb hts inlX6 hown hK hP 0 rfl rfl 2 (by decide) (hts _ mw_44) (fun _ h9 => h9) rfl dX6_copyFrom_35 ?_
      refine lv_iload_n hx hb dX6_copyFrom_38 rfl (lv_at hl 0 rfl) ?_
      refine lv_aload_n hx hb dX6_copyFrom_39 rfl (lv_at hl 2 rfl) ?_
      refine va_get (D := D) (ci := 6) (v := .ref vw2) (C := RX6) (T := TX6) (N := 6) hx hb hts inlX6 hown hK hP 4 rfl rfl 2 (by decide) (hts _ mw_44) (fun _ h9 => h9) rfl dX6_copyFrom_40 ?_
      refine lv_iload_n hx hb dX6_copyFrom_43 rfl (lv_at hl 0 rfl) ?_
      refine va_aldq hx hb hK hP 6 5 rfl rfl (i := nI k2_17) (vp_in_nI (n := k2_17) (by omega) (by omega)) dX6_copyFrom_44 ?_
      refine kv (v := .ref v_8) (by rw [nI_clamp (by omega)]; rw [e_3]; rfl) ?_
      obtain ⟨r_26, n_27, u_28, hm_29, ix_30⟩ := Vw_cell h_10
      obtain ⟨k_31, ek_31⟩ := tl_at [(st, .inr (6, [.ref d, .ref sh, .ref vw, .ref ta, .ref sa, .int (nI n)])), (d, .inl (κ 0, 6, .inl (va_cpy dl2 dl 0 0 6))), (sh, .inl (κ 4, 3, .inr (.inr (.inr (.inr (va_up gsh_17 k2_17 (some a_4))))))), (vw, .inl (κ 5, 3, .inr (.inr (.inr (.inr gvw_17))))), (st2, .inr (6, [.ref d2, .ref sh2, .ref vw2, .ref ta2, .ref sa2, .int (nI n2)])), (sh2, .inl (κ 4, 3, .inr (.inr (.inr (.inr fs2))))), (vw2, .inl (κ 5, 3, .inr (.inr (.inr (.inr fv2))))), (d2, .inl (κ 0, 6, .inl dl2))] hm_29
      refine va_astq hx hb hK hP hD hS 3 5 k_31 9 rfl rfl ek_31 rfl (i := nI k2_17) (vp_in_nI (n := k2_17) (by omega) (by omega)) dX6_copyFrom_45 (fun H locs hP hD hS => ?_)
      rw [nI_clamp (by omega)] at hP hD
      have hP : va_P D vwCl ([(st, .inr (6, [.ref d, .ref sh, .ref vw, .ref ta, .ref sa, .int (nI n)])), (d, .inl (κ 0, 6, .inl (va_cpy dl2 dl 0 0 6))), (sh, .inl (κ 4, 3, .inr (.inr (.inr (.inr (va_up gsh_17 k2_17 (some a_4))))))), (vw, .inl (κ 5, 3, .inr (.inr (.inr (.inr (va_up gvw_17 k2_17 (some v_8))))))), (st2, .inr (6, [.ref d2, .ref sh2, .ref vw2, .ref ta2, .ref sa2, .int (nI n2)])), (sh2, .inl (κ 4, 3, .inr (.inr (.inr (.inr fs2))))), (vw2, .inl (κ 5, 3, .inr (.inr (.inr (.inr fv2))))), (d2, .inl (κ 0, 6, .inl dl2))] ++ im) H := hP
      have hD : va_D A ([(st, .inr (6, [.ref d, .ref sh, .ref vw, .ref ta, .ref sa, .int (nI n)])), (d, .inl (κ 0, 6, .inl (va_cpy dl2 dl 0 0 6))), (sh, .inl (κ 4, 3, .inr (.inr (.inr (.inr (va_up gsh_17 k2_17 (some a_4))))))), (vw, .inl (κ 5, 3, .inr (.inr (.inr (.inr (va_up gvw_17 k2_17 (some v_8))))))), (st2, .inr (6, [.ref d2, .ref sh2, .ref vw2, .ref ta2, .ref sa2, .int (nI n2)])), (sh2, .inl (κ 4, 3, .inr (.inr (.inr (.inr fs2))))), (vw2, .inl (κ 5, 3, .inr (.inr (.inr (.inr fv2))))), (d2, .inl (κ 0, 6, .inl dl2))] ++ im) := hD
      have htv_32 : Tv κ im (va_up gvw_17 k2_17 (some v_8)) (va_up gsh_17 k2_17 (some a_4)) (k2_17 + 1) := Tv_put hq17_0 (by have q9 := htb2 k2_17 (by omega); rw [e_2, e_3] at q9; exact q9)
      refine lv_iinc (v := (nI (k2_17 + 1))) (lv' := [(2, .int (nI (k2_17 + 1))), (0, .ref st), (1, .ref st2)]) hx hb dX6_copyFrom_46 hl (k := 0) rfl (nI_i k2_17) (by decide) rfl (fun ls hl => ?_)
      refine lv_goto (tgt := 17) hx hb dX6_copyFrom_49 (by decide) ?_
      exact ih17 _ _ _ _ (by omega) ⟨(k2_17 + 1), (va_up gsh_17 k2_17 (some a_4)), (va_up gvw_17 k2_17 (some v_8)), (by omega), htv_32, rfl, hP, hD, hS, lv_sub hl [0, 1, 2] rfl⟩
set_option maxHeartbeats 4000000 in
set_option maxRecDepth 100000 in
theorem c_X6_tablesThere (l : Launch) (D : va_G) (κ : Nat → ClassId) (κq : Nat → Nat) (im : va_W) (st : Nat) (d : Nat) (sh : Nat) (vw : Nat) (ta : Nat) (sa : Nat) (n : Nat) (fs : Nat → Option Nat) (hss3 : Ss κ im fs 3) : Er l yX6_tablesThere (wl yX6_tablesThere cX6_tablesThere 3 (some .int)) { frames := 0, cells := 0, slots := 0, locals := 0 } D κ κq [.ref st] ([(st, .inr (6, [.ref d, .ref sh, .ref vw, .ref ta, .ref sa, .int (nI n)])), (sh, .inl (κ 4, 3, .inr (.inr (.inr (.inr fs)))))] ++ im) (fun r : Int32 => some (.int r)) (fun r : Int32 => True) := by
  refine er_of (by decide +kernel) (Nat.le_of_ble_eq_true rfl) ?_
  intro p e s m args below meth c A ls hx hb hr hml hts hown hlk hKK hK hP hE hl
  have hS : va_S A s.heap s.heap [] := va_S.rf
  have hP : va_P D vwCl ([(st, .inr (6, [.ref d, .ref sh, .ref vw, .ref ta, .ref sa, .int (nI n)])), (sh, .inl (κ 4, 3, .inr (.inr (.inr (.inr fs)))))] ++ im) s.heap := hP
  have hFX : FX p s m args c cX6_tablesThere 3 RX6 := ⟨hx, hb, hml, hown, hts⟩
  have hl : lv_has ls 3 [(0, .ref st)] := hl
  refine lv_iconst (v := 0) hx hb dX6_tablesThere_0 (by decide) ?_
  refine lv_istore_n (lv' := [(1, .int 0), (0, .ref st)]) hx hb dX6_tablesThere_1 rfl hl (by decide) rfl (fun ls hl => ?_)
  refine lv_iconst (v := 0) hx hb dX6_tablesThere_2 (by decide) ?_
  refine lv_istore_n (lv' := [(2, .int 0), (1, .int 0), (0, .ref st)]) hx hb dX6_tablesThere_3 rfl hl (by decide) rfl (fun ls hl => ?_)
  refine loop_r (fun k9 ls => ∃ (k2_4 : Nat), ∃ (k1_4 : Int32), (k2_4 ≤ 3) ∧ 3 - k2_4 = k9 ∧ lv_has ls 3 [(2, .int (nI k2_4)), (1, .int k1_4), (0, .ref st)]) (fun k9 ls hI4 ih4 => ?_) (3 - 0) _ ⟨0, 0, (by omega), rfl, lv_sub hl [0, 1, 2] rfl⟩
  obtain ⟨k2_4, k1_4, hl4_0, hm4, hl⟩ := hI4
  refine lv_iload_n hx hb dX6_tablesThere_4 rfl (lv_at hl 0 rfl) ?_
  refine lv_iconst (v := 3) hx hb dX6_tablesThere_5 (by decide) ?_
  refine lv_icmp_ge (tgt := 34) hx hb dX6_tablesThere_6 (by decide) (fun c_1 => ?_) (fun c_1 => ?_)
  · have nc_1 := cv_le (a := 3) (b := k2_4) (by omega) (by omega) c_1
    refine lv_iload_n hx hb dX6_tablesThere_34 rfl (lv_at hl 1 rfl) ?_
    exact cr_iret hx hb hr hlk rfl k1_4 rfl trivial dX6_tablesThere_35
  · have nc_1 := cv_nle (a := 3) (b := k2_4) (by omega) (by omega) c_1
    refine lv_iload_n hx hb dX6_tablesThere_9 rfl (lv_at hl 1 rfl) ?_
    refine lv_aload_n hx hb dX6_tablesThere_10 rfl (lv_at hl 2 rfl) ?_
    refine va_get (D := D) (ci := 6) (v := .ref sh) (C := RX6) (T := TX6) (N := 6) hx hb hts inlX6 hown hK hP 0 rfl rfl 1 (by decide) (hts _ mw_42) (fun _ h9 => h9) rfl dX6_tablesThere_11 ?_
    refine lv_iload_n hx hb dX6_tablesThere_14 rfl (lv_at hl 0 rfl) ?_
    refine va_aldq hx hb hK hP 1 4 rfl rfl (i := nI k2_4) (vp_in_nI (n := k2_4) (by omega) (by omega)) dX6_tablesThere_15 ?_
    rcases hss3 k2_4 (by omega) with e_2 | ⟨a_3, R_4, w_5, e_2, h_6⟩
    · refine kv (v := .null) (by rw [nI_clamp (by omega)]; rw [e_2]; rfl) ?_
      refine lv_ifnonnullN hx hb dX6_tablesThere_16 ?_
      refine lv_iconst (v := 0) hx hb dX6_tablesThere_19 (by decide) ?_
      refine lv_goto (tgt := 26) hx hb dX6_tablesThere_20 (by decide) ?_
      refine lv_ior hx hb dX6_tablesThere_26 ?_
      refine lv_topi (fun x_7 ex_7 => ?_)
      refine lv_istore_n (lv' := [(1, .int x_7), (2, .int (nI k2_4)), (0, .ref st)]) hx hb dX6_tablesThere_27 rfl hl (by decide) rfl (fun ls hl => ?_)
      refine lv_iinc (v := (nI (k2_4 + 1))) (lv' := [(2, .int (nI (k2_4 + 1))), (1, .int x_7), (0, .ref st)]) hx hb dX6_tablesThere_28 hl (k := 1) rfl (nI_i k2_4) (by decide) rfl (fun ls hl => ?_)
      refine lv_goto (tgt := 4) hx hb dX6_tablesThere_31 (by decide) ?_
      exact ih4 _ _ (by omega) ⟨(k2_4 + 1), x_7, (by omega), rfl, lv_sub hl [0, 1, 2] rfl⟩
    · refine kv (v := .ref a_3) (by rw [nI_clamp (by omega)]; rw [e_2]; rfl) ?_
      refine lv_ifnonnull (tgt := 23) hx hb dX6_tablesThere_16 (by decide) ?_
      refine lv_iconst (v := 1) hx hb dX6_tablesThere_23 (by decide) ?_
      refine lv_iload_n hx hb dX6_tablesThere_24 rfl (lv_at hl 0 rfl) ?_
      refine lv_ishl hx hb dX6_tablesThere_25 ?_
      refine lv_topi (fun x_8 ex_8 => ?_)
      refine lv_ior hx hb dX6_tablesThere_26 ?_
      refine lv_topi (fun x_9 ex_9 => ?_)
      refine lv_istore_n (lv' := [(1, .int x_9), (2, .int (nI k2_4)), (0, .ref st)]) hx hb dX6_tablesThere_27 rfl hl (by decide) rfl (fun ls hl => ?_)
      refine lv_iinc (v := (nI (k2_4 + 1))) (lv' := [(2, .int (nI (k2_4 + 1))), (1, .int x_9), (0, .ref st)]) hx hb dX6_tablesThere_28 hl (k := 1) rfl (nI_i k2_4) (by decide) rfl (fun ls hl => ?_)
      refine lv_goto (tgt := 4) hx hb dX6_tablesThere_31 (by decide) ?_
      exact ih4 _ _ (by omega) ⟨(k2_4 + 1), x_9, (by omega), rfl, lv_sub hl [0, 1, 2] rfl⟩
set_option maxHeartbeats 4000000 in
set_option maxRecDepth 100000 in
theorem c_X6_countCells (l : Launch) (D : va_G) (κ : Nat → ClassId) (κq : Nat → Nat) (im : va_W) (st : Nat) (d : Nat) (sh : Nat) (vw : Nat) (ta : Nat) (sa : Nat) (n : Nat) (fs : Nat → Option Nat) (hss3 : Ss κ im fs 3) : Er l yX6_countCells (wl yX6_countCells cX6_countCells 4 (some .int)) { frames := 0, cells := 0, slots := 0, locals := 0 } D κ κq [.ref st] ([(st, .inr (6, [.ref d, .ref sh, .ref vw, .ref ta, .ref sa, .int (nI n)])), (sh, .inl (κ 4, 3, .inr (.inr (.inr (.inr fs)))))] ++ im) (fun r : Int32 => some (.int r)) (fun r : Int32 => True) := by
  refine er_of (by decide +kernel) (Nat.le_of_ble_eq_true rfl) ?_
  intro p e s m args below meth c A ls hx hb hr hml hts hown hlk hKK hK hP hE hl
  have hS : va_S A s.heap s.heap [] := va_S.rf
  have hP : va_P D vwCl ([(st, .inr (6, [.ref d, .ref sh, .ref vw, .ref ta, .ref sa, .int (nI n)])), (sh, .inl (κ 4, 3, .inr (.inr (.inr (.inr fs)))))] ++ im) s.heap := hP
  have hFX : FX p s m args c cX6_countCells 4 RX6 := ⟨hx, hb, hml, hown, hts⟩
  have hl : lv_has ls 4 [(0, .ref st)] := hl
  refine lv_iconst (v := 0) hx hb dX6_countCells_0 (by decide) ?_
  refine lv_istore_n (lv' := [(1, .int 0), (0, .ref st)]) hx hb dX6_countCells_1 rfl hl (by decide) rfl (fun ls hl => ?_)
  refine lv_iconst (v := 0) hx hb dX6_countCells_2 (by decide) ?_
  refine lv_istore_n (lv' := [(2, .int 0), (1, .int 0), (0, .ref st)]) hx hb dX6_countCells_3 rfl hl (by decide) rfl (fun ls hl => ?_)
  refine loop_r (fun k9 ls => ∃ (k2_4 : Nat), ∃ (k1_4 : Int32), (k2_4 ≤ 3) ∧ 3 - k2_4 = k9 ∧ lv_has ls 4 [(2, .int (nI k2_4)), (1, .int k1_4), (0, .ref st)]) (fun k9 ls hI4 ih4 => ?_) (3 - 0) _ ⟨0, 0, (by omega), rfl, lv_sub hl [0, 1, 2] rfl⟩
  obtain ⟨k2_4, k1_4, hl4_0, hm4, hl⟩ := hI4
  refine lv_iload_n hx hb dX6_countCells_4 rfl (lv_at hl 0 rfl) ?_
  refine lv_iconst (v := 3) hx hb dX6_countCells_5 (by decide) ?_
  refine lv_icmp_ge (tgt := 38) hx hb dX6_countCells_6 (by decide) (fun c_1 => ?_) (fun c_1 => ?_)
  · have nc_1 := cv_le (a := 3) (b := k2_4) (by omega) (by omega) c_1
    refine lv_iload_n hx hb dX6_countCells_38 rfl (lv_at hl 1 rfl) ?_
    exact cr_iret hx hb hr hlk rfl k1_4 rfl trivial dX6_countCells_39
  · have nc_1 := cv_nle (a := 3) (b := k2_4) (by omega) (by omega) c_1
    refine lv_aload_n hx hb dX6_countCells_9 rfl (lv_at hl 2 rfl) ?_
    refine va_get (D := D) (ci := 6) (v := .ref sh) (C := RX6) (T := TX6) (N := 6) hx hb hts inlX6 hown hK hP 0 rfl rfl 1 (by decide) (hts _ mw_42) (fun _ h9 => h9) rfl dX6_countCells_10 ?_
    refine lv_iload_n hx hb dX6_countCells_13 rfl (lv_at hl 0 rfl) ?_
    refine va_aldq hx hb hK hP 1 4 rfl rfl (i := nI k2_4) (vp_in_nI (n := k2_4) (by omega) (by omega)) dX6_countCells_14 ?_
    rcases hss3 k2_4 (by omega) with e_2 | ⟨a_3, R_4, w_5, e_2, h_6⟩
    · refine kv (v := .null) (by rw [nI_clamp (by omega)]; rw [e_2]; rfl) ?_
      refine lv_astore_nN (lv' := [(3, .null), (2, .int (nI k2_4)), (1, .int k1_4), (0, .ref st)]) hx hb dX6_countCells_15 rfl hl (by decide) rfl (fun ls hl => ?_)
      refine lv_iload_n hx hb dX6_countCells_16 rfl (lv_at hl 2 rfl) ?_
      refine lv_aload_nN hx hb dX6_countCells_17 rfl (lv_at hl 0 rfl) ?_
      refine lv_ifnonnullN hx hb dX6_countCells_18 ?_
      refine lv_iconst (v := 0) hx hb dX6_countCells_21 (by decide) ?_
      refine lv_goto (tgt := 30) hx hb dX6_countCells_22 (by decide) ?_
      refine lv_iadd hx hb dX6_countCells_30 ?_
      refine lv_topi (fun x_7 ex_7 => ?_)
      refine lv_istore_n (lv' := [(1, .int x_7), (3, .null), (2, .int (nI k2_4)), (0, .ref st)]) hx hb dX6_countCells_31 rfl hl (by decide) rfl (fun ls hl => ?_)
      refine lv_iinc (v := (nI (k2_4 + 1))) (lv' := [(2, .int (nI (k2_4 + 1))), (1, .int x_7), (3, .null), (0, .ref st)]) hx hb dX6_countCells_32 hl (k := 2) rfl (nI_i k2_4) (by decide) rfl (fun ls hl => ?_)
      refine lv_goto (tgt := 4) hx hb dX6_countCells_35 (by decide) ?_
      exact ih4 _ _ (by omega) ⟨(k2_4 + 1), x_7, (by omega), rfl, lv_sub hl [0, 1, 3] rfl⟩
    · refine kv (v := .ref a_3) (by rw [nI_clamp (by omega)]; rw [e_2]; rfl) ?_
      refine lv_astore_n (lv' := [(3, .ref a_3), (2, .int (nI k2_4)), (1, .int k1_4), (0, .ref st)]) hx hb dX6_countCells_15 rfl hl (by decide) rfl (fun ls hl => ?_)
      refine lv_iload_n hx hb dX6_countCells_16 rfl (lv_at hl 2 rfl) ?_
      refine lv_aload_n hx hb dX6_countCells_17 rfl (lv_at hl 0 rfl) ?_
      refine lv_ifnonnull (tgt := 25) hx hb dX6_countCells_18 (by decide) ?_
      refine lv_aload_n hx hb dX6_countCells_25 rfl (lv_at hl 0 rfl) ?_
      obtain ⟨hb_8, c_9, x_10, v_11, g_12, h_13, hm_14, hm_15, hm_16, lo_17, lc_18, vw_19⟩ := id h_6
      obtain ⟨hb_8_1, hb_8_2, hb_8_3⟩ := hb_8
      have hrw_hb_8 := rw_le hb_8_1 hb_8_3
      refine va_get (D := D) (ci := 5) (v := .ref x_10) (C := RX5) (T := TX5) (N := 4) hx hb hts inlX5 hown hK (oneP (C := [(st, .inr (6, [.ref d, .ref sh, .ref vw, .ref ta, .ref sa, .int (nI n)])), (sh, .inl (κ 4, 3, .inr (.inr (.inr (.inr fs)))))]) hP hm_14) 0 rfl rfl 1 (by decide) (hts _ mw_1497) (fun _ h9 => h9) rfl dX6_countCells_26 ?_
      refine va_alen hx hb hK (oneP (C := [(st, .inr (6, [.ref d, .ref sh, .ref vw, .ref ta, .ref sa, .int (nI n)])), (sh, .inl (κ 4, 3, .inr (.inr (.inr (.inr fs)))))]) hP hm_16) 0 2 rfl rfl (v := nI (R_4 * w_5)) rfl dX6_countCells_29 ?_
      refine lv_iadd hx hb dX6_countCells_30 ?_
      refine lv_topi (fun x_20 ex_20 => ?_)
      refine lv_istore_n (lv' := [(1, .int x_20), (3, .ref a_3), (2, .int (nI k2_4)), (0, .ref st)]) hx hb dX6_countCells_31 rfl hl (by decide) rfl (fun ls hl => ?_)
      refine lv_iinc (v := (nI (k2_4 + 1))) (lv' := [(2, .int (nI (k2_4 + 1))), (1, .int x_20), (3, .ref a_3), (0, .ref st)]) hx hb dX6_countCells_32 hl (k := 2) rfl (nI_i k2_4) (by decide) rfl (fun ls hl => ?_)
      refine lv_goto (tgt := 4) hx hb dX6_countCells_35 (by decide) ?_
      exact ih4 _ _ (by omega) ⟨(k2_4 + 1), x_20, (by omega), rfl, lv_sub hl [0, 1, 3] rfl⟩
set_option maxHeartbeats 4000000 in
set_option maxRecDepth 100000 in
theorem c_X6_init (l : Launch) (D : va_G) (κ : Nat → ClassId) (κq : Nat → Nat) (st : Nat) : Et l yX6_init (wl yX6_init cX6_init 1 none) { frames := 1, cells := 5, slots := 24, locals := 12 } D κ κq [.ref st] [(st, .inr (6, [.null, .null, .null, .null, .null, .int 0]))] (fun u9 : Nat × Nat × Nat × Nat × Nat × (Nat → Int32) => none) (fun u9 : Nat × Nat × Nat × Nat × Nat × (Nat → Int32) => True) (fun u9 : Nat × Nat × Nat × Nat × Nat × (Nat → Int32) => [(st, .inr (6, [.ref u9.1, .ref u9.2.1, .ref u9.2.2.1, .ref u9.2.2.2.1, .ref u9.2.2.2.2.1, .int 0])), (u9.1, .inl (κ 0, 6, .inl u9.2.2.2.2.2)), (u9.2.1, .inl (κ 4, 3, .inr (.inr (.inr (.inr (fun _ => none)))))), (u9.2.2.1, .inl (κ 5, 3, .inr (.inr (.inr (.inr (fun _ => none)))))), (u9.2.2.2.1, .inl (κ 0, 6, .inl (fun _ => 0))), (u9.2.2.2.2.1, .inl (κ 4, 6, .inr (.inr (.inr (.inr (fun _ => none))))))]) := by
  refine et_of (by decide +kernel) (Nat.le_of_ble_eq_true rfl) ?_
  intro p e s m args below meth c A ls hx hb hr hml hts hown hlk hin hKK hK hA hP hD hS hE hl
  have hS : va_S A s.heap s.heap [] := hS
  have hP : va_P D vwCl ([(st, .inr (6, [.null, .null, .null, .null, .null, .int 0]))] ++ []) s.heap := hP
  have hD : va_D A ([(st, .inr (6, [.null, .null, .null, .null, .null, .int 0]))] ++ []) := hD
  have hFX : FX p s m args c cX6_init 1 RX6 := ⟨hx, hb, hml, hown, hts⟩
  have hl : lv_has ls 1 [(0, .ref st)] := hl
  refine lv_aload_n hx hb dX6_init_0 rfl (lv_at hl 0 rfl) ?_
  refine W.objInit hx hb hown (hts _ mw_38) (hts _ mw_10) (hts _ mw_11) rfl (by rw [hml]; exact hl.1) rfl dX6_init_1 (Nat.le_of_ble_eq_true rfl) (Nat.le_of_ble_eq_true rfl) ?_
  refine W.eq (g2 := F0 m 4 ls []) rfl ?_
  refine lv_aload_n hx hb dX6_init_4 rfl (lv_at hl 0 rfl) ?_
  refine lv_bipush (v := 6) hx hb dX6_init_5 (by decide) ?_
  refine my_newa (atype := .int) hx hb (hts _ mw_39) rfl hK hP hD hS hA 0 rfl (N' := 6) (a0 := (6, .inl (fun _ => 0))) (fun _ => rfl) (by decide) (by decide) (Nat.le_of_ble_eq_true rfl) (Nat.le_of_ble_eq_true rfl) (Nat.le_of_ble_eq_true rfl) dX6_init_7 (fun q_1 H hP hD hS => ?_)
  replace hP : va_P D vwCl ([(st, .inr (6, [.null, .null, .null, .null, .null, .int 0])), (q_1, .inl (κ 0, 6, .inl (fun _ => 0)))] ++ []) H := mvP hP
  replace hD : va_D A ([(st, .inr (6, [.null, .null, .null, .null, .null, .int 0])), (q_1, .inl (κ 0, 6, .inl (fun _ => 0)))] ++ []) := mvD hD
  refine va_putF (D := D) (ci := 6) (v := .ref q_1) (ty := tyX6 0) (C := RX6) (T := TX6) (N := 6) hx hb hts inlX6 tyX6 tyX6_ok nmX6 hown hK hP hD hS 0 rfl rfl 0 (by decide) (hts _ mw_40) (fun _ h9 => h9) rfl hin rfl (tyX6_ok 0 (by decide)) rfl rfl (Nat.le_of_ble_eq_true rfl) dX6_init_9 (fun H locs hP hD hS => ?_)
  have hP : va_P D vwCl ([(st, .inr (6, [.ref q_1, .null, .null, .null, .null, .int 0])), (q_1, .inl (κ 0, 6, .inl (fun _ => 0)))] ++ []) H := hP
  have hD : va_D A ([(st, .inr (6, [.ref q_1, .null, .null, .null, .null, .int 0])), (q_1, .inl (κ 0, 6, .inl (fun _ => 0)))] ++ []) := hD
  refine lv_aload_n hx hb dX6_init_12 rfl (lv_at hl 0 rfl) ?_
  refine lv_iconst (v := 3) hx hb dX6_init_13 (by decide) ?_
  refine my_newq hx hb hown (hts _ mw_41) hKK.2.2.2.1 hK hP hD hS hA 4 rfl (N' := 3) (by decide) (by decide) (Nat.le_of_ble_eq_true rfl) (Nat.le_of_ble_eq_true rfl) (Nat.le_of_ble_eq_true rfl) dX6_init_14 (fun q_2 H hP hD hS => ?_)
  replace hP : va_P D vwCl ([(st, .inr (6, [.ref q_1, .null, .null, .null, .null, .int 0])), (q_1, .inl (κ 0, 6, .inl (fun _ => 0))), (q_2, .inl (κ 4, 3, .inr (.inr (.inr (.inr (fun _ => none))))))] ++ []) H := mvP hP
  replace hD : va_D A ([(st, .inr (6, [.ref q_1, .null, .null, .null, .null, .int 0])), (q_1, .inl (κ 0, 6, .inl (fun _ => 0))), (q_2, .inl (κ 4, 3, .inr (.inr (.inr (.inr (fun _ => none))))))] ++ []) := mvD hD
  refine va_putF (D := D) (ci := 6) (v := .ref q_2) (ty := tyX6 1) (C := RX6) (T := TX6) (N := 6) hx hb hts inlX6 tyX6 tyX6_ok nmX6 hown hK hP hD hS 0 rfl rfl 1 (by decide) (hts _ mw_42) (fun _ h9 => h9) rfl hin rfl (tyX6_ok 1 (by decide)) rfl rfl (Nat.le_of_ble_eq_true rfl) dX6_init_17 (fun H locs hP hD hS => ?_)
  have hP : va_P D vwCl ([(st, .inr (6, [.ref q_1, .ref q_2, .null, .null, .null, .int 0])), (q_1, .inl (κ 0, 6, .inl (fun _ => 0))), (q_2, .inl (κ 4, 3, .inr (.inr (.inr (.inr (fun _ => none))))))] ++ []) H := hP
  have hD : va_D A ([(st, .inr (6, [.ref q_1, .ref q_2, .null, .null, .null, .int 0])), (q_1, .inl (κ 0, 6, .inl (fun _ => 0))), (q_2, .inl (κ 4, 3, .inr (.inr (.inr (.inr (fun _ => none))))))] ++ []) := hD
  refine lv_aload_n hx hb dX6_init_20 rfl (lv_at hl 0 rfl) ?_
  refine lv_iconst (v := 3) hx hb dX6_init_21 (by decide) ?_
  refine my_newq hx hb hown (hts _ mw_43) hKK.2.2.2.2.1 hK hP hD hS hA 5 rfl (N' := 3) (by decide) (by decide) (Nat.le_of_ble_eq_true rfl) (Nat.le_of_ble_eq_true rfl) (Nat.le_of_ble_eq_true rfl) dX6_init_22 (fun q_3 H hP hD hS => ?_)
  replace hP : va_P D vwCl ([(st, .inr (6, [.ref q_1, .ref q_2, .null, .null, .null, .int 0])), (q_1, .inl (κ 0, 6, .inl (fun _ => 0))), (q_2, .inl (κ 4, 3, .inr (.inr (.inr (.inr (fun _ => none)))))), (q_3, .inl (κ 5, 3, .inr (.inr (.inr (.inr (fun _ => none))))))] ++ []) H := mvP hP
  replace hD : va_D A ([(st, .inr (6, [.ref q_1, .ref q_2, .null, .null, .null, .int 0])), (q_1, .inl (κ 0, 6, .inl (fun _ => 0))), (q_2, .inl (κ 4, 3, .inr (.inr (.inr (.inr (fun _ => none)))))), (q_3, .inl (κ 5, 3, .inr (.inr (.inr (.inr (fun _ => none))))))] ++ []) := mvD hD
  refine va_putF (D := D) (ci := 6) (v := .ref q_3) (ty := tyX6 2) (C := RX6) (T := TX6) (N := 6) hx hb hts inlX6 tyX6 tyX6_ok nmX6 hown hK hP hD hS 0 rfl rfl 2 (by decide) (hts _ mw_44) (fun _ h9 => h9) rfl hin rfl (tyX6_ok 2 (by decide)) rfl rfl (Nat.le_of_ble_eq_true rfl) dX6_init_25 (fun H locs hP hD hS => ?_)
  have hP : va_P D vwCl ([(st, .inr (6, [.ref q_1, .ref q_2, .ref q_3, .null, .null, .int 0])), (q_1, .inl (κ 0, 6, .inl (fun _ => 0))), (q_2, .inl (κ 4, 3, .inr (.inr (.inr (.inr (fun _ => none)))))), (q_3, .inl (κ 5, 3, .inr (.inr (.inr (.inr (fun _ => none))))))] ++ []) H := hP
  have hD : va_D A ([(st, .inr (6, [.ref q_1, .ref q_2, .ref q_3, .null, .null, .int 0])), (q_1, .inl (κ 0, 6, .inl (fun _ => 0))), (q_2, .inl (κ 4, 3, .inr (.inr (.inr (.inr (fun _ => none)))))), (q_3, .inl (κ 5, 3, .inr (.inr (.inr (.inr (fun _ => none))))))] ++ []) := hD
  refine lv_aload_n hx hb dX6_init_28 rfl (lv_at hl 0 rfl) ?_
  refine lv_bipush (v := 6) hx hb dX6_init_29 (by decide) ?_
  refine my_newa (atype := .int) hx hb (hts _ mw_39) rfl hK hP hD hS hA 0 rfl (N' := 6) (a0 := (6, .inl (fun _ => 0))) (fun _ => rfl) (by decide) (by decide) (Nat.le_of_ble_eq_true rfl) (Nat.le_of_ble_eq_true rfl) (Nat.le_of_ble_eq_true rfl) dX6_init_31 (fun q_4 H hP hD hS => ?_)
  replace hP : va_P D vwCl ([(st, .inr (6, [.ref q_1, .ref q_2, .ref q_3, .null, .null, .int 0])), (q_1, .inl (κ 0, 6, .inl (fun _ => 0))), (q_2, .inl (κ 4, 3, .inr (.inr (.inr (.inr (fun _ => none)))))), (q_3, .inl (κ 5, 3, .inr (.inr (.inr (.inr (fun _ => none)))))), (q_4, .inl (κ 0, 6, .inl (fun _ => 0)))] ++ []) H := mvP hP
  replace hD : va_D A ([(st, .inr (6, [.ref q_1, .ref q_2, .ref q_3, .null, .null, .int 0])), (q_1, .inl (κ 0, 6, .inl (fun _ => 0))), (q_2, .inl (κ 4, 3, .inr (.inr (.inr (.inr (fun _ => none)))))), (q_3, .inl (κ 5, 3, .inr (.inr (.inr (.inr (fun _ => none)))))), (q_4, .inl (κ 0, 6, .inl (fun _ => 0)))] ++ []) := mvD hD
  refine va_putF (D := D) (ci := 6) (v := .ref q_4) (ty := tyX6 3) (C := RX6) (T := TX6) (N := 6) hx hb hts inlX6 tyX6 tyX6_ok nmX6 hown hK hP hD hS 0 rfl rfl 3 (by decide) (hts _ mw_45) (fun _ h9 => h9) rfl hin rfl (tyX6_ok 3 (by decide)) rfl rfl (Nat.le_of_ble_eq_true rfl) dX6_init_33 (fun H locs hP hD hS => ?_)
  have hP : va_P D vwCl ([(st, .inr (6, [.ref q_1, .ref q_2, .ref q_3, .ref q_4, .null, .int 0])), (q_1, .inl (κ 0, 6, .inl (fun _ => 0))), (q_2, .inl (κ 4, 3, .inr (.inr (.inr (.inr (fun _ => none)))))), (q_3, .inl (κ 5, 3, .inr (.inr (.inr (.inr (fun _ => none)))))), (q_4, .inl (κ 0, 6, .inl (fun _ => 0)))] ++ []) H := hP
  have hD : va_D A ([(st, .inr (6, [.ref q_1, .ref q_2, .ref q_3, .ref q_4, .null, .int 0])), (q_1, .inl (κ 0, 6, .inl (fun _ => 0))), (q_2, .inl (κ 4, 3, .inr (.inr (.inr (.inr (fun _ => none)))))), (q_3, .inl (κ 5, 3, .inr (.inr (.inr (.inr (fun _ => none)))))), (q_4, .inl (κ 0, 6, .inl (fun _ => 0)))] ++ []) := hD
  refine lv_aload_n hx hb dX6_init_36 rfl (lv_at hl 0 rfl) ?_
  refine lv_bipush (v := 6) hx hb dX6_init_37 (by decide) ?_
  refine my_newq hx hb hown (hts _ mw_41) hKK.2.2.2.1 hK hP hD hS hA 4 rfl (N' := 6) (by decide) (by decide) (Nat.le_of_ble_eq_true rfl) (Nat.le_of_ble_eq_true rfl) (Nat.le_of_ble_eq_true rfl) dX6_init_39 (fun q_5 H hP hD hS => ?_)
  replace hP : va_P D vwCl ([(st, .inr (6, [.ref q_1, .ref q_2, .ref q_3, .ref q_4, .null, .int 0])), (q_1, .inl (κ 0, 6, .inl (fun _ => 0))), (q_2, .inl (κ 4, 3, .inr (.inr (.inr (.inr (fun _ => none)))))), (q_3, .inl (κ 5, 3, .inr (.inr (.inr (.inr (fun _ => none)))))), (q_4, .inl (κ 0, 6, .inl (fun _ => 0))), (q_5, .inl (κ 4, 6, .inr (.inr (.inr (.inr (fun _ => none))))))] ++ []) H := mvP hP
  replace hD : va_D A ([(st, .inr (6, [.ref q_1, .ref q_2, .ref q_3, .ref q_4, .null, .int 0])), (q_1, .inl (κ 0, 6, .inl (fun _ => 0))), (q_2, .inl (κ 4, 3, .inr (.inr (.inr (.inr (fun _ => none)))))), (q_3, .inl (κ 5, 3, .inr (.inr (.inr (.inr (fun _ => none)))))), (q_4, .inl (κ 0, 6, .inl (fun _ => 0))), (q_5, .inl (κ 4, 6, .inr (.inr (.inr (.inr (fun _ => none))))))] ++ []) := mvD hD
  refine va_putF (D := D) (ci := 6) (v := .ref q_5) (ty := tyX6 4) (C := RX6) (T := TX6) (N := 6) hx hb hts inlX6 tyX6 tyX6_ok nmX6 hown hK hP hD hS 0 rfl rfl 4 (by decide) (hts _ mw_46) (fun _ h9 => h9) rfl hin rfl (tyX6_ok 4 (by decide)) rfl rfl (Nat.le_of_ble_eq_true rfl) dX6_init_42 (fun H locs hP hD hS => ?_)
  have hP : va_P D vwCl ([(st, .inr (6, [.ref q_1, .ref q_2, .ref q_3, .ref q_4, .ref q_5, .int 0])), (q_1, .inl (κ 0, 6, .inl (fun _ => 0))), (q_2, .inl (κ 4, 3, .inr (.inr (.inr (.inr (fun _ => none)))))), (q_3, .inl (κ 5, 3, .inr (.inr (.inr (.inr (fun _ => none)))))), (q_4, .inl (κ 0, 6, .inl (fun _ => 0))), (q_5, .inl (κ 4, 6, .inr (.inr (.inr (.inr (fun _ => none))))))] ++ []) H := hP
  have hD : va_D A ([(st, .inr (6, [.ref q_1, .ref q_2, .ref q_3, .ref q_4, .ref q_5, .int 0])), (q_1, .inl (κ 0, 6, .inl (fun _ => 0))), (q_2, .inl (κ 4, 3, .inr (.inr (.inr (.inr (fun _ => none)))))), (q_3, .inl (κ 5, 3, .inr (.inr (.inr (.inr (fun _ => none)))))), (q_4, .inl (κ 0, 6, .inl (fun _ => 0))), (q_5, .inl (κ 4, 6, .inr (.inr (.inr (.inr (fun _ => none))))))] ++ []) := hD
  refine lv_aload_n hx hb dX6_init_45 rfl (lv_at hl 0 rfl) ?_
  refine lv_iconst (v := 0) hx hb dX6_init_46 (by decide) ?_
  refine va_put (D := D) (ci := 6) (v := .int 0) (ty := tyX6 5) (C := RX6) (T := TX6) (N := 6) hx hb hts inlX6 tyX6 tyX6_ok nmX6 hown hK hP hD hS 0 rfl rfl 5 (by decide) (hts _ mw_47) (fun _ h9 => h9) rfl (tyX6_ok 5 (by decide)) rfl rfl (Nat.le_of_ble_eq_true rfl) dX6_init_47 (fun H locs hP hD hS => ?_)
  have hP : va_P D vwCl ([(st, .inr (6, [.ref q_1, .ref q_2, .ref q_3, .ref q_4, .ref q_5, .int 0])), (q_1, .inl (κ 0, 6, .inl (fun _ => 0))), (q_2, .inl (κ 4, 3, .inr (.inr (.inr (.inr (fun _ => none)))))), (q_3, .inl (κ 5, 3, .inr (.inr (.inr (.inr (fun _ => none)))))), (q_4, .inl (κ 0, 6, .inl (fun _ => 0))), (q_5, .inl (κ 4, 6, .inr (.inr (.inr (.inr (fun _ => none))))))] ++ []) H := hP
  have hD : va_D A ([(st, .inr (6, [.ref q_1, .ref q_2, .ref q_3, .ref q_4, .ref q_5, .int 0])), (q_1, .inl (κ 0, 6, .inl (fun _ => 0))), (q_2, .inl (κ 4, 3, .inr (.inr (.inr (.inr (fun _ => none)))))), (q_3, .inl (κ 5, 3, .inr (.inr (.inr (.inr (fun _ => none)))))), (q_4, .inl (κ 0, 6, .inl (fun _ => 0))), (q_5, .inl (κ 4, 6, .inr (.inr (.inr (.inr (fun _ => none))))))] ++ []) := hD
  refine lv_aload_n hx hb dX6_init_50 rfl (lv_at hl 0 rfl) ?_
  refine va_get (D := D) (ci := 6) (v := .ref q_1) (C := RX6) (T := TX6) (N := 6) hx hb hts inlX6 hown hK hP 0 rfl rfl 0 (by decide) (hts _ mw_40) (fun _ h9 => h9) rfl dX6_init_51 ?_
  refine lv_iconst (v := 0) hx hb dX6_init_54 (by decide) ?_
  refine lv_bipush (v := 44) hx hb dX6_init_55 (by decide) ?_
  refine va_iast hx hb hK hP hD hS 1 0 rfl rfl (i := 0) (x := 44) (vp_k (by decide)) dX6_init_57 (fun H locs hP hD hS => ?_)
  have hP : va_P D vwCl ([(st, .inr (6, [.ref q_1, .ref q_2, .ref q_3, .ref q_4, .ref q_5, .int 0])), (q_1, .inl (κ 0, 6, .inl (upd (fun _ => 0) 0 44))), (q_2, .inl (κ 4, 3, .inr (.inr (.inr (.inr (fun _ => none)))))), (q_3, .inl (κ 5, 3, .inr (.inr (.inr (.inr (fun _ => none)))))), (q_4, .inl (κ 0, 6, .inl (fun _ => 0))), (q_5, .inl (κ 4, 6, .inr (.inr (.inr (.inr (fun _ => none))))))] ++ []) H := hP
  have hD : va_D A ([(st, .inr (6, [.ref q_1, .ref q_2, .ref q_3, .ref q_4, .ref q_5, .int 0])), (q_1, .inl (κ 0, 6, .inl (upd (fun _ => 0) 0 44))), (q_2, .inl (κ 4, 3, .inr (.inr (.inr (.inr (fun _ => none)))))), (q_3, .inl (κ 5, 3, .inr (.inr (.inr (.inr (fun _ => none)))))), (q_4, .inl (κ 0, 6, .inl (fun _ => 0))), (q_5, .inl (κ 4, 6, .inr (.inr (.inr (.inr (fun _ => none))))))] ++ []) := hD
  generalize upd (fun _ => 0) 0 44 = g_6 at hP hD 
  refine lv_aload_n hx hb dX6_init_58 rfl (lv_at hl 0 rfl) ?_
  refine va_get (D := D) (ci := 6) (v := .ref q_1) (C := RX6) (T := TX6) (N := 6) hx hb hts inlX6 hown hK hP 0 rfl rfl 0 (by decide) (hts _ mw_40) (fun _ h9 => h9) rfl dX6_init_59 ?_
  refine lv_iconst (v := 1) hx hb dX6_init_62 (by decide) ?_
  refine lv_bipush (v := 34) hx hb dX6_init_63 (by decide) ?_
  refine va_iast hx hb hK hP hD hS 1 0 rfl rfl (i := 1) (x := 34) (vp_k (by decide)) dX6_init_65 (fun H locs hP hD hS => ?_)
  have hP : va_P D vwCl ([(st, .inr (6, [.ref q_1, .ref q_2, .ref q_3, .ref q_4, .ref q_5, .int 0])), (q_1, .inl (κ 0, 6, .inl (upd g_6 1 34))), (q_2, .inl (κ 4, 3, .inr (.inr (.inr (.inr (fun _ => none)))))), (q_3, .inl (κ 5, 3, .inr (.inr (.inr (.inr (fun _ => none)))))), (q_4, .inl (κ 0, 6, .inl (fun _ => 0))), (q_5, .inl (κ 4, 6, .inr (.inr (.inr (.inr (fun _ => none))))))] ++ []) H := hP
  have hD : va_D A ([(st, .inr (6, [.ref q_1, .ref q_2, .ref q_3, .ref q_4, .ref q_5, .int 0])), (q_1, .inl (κ 0, 6, .inl (upd g_6 1 34))), (q_2, .inl (κ 4, 3, .inr (.inr (.inr (.inr (fun _ => none)))))), (q_3, .inl (κ 5, 3, .inr (.inr (.inr (.inr (fun _ => none)))))), (q_4, .inl (κ 0, 6, .inl (fun _ => 0))), (q_5, .inl (κ 4, 6, .inr (.inr (.inr (.inr (fun _ => none))))))] ++ []) := hD
  generalize upd g_6 1 34 = g_7 at hP hD 
  refine lv_aload_n hx hb dX6_init_66 rfl (lv_at hl 0 rfl) ?_
  refine va_get (D := D) (ci := 6) (v := .ref q_1) (C := RX6) (T := TX6) (N := 6) hx hb hts inlX6 hown hK hP 0 rfl rfl 0 (by decide) (hts _ mw_40) (fun _ h9 => h9) rfl dX6_init_67 ?_
  refine lv_iconst (v := 2) hx hb dX6_init_70 (by decide) ?_
  refine lv_iconst (v := 1) hx hb dX6_init_71 (by decide) ?_
  refine va_iast hx hb hK hP hD hS 1 0 rfl rfl (i := 2) (x := 1) (vp_k (by decide)) dX6_init_72 (fun H locs hP hD hS => ?_)
  have hP : va_P D vwCl ([(st, .inr (6, [.ref q_1, .ref q_2, .ref q_3, .ref q_4, .ref q_5, .int 0])), (q_1, .inl (κ 0, 6, .inl (upd g_7 2 1))), (q_2, .inl (κ 4, 3, .inr (.inr (.inr (.inr (fun _ => none)))))), (q_3, .inl (κ 5, 3, .inr (.inr (.inr (.inr (fun _ => none)))))), (q_4, .inl (κ 0, 6, .inl (fun _ => 0))), (q_5, .inl (κ 4, 6, .inr (.inr (.inr (.inr (fun _ => none))))))] ++ []) H := hP
  have hD : va_D A ([(st, .inr (6, [.ref q_1, .ref q_2, .ref q_3, .ref q_4, .ref q_5, .int 0])), (q_1, .inl (κ 0, 6, .inl (upd g_7 2 1))), (q_2, .inl (κ 4, 3, .inr (.inr (.inr (.inr (fun _ => none)))))), (q_3, .inl (κ 5, 3, .inr (.inr (.inr (.inr (fun _ => none)))))), (q_4, .inl (κ 0, 6, .inl (fun _ => 0))), (q_5, .inl (κ 4, 6, .inr (.inr (.inr (.inr (fun _ => none))))))] ++ []) := hD
  generalize upd g_7 2 1 = g_8 at hP hD 
  exact et_vret hx hb hr hlk hS (q_1, q_2, q_3, q_4, q_5, g_8) rfl trivial (subP0 hP [0, 1, 2, 3, 4, 5] rfl) (hD.sub [0, 1, 2, 3, 4, 5] (by decide) rfl) (Nat.le_of_ble_eq_true rfl) (Nat.le_of_ble_eq_true rfl) dX6_init_73
