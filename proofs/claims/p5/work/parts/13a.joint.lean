/-! what two tables are joined by: cells by a function, pairs counted -/
section ERVN
variable {l : Launch} {y : MethodName} {maxL : Nat} {ret : Option FieldType} {rm : Room} {D : va_G} {κ : Nat → ClassId} {κq : Nat → Nat} {S : Type} {val : S → Option Value} {post : S → Prop}
variable {p : Program} {e : Env} {R : Room} {s : State} {m : MethodId} {args : Array Value} {below : List Frame} {meth : Method} {c : Code} {H : Heap} {locs : List Loc} {cells slots pc : Nat} {ls : Array Slot} {A : Nat → Prop} {wc : va_W} {Q : State → Prop} {rest st0 : List Value}
variable {own C : String} {bytes cc : ByteArray} {nL index : Nat} {b : Nat} {As : List Value}
theorem er_VN {host : String} (hF : FX p s m args c cc nL own) (hK : KK D κ s) (hE : EV κq A s s.heap) (hS : va_S A s.heap H locs) (hM : Er l y (wl y bytes maxL ret) rm D κ κq (.ref b :: As) wc val post) (n : Nat) (hm : Cond.methodLinkNest own index y host ∈ nwL) (him : Cond.instanceMethod y ∈ wsL_law) (hsel : Cond.selects C y y ∈ wsL_law) (hini : Cond.initialized y.cls ∈ wsL_law) (hco : Cond.code y bytes maxL ret ∈ wsL_law) (hd : okD y n) (hrc : rm.cells = 0) (hrs : rm.slots = 0) (hRm : rm.frames + 1 ≤ R.frames ∧ 8 + (maxL + 11) + rm.locals ≤ R.locals)
    (hn : As.length = n) (hst : st0 = As.reverse ++ .ref b :: rest) (hW : (rest.map fun v => v.category).sum ≤ 8) (hdg : decode cc pc = .ok (.invokevirtual index, 3)) (hcs : cells ≤ R.cells ∧ slots ≤ R.slots) (hls : ls.size = nL)
    {wv : va_W} (hPv : va_P D vwCl wv H) (qr ci : Nat) {q : vw_C} {fs : List Value} (hc0 : vwCl[ci]? = some q) (hq : q.1 = C) (her : wv[qr]? = some (b, .inr (ci, fs))) (hPc : va_P D vwCl wc H)
    (kk : ∀ u : S, post u → W p l e R s m args below meth c H locs cells slots Q (F0 m (pc + 3) ls ((val u).toList ++ rest))) : W p l e R s m args below meth c H locs cells slots Q (F0 m pc ls st0) := by
  subst hst; subst hq
  obtain ⟨hx, hb, hml, hown, hts⟩ := hF
  exact cr_go (va_runVN (As := As) (rest := rest) ⟨hx, hb, hml, hown, hts⟩ (hM A) ⟨va_cnB n hts (g_L hco) rfl hrc hrs (hK.2.2.2.2.2 _ hm) (hts _ hini) hd hRm, hts _ him, hts _ hsel⟩ ⟨sP_blind, va_recv hK.1 hPv hc0 her, sP_at hK hPc hS hE⟩ rfl hn hls rfl (lv_room hW) hdg hcs) kk
end ERVN
/-- a cell whole: where it lies, its bytes, kind, size, number, what the bytes are -/
abbrev CT := Nat × Nat × Nat × Nat × Int64 × (Nat → Int32)
def Cf (κ : Nat → ClassId) (im : va_W) (a b k n : Nat) (x : Int64) (f : Nat → Int32) : Prop := k ≤ 5 ∧ n ≤ 20 ∧ ((a, .inr (0, [.ref b, .int (nI k), .long x])) : Nat × va_E) ∈ im ∧ ((b, .inl (κ 1, n, .inl f)) : Nat × va_E) ∈ im
def LcF (κ : Nat → ClassId) (im : va_W) (h : Nat → Option Nat) (n : Nat) (cf : Nat → CT) : Prop := ∀ i : Nat, i < n → ∃ (a b k m : Nat) (x : Int64) (f : Nat → Int32), cf i = (a, b, k, m, x, f) ∧ h i = some a ∧ Cf κ im a b k m x f
section CF
variable {κ : Nat → ClassId} {im im2 : va_W} {h : Nat → Option Nat} {n a b k : Nat} {x : Int64} {f : Nat → Int32} {cf : Nat → CT}
theorem Cf.up (hh : Cf κ im a b k n x f) (hs : Sb im im2) : Cf κ im2 a b k n x f := ⟨hh.1, hh.2.1, hs _ hh.2.2.1, hs _ hh.2.2.2⟩
theorem LcF.up (hh : LcF κ im h n cf) (hs : Sb im im2) : LcF κ im2 h n cf := by
  intro i hi
  obtain ⟨a, b, k, m, x, f, e1, e2, h3⟩ := hh i hi
  exact ⟨a, b, k, m, x, f, e1, e2, h3.up hs⟩
theorem LcF_of (hh : Lc κ im h n) : ∃ cf : Nat → CT, LcF κ im h n cf := by
  have h1 : ∀ i : Nat, ∃ c : CT, i < n → ∃ (a b k m : Nat) (x : Int64) (f : Nat → Int32), c = (a, b, k, m, x, f) ∧ h i = some a ∧ Cf κ im a b k m x f := by
    intro i
    by_cases hi : i < n
    · obtain ⟨a, e1, k, m, hk, b, x, hm1, hn, f, hm2, -⟩ := hh i hi
      exact ⟨(a, b, k, m, x, f), fun _ => ⟨a, b, k, m, x, f, rfl, e1, hk, hn, hm1, hm2⟩⟩
    · exact ⟨(0, 0, 0, 0, 0, fun _ => 0), fun h9 => absurd h9 hi⟩
  exact ⟨fun i => Classical.choose (h1 i), fun i hi => Classical.choose_spec (h1 i) hi⟩
end CF
/-- whether two cells are alike -/
def mtF (c1 c2 : CT) (zt : Int32) : Bool := decide (1 ≤ c1.2.2.2.1 ∧ cpF c1.2.2.1 c1.2.2.2.1 c1.2.2.2.2.1 c1.2.2.2.2.2 c2.2.2.1 c2.2.2.2.1 c2.2.2.2.2.1 c2.2.2.2.2.2 zt = 0)
section MT
variable {c1 c2 : CT} {zt r : Int32} {a b k n a2 b2 k2 n2 : Nat} {x x2 : Int64} {f f2 : Nat → Int32}
theorem mtF_e (h1 : c1 = (a, b, k, n, x, f)) (h : n = 0) : mtF c1 c2 zt = false := by
  subst h1; subst h
  exact decide_eq_false (fun h9 => absurd h9.1 (by show ¬ 1 ≤ 0; omega))
theorem mtF_t (h1 : c1 = (a, b, k, n, x, f)) (h2 : c2 = (a2, b2, k2, n2, x2, f2)) (hn : 1 ≤ n) (h : r = cpF k n x f k2 n2 x2 f2 zt) (e : r = 0) : mtF c1 c2 zt = true := by
  subst h1; subst h2
  exact decide_eq_true ⟨hn, h.symm.trans e⟩
theorem mtF_f (h1 : c1 = (a, b, k, n, x, f)) (h2 : c2 = (a2, b2, k2, n2, x2, f2)) (h : r = cpF k n x f k2 n2 x2 f2 zt) (e : ¬ r = 0) : mtF c1 c2 zt = false := by
  subst h1; subst h2
  exact decide_eq_false (fun h9 => e (h.trans h9.2))
end MT
/-- how many pairs are alike -/
def ctI (mb : Nat → Nat → Bool) (i : Nat) : Nat → Nat
  | 0 => 0
  | j + 1 => ctI mb i j + (if mb i j then 1 else 0)
def ctA (mb : Nat → Nat → Bool) (m : Nat) : Nat → Nat
  | 0 => 0
  | i + 1 => ctA mb m i + ctI mb i m
def Mb (mb : Nat → Nat → Bool) (f1 f2 : Nat → Int32) (m1 m2 : Nat) (cf1 cf2 : Nat → CT) (w1 o1 w2 o2 : Nat) (zt : Int32) : Prop := ∀ i j a b : Nat, i < m1 → j < m2 → a < 2147483648 → b < 2147483648 → f1 i = nI a → f2 j = nI b → mb i j = mtF (cf1 (a * w1 + o1)) (cf2 (b * w2 + o2)) zt
theorem Mb_of (f1 f2 : Nat → Int32) (m1 m2 : Nat) (cf1 cf2 : Nat → CT) (w1 o1 w2 o2 : Nat) (zt : Int32) : ∃ mb, Mb mb f1 f2 m1 m2 cf1 cf2 w1 o1 w2 o2 zt :=
  ⟨fun i j => mtF (cf1 ((f1 i).toNatClampNeg * w1 + o1)) (cf2 ((f2 j).toNatClampNeg * w2 + o2)) zt, fun i j a b _ _ ha hb e1 e2 => by
    show mtF (cf1 ((f1 i).toNatClampNeg * w1 + o1)) (cf2 ((f2 j).toNatClampNeg * w2 + o2)) zt = _
    rw [e1, e2, nI_clamp ha, nI_clamp hb]⟩
section CT
variable {mb : Nat → Nat → Bool} {i j m m1 : Nat}
theorem ctI_0 : ctI mb i 0 = 0 := rfl
theorem ctI_t (h : mb i j = true) : ctI mb i (j + 1) = ctI mb i j + 1 := by
  show ctI mb i j + (if mb i j then 1 else 0) = _
  rw [if_pos h]
theorem ctI_f (h : mb i j = false) : ctI mb i (j + 1) = ctI mb i j := by
  show ctI mb i j + (if mb i j then 1 else 0) = _
  rw [if_neg (by rw [h]; exact Bool.false_ne_true)]
  rfl
theorem ctI_s : ctI mb i j ≤ ctI mb i (j + 1) := Nat.le_add_right _ _
theorem ctI_mono : ∀ {j k : Nat}, j ≤ k → ctI mb i j ≤ ctI mb i k
  | j, 0, h => by
    obtain rfl : j = 0 := by omega
    exact Nat.le_refl _
  | j, k + 1, h => by
    rcases Nat.lt_or_eq_of_le h with h1 | rfl
    · exact Nat.le_trans (ctI_mono (Nat.le_of_lt_succ h1)) ctI_s
    · exact Nat.le_refl _
theorem ctA_s : ctA mb m (i + 1) = ctA mb m i + ctI mb i m := rfl
theorem ctA_mono : ∀ {i k : Nat}, i ≤ k → ctA mb m i ≤ ctA mb m k
  | i, 0, h => by
    obtain rfl : i = 0 := by omega
    exact Nat.le_refl _
  | i, k + 1, h => by
    rcases Nat.lt_or_eq_of_le h with h1 | rfl
    · exact Nat.le_trans (ctA_mono (Nat.le_of_lt_succ h1)) (Nat.le_add_right _ _)
    · exact Nat.le_refl _
theorem ct_le (hi : i < m1) (hj : j ≤ m) : ctA mb m i + ctI mb i j ≤ ctA mb m m1 := by
  have h1 : ctA mb m (i + 1) ≤ ctA mb m m1 := ctA_mono hi
  have h2 : ctI mb i j ≤ ctI mb i m := ctI_mono hj
  rw [ctA_s] at h1
  omega
end CT
theorem dX3_match_0 : decode cX3_match 0 = .ok (.aload_n 0, 1) := by decide +kernel
theorem dX3_match_1 : decode cX3_match 1 = .ok (.getfield 9, 3) := by decide +kernel
theorem mw_823 : Cond.fieldLink RX3 9 "TypedTables$Joint" "left" "LTypedTables$Strip;" ∈ wsL_law := lrk_35 _ (List.mem_of_getElem? (i := 7) rfl)
theorem dX3_match_4 : decode cX3_match 4 = .ok (.iload_n 1, 1) := by decide +kernel
theorem dX3_match_5 : decode cX3_match 5 = .ok (.invokevirtual 29, 3) := by decide +kernel
theorem nw_X3_29 : Cond.methodLinkNest RX3 29 yX7_cellOf RX11 ∈ nwL := by decide +kernel
theorem hdS_X7_cellOf : okD yX7_cellOf 1 := by decide +kernel
theorem dX3_match_8 : decode cX3_match 8 = .ok (.astore_n 3, 1) := by decide +kernel
theorem dX3_match_9 : decode cX3_match 9 = .ok (.aload_n 3, 1) := by decide +kernel
theorem dX3_match_10 : decode cX3_match 10 = .ok (.invokevirtual 33, 3) := by decide +kernel
theorem mw_869 : Cond.methodLink RX3 33 yX0_isEmpty ∈ wsL_law := lrk_37 _ (List.mem_of_getElem? (i := 5) rfl)
theorem gV_X3_33 : GoodIn wsL_law (wsV RX3 33 RX0 yX0_isEmpty (wl yX0_isEmpty cX0_isEmpty 1 (some .boolean))) := g_V mw_869 mw_870 mw_871 mw_68 mw_872
theorem dX3_match_13 : decode cX3_match 13 = .ok (.ifCond .ne 26, 3) := by decide +kernel
theorem dX3_match_39 : decode cX3_match 39 = .ok (.iconst 0, 1) := by decide +kernel
theorem dX3_match_40 : decode cX3_match 40 = .ok (.ireturn, 1) := by decide +kernel
theorem dX3_match_16 : decode cX3_match 16 = .ok (.aload_n 3, 1) := by decide +kernel
theorem dX3_match_17 : decode cX3_match 17 = .ok (.aload_n 0, 1) := by decide +kernel
theorem dX3_match_18 : decode cX3_match 18 = .ok (.getfield 15, 3) := by decide +kernel
theorem mw_824 : Cond.fieldLink RX3 15 "TypedTables$Joint" "right" "LTypedTables$Strip;" ∈ wsL_law := lrk_35 _ (List.mem_of_getElem? (i := 8) rfl)
theorem dX3_match_21 : decode cX3_match 21 = .ok (.iload_n 2, 1) := by decide +kernel
theorem dX3_match_22 : decode cX3_match 22 = .ok (.invokevirtual 29, 3) := by decide +kernel
theorem dX3_match_25 : decode cX3_match 25 = .ok (.aload_n 0, 1) := by decide +kernel
theorem dX3_match_26 : decode cX3_match 26 = .ok (.getfield 28, 3) := by decide +kernel
theorem mw_826 : Cond.fieldLink RX3 28 "TypedTables$Joint" "type" "I" ∈ wsL_law := lrk_35 _ (List.mem_of_getElem? (i := 10) rfl)
theorem dX3_match_29 : decode cX3_match 29 = .ok (.invokevirtual 39, 3) := by decide +kernel
theorem mw_873 : Cond.methodLink RX3 39 yX0_comparedTo ∈ wsL_law := lrk_37 _ (List.mem_of_getElem? (i := 9) rfl)
theorem gV_X3_39 : GoodIn wsL_law (wsV RX3 39 RX0 yX0_comparedTo (wl yX0_comparedTo cX0_comparedTo 3 (some .int))) := g_V mw_873 mw_874 mw_875 mw_68 mw_876
theorem dX3_match_32 : decode cX3_match 32 = .ok (.ifCond .ne 7, 3) := by decide +kernel
theorem dX3_match_35 : decode cX3_match 35 = .ok (.iconst 1, 1) := by decide +kernel
theorem dX3_match_36 : decode cX3_match 36 = .ok (.goto 4, 3) := by decide +kernel
theorem dX3_countPairs_0 : decode cX3_countPairs 0 = .ok (.iconst 0, 1) := by decide +kernel
theorem dX3_countPairs_1 : decode cX3_countPairs 1 = .ok (.istore_n 1, 1) := by decide +kernel
theorem dX3_countPairs_2 : decode cX3_countPairs 2 = .ok (.iconst 0, 1) := by decide +kernel
theorem dX3_countPairs_3 : decode cX3_countPairs 3 = .ok (.istore_n 2, 1) := by decide +kernel
theorem dX3_countPairs_4 : decode cX3_countPairs 4 = .ok (.iload_n 2, 1) := by decide +kernel
theorem dX3_countPairs_5 : decode cX3_countPairs 5 = .ok (.aload_n 0, 1) := by decide +kernel
theorem dX3_countPairs_6 : decode cX3_countPairs 6 = .ok (.getfield 9, 3) := by decide +kernel
theorem dX3_countPairs_9 : decode cX3_countPairs 9 = .ok (.getfield 43, 3) := by decide +kernel
theorem mw_834 : Cond.fieldLink RX3 43 "TypedTables$Strip" "rows" "[I" ∈ wsL_law := lrk_35 _ (List.mem_of_getElem? (i := 18) rfl)
theorem dX3_countPairs_12 : decode cX3_countPairs 12 = .ok (.arraylength, 1) := by decide +kernel
theorem dX3_countPairs_13 : decode cX3_countPairs 13 = .ok (.if_icmp .ge 62, 3) := by decide +kernel
theorem dX3_countPairs_75 : decode cX3_countPairs 75 = .ok (.iload_n 1, 1) := by decide +kernel
theorem dX3_countPairs_76 : decode cX3_countPairs 76 = .ok (.ireturn, 1) := by decide +kernel
theorem dX3_countPairs_16 : decode cX3_countPairs 16 = .ok (.iconst 0, 1) := by decide +kernel
theorem dX3_countPairs_17 : decode cX3_countPairs 17 = .ok (.istore_n 3, 1) := by decide +kernel
theorem dX3_countPairs_18 : decode cX3_countPairs 18 = .ok (.iload_n 3, 1) := by decide +kernel
theorem dX3_countPairs_19 : decode cX3_countPairs 19 = .ok (.aload_n 0, 1) := by decide +kernel
theorem dX3_countPairs_20 : decode cX3_countPairs 20 = .ok (.getfield 15, 3) := by decide +kernel
theorem dX3_countPairs_23 : decode cX3_countPairs 23 = .ok (.getfield 43, 3) := by decide +kernel
theorem dX3_countPairs_26 : decode cX3_countPairs 26 = .ok (.arraylength, 1) := by decide +kernel
theorem dX3_countPairs_27 : decode cX3_countPairs 27 = .ok (.if_icmp .ge 42, 3) := by decide +kernel
theorem dX3_countPairs_69 : decode cX3_countPairs 69 = .ok (.iinc 2 1, 3) := by decide +kernel
theorem dX3_countPairs_72 : decode cX3_countPairs 72 = .ok (.goto (-68), 3) := by decide +kernel
theorem dX3_countPairs_30 : decode cX3_countPairs 30 = .ok (.iload_n 1, 1) := by decide +kernel
theorem dX3_countPairs_31 : decode cX3_countPairs 31 = .ok (.aload_n 0, 1) := by decide +kernel
theorem dX3_countPairs_32 : decode cX3_countPairs 32 = .ok (.aload_n 0, 1) := by decide +kernel
theorem dX3_countPairs_33 : decode cX3_countPairs 33 = .ok (.getfield 9, 3) := by decide +kernel
theorem dX3_countPairs_36 : decode cX3_countPairs 36 = .ok (.getfield 43, 3) := by decide +kernel
theorem dX3_countPairs_39 : decode cX3_countPairs 39 = .ok (.iload_n 2, 1) := by decide +kernel
theorem dX3_countPairs_40 : decode cX3_countPairs 40 = .ok (.iaload, 1) := by decide +kernel
theorem dX3_countPairs_41 : decode cX3_countPairs 41 = .ok (.aload_n 0, 1) := by decide +kernel
theorem dX3_countPairs_42 : decode cX3_countPairs 42 = .ok (.getfield 15, 3) := by decide +kernel
theorem dX3_countPairs_45 : decode cX3_countPairs 45 = .ok (.getfield 43, 3) := by decide +kernel
theorem dX3_countPairs_48 : decode cX3_countPairs 48 = .ok (.iload_n 3, 1) := by decide +kernel
theorem dX3_countPairs_49 : decode cX3_countPairs 49 = .ok (.iaload, 1) := by decide +kernel
theorem dX3_countPairs_50 : decode cX3_countPairs 50 = .ok (.invokevirtual 47, 3) := by decide +kernel
theorem mw_864 : Cond.code yX3_match cX3_match 4 (some .boolean) ∈ wsL_law := lrk_37 _ (List.mem_of_getElem? (i := 0) rfl)
theorem mw_861 : Cond.methodLink RX3 47 yX3_match ∈ wsL_law := lrk_36 _ (List.mem_of_getElem? (i := 21) rfl)
theorem mw_787 : Cond.initialized RX3 ∈ wsL_law := lrk_33 _ (List.mem_of_getElem? (i := 19) rfl)
theorem mw_862 : Cond.instanceMethod yX3_match ∈ wsL_law := lrk_36 _ (List.mem_of_getElem? (i := 22) rfl)
theorem mw_863 : Cond.selects RX3 yX3_match yX3_match ∈ wsL_law := lrk_36 _ (List.mem_of_getElem? (i := 23) rfl)
theorem gV_X3_47 : GoodIn wsL_law (wsV RX3 47 RX3 yX3_match (wl yX3_match cX3_match 4 (some .boolean))) := g_V mw_861 mw_862 mw_863 mw_787 mw_864
theorem hdV_X3_match : yX3_match.cls = RX3 ∧ okD yX3_match 2 := by decide +kernel
theorem dX3_countPairs_53 : decode cX3_countPairs 53 = .ok (.ifCond .eq 7, 3) := by decide +kernel
theorem dX3_countPairs_56 : decode cX3_countPairs 56 = .ok (.iconst 1, 1) := by decide +kernel
theorem dX3_countPairs_57 : decode cX3_countPairs 57 = .ok (.goto 4, 3) := by decide +kernel
theorem dX3_countPairs_61 : decode cX3_countPairs 61 = .ok (.iadd, 1) := by decide +kernel
theorem dX3_countPairs_62 : decode cX3_countPairs 62 = .ok (.istore_n 1, 1) := by decide +kernel
theorem dX3_countPairs_63 : decode cX3_countPairs 63 = .ok (.iinc 3 1, 3) := by decide +kernel
theorem dX3_countPairs_66 : decode cX3_countPairs 66 = .ok (.goto (-48), 3) := by decide +kernel
theorem dX3_countPairs_60 : decode cX3_countPairs 60 = .ok (.iconst 0, 1) := by decide +kernel
theorem dX3_init_0 : decode cX3_init 0 = .ok (.aload_n 0, 1) := by decide +kernel
theorem dX3_init_1 : decode cX3_init 1 = .ok (.invokespecial 3, 3) := by decide +kernel
theorem mw_822 : Cond.methodLink RX3 3 objectInit ∈ wsL_law := lrk_35 _ (List.mem_of_getElem? (i := 6) rfl)
theorem dX3_init_4 : decode cX3_init 4 = .ok (.aload_n 0, 1) := by decide +kernel
theorem dX3_init_5 : decode cX3_init 5 = .ok (.aload_n 1, 1) := by decide +kernel
theorem dX3_init_6 : decode cX3_init 6 = .ok (.putfield 9, 3) := by decide +kernel
theorem dX3_init_9 : decode cX3_init 9 = .ok (.aload_n 0, 1) := by decide +kernel
theorem dX3_init_10 : decode cX3_init 10 = .ok (.aload_n 2, 1) := by decide +kernel
theorem dX3_init_11 : decode cX3_init 11 = .ok (.putfield 15, 3) := by decide +kernel
theorem dX3_init_14 : decode cX3_init 14 = .ok (.aload_n 0, 1) := by decide +kernel
theorem dX3_init_15 : decode cX3_init 15 = .ok (.aload_n 1, 1) := by decide +kernel
theorem dX3_init_16 : decode cX3_init 16 = .ok (.getfield 18, 3) := by decide +kernel
theorem mw_825 : Cond.fieldLink RX3 18 "TypedTables$Strip" "type" "I" ∈ wsL_law := lrk_35 _ (List.mem_of_getElem? (i := 9) rfl)
theorem dX3_init_19 : decode cX3_init 19 = .ok (.aload_n 2, 1) := by decide +kernel
theorem dX3_init_20 : decode cX3_init 20 = .ok (.getfield 18, 3) := by decide +kernel
theorem dX3_init_23 : decode cX3_init 23 = .ok (.invokestatic 24, 3) := by decide +kernel
theorem nw_X3_24 : Cond.methodLinkNest RX3 24 yX11_common RX11 ∈ nwL := by decide +kernel
theorem hdS_X11_common : okD yX11_common 2 := by decide +kernel
theorem mw_827 : Cond.static yX11_common ∈ wsL_law := lrk_35 _ (List.mem_of_getElem? (i := 11) rfl)
theorem mw_828 : Cond.code yX11_common cX11_common 2 (some .int) ∈ wsL_law := lrk_35 _ (List.mem_of_getElem? (i := 12) rfl)
theorem dX3_init_26 : decode cX3_init 26 = .ok (.putfield 28, 3) := by decide +kernel
theorem dX3_init_29 : decode cX3_init 29 = .ok (.return_, 1) := by decide +kernel
theorem dX3_rightColumn_0 : decode cX3_rightColumn 0 = .ok (.iload_n 1, 1) := by decide +kernel
theorem dX3_rightColumn_1 : decode cX3_rightColumn 1 = .ok (.aload_n 0, 1) := by decide +kernel
theorem dX3_rightColumn_2 : decode cX3_rightColumn 2 = .ok (.getfield 15, 3) := by decide +kernel
theorem dX3_rightColumn_5 : decode cX3_rightColumn 5 = .ok (.getfield 83, 3) := by decide +kernel
theorem mw_849 : Cond.fieldLink RX3 83 "TypedTables$Strip" "column" "I" ∈ wsL_law := lrk_36 _ (List.mem_of_getElem? (i := 9) rfl)
theorem dX3_rightColumn_8 : decode cX3_rightColumn 8 = .ok (.if_icmp .ge 7, 3) := by decide +kernel
theorem dX3_rightColumn_15 : decode cX3_rightColumn 15 = .ok (.iload_n 1, 1) := by decide +kernel
theorem dX3_rightColumn_16 : decode cX3_rightColumn 16 = .ok (.iconst 1, 1) := by decide +kernel
theorem dX3_rightColumn_17 : decode cX3_rightColumn 17 = .ok (.iadd, 1) := by decide +kernel
theorem dX3_rightColumn_18 : decode cX3_rightColumn 18 = .ok (.ireturn, 1) := by decide +kernel
theorem dX3_rightColumn_11 : decode cX3_rightColumn 11 = .ok (.iload_n 1, 1) := by decide +kernel
theorem dX3_rightColumn_12 : decode cX3_rightColumn 12 = .ok (.goto 6, 3) := by decide +kernel
theorem dX3_fillRow_0 : decode cX3_fillRow 0 = .ok (.aload_n 0, 1) := by decide +kernel
theorem dX3_fillRow_1 : decode cX3_fillRow 1 = .ok (.getfield 9, 3) := by decide +kernel
theorem dX3_fillRow_4 : decode cX3_fillRow 4 = .ok (.getfield 68, 3) := by decide +kernel
theorem mw_840 : Cond.fieldLink RX3 68 "TypedTables$Strip" "sheet" "LTypedTables$Sheet;" ∈ wsL_law := lrk_36 _ (List.mem_of_getElem? (i := 0) rfl)
theorem dX3_fillRow_7 : decode cX3_fillRow 7 = .ok (.getfield 72, 3) := by decide +kernel
theorem mw_841 : Cond.fieldLink RX3 72 "TypedTables$Sheet" "columns" "[LTypedTables$Column;" ∈ wsL_law := lrk_36 _ (List.mem_of_getElem? (i := 1) rfl)
theorem dX3_fillRow_10 : decode cX3_fillRow 10 = .ok (.arraylength, 1) := by decide +kernel
theorem dX3_fillRow_11 : decode cX3_fillRow 11 = .ok (.istore 5, 2) := by decide +kernel
theorem dX3_fillRow_13 : decode cX3_fillRow 13 = .ok (.iconst 0, 1) := by decide +kernel
theorem dX3_fillRow_14 : decode cX3_fillRow 14 = .ok (.istore 6, 2) := by decide +kernel
theorem dX3_fillRow_16 : decode cX3_fillRow 16 = .ok (.iload 6, 2) := by decide +kernel
theorem dX3_fillRow_18 : decode cX3_fillRow 18 = .ok (.iload 5, 2) := by decide +kernel
theorem dX3_fillRow_20 : decode cX3_fillRow 20 = .ok (.if_icmp .ge 28, 3) := by decide +kernel
theorem dX3_fillRow_48 : decode cX3_fillRow 48 = .ok (.iconst 0, 1) := by decide +kernel
theorem dX3_fillRow_49 : decode cX3_fillRow 49 = .ok (.istore 6, 2) := by decide +kernel
theorem dX3_fillRow_51 : decode cX3_fillRow 51 = .ok (.iload 6, 2) := by decide +kernel
theorem dX3_fillRow_53 : decode cX3_fillRow 53 = .ok (.aload_n 0, 1) := by decide +kernel
theorem dX3_fillRow_54 : decode cX3_fillRow 54 = .ok (.getfield 15, 3) := by decide +kernel
theorem dX3_fillRow_57 : decode cX3_fillRow 57 = .ok (.getfield 68, 3) := by decide +kernel
theorem dX3_fillRow_60 : decode cX3_fillRow 60 = .ok (.getfield 72, 3) := by decide +kernel
theorem dX3_fillRow_63 : decode cX3_fillRow 63 = .ok (.arraylength, 1) := by decide +kernel
theorem dX3_fillRow_64 : decode cX3_fillRow 64 = .ok (.iconst 1, 1) := by decide +kernel
theorem dX3_fillRow_65 : decode cX3_fillRow 65 = .ok (.isub, 1) := by decide +kernel
theorem dX3_fillRow_66 : decode cX3_fillRow 66 = .ok (.if_icmp .ge 36, 3) := by decide +kernel
theorem dX3_fillRow_102 : decode cX3_fillRow 102 = .ok (.return_, 1) := by decide +kernel
theorem dX3_fillRow_69 : decode cX3_fillRow 69 = .ok (.aload_n 1, 1) := by decide +kernel
theorem dX3_fillRow_70 : decode cX3_fillRow 70 = .ok (.iload_n 2, 1) := by decide +kernel
theorem dX3_fillRow_71 : decode cX3_fillRow 71 = .ok (.iload 5, 2) := by decide +kernel
theorem dX3_fillRow_73 : decode cX3_fillRow 73 = .ok (.iadd, 1) := by decide +kernel
theorem dX3_fillRow_74 : decode cX3_fillRow 74 = .ok (.iload 6, 2) := by decide +kernel
theorem dX3_fillRow_76 : decode cX3_fillRow 76 = .ok (.iadd, 1) := by decide +kernel
theorem dX3_fillRow_77 : decode cX3_fillRow 77 = .ok (.aload_n 0, 1) := by decide +kernel
theorem dX3_fillRow_78 : decode cX3_fillRow 78 = .ok (.getfield 15, 3) := by decide +kernel
theorem dX3_fillRow_81 : decode cX3_fillRow 81 = .ok (.getfield 68, 3) := by decide +kernel
theorem dX3_fillRow_84 : decode cX3_fillRow 84 = .ok (.iload 4, 2) := by decide +kernel
theorem dX3_fillRow_86 : decode cX3_fillRow 86 = .ok (.aload_n 0, 1) := by decide +kernel
theorem dX3_fillRow_87 : decode cX3_fillRow 87 = .ok (.iload 6, 2) := by decide +kernel
theorem dX3_fillRow_89 : decode cX3_fillRow 89 = .ok (.invokevirtual 79, 3) := by decide +kernel
theorem mw_848 : Cond.code yX3_rightColumn cX3_rightColumn 2 (some .int) ∈ wsL_law := lrk_36 _ (List.mem_of_getElem? (i := 8) rfl)
theorem mw_845 : Cond.methodLink RX3 79 yX3_rightColumn ∈ wsL_law := lrk_36 _ (List.mem_of_getElem? (i := 5) rfl)
theorem mw_846 : Cond.instanceMethod yX3_rightColumn ∈ wsL_law := lrk_36 _ (List.mem_of_getElem? (i := 6) rfl)
theorem mw_847 : Cond.selects RX3 yX3_rightColumn yX3_rightColumn ∈ wsL_law := lrk_36 _ (List.mem_of_getElem? (i := 7) rfl)
theorem gV_X3_79 : GoodIn wsL_law (wsV RX3 79 RX3 yX3_rightColumn (wl yX3_rightColumn cX3_rightColumn 2 (some .int))) := g_V mw_845 mw_846 mw_847 mw_787 mw_848
theorem hdV_X3_rightColumn : yX3_rightColumn.cls = RX3 ∧ okD yX3_rightColumn 1 := by decide +kernel
theorem dX3_fillRow_92 : decode cX3_fillRow 92 = .ok (.invokevirtual 76, 3) := by decide +kernel
theorem mw_900 : Cond.methodLink RX3 76 yX5_cellOf ∈ wsL_law := lrk_38 _ (List.mem_of_getElem? (i := 12) rfl)
theorem gV_X3_76 : GoodIn wsL_law (wsV RX3 76 RX5 yX5_cellOf (wl yX5_cellOf cX5_cellOf 3 (some (.object "TypedTables$Cell")))) := g_V mw_900 mw_748 mw_749 mw_377 mw_750
theorem dX3_fillRow_95 : decode cX3_fillRow 95 = .ok (.aastore, 1) := by decide +kernel
theorem dX3_fillRow_96 : decode cX3_fillRow 96 = .ok (.iinc 6 1, 3) := by decide +kernel
theorem dX3_fillRow_99 : decode cX3_fillRow 99 = .ok (.goto (-48), 3) := by decide +kernel
theorem dX3_fillRow_23 : decode cX3_fillRow 23 = .ok (.aload_n 1, 1) := by decide +kernel
theorem dX3_fillRow_24 : decode cX3_fillRow 24 = .ok (.iload_n 2, 1) := by decide +kernel
theorem dX3_fillRow_25 : decode cX3_fillRow 25 = .ok (.iload 6, 2) := by decide +kernel
theorem dX3_fillRow_27 : decode cX3_fillRow 27 = .ok (.iadd, 1) := by decide +kernel
theorem dX3_fillRow_28 : decode cX3_fillRow 28 = .ok (.aload_n 0, 1) := by decide +kernel
theorem dX3_fillRow_29 : decode cX3_fillRow 29 = .ok (.getfield 9, 3) := by decide +kernel
theorem dX3_fillRow_32 : decode cX3_fillRow 32 = .ok (.getfield 68, 3) := by decide +kernel
theorem dX3_fillRow_35 : decode cX3_fillRow 35 = .ok (.iload_n 3, 1) := by decide +kernel
theorem dX3_fillRow_36 : decode cX3_fillRow 36 = .ok (.iload 6, 2) := by decide +kernel
theorem dX3_fillRow_38 : decode cX3_fillRow 38 = .ok (.invokevirtual 76, 3) := by decide +kernel
theorem dX3_fillRow_41 : decode cX3_fillRow 41 = .ok (.aastore, 1) := by decide +kernel
theorem dX3_fillRow_42 : decode cX3_fillRow 42 = .ok (.iinc 6 1, 3) := by decide +kernel
theorem dX3_fillRow_45 : decode cX3_fillRow 45 = .ok (.goto (-29), 3) := by decide +kernel
theorem dX3_freeName_0 : decode cX3_freeName 0 = .ok (.aload_n 0, 1) := by decide +kernel
theorem dX3_freeName_1 : decode cX3_freeName 1 = .ok (.iload_n 1, 1) := by decide +kernel
theorem dX3_freeName_2 : decode cX3_freeName 2 = .ok (.aload_n 2, 1) := by decide +kernel
theorem dX3_freeName_3 : decode cX3_freeName 3 = .ok (.invokestatic 102, 3) := by decide +kernel
theorem mw_853 : Cond.methodLink RX3 102 yX1_indexOf ∈ wsL_law := lrk_36 _ (List.mem_of_getElem? (i := 13) rfl)
theorem gS_X3_102 : GoodIn wsL_law (va_wsS RX3 102 yX1_indexOf (wl yX1_indexOf cX1_indexOf 4 (some .int))) := g_S mw_853 mw_340 mw_331 mw_341
theorem dX3_freeName_6 : decode cX3_freeName 6 = .ok (.iconst (-1), 1) := by decide +kernel
theorem dX3_freeName_7 : decode cX3_freeName 7 = .ok (.if_icmp .ne 5, 3) := by decide +kernel
theorem dX3_freeName_12 : decode cX3_freeName 12 = .ok (.aload_n 2, 1) := by decide +kernel
theorem dX3_freeName_13 : decode cX3_freeName 13 = .ok (.aload_n 2, 1) := by decide +kernel
theorem dX3_freeName_14 : decode cX3_freeName 14 = .ok (.arraylength, 1) := by decide +kernel
theorem dX3_freeName_15 : decode cX3_freeName 15 = .ok (.iconst 1, 1) := by decide +kernel
theorem dX3_freeName_16 : decode cX3_freeName 16 = .ok (.iadd, 1) := by decide +kernel
theorem dX3_freeName_17 : decode cX3_freeName 17 = .ok (.invokestatic 106, 3) := by decide +kernel
theorem mw_854 : Cond.methodLink RX3 106 yJ7_copyOf_9075b ∈ wsL_law := lrk_36 _ (List.mem_of_getElem? (i := 14) rfl)
theorem gS_X3_106 : GoodIn wsL_law (va_wsS RX3 106 yJ7_copyOf_9075b (wl yJ7_copyOf_9075b cJ7_copyOf_9075b 3 (some (.array .byte)))) := g_S mw_854 mw_307 mw_308 mw_309
theorem dX3_freeName_20 : decode cX3_freeName 20 = .ok (.astore_n 3, 1) := by decide +kernel
theorem dX3_freeName_21 : decode cX3_freeName 21 = .ok (.aload_n 3, 1) := by decide +kernel
theorem dX3_freeName_22 : decode cX3_freeName 22 = .ok (.aload_n 2, 1) := by decide +kernel
theorem dX3_freeName_23 : decode cX3_freeName 23 = .ok (.arraylength, 1) := by decide +kernel
theorem dX3_freeName_24 : decode cX3_freeName 24 = .ok (.bipush 95, 2) := by decide +kernel
theorem dX3_freeName_26 : decode cX3_freeName 26 = .ok (.bastore, 1) := by decide +kernel
theorem dX3_freeName_27 : decode cX3_freeName 27 = .ok (.aload_n 3, 1) := by decide +kernel
theorem dX3_freeName_28 : decode cX3_freeName 28 = .ok (.invokestatic 112, 3) := by decide +kernel
theorem mw_855 : Cond.methodLink RX3 112 yX1_canBeName ∈ wsL_law := lrk_36 _ (List.mem_of_getElem? (i := 15) rfl)
theorem gS_X3_112 : GoodIn wsL_law (va_wsS RX3 112 yX1_canBeName (wl yX1_canBeName cX1_canBeName 2 (some .boolean))) := g_S mw_855 mw_333 mw_331 mw_334
theorem dX3_freeName_31 : decode cX3_freeName 31 = .ok (.ifCond .eq 17, 3) := by decide +kernel
theorem dX3_freeName_34 : decode cX3_freeName 34 = .ok (.aload_n 0, 1) := by decide +kernel
theorem dX3_freeName_35 : decode cX3_freeName 35 = .ok (.iload_n 1, 1) := by decide +kernel
theorem dX3_freeName_36 : decode cX3_freeName 36 = .ok (.aload_n 3, 1) := by decide +kernel
theorem dX3_freeName_37 : decode cX3_freeName 37 = .ok (.invokestatic 102, 3) := by decide +kernel
theorem dX3_freeName_40 : decode cX3_freeName 40 = .ok (.iconst (-1), 1) := by decide +kernel
theorem dX3_freeName_41 : decode cX3_freeName 41 = .ok (.if_icmp .ne 7, 3) := by decide +kernel
theorem dX3_freeName_48 : decode cX3_freeName 48 = .ok (.iconst 0, 1) := by decide +kernel
theorem dX3_freeName_49 : decode cX3_freeName 49 = .ok (.istore 4, 2) := by decide +kernel
theorem dX3_freeName_51 : decode cX3_freeName 51 = .ok (.iload 4, 2) := by decide +kernel
theorem dX3_freeName_53 : decode cX3_freeName 53 = .ok (.ifCond .eq 7, 3) := by decide +kernel
theorem dX3_freeName_60 : decode cX3_freeName 60 = .ok (.aconst_null, 1) := by decide +kernel
theorem dX3_freeName_61 : decode cX3_freeName 61 = .ok (.areturn, 1) := by decide +kernel
theorem dX3_freeName_44 : decode cX3_freeName 44 = .ok (.iconst 1, 1) := by decide +kernel
theorem dX3_freeName_45 : decode cX3_freeName 45 = .ok (.goto 4, 3) := by decide +kernel
theorem dX3_freeName_56 : decode cX3_freeName 56 = .ok (.aload_n 3, 1) := by decide +kernel
theorem dX3_freeName_57 : decode cX3_freeName 57 = .ok (.goto 4, 3) := by decide +kernel
theorem dX3_freeName_10 : decode cX3_freeName 10 = .ok (.aload_n 2, 1) := by decide +kernel
theorem dX3_freeName_11 : decode cX3_freeName 11 = .ok (.areturn, 1) := by decide +kernel
theorem dX3_newColumns_0 : decode cX3_newColumns 0 = .ok (.aload_n 0, 1) := by decide +kernel
theorem dX3_newColumns_1 : decode cX3_newColumns 1 = .ok (.getfield 9, 3) := by decide +kernel
theorem dX3_newColumns_4 : decode cX3_newColumns 4 = .ok (.getfield 68, 3) := by decide +kernel
theorem dX3_newColumns_7 : decode cX3_newColumns 7 = .ok (.getfield 72, 3) := by decide +kernel
theorem dX3_newColumns_10 : decode cX3_newColumns 10 = .ok (.arraylength, 1) := by decide +kernel
theorem dX3_newColumns_11 : decode cX3_newColumns 11 = .ok (.istore_n 1, 1) := by decide +kernel
theorem dX3_newColumns_12 : decode cX3_newColumns 12 = .ok (.iload_n 1, 1) := by decide +kernel
theorem dX3_newColumns_13 : decode cX3_newColumns 13 = .ok (.aload_n 0, 1) := by decide +kernel
theorem dX3_newColumns_14 : decode cX3_newColumns 14 = .ok (.getfield 15, 3) := by decide +kernel
theorem dX3_newColumns_17 : decode cX3_newColumns 17 = .ok (.getfield 68, 3) := by decide +kernel
theorem dX3_newColumns_20 : decode cX3_newColumns 20 = .ok (.getfield 72, 3) := by decide +kernel
theorem dX3_newColumns_23 : decode cX3_newColumns 23 = .ok (.arraylength, 1) := by decide +kernel
theorem dX3_newColumns_24 : decode cX3_newColumns 24 = .ok (.iadd, 1) := by decide +kernel
theorem dX3_newColumns_25 : decode cX3_newColumns 25 = .ok (.iconst 1, 1) := by decide +kernel
theorem dX3_newColumns_26 : decode cX3_newColumns 26 = .ok (.isub, 1) := by decide +kernel
theorem dX3_newColumns_27 : decode cX3_newColumns 27 = .ok (.istore_n 2, 1) := by decide +kernel
theorem dX3_newColumns_28 : decode cX3_newColumns 28 = .ok (.iload_n 2, 1) := by decide +kernel
theorem dX3_newColumns_29 : decode cX3_newColumns 29 = .ok (.bipush 8, 2) := by decide +kernel
theorem dX3_newColumns_31 : decode cX3_newColumns 31 = .ok (.if_icmp .le 5, 3) := by decide +kernel
theorem dX3_newColumns_36 : decode cX3_newColumns 36 = .ok (.iload_n 2, 1) := by decide +kernel
theorem dX3_newColumns_37 : decode cX3_newColumns 37 = .ok (.anewarray 86, 3) := by decide +kernel
theorem mw_842 : Cond.classLink RX3 86 RX1 ∈ wsL_law := lrk_36 _ (List.mem_of_getElem? (i := 2) rfl)
theorem dX3_newColumns_40 : decode cX3_newColumns 40 = .ok (.astore_n 3, 1) := by decide +kernel
theorem dX3_newColumns_41 : decode cX3_newColumns 41 = .ok (.iconst 0, 1) := by decide +kernel
theorem dX3_newColumns_42 : decode cX3_newColumns 42 = .ok (.istore 4, 2) := by decide +kernel
theorem dX3_newColumns_44 : decode cX3_newColumns 44 = .ok (.iload 4, 2) := by decide +kernel
theorem dX3_newColumns_46 : decode cX3_newColumns 46 = .ok (.iload_n 1, 1) := by decide +kernel
theorem dX3_newColumns_47 : decode cX3_newColumns 47 = .ok (.if_icmp .ge 26, 3) := by decide +kernel
theorem dX3_newColumns_73 : decode cX3_newColumns 73 = .ok (.iload_n 1, 1) := by decide +kernel
theorem dX3_newColumns_74 : decode cX3_newColumns 74 = .ok (.istore 4, 2) := by decide +kernel
theorem dX3_newColumns_76 : decode cX3_newColumns 76 = .ok (.iload 4, 2) := by decide +kernel
theorem dX3_newColumns_78 : decode cX3_newColumns 78 = .ok (.iload_n 2, 1) := by decide +kernel
theorem dX3_newColumns_79 : decode cX3_newColumns 79 = .ok (.if_icmp .ge 68, 3) := by decide +kernel
theorem dX3_newColumns_147 : decode cX3_newColumns 147 = .ok (.aload_n 3, 1) := by decide +kernel
theorem dX3_newColumns_148 : decode cX3_newColumns 148 = .ok (.areturn, 1) := by decide +kernel
theorem dX3_newColumns_82 : decode cX3_newColumns 82 = .ok (.aload_n 0, 1) := by decide +kernel
theorem dX3_newColumns_83 : decode cX3_newColumns 83 = .ok (.getfield 15, 3) := by decide +kernel
theorem dX3_newColumns_86 : decode cX3_newColumns 86 = .ok (.getfield 68, 3) := by decide +kernel
theorem dX3_newColumns_89 : decode cX3_newColumns 89 = .ok (.getfield 72, 3) := by decide +kernel
theorem dX3_newColumns_92 : decode cX3_newColumns 92 = .ok (.aload_n 0, 1) := by decide +kernel
theorem dX3_newColumns_93 : decode cX3_newColumns 93 = .ok (.iload 4, 2) := by decide +kernel
theorem dX3_newColumns_95 : decode cX3_newColumns 95 = .ok (.iload_n 1, 1) := by decide +kernel
theorem dX3_newColumns_96 : decode cX3_newColumns 96 = .ok (.isub, 1) := by decide +kernel
theorem dX3_newColumns_97 : decode cX3_newColumns 97 = .ok (.invokevirtual 79, 3) := by decide +kernel
theorem dX3_newColumns_100 : decode cX3_newColumns 100 = .ok (.aaload, 1) := by decide +kernel
theorem dX3_newColumns_101 : decode cX3_newColumns 101 = .ok (.astore 5, 2) := by decide +kernel
theorem dX3_newColumns_103 : decode cX3_newColumns 103 = .ok (.aload_n 3, 1) := by decide +kernel
theorem dX3_newColumns_104 : decode cX3_newColumns 104 = .ok (.iload 4, 2) := by decide +kernel
theorem dX3_newColumns_106 : decode cX3_newColumns 106 = .ok (.aload 5, 2) := by decide +kernel
theorem dX3_newColumns_108 : decode cX3_newColumns 108 = .ok (.getfield 88, 3) := by decide +kernel
theorem mw_843 : Cond.fieldLink RX3 88 "TypedTables$Column" "name" "[B" ∈ wsL_law := lrk_36 _ (List.mem_of_getElem? (i := 3) rfl)
theorem dX3_newColumns_111 : decode cX3_newColumns 111 = .ok (.invokestatic 92, 3) := by decide +kernel
theorem mw_852 : Cond.code yX3_freeName cX3_freeName 5 (some (.array .byte)) ∈ wsL_law := lrk_36 _ (List.mem_of_getElem? (i := 12) rfl)
theorem mw_850 : Cond.methodLink RX3 92 yX3_freeName ∈ wsL_law := lrk_36 _ (List.mem_of_getElem? (i := 10) rfl)
theorem mw_851 : Cond.static yX3_freeName ∈ wsL_law := lrk_36 _ (List.mem_of_getElem? (i := 11) rfl)
theorem gS_X3_92 : GoodIn wsL_law (va_wsS RX3 92 yX3_freeName (wl yX3_freeName cX3_freeName 5 (some (.array .byte)))) := g_S mw_850 mw_851 mw_787 mw_852
theorem hdS_X3_freeName : okD yX3_freeName 3 := by decide +kernel
theorem dX3_newColumns_114 : decode cX3_newColumns 114 = .ok (.astore 6, 2) := by decide +kernel
theorem dX3_newColumns_116 : decode cX3_newColumns 116 = .ok (.aload 6, 2) := by decide +kernel
theorem dX3_newColumns_118 : decode cX3_newColumns 118 = .ok (.ifnonnull 5, 3) := by decide +kernel
theorem dX3_newColumns_121 : decode cX3_newColumns 121 = .ok (.aconst_null, 1) := by decide +kernel
theorem dX3_newColumns_122 : decode cX3_newColumns 122 = .ok (.areturn, 1) := by decide +kernel
theorem dX3_newColumns_123 : decode cX3_newColumns 123 = .ok (.aload_n 3, 1) := by decide +kernel
theorem dX3_newColumns_124 : decode cX3_newColumns 124 = .ok (.iload 4, 2) := by decide +kernel
theorem dX3_newColumns_126 : decode cX3_newColumns 126 = .ok (.new 86, 3) := by decide +kernel
theorem dX3_newColumns_129 : decode cX3_newColumns 129 = .ok (.dup, 1) := by decide +kernel
theorem dX3_newColumns_130 : decode cX3_newColumns 130 = .ok (.aload 6, 2) := by decide +kernel
theorem dX3_newColumns_132 : decode cX3_newColumns 132 = .ok (.aload 5, 2) := by decide +kernel
theorem dX3_newColumns_134 : decode cX3_newColumns 134 = .ok (.getfield 96, 3) := by decide +kernel
theorem mw_844 : Cond.fieldLink RX3 96 "TypedTables$Column" "told" "I" ∈ wsL_law := lrk_36 _ (List.mem_of_getElem? (i := 4) rfl)
theorem dX3_newColumns_137 : decode cX3_newColumns 137 = .ok (.invokespecial 99, 3) := by decide +kernel
theorem mw_856 : Cond.methodLink RX3 99 yX1_init ∈ wsL_law := lrk_36 _ (List.mem_of_getElem? (i := 16) rfl)
theorem dX3_newColumns_140 : decode cX3_newColumns 140 = .ok (.aastore, 1) := by decide +kernel
theorem dX3_newColumns_141 : decode cX3_newColumns 141 = .ok (.iinc 4 1, 3) := by decide +kernel
theorem dX3_newColumns_144 : decode cX3_newColumns 144 = .ok (.goto (-68), 3) := by decide +kernel
theorem dX3_newColumns_50 : decode cX3_newColumns 50 = .ok (.aload_n 3, 1) := by decide +kernel
theorem dX3_newColumns_51 : decode cX3_newColumns 51 = .ok (.iload 4, 2) := by decide +kernel
theorem dX3_newColumns_53 : decode cX3_newColumns 53 = .ok (.aload_n 0, 1) := by decide +kernel
theorem dX3_newColumns_54 : decode cX3_newColumns 54 = .ok (.getfield 9, 3) := by decide +kernel
theorem dX3_newColumns_57 : decode cX3_newColumns 57 = .ok (.getfield 68, 3) := by decide +kernel
theorem dX3_newColumns_60 : decode cX3_newColumns 60 = .ok (.getfield 72, 3) := by decide +kernel
theorem dX3_newColumns_63 : decode cX3_newColumns 63 = .ok (.iload 4, 2) := by decide +kernel
theorem dX3_newColumns_65 : decode cX3_newColumns 65 = .ok (.aaload, 1) := by decide +kernel
theorem dX3_newColumns_66 : decode cX3_newColumns 66 = .ok (.aastore, 1) := by decide +kernel
theorem dX3_newColumns_67 : decode cX3_newColumns 67 = .ok (.iinc 4 1, 3) := by decide +kernel
theorem dX3_newColumns_70 : decode cX3_newColumns 70 = .ok (.goto (-26), 3) := by decide +kernel
theorem dX3_newColumns_34 : decode cX3_newColumns 34 = .ok (.aconst_null, 1) := by decide +kernel
theorem dX3_newColumns_35 : decode cX3_newColumns 35 = .ok (.areturn, 1) := by decide +kernel
theorem dX3_newSheet_0 : decode cX3_newSheet 0 = .ok (.aload_n 0, 1) := by decide +kernel
theorem dX3_newSheet_1 : decode cX3_newSheet 1 = .ok (.getfield 28, 3) := by decide +kernel
theorem dX3_newSheet_4 : decode cX3_newSheet 4 = .ok (.iconst (-1), 1) := by decide +kernel
theorem dX3_newSheet_5 : decode cX3_newSheet 5 = .ok (.if_icmp .ne 7, 3) := by decide +kernel
theorem dX3_newSheet_12 : decode cX3_newSheet 12 = .ok (.aload_n 0, 1) := by decide +kernel
theorem dX3_newSheet_13 : decode cX3_newSheet 13 = .ok (.invokevirtual 51, 3) := by decide +kernel
theorem mw_839 : Cond.code yX3_newColumns cX3_newColumns 7 (some (.array (.object "TypedTables$Column"))) ∈ wsL_law := lrk_35 _ (List.mem_of_getElem? (i := 23) rfl)
theorem mw_836 : Cond.methodLink RX3 51 yX3_newColumns ∈ wsL_law := lrk_35 _ (List.mem_of_getElem? (i := 20) rfl)
theorem mw_837 : Cond.instanceMethod yX3_newColumns ∈ wsL_law := lrk_35 _ (List.mem_of_getElem? (i := 21) rfl)
theorem mw_838 : Cond.selects RX3 yX3_newColumns yX3_newColumns ∈ wsL_law := lrk_35 _ (List.mem_of_getElem? (i := 22) rfl)
theorem gV_X3_51 : GoodIn wsL_law (wsV RX3 51 RX3 yX3_newColumns (wl yX3_newColumns cX3_newColumns 7 (some (.array (.object "TypedTables$Column"))))) := g_V mw_836 mw_837 mw_838 mw_787 mw_839
theorem hdV_X3_newColumns : yX3_newColumns.cls = RX3 ∧ okD yX3_newColumns 0 := by decide +kernel
theorem dX3_newSheet_16 : decode cX3_newSheet 16 = .ok (.astore_n 1, 1) := by decide +kernel
theorem dX3_newSheet_17 : decode cX3_newSheet 17 = .ok (.aload_n 1, 1) := by decide +kernel
theorem dX3_newSheet_18 : decode cX3_newSheet 18 = .ok (.ifnonnull 7, 3) := by decide +kernel
theorem dX3_newSheet_21 : decode cX3_newSheet 21 = .ok (.iconst 0, 1) := by decide +kernel
theorem dX3_newSheet_22 : decode cX3_newSheet 22 = .ok (.goto 7, 3) := by decide +kernel
theorem dX3_newSheet_29 : decode cX3_newSheet 29 = .ok (.istore_n 2, 1) := by decide +kernel
theorem dX3_newSheet_30 : decode cX3_newSheet 30 = .ok (.aload_n 1, 1) := by decide +kernel
theorem dX3_newSheet_31 : decode cX3_newSheet 31 = .ok (.ifnull 9, 3) := by decide +kernel
theorem dX3_newSheet_40 : decode cX3_newSheet 40 = .ok (.aconst_null, 1) := by decide +kernel
theorem dX3_newSheet_41 : decode cX3_newSheet 41 = .ok (.areturn, 1) := by decide +kernel
theorem dX3_newSheet_25 : decode cX3_newSheet 25 = .ok (.aload_n 0, 1) := by decide +kernel
theorem dX3_newSheet_26 : decode cX3_newSheet 26 = .ok (.invokevirtual 55, 3) := by decide +kernel
theorem mw_860 : Cond.code yX3_countPairs cX3_countPairs 4 (some .int) ∈ wsL_law := lrk_36 _ (List.mem_of_getElem? (i := 20) rfl)
theorem mw_857 : Cond.methodLink RX3 55 yX3_countPairs ∈ wsL_law := lrk_36 _ (List.mem_of_getElem? (i := 17) rfl)
theorem mw_858 : Cond.instanceMethod yX3_countPairs ∈ wsL_law := lrk_36 _ (List.mem_of_getElem? (i := 18) rfl)
theorem mw_859 : Cond.selects RX3 yX3_countPairs yX3_countPairs ∈ wsL_law := lrk_36 _ (List.mem_of_getElem? (i := 19) rfl)
theorem gV_X3_55 : GoodIn wsL_law (wsV RX3 55 RX3 yX3_countPairs (wl yX3_countPairs cX3_countPairs 4 (some .int))) := g_V mw_857 mw_858 mw_859 mw_787 mw_860
theorem hdV_X3_countPairs : yX3_countPairs.cls = RX3 ∧ okD yX3_countPairs 0 := by decide +kernel
theorem dX3_newSheet_34 : decode cX3_newSheet 34 = .ok (.iload_n 2, 1) := by decide +kernel
theorem dX3_newSheet_35 : decode cX3_newSheet 35 = .ok (.bipush 40, 2) := by decide +kernel
theorem dX3_newSheet_37 : decode cX3_newSheet 37 = .ok (.if_icmp .le 5, 3) := by decide +kernel
theorem dX3_newSheet_42 : decode cX3_newSheet 42 = .ok (.iload_n 2, 1) := by decide +kernel
theorem dX3_newSheet_43 : decode cX3_newSheet 43 = .ok (.aload_n 1, 1) := by decide +kernel
theorem dX3_newSheet_44 : decode cX3_newSheet 44 = .ok (.arraylength, 1) := by decide +kernel
theorem dX3_newSheet_45 : decode cX3_newSheet 45 = .ok (.imul, 1) := by decide +kernel
theorem dX3_newSheet_46 : decode cX3_newSheet 46 = .ok (.anewarray 34, 3) := by decide +kernel
theorem mw_833 : Cond.classLink RX3 34 RX0 ∈ wsL_law := lrk_35 _ (List.mem_of_getElem? (i := 17) rfl)
theorem dX3_newSheet_49 : decode cX3_newSheet 49 = .ok (.astore_n 3, 1) := by decide +kernel
theorem dX3_newSheet_50 : decode cX3_newSheet 50 = .ok (.iconst 0, 1) := by decide +kernel
theorem dX3_newSheet_51 : decode cX3_newSheet 51 = .ok (.istore 4, 2) := by decide +kernel
theorem dX3_newSheet_53 : decode cX3_newSheet 53 = .ok (.iconst 0, 1) := by decide +kernel
theorem dX3_newSheet_54 : decode cX3_newSheet 54 = .ok (.istore 5, 2) := by decide +kernel
theorem dX3_newSheet_56 : decode cX3_newSheet 56 = .ok (.iload 5, 2) := by decide +kernel
theorem dX3_newSheet_58 : decode cX3_newSheet 58 = .ok (.aload_n 0, 1) := by decide +kernel
theorem dX3_newSheet_59 : decode cX3_newSheet 59 = .ok (.getfield 9, 3) := by decide +kernel
theorem dX3_newSheet_62 : decode cX3_newSheet 62 = .ok (.getfield 43, 3) := by decide +kernel
theorem dX3_newSheet_65 : decode cX3_newSheet 65 = .ok (.arraylength, 1) := by decide +kernel
theorem dX3_newSheet_66 : decode cX3_newSheet 66 = .ok (.if_icmp .ge 97, 3) := by decide +kernel
theorem dX3_newSheet_163 : decode cX3_newSheet 163 = .ok (.new 63, 3) := by decide +kernel
theorem mw_835 : Cond.classLink RX3 63 RX5 ∈ wsL_law := lrk_35 _ (List.mem_of_getElem? (i := 19) rfl)
theorem dX3_newSheet_166 : decode cX3_newSheet 166 = .ok (.dup, 1) := by decide +kernel
theorem dX3_newSheet_167 : decode cX3_newSheet 167 = .ok (.aload_n 1, 1) := by decide +kernel
theorem dX3_newSheet_168 : decode cX3_newSheet 168 = .ok (.aload_n 3, 1) := by decide +kernel
theorem dX3_newSheet_169 : decode cX3_newSheet 169 = .ok (.iload_n 2, 1) := by decide +kernel
theorem dX3_newSheet_170 : decode cX3_newSheet 170 = .ok (.invokespecial 65, 3) := by decide +kernel
theorem mw_901 : Cond.methodLink RX3 65 yX5_init ∈ wsL_law := lrk_38 _ (List.mem_of_getElem? (i := 13) rfl)
theorem dX3_newSheet_173 : decode cX3_newSheet 173 = .ok (.areturn, 1) := by decide +kernel
theorem dX3_newSheet_69 : decode cX3_newSheet 69 = .ok (.iconst 0, 1) := by decide +kernel
theorem dX3_newSheet_70 : decode cX3_newSheet 70 = .ok (.istore 6, 2) := by decide +kernel
theorem dX3_newSheet_72 : decode cX3_newSheet 72 = .ok (.iload 6, 2) := by decide +kernel
theorem dX3_newSheet_74 : decode cX3_newSheet 74 = .ok (.aload_n 0, 1) := by decide +kernel
theorem dX3_newSheet_75 : decode cX3_newSheet 75 = .ok (.getfield 15, 3) := by decide +kernel
theorem dX3_newSheet_78 : decode cX3_newSheet 78 = .ok (.getfield 43, 3) := by decide +kernel
theorem dX3_newSheet_81 : decode cX3_newSheet 81 = .ok (.arraylength, 1) := by decide +kernel
theorem dX3_newSheet_82 : decode cX3_newSheet 82 = .ok (.if_icmp .ge 75, 3) := by decide +kernel
theorem dX3_newSheet_157 : decode cX3_newSheet 157 = .ok (.iinc 5 1, 3) := by decide +kernel
theorem dX3_newSheet_160 : decode cX3_newSheet 160 = .ok (.goto (-104), 3) := by decide +kernel
theorem dX3_newSheet_85 : decode cX3_newSheet 85 = .ok (.iload 4, 2) := by decide +kernel
theorem dX3_newSheet_87 : decode cX3_newSheet 87 = .ok (.iload_n 2, 1) := by decide +kernel
theorem dX3_newSheet_88 : decode cX3_newSheet 88 = .ok (.if_icmp .ge 63, 3) := by decide +kernel
theorem dX3_newSheet_151 : decode cX3_newSheet 151 = .ok (.iinc 6 1, 3) := by decide +kernel
theorem dX3_newSheet_154 : decode cX3_newSheet 154 = .ok (.goto (-82), 3) := by decide +kernel
theorem dX3_newSheet_91 : decode cX3_newSheet 91 = .ok (.aload_n 0, 1) := by decide +kernel
theorem dX3_newSheet_92 : decode cX3_newSheet 92 = .ok (.aload_n 0, 1) := by decide +kernel
theorem dX3_newSheet_93 : decode cX3_newSheet 93 = .ok (.getfield 9, 3) := by decide +kernel
theorem dX3_newSheet_96 : decode cX3_newSheet 96 = .ok (.getfield 43, 3) := by decide +kernel
theorem dX3_newSheet_99 : decode cX3_newSheet 99 = .ok (.iload 5, 2) := by decide +kernel
theorem dX3_newSheet_101 : decode cX3_newSheet 101 = .ok (.iaload, 1) := by decide +kernel
theorem dX3_newSheet_102 : decode cX3_newSheet 102 = .ok (.aload_n 0, 1) := by decide +kernel
theorem dX3_newSheet_103 : decode cX3_newSheet 103 = .ok (.getfield 15, 3) := by decide +kernel
theorem dX3_newSheet_106 : decode cX3_newSheet 106 = .ok (.getfield 43, 3) := by decide +kernel
theorem dX3_newSheet_109 : decode cX3_newSheet 109 = .ok (.iload 6, 2) := by decide +kernel
theorem dX3_newSheet_111 : decode cX3_newSheet 111 = .ok (.iaload, 1) := by decide +kernel
theorem dX3_newSheet_112 : decode cX3_newSheet 112 = .ok (.invokevirtual 47, 3) := by decide +kernel
theorem dX3_newSheet_115 : decode cX3_newSheet 115 = .ok (.ifCond .eq 36, 3) := by decide +kernel
theorem dX3_newSheet_118 : decode cX3_newSheet 118 = .ok (.aload_n 0, 1) := by decide +kernel
theorem dX3_newSheet_119 : decode cX3_newSheet 119 = .ok (.aload_n 3, 1) := by decide +kernel
theorem dX3_newSheet_120 : decode cX3_newSheet 120 = .ok (.iload 4, 2) := by decide +kernel
theorem dX3_newSheet_122 : decode cX3_newSheet 122 = .ok (.aload_n 1, 1) := by decide +kernel
theorem dX3_newSheet_123 : decode cX3_newSheet 123 = .ok (.arraylength, 1) := by decide +kernel
theorem dX3_newSheet_124 : decode cX3_newSheet 124 = .ok (.imul, 1) := by decide +kernel
theorem dX3_newSheet_125 : decode cX3_newSheet 125 = .ok (.aload_n 0, 1) := by decide +kernel
theorem dX3_newSheet_126 : decode cX3_newSheet 126 = .ok (.getfield 9, 3) := by decide +kernel
theorem dX3_newSheet_129 : decode cX3_newSheet 129 = .ok (.getfield 43, 3) := by decide +kernel
theorem dX3_newSheet_132 : decode cX3_newSheet 132 = .ok (.iload 5, 2) := by decide +kernel
theorem dX3_newSheet_134 : decode cX3_newSheet 134 = .ok (.iaload, 1) := by decide +kernel
theorem dX3_newSheet_135 : decode cX3_newSheet 135 = .ok (.aload_n 0, 1) := by decide +kernel
theorem dX3_newSheet_136 : decode cX3_newSheet 136 = .ok (.getfield 15, 3) := by decide +kernel
theorem dX3_newSheet_139 : decode cX3_newSheet 139 = .ok (.getfield 43, 3) := by decide +kernel
theorem dX3_newSheet_142 : decode cX3_newSheet 142 = .ok (.iload 6, 2) := by decide +kernel
theorem dX3_newSheet_144 : decode cX3_newSheet 144 = .ok (.iaload, 1) := by decide +kernel
theorem dX3_newSheet_145 : decode cX3_newSheet 145 = .ok (.invokevirtual 59, 3) := by decide +kernel
theorem mw_899 : Cond.code yX3_fillRow cX3_fillRow 7 none ∈ wsL_law := lrk_38 _ (List.mem_of_getElem? (i := 11) rfl)
theorem mw_896 : Cond.methodLink RX3 59 yX3_fillRow ∈ wsL_law := lrk_38 _ (List.mem_of_getElem? (i := 8) rfl)
theorem mw_897 : Cond.instanceMethod yX3_fillRow ∈ wsL_law := lrk_38 _ (List.mem_of_getElem? (i := 9) rfl)
theorem mw_898 : Cond.selects RX3 yX3_fillRow yX3_fillRow ∈ wsL_law := lrk_38 _ (List.mem_of_getElem? (i := 10) rfl)
theorem gV_X3_59 : GoodIn wsL_law (wsV RX3 59 RX3 yX3_fillRow (wl yX3_fillRow cX3_fillRow 7 none)) := g_V mw_896 mw_897 mw_898 mw_787 mw_899
theorem hdV_X3_fillRow : yX3_fillRow.cls = RX3 ∧ okD yX3_fillRow 4 := by decide +kernel
theorem dX3_newSheet_148 : decode cX3_newSheet 148 = .ok (.iinc 4 1, 3) := by decide +kernel
theorem dX3_newSheet_8 : decode cX3_newSheet 8 = .ok (.aconst_null, 1) := by decide +kernel
theorem dX3_newSheet_9 : decode cX3_newSheet 9 = .ok (.goto 7, 3) := by decide +kernel
set_option maxHeartbeats 4000000 in
set_option maxRecDepth 100000 in
theorem c_X5_cellOf_G (l : Launch) (D : va_G) (κ : Nat → ClassId) (κq : Nat → Nat) (im : va_W) (S : Nat) (c9a : Nat) (x9a : Nat) (R : Nat) (v : Nat) (w : Nat) (g : Nat → Option Nat) (h : Nat → Option Nat) (r9 : Nat) (c9 : Nat) (cf : Nat → CT) (hlf : LcF κ im h (R * w) cf) (hr9 : r9 < R) (hc9 : c9 < w) (hR4 : R ≤ 40) (hw8 : w ≤ 8) : Er l yX5_cellOf (wl yX5_cellOf cX5_cellOf 3 (some (.object "TypedTables$Cell"))) { frames := 0, cells := 0, slots := 0, locals := 0 } D κ κq [.ref S, .int (nI r9), .int (nI c9)] ([(S, .inr (5, [.ref c9a, .ref x9a, .int (nI R), .ref v])), (c9a, .inl (κ 3, w, .inr (.inr (.inr (.inr g))))), (x9a, .inl (κ 2, R * w, .inr (.inr (.inr (.inr h)))))] ++ im) (fun r : Option Nat => some (va_rf r)) (fun r : Option Nat => ((∃ (pz : Nat), ∃ (bz : Nat), ∃ (kz : Nat), ∃ (mz : Nat), ∃ (xz : Int64), ∃ (fz : Nat → Int32), r = some pz ∧ Cf κ im pz bz kz mz xz fz ∧ cf (r9 * w + c9) = (pz, bz, kz, mz, xz, fz)))) := by
  refine er_of (by decide +kernel) (Nat.le_of_ble_eq_true rfl) ?_
  intro p e s m args below meth c A ls hx hb hr hml hts hown hlk hKK hK hP hE hl
  have hS : va_S A s.heap s.heap [] := va_S.rf
  have hP : va_P D vwCl ([(S, .inr (5, [.ref c9a, .ref x9a, .int (nI R), .ref v])), (c9a, .inl (κ 3, w, .inr (.inr (.inr (.inr g))))), (x9a, .inl (κ 2, R * w, .inr (.inr (.inr (.inr h)))))] ++ im) s.heap := hP
  have hFX : FX p s m args c cX5_cellOf 3 RX5 := ⟨hx, hb, hml, hown, hts⟩
  have hl : lv_has ls 3 [(0, .ref S), (1, .int (nI r9)), (2, .int (nI c9))] := hl
  have hrw9 := rw_le hR4 hw8
  refine lv_aload_n hx hb dX5_cellOf_0 rfl (lv_at hl 0 rfl) ?_
  refine va_get (D := D) (ci := 5) (v := .ref x9a) (C := RX5) (T := TX5) (N := 4) hx hb hts inlX5 hown hK hP 0 rfl rfl 1 (by decide) (hts _ mw_383) (fun _ h9 => h9) rfl dX5_cellOf_1 ?_
  refine lv_iload_n hx hb dX5_cellOf_4 rfl (lv_at hl 1 rfl) ?_
  refine lv_aload_n hx hb dX5_cellOf_5 rfl (lv_at hl 0 rfl) ?_
  refine va_get (D := D) (ci := 5) (v := .ref c9a) (C := RX5) (T := TX5) (N := 4) hx hb hts inlX5 hown hK hP 0 rfl rfl 0 (by decide) (hts _ mw_382) (fun _ h9 => h9) rfl dX5_cellOf_6 ?_
  refine va_alen hx hb hK hP 1 3 rfl rfl (v := nI w) rfl dX5_cellOf_9 ?_
  refine lv_imul hx hb dX5_cellOf_10 ?_
  refine ki (v := (nI (r9 * w))) (pk_mul r9 w) ?_
  refine lv_iload_n hx hb dX5_cellOf_11 rfl (lv_at hl 2 rfl) ?_
  refine lv_iadd hx hb dX5_cellOf_12 ?_
  refine ki (v := (nI (r9 * w + c9))) (nI_add (r9 * w) c9) ?_
  refine va_aldq hx hb hK hP 2 2 rfl rfl (i := nI (r9 * w + c9)) (vp_in_nI (n := r9 * w + c9) (ix_lt hr9 hc9) (by omega)) dX5_cellOf_13 ?_
  obtain ⟨pz_1, bz_2, kz_3, mz_4, xz_5, fz_6, ec_7, eq_8, h_9⟩ := hlf (r9 * w + c9) (ix_lt hr9 hc9)
  refine kv (v := .ref pz_1) (by rw [nI_clamp (by have q9 := ix_lt hr9 hc9; omega)]; rw [eq_8]; rfl) ?_
  exact cr_aret hx hb hr (by first | exact Or.inl ⟨_, rfl⟩ | exact Or.inr ⟨_, rfl⟩) hlk (by first | exact Or.inl rfl | exact Or.inr ⟨_, rfl⟩) (some pz_1) rfl (by exact ⟨pz_1, bz_2, kz_3, mz_4, xz_5, fz_6, rfl, (show Cf κ im pz_1 bz_2 kz_3 mz_4 xz_5 fz_6 from h_9), (show cf (r9 * w + c9) = (pz_1, bz_2, kz_3, mz_4, xz_5, fz_6) from (by first | assumption | omega | rfl | exact Or.inl (by assumption) | exact Or.inr (by assumption)))⟩) dX5_cellOf_14
set_option maxHeartbeats 4000000 in
set_option maxRecDepth 100000 in
theorem c_X7_cellOf_G (l : Launch) (D : va_G) (κ : Nat → ClassId) (κq : Nat → Nat) (im : va_W) (q : Nat) (S : Nat) (c9a : Nat) (x9a : Nat) (R : Nat) (v : Nat) (w : Nat) (g : Nat → Option Nat) (h : Nat → Option Nat) (co : Nat) (ra : Nat) (ty : Nat) (r9 : Nat) (cf : Nat → CT) (hlf : LcF κ im h (R * w) cf) (hr9 : r9 < R) (hco : co < w) (hR4 : R ≤ 40) (hw8 : w ≤ 8) : Er l yX7_cellOf (wl yX7_cellOf cX7_cellOf 2 (some (.object "TypedTables$Cell"))) { frames := 1, cells := 0, slots := 0, locals := 22 } D κ κq [.ref q, .int (nI r9)] ([(q, .inr (7, [.ref S, .int (nI co), .ref ra, .int (nI ty)])), (S, .inr (5, [.ref c9a, .ref x9a, .int (nI R), .ref v])), (c9a, .inl (κ 3, w, .inr (.inr (.inr (.inr g))))), (x9a, .inl (κ 2, R * w, .inr (.inr (.inr (.inr h)))))] ++ im) (fun r : Option Nat => some (va_rf r)) (fun r : Option Nat => ((∃ (pz : Nat), ∃ (bz : Nat), ∃ (kz : Nat), ∃ (mz : Nat), ∃ (xz : Int64), ∃ (fz : Nat → Int32), r = some pz ∧ Cf κ im pz bz kz mz xz fz ∧ cf (r9 * w + co) = (pz, bz, kz, mz, xz, fz)))) := by
  refine er_of (by decide +kernel) (Nat.le_of_ble_eq_true rfl) ?_
  intro p e s m args below meth c A ls hx hb hr hml hts hown hlk hKK hK hP hE hl
  have hS : va_S A s.heap s.heap [] := va_S.rf
  have hP : va_P D vwCl ([(q, .inr (7, [.ref S, .int (nI co), .ref ra, .int (nI ty)])), (S, .inr (5, [.ref c9a, .ref x9a, .int (nI R), .ref v])), (c9a, .inl (κ 3, w, .inr (.inr (.inr (.inr g))))), (x9a, .inl (κ 2, R * w, .inr (.inr (.inr (.inr h)))))] ++ im) s.heap := hP
  have hFX : FX p s m args c cX7_cellOf 2 RX7 := ⟨hx, hb, hml, hown, hts⟩
  have hl : lv_has ls 2 [(0, .ref q), (1, .int (nI r9))] := hl
  refine lv_aload_n hx hb dX7_cellOf_0 rfl (lv_at hl 0 rfl) ?_
  refine va_get (D := D) (ci := 7) (v := .ref S) (C := RX7) (T := TX7) (N := 4) hx hb hts inlX7 hown hK hP 0 rfl rfl 0 (by decide) (hts _ mw_806) (fun _ h9 => h9) rfl dX7_cellOf_1 ?_
  refine lv_iload_n hx hb dX7_cellOf_4 rfl (lv_at hl 1 rfl) ?_
  refine lv_aload_n hx hb dX7_cellOf_5 rfl (lv_at hl 0 rfl) ?_
  refine va_get (D := D) (ci := 7) (v := .int (nI co)) (C := RX7) (T := TX7) (N := 4) hx hb hts inlX7 hown hK hP 0 rfl rfl 1 (by decide) (hts _ mw_807) (fun _ h9 => h9) rfl dX7_cellOf_6 ?_
  refine er_V (As := [.int (nI r9), .int (nI co)]) (rest := []) hFX hKK hE hS (c_X5_cellOf_G l D κ κq im S c9a x9a R v w g h r9 co cf hlf (by omega) (by omega) (by omega) (by omega)) 2 gV_X7_32 hdV_X5_cellOf rfl rfl ⟨Nat.le_of_ble_eq_true rfl, Nat.le_of_ble_eq_true rfl⟩ rfl rfl (Nat.le_of_ble_eq_true rfl) dX7_cellOf_9 ⟨Nat.le_of_ble_eq_true rfl, Nat.le_of_ble_eq_true rfl⟩ hl.1 hP 1 5 rfl rfl rfl (subP hP [1, 2, 3] rfl) (fun r__1 hp_2 => ?_)
  replace hp_2 : ((∃ (pz : Nat), ∃ (bz : Nat), ∃ (kz : Nat), ∃ (mz : Nat), ∃ (xz : Int64), ∃ (fz : Nat → Int32), r__1 = some pz ∧ Cf κ im pz bz kz mz xz fz ∧ cf (r9 * w + co) = (pz, bz, kz, mz, xz, fz))) := hp_2
  have ha_3 := hp_2
  clear hp_2
  rcases ha_3 with ⟨pz__4, bz__5, kz__6, mz__7, xz__8, fz__9, rfl, a_10, a_11⟩
  · refine W.eq (g2 := F0 m 12 ls [.ref pz__4]) rfl ?_
    exact cr_aret hx hb hr (by first | exact Or.inl ⟨_, rfl⟩ | exact Or.inr ⟨_, rfl⟩) hlk (by first | exact Or.inl rfl | exact Or.inr ⟨_, rfl⟩) (some pz__4) rfl (by exact ⟨pz__4, bz__5, kz__6, mz__7, xz__8, fz__9, rfl, (show Cf κ im pz__4 bz__5 kz__6 mz__7 xz__8 fz__9 from a_10), (show cf (r9 * w + co) = (pz__4, bz__5, kz__6, mz__7, xz__8, fz__9) from (by first | assumption | omega | rfl | exact Or.inl (by assumption) | exact Or.inr (by assumption)))⟩) dX7_cellOf_12
set_option maxHeartbeats 4000000 in
set_option maxRecDepth 100000 in
theorem c_X3_match (l : Launch) (D : va_G) (κ : Nat → ClassId) (κq : Nat → Nat) (im : va_W) (jn : Nat) (zt : Int32) (q1 : Nat) (S1 : Nat) (o1 : Nat) (a1 : Nat) (t1 : Nat) (c1 : Nat) (x1 : Nat) (R1 : Nat) (v1 : Nat) (w1 : Nat) (g1 : Nat → Option Nat) (h1 : Nat → Option Nat) (cf1 : Nat → CT) (q2 : Nat) (S2 : Nat) (o2 : Nat) (a2 : Nat) (t2 : Nat) (c2 : Nat) (x2 : Nat) (R2 : Nat) (v2 : Nat) (w2 : Nat) (g2 : Nat → Option Nat) (h2 : Nat → Option Nat) (cf2 : Nat → CT) (r9 : Nat) (r8 : Nat) (hlf1 : LcF κ im h1 (R1 * w1) cf1) (hlf2 : LcF κ im h2 (R2 * w2) cf2) (ho1 : o1 < w1) (ho2 : o2 < w2) (hR1 : R1 ≤ 40) (hR2 : R2 ≤ 40) (hw1 : w1 ≤ 8) (hw2 : w2 ≤ 8) (hr9 : r9 < R1) (hr8 : r8 < R2) : Er l yX3_match (wl yX3_match cX3_match 4 (some .boolean)) { frames := 3, cells := 0, slots := 0, locals := 66 } D κ κq [.ref jn, .int (nI r9), .int (nI r8)] ([(jn, .inr (3, [.ref q1, .ref q2, .int zt])), (q1, .inr (7, [.ref S1, .int (nI o1), .ref a1, .int (nI t1)])), (S1, .inr (5, [.ref c1, .ref x1, .int (nI R1), .ref v1])), (c1, .inl (κ 3, w1, .inr (.inr (.inr (.inr g1))))), (x1, .inl (κ 2, R1 * w1, .inr (.inr (.inr (.inr h1))))), (q2, .inr (7, [.ref S2, .int (nI o2), .ref a2, .int (nI t2)])), (S2, .inr (5, [.ref c2, .ref x2, .int (nI R2), .ref v2])), (c2, .inl (κ 3, w2, .inr (.inr (.inr (.inr g2))))), (x2, .inl (κ 2, R2 * w2, .inr (.inr (.inr (.inr h2)))))] ++ im) (fun r : Int32 => some (.int r)) (fun r : Int32 => ((r = 1 ∧ mtF (cf1 (r9 * w1 + o1)) (cf2 (r8 * w2 + o2)) zt = true) ∨ (r = 0 ∧ mtF (cf1 (r9 * w1 + o1)) (cf2 (r8 * w2 + o2)) zt = false))) := by
  refine er_of (by decide +kernel) (Nat.le_of_ble_eq_true rfl) ?_
  intro p e s m args below meth c A ls hx hb hr hml hts hown hlk hKK hK hP hE hl
  have hS : va_S A s.heap s.heap [] := va_S.rf
  have hP : va_P D vwCl ([(jn, .inr (3, [.ref q1, .ref q2, .int zt])), (q1, .inr (7, [.ref S1, .int (nI o1), .ref a1, .int (nI t1)])), (S1, .inr (5, [.ref c1, .ref x1, .int (nI R1), .ref v1])), (c1, .inl (κ 3, w1, .inr (.inr (.inr (.inr g1))))), (x1, .inl (κ 2, R1 * w1, .inr (.inr (.inr (.inr h1))))), (q2, .inr (7, [.ref S2, .int (nI o2), .ref a2, .int (nI t2)])), (S2, .inr (5, [.ref c2, .ref x2, .int (nI R2), .ref v2])), (c2, .inl (κ 3, w2, .inr (.inr (.inr (.inr g2))))), (x2, .inl (κ 2, R2 * w2, .inr (.inr (.inr (.inr h2)))))] ++ im) s.heap := hP
  have hFX : FX p s m args c cX3_match 4 RX3 := ⟨hx, hb, hml, hown, hts⟩
  have hl : lv_has ls 4 [(0, .ref jn), (1, .int (nI r9)), (2, .int (nI r8))] := hl
  refine lv_aload_n hx hb dX3_match_0 rfl (lv_at hl 0 rfl) ?_
  refine va_get (D := D) (ci := 3) (v := .ref q1) (C := RX3) (T := TX3) (N := 3) hx hb hts inlX3 hown hK hP 0 rfl rfl 0 (by decide) (hts _ mw_823) (fun _ h9 => h9) rfl dX3_match_1 ?_
  refine lv_iload_n hx hb dX3_match_4 rfl (lv_at hl 1 rfl) ?_
  refine er_VN (C := RX7) (As := [.int (nI r9)]) (rest := []) hFX hKK hE hS (c_X7_cellOf_G l D κ κq im q1 S1 c1 x1 R1 v1 w1 g1 h1 o1 a1 t1 r9 cf1 hlf1 (by omega) (by omega) (by omega) (by omega)) 1 nw_X3_29 mw_865 mw_866 mw_794 mw_867 hdS_X7_cellOf rfl rfl ⟨Nat.le_of_ble_eq_true rfl, Nat.le_of_ble_eq_true rfl⟩ rfl rfl (Nat.le_of_ble_eq_true rfl) dX3_match_5 ⟨Nat.le_of_ble_eq_true rfl, Nat.le_of_ble_eq_true rfl⟩ hl.1 hP 1 7 rfl rfl rfl (subP hP [1, 2, 3, 4] rfl) (fun r__1 hp_2 => ?_)
  replace hp_2 : ((∃ (pz : Nat), ∃ (bz : Nat), ∃ (kz : Nat), ∃ (mz : Nat), ∃ (xz : Int64), ∃ (fz : Nat → Int32), r__1 = some pz ∧ Cf κ im pz bz kz mz xz fz ∧ cf1 (r9 * w1 + o1) = (pz, bz, kz, mz, xz, fz))) := hp_2
  have ha_3 := hp_2
  clear hp_2
  rcases ha_3 with ⟨pz__4, bz__5, kz__6, mz__7, xz__8, fz__9, rfl, a_10, a_11⟩
  · refine W.eq (g2 := F0 m 8 ls [.ref pz__4]) rfl ?_
    refine lv_astore_n (lv' := [(3, .ref pz__4), (0, .ref jn), (1, .int (nI r9)), (2, .int (nI r8))]) hx hb dX3_match_8 rfl hl (by decide) rfl (fun ls hl => ?_)
    refine lv_aload_n hx hb dX3_match_9 rfl (lv_at hl 0 rfl) ?_
    obtain ⟨hk_12, hn_13, hm_14, hm_15⟩ := id a_10
    refine er_V (As := []) (rest := []) hFX hKK hE hS (c_X0_isEmpty_F l D κ κq pz__4 bz__5 kz__6 mz__7 xz__8 fz__9 (by omega) (by omega)) 0 gV_X3_33 hdV_X0_isEmpty rfl rfl ⟨Nat.le_of_ble_eq_true rfl, Nat.le_of_ble_eq_true rfl⟩ rfl rfl (Nat.le_of_ble_eq_true rfl) dX3_match_10 ⟨Nat.le_of_ble_eq_true rfl, Nat.le_of_ble_eq_true rfl⟩ hl.1 (oneP (C := [(jn, .inr (3, [.ref q1, .ref q2, .int zt])), (q1, .inr (7, [.ref S1, .int (nI o1), .ref a1, .int (nI t1)])), (S1, .inr (5, [.ref c1, .ref x1, .int (nI R1), .ref v1])), (c1, .inl (κ 3, w1, .inr (.inr (.inr (.inr g1))))), (x1, .inl (κ 2, R1 * w1, .inr (.inr (.inr (.inr h1))))), (q2, .inr (7, [.ref S2, .int (nI o2), .ref a2, .int (nI t2)])), (S2, .inr (5, [.ref c2, .ref x2, .int (nI R2), .ref v2])), (c2, .inl (κ 3, w2, .inr (.inr (.inr (.inr g2))))), (x2, .inl (κ 2, R2 * w2, .inr (.inr (.inr (.inr h2)))))]) hP hm_14) 0 0 rfl rfl rfl (va_P.app (oneP (C := [(jn, .inr (3, [.ref q1, .ref q2, .int zt])), (q1, .inr (7, [.ref S1, .int (nI o1), .ref a1, .int (nI t1)])), (S1, .inr (5, [.ref c1, .ref x1, .int (nI R1), .ref v1])), (c1, .inl (κ 3, w1, .inr (.inr (.inr (.inr g1))))), (x1, .inl (κ 2, R1 * w1, .inr (.inr (.inr (.inr h1))))), (q2, .inr (7, [.ref S2, .int (nI o2), .ref a2, .int (nI t2)])), (S2, .inr (5, [.ref c2, .ref x2, .int (nI R2), .ref v2])), (c2, .inl (κ 3, w2, .inr (.inr (.inr (.inr g2))))), (x2, .inl (κ 2, R2 * w2, .inr (.inr (.inr (.inr h2)))))]) hP hm_14) (oneP (C := [(jn, .inr (3, [.ref q1, .ref q2, .int zt])), (q1, .inr (7, [.ref S1, .int (nI o1), .ref a1, .int (nI t1)])), (S1, .inr (5, [.ref c1, .ref x1, .int (nI R1), .ref v1])), (c1, .inl (κ 3, w1, .inr (.inr (.inr (.inr g1))))), (x1, .inl (κ 2, R1 * w1, .inr (.inr (.inr (.inr h1))))), (q2, .inr (7, [.ref S2, .int (nI o2), .ref a2, .int (nI t2)])), (S2, .inr (5, [.ref c2, .ref x2, .int (nI R2), .ref v2])), (c2, .inl (κ 3, w2, .inr (.inr (.inr (.inr g2))))), (x2, .inl (κ 2, R2 * w2, .inr (.inr (.inr (.inr h2)))))]) hP hm_15)) (fun r__16 hp_17 => ?_)
    replace hp_17 : ((r__16 = 1 ∧ mz__7 = 0) ∨ (r__16 = 0 ∧ 1 ≤ mz__7)) := hp_17
    have ha_18 := hp_17
    clear hp_17
    rcases ha_18 with ⟨rfl, a_19⟩ | ⟨rfl, a_20⟩
    · refine W.eq (g2 := F0 m 13 ls [.int 1]) rfl ?_
      refine lv_if_ne (tgt := 39) hx hb dX3_match_13 (by decide) (fun c_21 => ?_) (fun c_21 => absurd c_21 (by decide))
      refine lv_iconst (v := 0) hx hb dX3_match_39 (by decide) ?_
      exact cr_iret hx hb hr hlk rfl 0 rfl (by exact Or.inr ((⟨rfl, (show mtF (cf1 (r9 * w1 + o1)) (cf2 (r8 * w2 + o2)) zt = false from (mtF_e a_11 (by omega)))⟩))) dX3_match_40
    · refine W.eq (g2 := F0 m 13 ls [.int 0]) rfl ?_
      refine lv_if_ne (tgt := 39) hx hb dX3_match_13 (by decide) (fun c_22 => absurd c_22 (by decide)) (fun c_22 => ?_)
      refine lv_aload_n hx hb dX3_match_16 rfl (lv_at hl 0 rfl) ?_
      refine lv_aload_n hx hb dX3_match_17 rfl (lv_at hl 1 rfl) ?_
      refine va_get (D := D) (ci := 3) (v := .ref q2) (C := RX3) (T := TX3) (N := 3) hx hb hts inlX3 hown hK hP 0 rfl rfl 1 (by decide) (hts _ mw_824) (fun _ h9 => h9) rfl dX3_match_18 ?_
      refine lv_iload_n hx hb dX3_match_21 rfl (lv_at hl 3 rfl) ?_
      refine er_VN (C := RX7) (As := [.int (nI r8)]) (rest := [.ref pz__4]) hFX hKK hE hS (c_X7_cellOf_G l D κ κq im q2 S2 c2 x2 R2 v2 w2 g2 h2 o2 a2 t2 r8 cf2 hlf2 (by omega) (by omega) (by omega) (by omega)) 1 nw_X3_29 mw_865 mw_866 mw_794 mw_867 hdS_X7_cellOf rfl rfl ⟨Nat.le_of_ble_eq_true rfl, Nat.le_of_ble_eq_true rfl⟩ rfl rfl (Nat.le_of_ble_eq_true rfl) dX3_match_22 ⟨Nat.le_of_ble_eq_true rfl, Nat.le_of_ble_eq_true rfl⟩ hl.1 hP 5 7 rfl rfl rfl (subP hP [5, 6, 7, 8] rfl) (fun r__23 hp_24 => ?_)
      replace hp_24 : ((∃ (pz : Nat), ∃ (bz : Nat), ∃ (kz : Nat), ∃ (mz : Nat), ∃ (xz : Int64), ∃ (fz : Nat → Int32), r__23 = some pz ∧ Cf κ im pz bz kz mz xz fz ∧ cf2 (r8 * w2 + o2) = (pz, bz, kz, mz, xz, fz))) := hp_24
      have ha_25 := hp_24
      clear hp_24
      rcases ha_25 with ⟨pz__26, bz__27, kz__28, mz__29, xz__30, fz__31, rfl, a_32, a_33⟩
      · refine W.eq (g2 := F0 m 25 ls [.ref pz__26, .ref pz__4]) rfl ?_
        refine lv_aload_n hx hb dX3_match_25 rfl (lv_at hl 1 rfl) ?_
        refine va_get (D := D) (ci := 3) (v := .int zt) (C := RX3) (T := TX3) (N := 3) hx hb hts inlX3 hown hK hP 0 rfl rfl 2 (by decide) (hts _ mw_826) (fun _ h9 => h9) rfl dX3_match_26 ?_
        obtain ⟨hk_34, hn_35, hm_36, hm_37⟩ := id a_32
        refine er_V (As := [.ref pz__26, .int zt]) (rest := []) hFX hKK hE hS (c_X0_comparedTo_F l D κ κq pz__4 bz__5 kz__6 mz__7 xz__8 fz__9 pz__26 bz__27 kz__28 mz__29 xz__30 fz__31 zt (by omega) (by omega) (by omega) (by omega)) 2 gV_X3_39 hdV_X0_comparedTo rfl rfl ⟨Nat.le_of_ble_eq_true rfl, Nat.le_of_ble_eq_true rfl⟩ rfl rfl (Nat.le_of_ble_eq_true rfl) dX3_match_29 ⟨Nat.le_of_ble_eq_true rfl, Nat.le_of_ble_eq_true rfl⟩ hl.1 (oneP (C := [(jn, .inr (3, [.ref q1, .ref q2, .int zt])), (q1, .inr (7, [.ref S1, .int (nI o1), .ref a1, .int (nI t1)])), (S1, .inr (5, [.ref c1, .ref x1, .int (nI R1), .ref v1])), (c1, .inl (κ 3, w1, .inr (.inr (.inr (.inr g1))))), (x1, .inl (κ 2, R1 * w1, .inr (.inr (.inr (.inr h1))))), (q2, .inr (7, [.ref S2, .int (nI o2), .ref a2, .int (nI t2)])), (S2, .inr (5, [.ref c2, .ref x2, .int (nI R2), .ref v2])), (c2, .inl (κ 3, w2, .inr (.inr (.inr (.inr g2))))), (x2, .inl (κ 2, R2 * w2, .inr (.inr (.inr (.inr h2)))))]) hP hm_14) 0 0 rfl rfl rfl (va_P.app (oneP (C := [(jn, .inr (3, [.ref q1, .ref q2, .int zt])), (q1, .inr (7, [.ref S1, .int (nI o1), .ref a1, .int (nI t1)])), (S1, .inr (5, [.ref c1, .ref x1, .int (nI R1), .ref v1])), (c1, .inl (κ 3, w1, .inr (.inr (.inr (.inr g1))))), (x1, .inl (κ 2, R1 * w1, .inr (.inr (.inr (.inr h1))))), (q2, .inr (7, [.ref S2, .int (nI o2), .ref a2, .int (nI t2)])), (S2, .inr (5, [.ref c2, .ref x2, .int (nI R2), .ref v2])), (c2, .inl (κ 3, w2, .inr (.inr (.inr (.inr g2))))), (x2, .inl (κ 2, R2 * w2, .inr (.inr (.inr (.inr h2)))))]) hP hm_14) (va_P.app (oneP (C := [(jn, .inr (3, [.ref q1, .ref q2, .int zt])), (q1, .inr (7, [.ref S1, .int (nI o1), .ref a1, .int (nI t1)])), (S1, .inr (5, [.ref c1, .ref x1, .int (nI R1), .ref v1])), (c1, .inl (κ 3, w1, .inr (.inr (.inr (.inr g1))))), (x1, .inl (κ 2, R1 * w1, .inr (.inr (.inr (.inr h1))))), (q2, .inr (7, [.ref S2, .int (nI o2), .ref a2, .int (nI t2)])), (S2, .inr (5, [.ref c2, .ref x2, .int (nI R2), .ref v2])), (c2, .inl (κ 3, w2, .inr (.inr (.inr (.inr g2))))), (x2, .inl (κ 2, R2 * w2, .inr (.inr (.inr (.inr h2)))))]) hP hm_15) (va_P.app (oneP (C := [(jn, .inr (3, [.ref q1, .ref q2, .int zt])), (q1, .inr (7, [.ref S1, .int (nI o1), .ref a1, .int (nI t1)])), (S1, .inr (5, [.ref c1, .ref x1, .int (nI R1), .ref v1])), (c1, .inl (κ 3, w1, .inr (.inr (.inr (.inr g1))))), (x1, .inl (κ 2, R1 * w1, .inr (.inr (.inr (.inr h1))))), (q2, .inr (7, [.ref S2, .int (nI o2), .ref a2, .int (nI t2)])), (S2, .inr (5, [.ref c2, .ref x2, .int (nI R2), .ref v2])), (c2, .inl (κ 3, w2, .inr (.inr (.inr (.inr g2))))), (x2, .inl (κ 2, R2 * w2, .inr (.inr (.inr (.inr h2)))))]) hP hm_36) (oneP (C := [(jn, .inr (3, [.ref q1, .ref q2, .int zt])), (q1, .inr (7, [.ref S1, .int (nI o1), .ref a1, .int (nI t1)])), (S1, .inr (5, [.ref c1, .ref x1, .int (nI R1), .ref v1])), (c1, .inl (κ 3, w1, .inr (.inr (.inr (.inr g1))))), (x1, .inl (κ 2, R1 * w1, .inr (.inr (.inr (.inr h1))))), (q2, .inr (7, [.ref S2, .int (nI o2), .ref a2, .int (nI t2)])), (S2, .inr (5, [.ref c2, .ref x2, .int (nI R2), .ref v2])), (c2, .inl (κ 3, w2, .inr (.inr (.inr (.inr g2))))), (x2, .inl (κ 2, R2 * w2, .inr (.inr (.inr (.inr h2)))))]) hP hm_37)))) (fun r__38 hp_39 => ?_)
        replace hp_39 : r__38 = cpF kz__6 mz__7 xz__8 fz__9 kz__28 mz__29 xz__30 fz__31 zt := hp_39
        have h_40 := hp_39
        clear hp_39
        refine W.eq (g2 := F0 m 32 ls [.int r__38]) rfl ?_
        refine lv_if_ne (tgt := 39) hx hb dX3_match_32 (by decide) (fun c_41 => ?_) (fun c_41 => ?_)
        · refine lv_iconst (v := 0) hx hb dX3_match_39 (by decide) ?_
          exact cr_iret hx hb hr hlk rfl 0 rfl (by exact Or.inr ((⟨rfl, (show mtF (cf1 (r9 * w1 + o1)) (cf2 (r8 * w2 + o2)) zt = false from (mtF_f a_11 a_33 h_40 c_41))⟩))) dX3_match_40
        · refine lv_iconst (v := 1) hx hb dX3_match_35 (by decide) ?_
          refine lv_goto (tgt := 40) hx hb dX3_match_36 (by decide) ?_
          exact cr_iret hx hb hr hlk rfl 1 rfl (by exact Or.inl (⟨rfl, (show mtF (cf1 (r9 * w1 + o1)) (cf2 (r8 * w2 + o2)) zt = true from (mtF_t a_11 a_33 (by omega) h_40 c_41))⟩)) dX3_match_40
set_option maxHeartbeats 4000000 in
set_option maxRecDepth 100000 in
theorem c_X3_countPairs (l : Launch) (D : va_G) (κ : Nat → ClassId) (κq : Nat → Nat) (im : va_W) (jn : Nat) (zt : Int32) (q1 : Nat) (S1 : Nat) (o1 : Nat) (a1 : Nat) (t1 : Nat) (c1 : Nat) (x1 : Nat) (R1 : Nat) (v1 : Nat) (w1 : Nat) (g1 : Nat → Option Nat) (h1 : Nat → Option Nat) (cf1 : Nat → CT) (q2 : Nat) (S2 : Nat) (o2 : Nat) (a2 : Nat) (t2 : Nat) (c2 : Nat) (x2 : Nat) (R2 : Nat) (v2 : Nat) (w2 : Nat) (g2 : Nat → Option Nat) (h2 : Nat → Option Nat) (cf2 : Nat → CT) (m1 : Nat) (m2 : Nat) (f1 : Nat → Int32) (f2 : Nat → Int32) (mb : Nat → Nat → Bool) (hlf1 : LcF κ im h1 (R1 * w1) cf1) (hlf2 : LcF κ im h2 (R2 * w2) cf2) (ho1 : o1 < w1) (ho2 : o2 < w2) (hR1 : R1 ≤ 40) (hR2 : R2 ≤ 40) (hw1 : w1 ≤ 8) (hw2 : w2 ≤ 8) (hm1 : m1 ≤ 40) (hm2 : m2 ≤ 40) (hrn1 : Rn m1 R1 f1) (hrn2 : Rn m2 R2 f2) (hmb : Mb mb f1 f2 m1 m2 cf1 cf2 w1 o1 w2 o2 zt) : Er l yX3_countPairs (wl yX3_countPairs cX3_countPairs 4 (some .int)) { frames := 4, cells := 0, slots := 0, locals := 89 } D κ κq [.ref jn] ([(jn, .inr (3, [.ref q1, .ref q2, .int zt])), (q1, .inr (7, [.ref S1, .int (nI o1), .ref a1, .int (nI t1)])), (S1, .inr (5, [.ref c1, .ref x1, .int (nI R1), .ref v1])), (c1, .inl (κ 3, w1, .inr (.inr (.inr (.inr g1))))), (x1, .inl (κ 2, R1 * w1, .inr (.inr (.inr (.inr h1))))), (q2, .inr (7, [.ref S2, .int (nI o2), .ref a2, .int (nI t2)])), (S2, .inr (5, [.ref c2, .ref x2, .int (nI R2), .ref v2])), (c2, .inl (κ 3, w2, .inr (.inr (.inr (.inr g2))))), (x2, .inl (κ 2, R2 * w2, .inr (.inr (.inr (.inr h2))))), (a1, .inl (κ 0, m1, .inl f1)), (a2, .inl (κ 0, m2, .inl f2))] ++ im) (fun r : Nat => some (.int (nI r))) (fun r : Nat => r = ctA mb m2 m1 ∧ r ≤ 1600) := by
  refine er_of (by decide +kernel) (Nat.le_of_ble_eq_true rfl) ?_
  intro p e s m args below meth c A ls hx hb hr hml hts hown hlk hKK hK hP hE hl
  have hS : va_S A s.heap s.heap [] := va_S.rf
  have hP : va_P D vwCl ([(jn, .inr (3, [.ref q1, .ref q2, .int zt])), (q1, .inr (7, [.ref S1, .int (nI o1), .ref a1, .int (nI t1)])), (S1, .inr (5, [.ref c1, .ref x1, .int (nI R1), .ref v1])), (c1, .inl (κ 3, w1, .inr (.inr (.inr (.inr g1))))), (x1, .inl (κ 2, R1 * w1, .inr (.inr (.inr (.inr h1))))), (q2, .inr (7, [.ref S2, .int (nI o2), .ref a2, .int (nI t2)])), (S2, .inr (5, [.ref c2, .ref x2, .int (nI R2), .ref v2])), (c2, .inl (κ 3, w2, .inr (.inr (.inr (.inr g2))))), (x2, .inl (κ 2, R2 * w2, .inr (.inr (.inr (.inr h2))))), (a1, .inl (κ 0, m1, .inl f1)), (a2, .inl (κ 0, m2, .inl f2))] ++ im) s.heap := hP
  have hFX : FX p s m args c cX3_countPairs 4 RX3 := ⟨hx, hb, hml, hown, hts⟩
  have hl : lv_has ls 4 [(0, .ref jn)] := hl
  refine lv_iconst (v := 0) hx hb dX3_countPairs_0 (by decide) ?_
  refine lv_istore_n (lv' := [(1, .int 0), (0, .ref jn)]) hx hb dX3_countPairs_1 rfl hl (by decide) rfl (fun ls hl => ?_)
  refine lv_iconst (v := 0) hx hb dX3_countPairs_2 (by decide) ?_
  refine lv_istore_n (lv' := [(2, .int 0), (1, .int 0), (0, .ref jn)]) hx hb dX3_countPairs_3 rfl hl (by decide) rfl (fun ls hl => ?_)
  refine loop_r (fun k9 ls => ∃ (k2_4 : Nat), ∃ (k1_4 : Nat), (k2_4 ≤ m1) ∧ (k1_4 = ctA mb m2 k2_4) ∧ (k1_4 ≤ 40 * k2_4) ∧ m1 - k2_4 = k9 ∧ lv_has ls 4 [(2, .int (nI k2_4)), (1, .int (nI k1_4)), (0, .ref jn)]) (fun k9 ls hI4 ih4 => ?_) (m1 - 0) _ ⟨0, 0, (by omega), rfl, (by omega), rfl, lv_sub hl [0, 1, 2] rfl⟩
  obtain ⟨k2_4, k1_4, hl4_0, hl4_1, hl4_2, hm4, hl⟩ := hI4
  refine lv_iload_n hx hb dX3_countPairs_4 rfl (lv_at hl 0 rfl) ?_
  refine lv_aload_n hx hb dX3_countPairs_5 rfl (lv_at hl 2 rfl) ?_
  refine va_get (D := D) (ci := 3) (v := .ref q1) (C := RX3) (T := TX3) (N := 3) hx hb hts inlX3 hown hK hP 0 rfl rfl 0 (by decide) (hts _ mw_823) (fun _ h9 => h9) rfl dX3_countPairs_6 ?_
  refine va_get (D := D) (ci := 7) (v := .ref a1) (C := RX7) (T := TX7) (N := 4) hx hb hts inlX7 hown hK hP 1 rfl rfl 2 (by decide) (hts _ mw_834) (fun _ h9 => h9) rfl dX3_countPairs_9 ?_
  refine va_alen hx hb hK hP 9 0 rfl rfl (v := nI m1) rfl dX3_countPairs_12 ?_
  refine lv_icmp_ge (tgt := 75) hx hb dX3_countPairs_13 (by decide) (fun c_1 => ?_) (fun c_1 => ?_)
  · have nc_1 := cv_le (a := m1) (b := k2_4) (by omega) (by omega) c_1
    refine lv_iload_n hx hb dX3_countPairs_75 rfl (lv_at hl 1 rfl) ?_
    exact cr_iret hx hb hr hlk rfl k1_4 rfl ⟨(show k1_4 = ctA mb m2 m1 from (by have q9 := hl4_1; rw [show k2_4 = m1 by omega] at q9; exact q9)), (show k1_4 ≤ 1600 from (by first | assumption | omega | rfl | exact Or.inl (by assumption) | exact Or.inr (by assumption)))⟩ dX3_countPairs_76
  · have nc_1 := cv_nle (a := m1) (b := k2_4) (by omega) (by omega) c_1
    refine lv_iconst (v := 0) hx hb dX3_countPairs_16 (by decide) ?_
    refine lv_istore_n (lv' := [(3, .int 0), (2, .int (nI k2_4)), (1, .int (nI k1_4)), (0, .ref jn)]) hx hb dX3_countPairs_17 rfl hl (by decide) rfl (fun ls hl => ?_)
    refine loop_r (fun k9 ls => ∃ (k3_18 : Nat), ∃ (k1_18 : Nat), (k3_18 ≤ m2) ∧ (k1_18 = ctA mb m2 k2_4 + ctI mb k2_4 k3_18) ∧ (k1_18 ≤ 40 * k2_4 + k3_18) ∧ m2 - k3_18 = k9 ∧ lv_has ls 4 [(3, .int (nI k3_18)), (2, .int (nI k2_4)), (1, .int (nI k1_18)), (0, .ref jn)]) (fun k9 ls hI18 ih18 => ?_) (m2 - 0) _ ⟨0, k1_4, (by omega), (by rw [ctI_0]; omega), (by omega), rfl, lv_sub hl [0, 1, 2, 3] rfl⟩
    obtain ⟨k3_18, k1_18, hl18_0, hl18_1, hl18_2, hm18, hl⟩ := hI18
    refine lv_iload_n hx hb dX3_countPairs_18 rfl (lv_at hl 0 rfl) ?_
    refine lv_aload_n hx hb dX3_countPairs_19 rfl (lv_at hl 3 rfl) ?_
    refine va_get (D := D) (ci := 3) (v := .ref q2) (C := RX3) (T := TX3) (N := 3) hx hb hts inlX3 hown hK hP 0 rfl rfl 1 (by decide) (hts _ mw_824) (fun _ h9 => h9) rfl dX3_countPairs_20 ?_
    refine va_get (D := D) (ci := 7) (v := .ref a2) (C := RX7) (T := TX7) (N := 4) hx hb hts inlX7 hown hK hP 5 rfl rfl 2 (by decide) (hts _ mw_834) (fun _ h9 => h9) rfl dX3_countPairs_23 ?_
    refine va_alen hx hb hK hP 10 0 rfl rfl (v := nI m2) rfl dX3_countPairs_26 ?_
    refine lv_icmp_ge (tgt := 69) hx hb dX3_countPairs_27 (by decide) (fun c_2 => ?_) (fun c_2 => ?_)
    · have nc_2 := cv_le (a := m2) (b := k3_18) (by omega) (by omega) c_2
      refine lv_iinc (v := (nI (k2_4 + 1))) (lv' := [(2, .int (nI (k2_4 + 1))), (3, .int (nI k3_18)), (1, .int (nI k1_18)), (0, .ref jn)]) hx hb dX3_countPairs_69 hl (k := 1) rfl (nI_i k2_4) (by decide) rfl (fun ls hl => ?_)
      refine lv_goto (tgt := 4) hx hb dX3_countPairs_72 (by decide) ?_
      exact ih4 _ _ (by omega) ⟨(k2_4 + 1), k1_18, (by omega), (by have q9 := hl18_1; rw [show k3_18 = m2 by omega] at q9; rw [ctA_s]; omega), (by omega), rfl, lv_sub hl [0, 2, 3] rfl⟩
    · have nc_2 := cv_nle (a := m2) (b := k3_18) (by omega) (by omega) c_2
      refine lv_iload_n hx hb dX3_countPairs_30 rfl (lv_at hl 2 rfl) ?_
      refine lv_aload_n hx hb dX3_countPairs_31 rfl (lv_at hl 3 rfl) ?_
      refine lv_aload_n hx hb dX3_countPairs_32 rfl (lv_at hl 3 rfl) ?_
      refine va_get (D := D) (ci := 3) (v := .ref q1) (C := RX3) (T := TX3) (N := 3) hx hb hts inlX3 hown hK hP 0 rfl rfl 0 (by decide) (hts _ mw_823) (fun _ h9 => h9) rfl dX3_countPairs_33 ?_
      refine va_get (D := D) (ci := 7) (v := .ref a1) (C := RX7) (T := TX7) (N := 4) hx hb hts inlX7 hown hK hP 1 rfl rfl 2 (by decide) (hts _ mw_834) (fun _ h9 => h9) rfl dX3_countPairs_36 ?_
      refine lv_iload_n hx hb dX3_countPairs_39 rfl (lv_at hl 1 rfl) ?_
      refine va_iald hx hb hK hP 9 0 rfl rfl (i := nI k2_4) (vp_in_nI (n := k2_4) (by omega) (by omega)) dX3_countPairs_40 ?_
      refine kv (v := .int (f1 k2_4)) (by rw [nI_clamp (by omega)]) ?_
      obtain ⟨n_3, hn_3, en_3⟩ := hrn1 k2_4 (by omega)
      refine kv (v := .int (nI n_3)) (congrArg Value.int en_3) ?_
      refine lv_aload_n hx hb dX3_countPairs_41 rfl (lv_at hl 3 rfl) ?_
      refine va_get (D := D) (ci := 3) (v := .ref q2) (C := RX3) (T := TX3) (N := 3) hx hb hts inlX3 hown hK hP 0 rfl rfl 1 (by decide) (hts _ mw_824) (fun _ h9 => h9) rfl dX3_countPairs_42 ?_
      refine va_get (D := D) (ci := 7) (v := .ref a2) (C := RX7) (T := TX7) (N := 4) hx hb hts inlX7 hown hK hP 5 rfl rfl 2 (by decide) (hts _ mw_834) (fun _ h9 => h9) rfl dX3_countPairs_45 ?_
      refine lv_iload_n hx hb dX3_countPairs_48 rfl (lv_at hl 0 rfl) ?_
      refine va_iald hx hb hK hP 10 0 rfl rfl (i := nI k3_18) (vp_in_nI (n := k3_18) (by omega) (by omega)) dX3_countPairs_49 ?_
      refine kv (v := .int (f2 k3_18)) (by rw [nI_clamp (by omega)]) ?_
      obtain ⟨n_4, hn_4, en_4⟩ := hrn2 k3_18 (by omega)
      refine kv (v := .int (nI n_4)) (congrArg Value.int en_4) ?_
      refine er_V (As := [.int (nI n_3), .int (nI n_4)]) (rest := [.int (nI k1_18)]) hFX hKK hE hS (c_X3_match l D κ κq im jn zt q1 S1 o1 a1 t1 c1 x1 R1 v1 w1 g1 h1 cf1 q2 S2 o2 a2 t2 c2 x2 R2 v2 w2 g2 h2 cf2 n_3 n_4 hlf1 hlf2 (by omega) (by omega) (by omega) (by omega) (by omega) (by omega) (by omega) (by omega)) 2 gV_X3_47 hdV_X3_match rfl rfl ⟨Nat.le_of_ble_eq_true rfl, Nat.le_of_ble_eq_true rfl⟩ rfl rfl (Nat.le_of_ble_eq_true rfl) dX3_countPairs_50 ⟨Nat.le_of_ble_eq_true rfl, Nat.le_of_ble_eq_true rfl⟩ hl.1 hP 0 3 rfl rfl rfl (subP hP [0, 1, 2, 3, 4, 5, 6, 7, 8] rfl) (fun r__5 hp_6 => ?_)
      replace hp_6 : ((r__5 = 1 ∧ mtF (cf1 (n_3 * w1 + o1)) (cf2 (n_4 * w2 + o2)) zt = true) ∨ (r__5 = 0 ∧ mtF (cf1 (n_3 * w1 + o1)) (cf2 (n_4 * w2 + o2)) zt = false)) := hp_6
      have ha_7 := hp_6
      clear hp_6
      rcases ha_7 with ⟨rfl, a_8⟩ | ⟨rfl, a_9⟩
      · refine W.eq (g2 := F0 m 53 ls [.int 1, .int (nI k1_18)]) rfl ?_
        have hmv_10 : mb k2_4 k3_18 = true := (hmb _ _ _ _ (by omega) (by omega) (by omega) (by omega) en_3 en_4).trans a_8
        refine lv_if_eq (tgt := 60) hx hb dX3_countPairs_53 (by decide) (fun c_11 => absurd c_11 (by decide)) (fun c_11 => ?_)
        refine lv_iconst (v := 1) hx hb dX3_countPairs_56 (by decide) ?_
        refine lv_goto (tgt := 61) hx hb dX3_countPairs_57 (by decide) ?_
        refine lv_iadd hx hb dX3_countPairs_61 ?_
        refine ki (v := (nI (k1_18 + 1))) (nI_add k1_18 1) ?_
        refine lv_istore_n (lv' := [(1, .int (nI (k1_18 + 1))), (3, .int (nI k3_18)), (2, .int (nI k2_4)), (0, .ref jn)]) hx hb dX3_countPairs_62 rfl hl (by decide) rfl (fun ls hl => ?_)
        refine lv_iinc (v := (nI (k3_18 + 1))) (lv' := [(3, .int (nI (k3_18 + 1))), (1, .int (nI (k1_18 + 1))), (2, .int (nI k2_4)), (0, .ref jn)]) hx hb dX3_countPairs_63 hl (k := 1) rfl (nI_i k3_18) (by decide) rfl (fun ls hl => ?_)
        refine lv_goto (tgt := 18) hx hb dX3_countPairs_66 (by decide) ?_
        exact ih18 _ _ (by omega) ⟨(k3_18 + 1), (k1_18 + 1), (by omega), (by rw [ctI_t hmv_10]; omega), (by omega), rfl, lv_sub hl [0, 2, 1, 3] rfl⟩
      · refine W.eq (g2 := F0 m 53 ls [.int 0, .int (nI k1_18)]) rfl ?_
        have hmv_12 : mb k2_4 k3_18 = false := (hmb _ _ _ _ (by omega) (by omega) (by omega) (by omega) en_3 en_4).trans a_9
        refine lv_if_eq (tgt := 60) hx hb dX3_countPairs_53 (by decide) (fun c_13 => ?_) (fun c_13 => absurd (by decide) c_13)
        refine lv_iconst (v := 0) hx hb dX3_countPairs_60 (by decide) ?_
        refine lv_iadd hx hb dX3_countPairs_61 ?_
        refine ki (v := (nI (k1_18 + 0))) (nI_add k1_18 0) ?_
        refine lv_istore_n (lv' := [(1, .int (nI (k1_18 + 0))), (3, .int (nI k3_18)), (2, .int (nI k2_4)), (0, .ref jn)]) hx hb dX3_countPairs_62 rfl hl (by decide) rfl (fun ls hl => ?_)
        refine lv_iinc (v := (nI (k3_18 + 1))) (lv' := [(3, .int (nI (k3_18 + 1))), (1, .int (nI (k1_18 + 0))), (2, .int (nI k2_4)), (0, .ref jn)]) hx hb dX3_countPairs_63 hl (k := 1) rfl (nI_i k3_18) (by decide) rfl (fun ls hl => ?_)
        refine lv_goto (tgt := 18) hx hb dX3_countPairs_66 (by decide) ?_
        exact ih18 _ _ (by omega) ⟨(k3_18 + 1), (k1_18 + 0), (by omega), (by rw [ctI_f hmv_12]; omega), (by omega), rfl, lv_sub hl [0, 2, 1, 3] rfl⟩
set_option maxHeartbeats 4000000 in
set_option maxRecDepth 100000 in
theorem c_X3_init (l : Launch) (D : va_G) (κ : Nat → ClassId) (κq : Nat → Nat) (im : va_W) (jn : Nat) (q1 : Nat) (S1 : Nat) (R1 : Nat) (w1 : Nat) (o1 : Nat) (a1 : Nat) (m1 : Nat) (t1 : Nat) (q2 : Nat) (S2 : Nat) (R2 : Nat) (w2 : Nat) (o2 : Nat) (a2 : Nat) (m2 : Nat) (t2 : Nat) (hs1 : Sp κ im q1 S1 R1 w1 o1 a1 m1 t1) (hs2 : Sp κ im q2 S2 R2 w2 o2 a2 m2 t2) : Et l yX3_init (wl yX3_init cX3_init 3 none) { frames := 2, cells := 0, slots := 0, locals := 41 } D κ κq [.ref jn, .ref q1, .ref q2] ([(jn, .inr (3, [.null, .null, .int 0]))] ++ im) (fun zt : Int32 => none) (fun zt : Int32 => To zt) (fun zt : Int32 => ([(jn, .inr (3, [.ref q1, .ref q2, .int zt]))] ++ im)) := by
  refine et_of (by decide +kernel) (Nat.le_of_ble_eq_true rfl) ?_
  intro p e s m args below meth c A ls hx hb hr hml hts hown hlk hin hKK hK hA hP hD hS hE hl
  have hS : va_S A s.heap s.heap [] := hS
  have hP : va_P D vwCl ([(jn, .inr (3, [.null, .null, .int 0]))] ++ im) s.heap := hP
  have hD : va_D A ([(jn, .inr (3, [.null, .null, .int 0]))] ++ im) := hD
  have hFX : FX p s m args c cX3_init 3 RX3 := ⟨hx, hb, hml, hown, hts⟩
  have hl : lv_has ls 3 [(0, .ref jn), (1, .ref q1), (2, .ref q2)] := hl
  obtain ⟨h_1, h_2, hm_3, h_4, h_5⟩ := id hs1
  obtain ⟨h_6, h_7, hm_8, h_9, h_10⟩ := id hs2
  refine lv_aload_n hx hb dX3_init_0 rfl (lv_at hl 0 rfl) ?_
  refine W.objInit hx hb hown (hts _ mw_822) (hts _ mw_10) (hts _ mw_11) rfl (by rw [hml]; exact hl.1) rfl dX3_init_1 (Nat.le_of_ble_eq_true rfl) (Nat.le_of_ble_eq_true rfl) ?_
  refine W.eq (g2 := F0 m 4 ls []) rfl ?_
  refine lv_aload_n hx hb dX3_init_4 rfl (lv_at hl 0 rfl) ?_
  refine lv_aload_n hx hb dX3_init_5 rfl (lv_at hl 1 rfl) ?_
  refine va_putF (D := D) (ci := 3) (v := .ref q1) (ty := tyX3 0) (C := RX3) (T := TX3) (N := 3) hx hb hts inlX3 tyX3 tyX3_ok nmX3 hown hK hP hD hS 0 rfl rfl 0 (by decide) (hts _ mw_823) (fun _ h9 => h9) rfl hin rfl (tyX3_ok 0 (by decide)) rfl rfl (Nat.le_of_ble_eq_true rfl) dX3_init_6 (fun H locs hP hD hS => ?_)
  have hP : va_P D vwCl ([(jn, .inr (3, [.ref q1, .null, .int 0]))] ++ im) H := hP
  have hD : va_D A ([(jn, .inr (3, [.ref q1, .null, .int 0]))] ++ im) := hD
  refine lv_aload_n hx hb dX3_init_9 rfl (lv_at hl 0 rfl) ?_
  refine lv_aload_n hx hb dX3_init_10 rfl (lv_at hl 2 rfl) ?_
  refine va_putF (D := D) (ci := 3) (v := .ref q2) (ty := tyX3 1) (C := RX3) (T := TX3) (N := 3) hx hb hts inlX3 tyX3 tyX3_ok nmX3 hown hK hP hD hS 0 rfl rfl 1 (by decide) (hts _ mw_824) (fun _ h9 => h9) rfl hin rfl (tyX3_ok 1 (by decide)) rfl rfl (Nat.le_of_ble_eq_true rfl) dX3_init_11 (fun H locs hP hD hS => ?_)
  have hP : va_P D vwCl ([(jn, .inr (3, [.ref q1, .ref q2, .int 0]))] ++ im) H := hP
  have hD : va_D A ([(jn, .inr (3, [.ref q1, .ref q2, .int 0]))] ++ im) := hD
  refine lv_aload_n hx hb dX3_init_14 rfl (lv_at hl 0 rfl) ?_
  refine lv_aload_n hx hb dX3_init_15 rfl (lv_at hl 1 rfl) ?_
  refine va_get (D := D) (ci := 7) (v := .int (nI t1)) (C := RX7) (T := TX7) (N := 4) hx hb hts inlX7 hown hK (oneP (C := [(jn, .inr (3, [.ref q1, .ref q2, .int 0]))]) hP hm_3) 0 rfl rfl 3 (by decide) (hts _ mw_825) (fun _ h9 => h9) rfl dX3_init_16 ?_
  refine lv_aload_n hx hb dX3_init_19 rfl (lv_at hl 2 rfl) ?_
  refine va_get (D := D) (ci := 7) (v := .int (nI t2)) (C := RX7) (T := TX7) (N := 4) hx hb hts inlX7 hown hK (oneP (C := [(jn, .inr (3, [.ref q1, .ref q2, .int 0]))]) hP hm_8) 0 rfl rfl 3 (by decide) (hts _ mw_825) (fun _ h9 => h9) rfl dX3_init_20 ?_
  refine er_SN (As := [.int (nI t1), .int (nI t2)]) (rest := [.ref jn]) hFX hKK hE hS (c_X11_common l D κ κq t1 t2 (by omega) (by omega)) 2 nw_X3_24 mw_827 mw_2 mw_828 hdS_X11_common rfl rfl ⟨Nat.le_of_ble_eq_true rfl, Nat.le_of_ble_eq_true rfl⟩ rfl rfl (Nat.le_of_ble_eq_true rfl) dX3_init_23 ⟨Nat.le_of_ble_eq_true rfl, Nat.le_of_ble_eq_true rfl⟩ hl.1 (subP0 hP [] rfl) (fun r__11 hp_12 => ?_)
  replace hp_12 : To r__11 := hp_12
  have h_13 := hp_12
  clear hp_12
  refine W.eq (g2 := F0 m 26 ls [.int r__11, .ref jn]) rfl ?_
  refine va_putF (D := D) (ci := 3) (v := .int r__11) (ty := tyX3 2) (C := RX3) (T := TX3) (N := 3) hx hb hts inlX3 tyX3 tyX3_ok nmX3 hown hK hP hD hS 0 rfl rfl 2 (by decide) (hts _ mw_826) (fun _ h9 => h9) rfl hin rfl (tyX3_ok 2 (by decide)) rfl rfl (Nat.le_of_ble_eq_true rfl) dX3_init_26 (fun H locs hP hD hS => ?_)
  have hP : va_P D vwCl ([(jn, .inr (3, [.ref q1, .ref q2, .int r__11]))] ++ im) H := hP
  have hD : va_D A ([(jn, .inr (3, [.ref q1, .ref q2, .int r__11]))] ++ im) := hD
  exact et_vret hx hb hr hlk hS r__11 rfl (show To r__11 from (by first | assumption | omega | rfl | exact Or.inl (by assumption) | exact Or.inr (by assumption))) (subP hP [0] rfl) (subD hD [0] (by decide) rfl) (Nat.le_of_ble_eq_true rfl) (Nat.le_of_ble_eq_true rfl) dX3_init_29
set_option maxHeartbeats 4000000 in
set_option maxRecDepth 100000 in
theorem c_X3_rightColumn (l : Launch) (D : va_G) (κ : Nat → ClassId) (κq : Nat → Nat) (im : va_W) (jn : Nat) (q1 : Nat) (S1 : Nat) (R1 : Nat) (w1 : Nat) (o1 : Nat) (a1 : Nat) (m1 : Nat) (t1 : Nat) (q2 : Nat) (S2 : Nat) (R2 : Nat) (w2 : Nat) (o2 : Nat) (a2 : Nat) (m2 : Nat) (t2 : Nat) (zt : Int32) (i : Nat) (hs1 : Sp κ im q1 S1 R1 w1 o1 a1 m1 t1) (hs2 : Sp κ im q2 S2 R2 w2 o2 a2 m2 t2) (hi : i + 1 < w2) (hw28 : w2 ≤ 8) : Er l yX3_rightColumn (wl yX3_rightColumn cX3_rightColumn 2 (some .int)) { frames := 0, cells := 0, slots := 0, locals := 0 } D κ κq [.ref jn, .int (nI i)] ([(jn, .inr (3, [.ref q1, .ref q2, .int zt]))] ++ im) (fun r : Nat => some (.int (nI r))) (fun r : Nat => r < w2) := by
  refine er_of (by decide +kernel) (Nat.le_of_ble_eq_true rfl) ?_
  intro p e s m args below meth c A ls hx hb hr hml hts hown hlk hKK hK hP hE hl
  have hS : va_S A s.heap s.heap [] := va_S.rf
  have hP : va_P D vwCl ([(jn, .inr (3, [.ref q1, .ref q2, .int zt]))] ++ im) s.heap := hP
  have hFX : FX p s m args c cX3_rightColumn 2 RX3 := ⟨hx, hb, hml, hown, hts⟩
  have hl : lv_has ls 2 [(0, .ref jn), (1, .int (nI i))] := hl
  obtain ⟨h_1, h_2, hm_3, h_4, h_5⟩ := id hs2
  refine lv_iload_n hx hb dX3_rightColumn_0 rfl (lv_at hl 1 rfl) ?_
  refine lv_aload_n hx hb dX3_rightColumn_1 rfl (lv_at hl 0 rfl) ?_
  refine va_get (D := D) (ci := 3) (v := .ref q2) (C := RX3) (T := TX3) (N := 3) hx hb hts inlX3 hown hK hP 0 rfl rfl 1 (by decide) (hts _ mw_824) (fun _ h9 => h9) rfl dX3_rightColumn_2 ?_
  refine va_get (D := D) (ci := 7) (v := .int (nI o2)) (C := RX7) (T := TX7) (N := 4) hx hb hts inlX7 hown hK (oneP (C := [(jn, .inr (3, [.ref q1, .ref q2, .int zt]))]) hP hm_3) 0 rfl rfl 1 (by decide) (hts _ mw_849) (fun _ h9 => h9) rfl dX3_rightColumn_5 ?_
  refine lv_icmp_ge (tgt := 15) hx hb dX3_rightColumn_8 (by decide) (fun c_6 => ?_) (fun c_6 => ?_)
  · have nc_6 := cv_le (a := o2) (b := i) (by omega) (by omega) c_6
    refine lv_iload_n hx hb dX3_rightColumn_15 rfl (lv_at hl 1 rfl) ?_
    refine lv_iconst (v := 1) hx hb dX3_rightColumn_16 (by decide) ?_
    refine lv_iadd hx hb dX3_rightColumn_17 ?_
    refine ki (v := (nI (i + 1))) (nI_add i 1) ?_
    exact cr_iret hx hb hr hlk rfl (i + 1) rfl (show (i + 1) < w2 from (by first | assumption | omega | rfl | exact Or.inl (by assumption) | exact Or.inr (by assumption))) dX3_rightColumn_18
  · have nc_6 := cv_nle (a := o2) (b := i) (by omega) (by omega) c_6
    refine lv_iload_n hx hb dX3_rightColumn_11 rfl (lv_at hl 1 rfl) ?_
    refine lv_goto (tgt := 18) hx hb dX3_rightColumn_12 (by decide) ?_
    exact cr_iret hx hb hr hlk rfl i rfl (show i < w2 from (by first | assumption | omega | rfl | exact Or.inl (by assumption) | exact Or.inr (by assumption))) dX3_rightColumn_18
set_option maxHeartbeats 4000000 in
set_option maxRecDepth 100000 in
theorem c_X3_fillRow (l : Launch) (D : va_G) (κ : Nat → ClassId) (κq : Nat → Nat) (im : va_W) (jn : Nat) (q1 : Nat) (S1 : Nat) (R1 : Nat) (w1 : Nat) (o1 : Nat) (a1 : Nat) (m1 : Nat) (t1 : Nat) (q2 : Nat) (S2 : Nat) (R2 : Nat) (w2 : Nat) (o2 : Nat) (a2 : Nat) (m2 : Nat) (t2 : Nat) (zt : Int32) (x : Nat) (N : Nat) (beg : Nat) (r9 : Nat) (r8 : Nat) (f : Nat → Option Nat) (hs1 : Sp κ im q1 S1 R1 w1 o1 a1 m1 t1) (hs2 : Sp κ im q2 S2 R2 w2 o2 a2 m2 t2) (hr9 : r9 < R1) (hr8 : r8 < R2) (hbg : beg + (w1 + w2 - 1) ≤ N) (hN : N ≤ 320) (hlc : Lc κ im f beg) : Et l yX3_fillRow (wl yX3_fillRow cX3_fillRow 7 none) { frames := 1, cells := 0, slots := 0, locals := 22 } D κ κq [.ref jn, .ref x, .int (nI beg), .int (nI r9), .int (nI r8)] ([(jn, .inr (3, [.ref q1, .ref q2, .int zt])), (x, .inl (κ 2, N, .inr (.inr (.inr (.inr f)))))] ++ im) (fun g : (Nat → Option Nat) => none) (fun g : (Nat → Option Nat) => Lc κ im g (beg + (w1 + w2 - 1))) (fun g : (Nat → Option Nat) => ([(jn, .inr (3, [.ref q1, .ref q2, .int zt])), (x, .inl (κ 2, N, .inr (.inr (.inr (.inr g)))))] ++ im)) := by
  refine et_of (by decide +kernel) (Nat.le_of_ble_eq_true rfl) ?_
  intro p e s m args below meth c A ls hx hb hr hml hts hown hlk hin hKK hK hA hP hD hS hE hl
  have hS : va_S A s.heap s.heap [] := hS
  have hP : va_P D vwCl ([(jn, .inr (3, [.ref q1, .ref q2, .int zt])), (x, .inl (κ 2, N, .inr (.inr (.inr (.inr f)))))] ++ im) s.heap := hP
  have hD : va_D A ([(jn, .inr (3, [.ref q1, .ref q2, .int zt])), (x, .inl (κ 2, N, .inr (.inr (.inr (.inr f)))))] ++ im) := hD
  have hFX : FX p s m args c cX3_fillRow 7 RX3 := ⟨hx, hb, hml, hown, hts⟩
  have hl : lv_has ls 7 [(0, .ref jn), (1, .ref x), (2, .int (nI beg)), (3, .int (nI r9)), (4, .int (nI r8))] := hl
  obtain ⟨h_1, h_2, hm_3, h_4, h_5⟩ := id hs1
  obtain ⟨h_6, h_7, hm_8, h_9, h_10⟩ := id hs2
  obtain ⟨hb_11, c_12, x_13, v_14, g_15, h_16, hm_17, hm_18, hm_19, lo_20, lc_21, vw_22⟩ := id h_4
  obtain ⟨hb_11_1, hb_11_2, hb_11_3⟩ := hb_11
  have hrw_hb_11 := rw_le hb_11_1 hb_11_3
  obtain ⟨hb_23, c_24, x_25, v_26, g_27, h_28, hm_29, hm_30, hm_31, lo_32, lc_33, vw_34⟩ := id h_9
  obtain ⟨hb_23_1, hb_23_2, hb_23_3⟩ := hb_23
  have hrw_hb_23 := rw_le hb_23_1 hb_23_3
  refine lv_aload_n hx hb dX3_fillRow_0 rfl (lv_at hl 0 rfl) ?_
  refine va_get (D := D) (ci := 3) (v := .ref q1) (C := RX3) (T := TX3) (N := 3) hx hb hts inlX3 hown hK hP 0 rfl rfl 0 (by decide) (hts _ mw_823) (fun _ h9 => h9) rfl dX3_fillRow_1 ?_
  refine va_get (D := D) (ci := 7) (v := .ref S1) (C := RX7) (T := TX7) (N := 4) hx hb hts inlX7 hown hK (oneP (C := [(jn, .inr (3, [.ref q1, .ref q2, .int zt])), (x, .inl (κ 2, N, .inr (.inr (.inr (.inr f)))))]) hP hm_3) 0 rfl rfl 0 (by decide) (hts _ mw_840) (fun _ h9 => h9) rfl dX3_fillRow_4 ?_
  refine va_get (D := D) (ci := 5) (v := .ref c_12) (C := RX5) (T := TX5) (N := 4) hx hb hts inlX5 hown hK (oneP (C := [(jn, .inr (3, [.ref q1, .ref q2, .int zt])), (x, .inl (κ 2, N, .inr (.inr (.inr (.inr f)))))]) hP hm_17) 0 rfl rfl 0 (by decide) (hts _ mw_841) (fun _ h9 => h9) rfl dX3_fillRow_7 ?_
  refine va_alen hx hb hK (oneP (C := [(jn, .inr (3, [.ref q1, .ref q2, .int zt])), (x, .inl (κ 2, N, .inr (.inr (.inr (.inr f)))))]) hP hm_18) 0 3 rfl rfl (v := nI w1) rfl dX3_fillRow_10 ?_
  refine lv_istore (lv' := [(5, .int (nI w1)), (0, .ref jn), (1, .ref x), (2, .int (nI beg)), (3, .int (nI r9)), (4, .int (nI r8))]) hx hb dX3_fillRow_11 hl (by decide) rfl (fun ls hl => ?_)
  refine lv_iconst (v := 0) hx hb dX3_fillRow_13 (by decide) ?_
  refine lv_istore (lv' := [(6, .int 0), (5, .int (nI w1)), (0, .ref jn), (1, .ref x), (2, .int (nI beg)), (3, .int (nI r9)), (4, .int (nI r8))]) hx hb dX3_fillRow_14 hl (by decide) rfl (fun ls hl => ?_)
  refine loop_dn (fun k9 H locs ls => ∃ (k6_16 : Nat), ∃ (gx_16 : Nat → Option Nat), (k6_16 ≤ w1) ∧ Lc κ im gx_16 (beg + k6_16) ∧ w1 - k6_16 = k9 ∧ va_P D vwCl ([(jn, .inr (3, [.ref q1, .ref q2, .int zt])), (x, .inl (κ 2, N, .inr (.inr (.inr (.inr gx_16)))))] ++ im) H ∧ va_D A ([(jn, .inr (3, [.ref q1, .ref q2, .int zt])), (x, .inl (κ 2, N, .inr (.inr (.inr (.inr gx_16)))))] ++ im) ∧ va_S A s.heap H locs ∧ lv_has ls 7 [(6, .int (nI k6_16)), (5, .int (nI w1)), (0, .ref jn), (1, .ref x), (2, .int (nI beg)), (3, .int (nI r9)), (4, .int (nI r8))]) (fun k9 H locs ls hI16 ih16 => ?_) (w1 - 0) _ _ _ ⟨0, f, (by omega), hlc, rfl, hP, hD, hS, lv_sub hl [0, 1, 2, 3, 4, 5, 6] rfl⟩
  obtain ⟨k6_16, gx_16, hl16_0, hq16_0, hm16, hP, hD, hS, hl⟩ := hI16
  refine lv_iload hx hb dX3_fillRow_16 (lv_at hl 0 rfl) ?_
  refine lv_iload hx hb dX3_fillRow_18 (lv_at hl 1 rfl) ?_
  refine lv_icmp_ge (tgt := 48) hx hb dX3_fillRow_20 (by decide) (fun c_35 => ?_) (fun c_35 => ?_)
  · have nc_35 := cv_le (a := w1) (b := k6_16) (by omega) (by omega) c_35
    obtain rfl : w1 = k6_16 := by omega
    refine lv_iconst (v := 0) hx hb dX3_fillRow_48 (by decide) ?_
    refine lv_istore (lv' := [(6, .int 0), (5, .int (nI w1)), (0, .ref jn), (1, .ref x), (2, .int (nI beg)), (3, .int (nI r9)), (4, .int (nI r8))]) hx hb dX3_fillRow_49 hl (by decide) rfl (fun ls hl => ?_)
    refine loop_dn (fun k9 H locs ls => ∃ (k6_51 : Nat), ∃ (gx_51 : Nat → Option Nat), (k6_51 + 1 ≤ w2) ∧ Lc κ im gx_51 (beg + w1 + k6_51) ∧ w2 - k6_51 = k9 ∧ va_P D vwCl ([(jn, .inr (3, [.ref q1, .ref q2, .int zt])), (x, .inl (κ 2, N, .inr (.inr (.inr (.inr gx_51)))))] ++ im) H ∧ va_D A ([(jn, .inr (3, [.ref q1, .ref q2, .int zt])), (x, .inl (κ 2, N, .inr (.inr (.inr (.inr gx_51)))))] ++ im) ∧ va_S A s.heap H locs ∧ lv_has ls 7 [(6, .int (nI k6_51)), (5, .int (nI w1)), (0, .ref jn), (1, .ref x), (2, .int (nI beg)), (3, .int (nI r9)), (4, .int (nI r8))]) (fun k9 H locs ls hI51 ih51 => ?_) (w2 - 0) _ _ _ ⟨0, gx_16, (by omega), hq16_0, rfl, hP, hD, hS, lv_sub hl [0, 1, 2, 3, 4, 5, 6] rfl⟩
    obtain ⟨k6_51, gx_51, hl51_0, hq51_0, hm51, hP, hD, hS, hl⟩ := hI51
    refine lv_iload hx hb dX3_fillRow_51 (lv_at hl 0 rfl) ?_
    refine lv_aload_n hx hb dX3_fillRow_53 rfl (lv_at hl 2 rfl) ?_
    refine va_get (D := D) (ci := 3) (v := .ref q2) (C := RX3) (T := TX3) (N := 3) hx hb hts inlX3 hown hK hP 0 rfl rfl 1 (by decide) (hts _ mw_824) (fun _ h9 => h9) rfl dX3_fillRow_54 ?_
    refine va_get (D := D) (ci := 7) (v := .ref S2) (C := RX7) (T := TX7) (N := 4) hx hb hts inlX7 hown hK (oneP (C := [(jn, .inr (3, [.ref q1, .ref q2, .int zt])), (x, .inl (κ 2, N, .inr (.inr (.inr (.inr gx_51)))))]) hP hm_8) 0 rfl rfl 0 (by decide) (hts _ mw_840) (fun _ h9 => h9) rfl dX3_fillRow_57 ?_
    refine va_get (D := D) (ci := 5) (v := .ref c_24) (C := RX5) (T := TX5) (N := 4) hx hb hts inlX5 hown hK (oneP (C := [(jn, .inr (3, [.ref q1, .ref q2, .int zt])), (x, .inl (κ 2, N, .inr (.inr (.inr (.inr gx_51)))))]) hP hm_29) 0 rfl rfl 0 (by decide) (hts _ mw_841) (fun _ h9 => h9) rfl dX3_fillRow_60 ?_
    refine va_alen hx hb hK (oneP (C := [(jn, .inr (3, [.ref q1, .ref q2, .int zt])), (x, .inl (κ 2, N, .inr (.inr (.inr (.inr gx_51)))))]) hP hm_30) 0 3 rfl rfl (v := nI w2) rfl dX3_fillRow_63 ?_
    refine lv_iconst (v := 1) hx hb dX3_fillRow_64 (by decide) ?_
    refine lv_isub hx hb dX3_fillRow_65 ?_
    refine ki (v := (nI (w2 - 1))) (pk_sub (a := w2) (b := 1) (by omega)) ?_
    refine lv_icmp_ge (tgt := 102) hx hb dX3_fillRow_66 (by decide) (fun c_36 => ?_) (fun c_36 => ?_)
    · have nc_36 := cv_le (a := (w2 - 1)) (b := k6_51) (by omega) (by omega) c_36
      exact et_vret hx hb hr hlk hS gx_51 rfl (show Lc κ im gx_51 (beg + (w1 + w2 - 1)) from (by have e9 : beg + w1 + k6_51 = beg + (w1 + w2 - 1) := (by omega); rw [← e9]; exact hq51_0)) (subP hP [0, 1] rfl) (subD hD [0, 1] (by decide) rfl) (Nat.le_of_ble_eq_true rfl) (Nat.le_of_ble_eq_true rfl) dX3_fillRow_102
    · have nc_36 := cv_nle (a := (w2 - 1)) (b := k6_51) (by omega) (by omega) c_36
      refine lv_aload_n hx hb dX3_fillRow_69 rfl (lv_at hl 3 rfl) ?_
      refine lv_iload_n hx hb dX3_fillRow_70 rfl (lv_at hl 4 rfl) ?_
      refine lv_iload hx hb dX3_fillRow_71 (lv_at hl 1 rfl) ?_
      refine lv_iadd hx hb dX3_fillRow_73 ?_
      refine ki (v := (nI (beg + w1))) (nI_add beg w1) ?_
      refine lv_iload hx hb dX3_fillRow_74 (lv_at hl 0 rfl) ?_
      refine lv_iadd hx hb dX3_fillRow_76 ?_
      refine ki (v := (nI (beg + w1 + k6_51))) (nI_add (beg + w1) k6_51) ?_
      refine lv_aload_n hx hb dX3_fillRow_77 rfl (lv_at hl 2 rfl) ?_
      refine va_get (D := D) (ci := 3) (v := .ref q2) (C := RX3) (T := TX3) (N := 3) hx hb hts inlX3 hown hK hP 0 rfl rfl 1 (by decide) (hts _ mw_824) (fun _ h9 => h9) rfl dX3_fillRow_78 ?_
      refine va_get (D := D) (ci := 7) (v := .ref S2) (C := RX7) (T := TX7) (N := 4) hx hb hts inlX7 hown hK (oneP (C := [(jn, .inr (3, [.ref q1, .ref q2, .int zt])), (x, .inl (κ 2, N, .inr (.inr (.inr (.inr gx_51)))))]) hP hm_8) 0 rfl rfl 0 (by decide) (hts _ mw_840) (fun _ h9 => h9) rfl dX3_fillRow_81 ?_
      refine lv_iload hx hb dX3_fillRow_84 (lv_at hl 6 rfl) ?_
      refine lv_aload_n hx hb dX3_fillRow_86 rfl (lv_at hl 2 rfl) ?_
      refine lv_iload hx hb dX3_fillRow_87 (lv_at hl 0 rfl) ?_
      refine er_V (As := [.int (nI k6_51)]) (rest := [.int (nI r8), .ref S2, .int (nI (beg + w1 + k6_51)), .ref x]) hFX hKK hE hS (c_X3_rightColumn l D κ κq im jn q1 S1 R1 w1 o1 a1 m1 t1 q2 S2 R2 w2 o2 a2 m2 t2 zt k6_51 hs1 hs2 (by omega) (by omega)) 1 gV_X3_79 hdV_X3_rightColumn rfl rfl ⟨Nat.le_of_ble_eq_true rfl, Nat.le_of_ble_eq_true rfl⟩ rfl rfl (Nat.le_of_ble_eq_true rfl) dX3_fillRow_89 ⟨Nat.le_of_ble_eq_true rfl, Nat.le_of_ble_eq_true rfl⟩ hl.1 hP 0 3 rfl rfl rfl (subP hP [0] rfl) (fun r__37 hp_38 => ?_)
      replace hp_38 : r__37 < w2 := hp_38
      have h_39 := hp_38
      clear hp_38
      refine W.eq (g2 := F0 m 92 ls [.int (nI r__37), .int (nI r8), .ref S2, .int (nI (beg + w1 + k6_51)), .ref x]) rfl ?_
      refine er_V (As := [.int (nI r8), .int (nI r__37)]) (rest := [.int (nI (beg + w1 + k6_51)), .ref x]) hFX hKK hE hS (c_X5_cellOf l D κ κq im S2 R2 w2 r8 r__37 h_9 (by omega) (by omega)) 2 gV_X3_76 hdV_X5_cellOf rfl rfl ⟨Nat.le_of_ble_eq_true rfl, Nat.le_of_ble_eq_true rfl⟩ rfl rfl (Nat.le_of_ble_eq_true rfl) dX3_fillRow_92 ⟨Nat.le_of_ble_eq_true rfl, Nat.le_of_ble_eq_true rfl⟩ hl.1 (oneP (C := [(jn, .inr (3, [.ref q1, .ref q2, .int zt])), (x, .inl (κ 2, N, .inr (.inr (.inr (.inr gx_51)))))]) hP hm_29) 0 5 rfl rfl rfl (subP hP [] rfl) (fun r__40 hp_41 => ?_)
      replace hp_41 : ((∃ (q : Nat), ∃ (k : Nat), ∃ (m : Nat), r__40 = some q ∧ Cl κ im q k m)) := hp_41
      have ha_42 := hp_41
      clear hp_41
      rcases ha_42 with ⟨q__43, k__44, m__45, rfl, a_46⟩
      · refine W.eq (g2 := F0 m 95 ls [.ref q__43, .int (nI (beg + w1 + k6_51)), .ref x]) rfl ?_
        obtain ⟨hk_47, b_48, x_49, hm_50, hb_51⟩ := id a_46
        have hn_b_48 := hb_51.1
        obtain ⟨k_52, ek_52⟩ := tl_at [(jn, .inr (3, [.ref q1, .ref q2, .int zt])), (x, .inl (κ 2, N, .inr (.inr (.inr (.inr gx_51)))))] hm_50
        refine va_astq hx hb hK hP hD hS 1 2 k_52 0 rfl rfl ek_52 rfl (i := nI (beg + w1 + k6_51)) (vp_in_nI (n := (beg + w1 + k6_51)) (by omega) (by omega)) dX3_fillRow_95 (fun H locs hP hD hS => ?_)
        rw [nI_clamp (by omega)] at hP hD
        have hP : va_P D vwCl ([(jn, .inr (3, [.ref q1, .ref q2, .int zt])), (x, .inl (κ 2, N, .inr (.inr (.inr (.inr (va_up gx_51 (beg + w1 + k6_51) (some q__43)))))))] ++ im) H := hP
        have hD : va_D A ([(jn, .inr (3, [.ref q1, .ref q2, .int zt])), (x, .inl (κ 2, N, .inr (.inr (.inr (.inr (va_up gx_51 (beg + w1 + k6_51) (some q__43)))))))] ++ im) := hD
        have hf_54 : Lc κ im (va_up gx_51 (beg + w1 + k6_51) (some q__43)) (beg + w1 + k6_51 + 1) := Lc_add hq51_0 a_46
        generalize va_up gx_51 (beg + w1 + k6_51) (some q__43) = g_53 at hP hD hf_54
        refine lv_iinc (v := (nI (k6_51 + 1))) (lv' := [(6, .int (nI (k6_51 + 1))), (5, .int (nI w1)), (0, .ref jn), (1, .ref x), (2, .int (nI beg)), (3, .int (nI r9)), (4, .int (nI r8))]) hx hb dX3_fillRow_96 hl (k := 0) rfl (nI_i k6_51) (by decide) rfl (fun ls hl => ?_)
        refine lv_goto (tgt := 51) hx hb dX3_fillRow_99 (by decide) ?_
        exact ih51 _ _ _ _ (by omega) ⟨(k6_51 + 1), g_53, (by omega), hf_54, rfl, hP, hD, hS, lv_sub hl [0, 1, 2, 3, 4, 5, 6] rfl⟩
  · have nc_35 := cv_nle (a := w1) (b := k6_16) (by omega) (by omega) c_35
    refine lv_aload_n hx hb dX3_fillRow_23 rfl (lv_at hl 3 rfl) ?_
    refine lv_iload_n hx hb dX3_fillRow_24 rfl (lv_at hl 4 rfl) ?_
    refine lv_iload hx hb dX3_fillRow_25 (lv_at hl 0 rfl) ?_
    refine lv_iadd hx hb dX3_fillRow_27 ?_
    refine ki (v := (nI (beg + k6_16))) (nI_add beg k6_16) ?_
    refine lv_aload_n hx hb dX3_fillRow_28 rfl (lv_at hl 2 rfl) ?_
    refine va_get (D := D) (ci := 3) (v := .ref q1) (C := RX3) (T := TX3) (N := 3) hx hb hts inlX3 hown hK hP 0 rfl rfl 0 (by decide) (hts _ mw_823) (fun _ h9 => h9) rfl dX3_fillRow_29 ?_
    refine va_get (D := D) (ci := 7) (v := .ref S1) (C := RX7) (T := TX7) (N := 4) hx hb hts inlX7 hown hK (oneP (C := [(jn, .inr (3, [.ref q1, .ref q2, .int zt])), (x, .inl (κ 2, N, .inr (.inr (.inr (.inr gx_16)))))]) hP hm_3) 0 rfl rfl 0 (by decide) (hts _ mw_840) (fun _ h9 => h9) rfl dX3_fillRow_32 ?_
    refine lv_iload_n hx hb dX3_fillRow_35 rfl (lv_at hl 5 rfl) ?_
    refine lv_iload hx hb dX3_fillRow_36 (lv_at hl 0 rfl) ?_
    refine er_V (As := [.int (nI r9), .int (nI k6_16)]) (rest := [.int (nI (beg + k6_16)), .ref x]) hFX hKK hE hS (c_X5_cellOf l D κ κq im S1 R1 w1 r9 k6_16 h_4 (by omega) (by omega)) 2 gV_X3_76 hdV_X5_cellOf rfl rfl ⟨Nat.le_of_ble_eq_true rfl, Nat.le_of_ble_eq_true rfl⟩ rfl rfl (Nat.le_of_ble_eq_true rfl) dX3_fillRow_38 ⟨Nat.le_of_ble_eq_true rfl, Nat.le_of_ble_eq_true rfl⟩ hl.1 (oneP (C := [(jn, .inr (3, [.ref q1, .ref q2, .int zt])), (x, .inl (κ 2, N, .inr (.inr (.inr (.inr gx_16)))))]) hP hm_17) 0 5 rfl rfl rfl (subP hP [] rfl) (fun r__55 hp_56 => ?_)
    replace hp_56 : ((∃ (q : Nat), ∃ (k : Nat), ∃ (m : Nat), r__55 = some q ∧ Cl κ im q k m)) := hp_56
    have ha_57 := hp_56
    clear hp_56
    rcases ha_57 with ⟨q__58, k__59, m__60, rfl, a_61⟩
    · refine W.eq (g2 := F0 m 41 ls [.ref q__58, .int (nI (beg + k6_16)), .ref x]) rfl ?_
      obtain ⟨hk_62, b_63, x_64, hm_65, hb_66⟩ := id a_61
      have hn_b_63 := hb_66.1
      obtain ⟨k_67, ek_67⟩ := tl_at [(jn, .inr (3, [.ref q1, .ref q2, .int zt])), (x, .inl (κ 2, N, .inr (.inr (.inr (.inr gx_16)))))] hm_65
      refine va_astq hx hb hK hP hD hS 1 2 k_67 0 rfl rfl ek_67 rfl (i := nI (beg + k6_16)) (vp_in_nI (n := (beg + k6_16)) (by omega) (by omega)) dX3_fillRow_41 (fun H locs hP hD hS => ?_)
      rw [nI_clamp (by omega)] at hP hD
      have hP : va_P D vwCl ([(jn, .inr (3, [.ref q1, .ref q2, .int zt])), (x, .inl (κ 2, N, .inr (.inr (.inr (.inr (va_up gx_16 (beg + k6_16) (some q__58)))))))] ++ im) H := hP
      have hD : va_D A ([(jn, .inr (3, [.ref q1, .ref q2, .int zt])), (x, .inl (κ 2, N, .inr (.inr (.inr (.inr (va_up gx_16 (beg + k6_16) (some q__58)))))))] ++ im) := hD
      have hf_69 : Lc κ im (va_up gx_16 (beg + k6_16) (some q__58)) (beg + k6_16 + 1) := Lc_add hq16_0 a_61
      generalize va_up gx_16 (beg + k6_16) (some q__58) = g_68 at hP hD hf_69
      refine lv_iinc (v := (nI (k6_16 + 1))) (lv' := [(6, .int (nI (k6_16 + 1))), (5, .int (nI w1)), (0, .ref jn), (1, .ref x), (2, .int (nI beg)), (3, .int (nI r9)), (4, .int (nI r8))]) hx hb dX3_fillRow_42 hl (k := 0) rfl (nI_i k6_16) (by decide) rfl (fun ls hl => ?_)
      refine lv_goto (tgt := 16) hx hb dX3_fillRow_45 (by decide) ?_
      exact ih16 _ _ _ _ (by omega) ⟨(k6_16 + 1), g_68, (by omega), hf_69, rfl, hP, hD, hS, lv_sub hl [0, 1, 2, 3, 4, 5, 6] rfl⟩
set_option maxHeartbeats 4000000 in
set_option maxRecDepth 100000 in
theorem c_X3_freeName (l : Launch) (D : va_G) (κ : Nat → ClassId) (κq : Nat → Nat) (im : va_W) (g : Nat) (i : Nat) (b : Nat) (n : Nat) (wg : Nat) (f : Nat → Option Nat) (hby : By κ im b n) (hlo : Lo κ im f i) (hw : i ≤ wg) (hw2 : wg ≤ 8) : Et l yX3_freeName (wl yX3_freeName cX3_freeName 5 (some (.array .byte))) { frames := 3, cells := 1, slots := 21, locals := 61 } D κ κq [.ref g, .int (nI i), .ref b] ([(g, .inl (κ 3, wg, .inr (.inr (.inr (.inr f)))))] ++ im) (fun u9 : Option Nat × va_W => some (va_rf u9.1)) (fun u9 : Option Nat × va_W => Sb im u9.2 ∧ ((u9.1 = none) ∨ (∃ (q : Nat), ∃ (k : Nat), u9.1 = some q ∧ By κ u9.2 q k))) (fun u9 : Option Nat × va_W => ([(g, .inl (κ 3, wg, .inr (.inr (.inr (.inr f)))))] ++ u9.2)) := by
  refine et_of (by decide +kernel) (Nat.le_of_ble_eq_true rfl) ?_
  intro p e s m args below meth c A ls hx hb hr hml hts hown hlk hin hKK hK hA hP hD hS hE hl
  have hS : va_S A s.heap s.heap [] := hS
  have hP : va_P D vwCl ([(g, .inl (κ 3, wg, .inr (.inr (.inr (.inr f)))))] ++ im) s.heap := hP
  have hD : va_D A ([(g, .inl (κ 3, wg, .inr (.inr (.inr (.inr f)))))] ++ im) := hD
  have hFX : FX p s m args c cX3_freeName 5 RX3 := ⟨hx, hb, hml, hown, hts⟩
  have hl : lv_has ls 5 [(0, .ref g), (1, .int (nI i)), (2, .ref b)] := hl
  obtain ⟨hn_2, f_1, hm_3, hfit_4⟩ := id hby
  refine lv_aload_n hx hb dX3_freeName_0 rfl (lv_at hl 0 rfl) ?_
  refine lv_iload_n hx hb dX3_freeName_1 rfl (lv_at hl 1 rfl) ?_
  refine lv_aload_n hx hb dX3_freeName_2 rfl (lv_at hl 2 rfl) ?_
  refine er_S (As := [.ref g, .int (nI i), .ref b]) (rest := []) hFX hKK hE hS (c_X1_indexOf l D κ κq im g i b n wg f hby hlo (by omega) (by omega)) 3 gS_X3_102 hdS_X1_indexOf rfl rfl ⟨Nat.le_of_ble_eq_true rfl, Nat.le_of_ble_eq_true rfl⟩ rfl rfl (Nat.le_of_ble_eq_true rfl) dX3_freeName_3 ⟨Nat.le_of_ble_eq_true rfl, Nat.le_of_ble_eq_true rfl⟩ hl.1 (subP hP [0] rfl) (fun r__5 hp_6 => ?_)
  replace hp_6 : (r__5 = -1 ∨ ∃ j : Nat, j < i ∧ r__5 = nI j) := hp_6
  have h_7 := hp_6
  clear hp_6
  refine W.eq (g2 := F0 m 6 ls [.int r__5]) rfl ?_
  refine lv_iconst (v := (-1)) hx hb dX3_freeName_6 (by decide) ?_
  refine lv_icmp_ne (tgt := 12) hx hb dX3_freeName_7 (by decide) (fun c_8 => ?_) (fun c_8 => ?_)
  · refine lv_aload_n hx hb dX3_freeName_12 rfl (lv_at hl 2 rfl) ?_
    refine lv_aload_n hx hb dX3_freeName_13 rfl (lv_at hl 2 rfl) ?_
    refine va_alen hx hb hK (oneP (C := [(g, .inl (κ 3, wg, .inr (.inr (.inr (.inr f)))))]) hP hm_3) 0 1 rfl rfl (v := nI n) rfl dX3_freeName_14 ?_
    refine lv_iconst (v := 1) hx hb dX3_freeName_15 (by decide) ?_
    refine lv_iadd hx hb dX3_freeName_16 ?_
    refine ki (v := (nI (n + 1))) (nI_add n 1) ?_
    refine et_ST (CR := [(g, .inl (κ 3, wg, .inr (.inr (.inr (.inr f)))))]) (As := [.ref b, .int (nI (n + 1))]) (rest := []) hFX hKK hE hP hD hS hA (c_copyb_t l D κ κq im b n (n + 1) hby (by omega) (by omega)) 2 gS_X3_106 hdS_J7_copyOf_9075b ⟨Nat.le_of_ble_eq_true rfl, Nat.le_of_ble_eq_true rfl⟩ rfl rfl (Nat.le_of_ble_eq_true rfl) dX3_freeName_17 ⟨Nat.le_of_ble_eq_true rfl, Nat.le_of_ble_eq_true rfl⟩ hl.1 [] [0] rfl rfl (by decide) (by decide) (by decide) (fun u_11 H locs hp_12 hP hD hS => ?_)
    refine W.widen (k := 1) (n := 21) (Nat.le_refl _) (Nat.le_refl _) ?_
    obtain ⟨q__9, g__10⟩ := u_11
    replace hP : va_P D vwCl ([(g, .inl (κ 3, wg, .inr (.inr (.inr (.inr f))))), (q__9, .inl (κ 1, (n + 1), .inl g__10))] ++ im) H := subP (C := [(g, .inl (κ 3, wg, .inr (.inr (.inr (.inr f))))), (q__9, .inl (κ 1, (n + 1), .inl g__10))]) hP [0, 1] rfl
    replace hD : va_D A ([(g, .inl (κ 3, wg, .inr (.inr (.inr (.inr f))))), (q__9, .inl (κ 1, (n + 1), .inl g__10))] ++ im) := subD (C := [(g, .inl (κ 3, wg, .inr (.inr (.inr (.inr f))))), (q__9, .inl (κ 1, (n + 1), .inl g__10))]) hD [0, 1] (by decide) rfl
    replace hp_12 : sb_Fit g__10 := hp_12
    have h_13 := hp_12
    clear hp_12
    refine W.eq (g2 := F0 m 20 ls [.ref q__9]) rfl ?_
    refine lv_astore_n (lv' := [(3, .ref q__9), (0, .ref g), (1, .int (nI i)), (2, .ref b)]) hx hb dX3_freeName_20 rfl hl (by decide) rfl (fun ls hl => ?_)
    refine lv_aload_n hx hb dX3_freeName_21 rfl (lv_at hl 0 rfl) ?_
    refine lv_aload_n hx hb dX3_freeName_22 rfl (lv_at hl 3 rfl) ?_
    refine va_alen hx hb hK (oneP (C := [(g, .inl (κ 3, wg, .inr (.inr (.inr (.inr f))))), (q__9, .inl (κ 1, (n + 1), .inl g__10))]) hP hm_3) 0 1 rfl rfl (v := nI n) rfl dX3_freeName_23 ?_
    refine lv_bipush (v := 95) hx hb dX3_freeName_24 (by decide) ?_
    refine va_bast hx hb hK hP hD hS 1 1 rfl rfl (i := nI n) (x := 95) (vp_in_nI (n := n) (by omega) (by omega)) dX3_freeName_26 (fun H locs hP hD hS => ?_)
    rw [nI_clamp (by omega)] at hP hD
    have hP : va_P D vwCl ([(g, .inl (κ 3, wg, .inr (.inr (.inr (.inr f))))), (q__9, .inl (κ 1, (n + 1), .inl (upd g__10 n (vp_nar .byte 95))))] ++ im) H := hP
    have hD : va_D A ([(g, .inl (κ 3, wg, .inr (.inr (.inr (.inr f))))), (q__9, .inl (κ 1, (n + 1), .inl (upd g__10 n (vp_nar .byte 95))))] ++ im) := hD
    have hf_15 : sb_Fit (upd g__10 n (vp_nar .byte 95)) := sb_fitU h_13 (fit_nar _)
    generalize upd g__10 n (vp_nar .byte 95) = g_14 at hP hD hf_15
    refine lv_aload_n hx hb dX3_freeName_27 rfl (lv_at hl 0 rfl) ?_
    refine er_S (As := [.ref q__9]) (rest := []) hFX hKK hE hS (c_X1_canBeName l D κ κq q__9 (n + 1) g_14 (by omega)) 1 gS_X3_112 hdS_X1_canBeName rfl rfl ⟨Nat.le_of_ble_eq_true rfl, Nat.le_of_ble_eq_true rfl⟩ rfl rfl (Nat.le_of_ble_eq_true rfl) dX3_freeName_28 ⟨Nat.le_of_ble_eq_true rfl, Nat.le_of_ble_eq_true rfl⟩ hl.1 (subP0 hP [1] rfl) (fun r__16 hp_17 => ?_)
    replace hp_17 : ((r__16 = 1 ∧ (n + 1) ≤ 12 ∧ 1 ≤ (n + 1)) ∨ (r__16 = 0)) := hp_17
    have ha_18 := hp_17
    clear hp_17
    rcases ha_18 with ⟨rfl, a_19, a_20⟩ | rfl
    · refine W.eq (g2 := F0 m 31 ls [.int 1]) rfl ?_
      refine lv_if_eq (tgt := 48) hx hb dX3_freeName_31 (by decide) (fun c_21 => absurd c_21 (by decide)) (fun c_21 => ?_)
      replace hP : va_P D vwCl ([(g, .inl (κ 3, wg, .inr (.inr (.inr (.inr f))))), (q__9, .inl (κ 1, (n + 1), .inl g_14))] ++ im) _ := subP hP [0, 1] rfl
      replace hD : va_D A ([(g, .inl (κ 3, wg, .inr (.inr (.inr (.inr f))))), (q__9, .inl (κ 1, (n + 1), .inl g_14))] ++ im) := subD hD [0, 1] (by decide) rfl
      obtain ⟨im_22, he_23⟩ : ∃ x9 : va_W, x9 = ([(q__9, .inl (κ 1, (n + 1), .inl g_14))] ++ im) := ⟨_, rfl⟩
      have hs_24 : Sb im im_22 := by rw [he_23]; exact Sb.app
      have hm_q__9 : (q__9, .inl (κ 1, (n + 1), .inl g_14)) ∈ im_22 := by rw [he_23]; exact List.mem_of_getElem? (i := 0) rfl
      replace hP : va_P D vwCl ([(g, .inl (κ 3, wg, .inr (.inr (.inr (.inr f)))))] ++ ([(q__9, .inl (κ 1, (n + 1), .inl g_14))] ++ im)) _ := hP
      replace hD : va_D A ([(g, .inl (κ 3, wg, .inr (.inr (.inr (.inr f)))))] ++ ([(q__9, .inl (κ 1, (n + 1), .inl g_14))] ++ im)) := hD
      rw [← he_23] at hP hD
      clear he_23
      replace hby := hby.up hs_24
      replace hlo := hlo.up hs_24
      replace hm_3 := hs_24 _ hm_3
      have hf_25 : By κ im_22 q__9 ((n + 1)) := ⟨by omega, _, hm_q__9, hf_15⟩
      refine lv_aload_n hx hb dX3_freeName_34 rfl (lv_at hl 1 rfl) ?_
      refine lv_iload_n hx hb dX3_freeName_35 rfl (lv_at hl 2 rfl) ?_
      refine lv_aload_n hx hb dX3_freeName_36 rfl (lv_at hl 0 rfl) ?_
      refine er_S (As := [.ref g, .int (nI i), .ref q__9]) (rest := []) hFX hKK hE hS (c_X1_indexOf l D κ κq im_22 g i q__9 (n + 1) wg f hf_25 hlo (by omega) (by omega)) 3 gS_X3_102 hdS_X1_indexOf rfl rfl ⟨Nat.le_of_ble_eq_true rfl, Nat.le_of_ble_eq_true rfl⟩ rfl rfl (Nat.le_of_ble_eq_true rfl) dX3_freeName_37 ⟨Nat.le_of_ble_eq_true rfl, Nat.le_of_ble_eq_true rfl⟩ hl.1 (subP hP [0] rfl) (fun r__26 hp_27 => ?_)
      replace hp_27 : (r__26 = -1 ∨ ∃ j : Nat, j < i ∧ r__26 = nI j) := hp_27
      have h_28 := hp_27
      clear hp_27
      refine W.eq (g2 := F0 m 40 ls [.int r__26]) rfl ?_
      refine lv_iconst (v := (-1)) hx hb dX3_freeName_40 (by decide) ?_
      refine lv_icmp_ne (tgt := 48) hx hb dX3_freeName_41 (by decide) (fun c_29 => ?_) (fun c_29 => ?_)
      · refine lv_iconst (v := 0) hx hb dX3_freeName_48 (by decide) ?_
        refine lv_istore (lv' := [(4, .int 0), (3, .ref q__9), (0, .ref g), (1, .int (nI i)), (2, .ref b)]) hx hb dX3_freeName_49 hl (by decide) rfl (fun ls hl => ?_)
        refine lv_iload hx hb dX3_freeName_51 (lv_at hl 0 rfl) ?_
        refine lv_if_eq (tgt := 60) hx hb dX3_freeName_53 (by decide) (fun c_30 => ?_) (fun c_30 => absurd (by decide) c_30)
        refine lv_null hx hb dX3_freeName_60 ?_
        exact et_aret hx hb hr (by first | exact Or.inl ⟨_, rfl⟩ | exact Or.inr ⟨_, rfl⟩) hlk (by first | exact Or.inl rfl | exact Or.inr ⟨_, rfl⟩) hS (none, im_22) rfl ⟨(show Sb im im_22 from hs_24), (by exact Or.inl (rfl))⟩ (subP hP [0] rfl) (subD hD [0] (by decide) rfl) (Nat.le_of_ble_eq_true rfl) (Nat.le_of_ble_eq_true rfl) dX3_freeName_61
      · refine lv_iconst (v := 1) hx hb dX3_freeName_44 (by decide) ?_
        refine lv_goto (tgt := 49) hx hb dX3_freeName_45 (by decide) ?_
        refine lv_istore (lv' := [(4, .int 1), (3, .ref q__9), (0, .ref g), (1, .int (nI i)), (2, .ref b)]) hx hb dX3_freeName_49 hl (by decide) rfl (fun ls hl => ?_)
        refine lv_iload hx hb dX3_freeName_51 (lv_at hl 0 rfl) ?_
        refine lv_if_eq (tgt := 60) hx hb dX3_freeName_53 (by decide) (fun c_31 => absurd c_31 (by decide)) (fun c_31 => ?_)
        refine lv_aload_n hx hb dX3_freeName_56 rfl (lv_at hl 1 rfl) ?_
        refine lv_goto (tgt := 61) hx hb dX3_freeName_57 (by decide) ?_
        exact et_aret hx hb hr (by first | exact Or.inl ⟨_, rfl⟩ | exact Or.inr ⟨_, rfl⟩) hlk (by first | exact Or.inl rfl | exact Or.inr ⟨_, rfl⟩) hS ((some q__9), im_22) rfl ⟨(show Sb im im_22 from hs_24), (by exact Or.inr ((⟨q__9, ((n + 1)), rfl, (show By κ im_22 q__9 (n + 1) from hf_25)⟩)))⟩ (subP hP [0] rfl) (subD hD [0] (by decide) rfl) (Nat.le_of_ble_eq_true rfl) (Nat.le_of_ble_eq_true rfl) dX3_freeName_61
    · refine W.eq (g2 := F0 m 31 ls [.int 0]) rfl ?_
      refine lv_if_eq (tgt := 48) hx hb dX3_freeName_31 (by decide) (fun c_32 => ?_) (fun c_32 => absurd (by decide) c_32)
      refine lv_iconst (v := 0) hx hb dX3_freeName_48 (by decide) ?_
      refine lv_istore (lv' := [(4, .int 0), (3, .ref q__9), (0, .ref g), (1, .int (nI i)), (2, .ref b)]) hx hb dX3_freeName_49 hl (by decide) rfl (fun ls hl => ?_)
      refine lv_iload hx hb dX3_freeName_51 (lv_at hl 0 rfl) ?_
      refine lv_if_eq (tgt := 60) hx hb dX3_freeName_53 (by decide) (fun c_33 => ?_) (fun c_33 => absurd (by decide) c_33)
      refine lv_null hx hb dX3_freeName_60 ?_
      replace hP : va_P D vwCl ([(g, .inl (κ 3, wg, .inr (.inr (.inr (.inr f))))), (q__9, .inl (κ 1, (n + 1), .inl g_14))] ++ im) _ := subP hP [0, 1] rfl
      replace hD : va_D A ([(g, .inl (κ 3, wg, .inr (.inr (.inr (.inr f))))), (q__9, .inl (κ 1, (n + 1), .inl g_14))] ++ im) := subD hD [0, 1] (by decide) rfl
      obtain ⟨im_34, he_35⟩ : ∃ x9 : va_W, x9 = ([(q__9, .inl (κ 1, (n + 1), .inl g_14))] ++ im) := ⟨_, rfl⟩
      have hs_36 : Sb im im_34 := by rw [he_35]; exact Sb.app
      have hm_q__9 : (q__9, .inl (κ 1, (n + 1), .inl g_14)) ∈ im_34 := by rw [he_35]; exact List.mem_of_getElem? (i := 0) rfl
      replace hP : va_P D vwCl ([(g, .inl (κ 3, wg, .inr (.inr (.inr (.inr f)))))] ++ ([(q__9, .inl (κ 1, (n + 1), .inl g_14))] ++ im)) _ := hP
      replace hD : va_D A ([(g, .inl (κ 3, wg, .inr (.inr (.inr (.inr f)))))] ++ ([(q__9, .inl (κ 1, (n + 1), .inl g_14))] ++ im)) := hD
      rw [← he_35] at hP hD
      clear he_35
      replace hby := hby.up hs_36
      replace hlo := hlo.up hs_36
      replace hm_3 := hs_36 _ hm_3
      exact et_aret hx hb hr (by first | exact Or.inl ⟨_, rfl⟩ | exact Or.inr ⟨_, rfl⟩) hlk (by first | exact Or.inl rfl | exact Or.inr ⟨_, rfl⟩) hS (none, im_34) rfl ⟨(show Sb im im_34 from hs_36), (by exact Or.inl (rfl))⟩ (subP hP [0] rfl) (subD hD [0] (by decide) rfl) (Nat.le_of_ble_eq_true rfl) (Nat.le_of_ble_eq_true rfl) dX3_freeName_61
  · refine lv_aload_n hx hb dX3_freeName_10 rfl (lv_at hl 2 rfl) ?_
    exact et_aret hx hb hr (by first | exact Or.inl ⟨_, rfl⟩ | exact Or.inr ⟨_, rfl⟩) hlk (by first | exact Or.inl rfl | exact Or.inr ⟨_, rfl⟩) hS ((some b), im) rfl ⟨(show Sb im im from Sb.rf), (by exact Or.inr ((⟨b, n, rfl, (show By κ im b n from hby)⟩)))⟩ (subP hP [0] rfl) (subD hD [0] (by decide) rfl) (Nat.le_of_ble_eq_true rfl) (Nat.le_of_ble_eq_true rfl) dX3_freeName_11
set_option maxHeartbeats 4000000 in
set_option maxRecDepth 100000 in
theorem c_X3_newColumns (l : Launch) (D : va_G) (κ : Nat → ClassId) (κq : Nat → Nat) (im : va_W) (jn : Nat) (q1 : Nat) (S1 : Nat) (R1 : Nat) (w1 : Nat) (o1 : Nat) (a1 : Nat) (m1 : Nat) (t1 : Nat) (q2 : Nat) (S2 : Nat) (R2 : Nat) (w2 : Nat) (o2 : Nat) (a2 : Nat) (m2 : Nat) (t2 : Nat) (zt : Int32) (hs1 : Sp κ im q1 S1 R1 w1 o1 a1 m1 t1) (hs2 : Sp κ im q2 S2 R2 w2 o2 a2 m2 t2) : Et l yX3_newColumns (wl yX3_newColumns cX3_newColumns 7 (some (.array (.object "TypedTables$Column")))) { frames := 4, cells := 17, slots := 192, locals := 85 } D κ κq [.ref jn] ([(jn, .inr (3, [.ref q1, .ref q2, .int zt]))] ++ im) (fun u9 : Option Nat × va_W => some (va_rf u9.1)) (fun u9 : Option Nat × va_W => Sb im u9.2 ∧ ((u9.1 = none) ∨ (∃ (q : Nat), u9.1 = some q ∧ Ca κ u9.2 q (w1 + w2 - 1) ∧ w1 + w2 ≤ 9))) (fun u9 : Option Nat × va_W => ([(jn, .inr (3, [.ref q1, .ref q2, .int zt]))] ++ u9.2)) := by
  refine et_of (by decide +kernel) (Nat.le_of_ble_eq_true rfl) ?_
  intro p e s m args below meth c A ls hx hb hr hml hts hown hlk hin hKK hK hA hP hD hS hE hl
  have hS : va_S A s.heap s.heap [] := hS
  have hP : va_P D vwCl ([(jn, .inr (3, [.ref q1, .ref q2, .int zt]))] ++ im) s.heap := hP
  have hD : va_D A ([(jn, .inr (3, [.ref q1, .ref q2, .int zt]))] ++ im) := hD
  have hFX : FX p s m args c cX3_newColumns 7 RX3 := ⟨hx, hb, hml, hown, hts⟩
  have hl : lv_has ls 7 [(0, .ref jn)] := hl
  obtain ⟨h_1, h_2, hm_3, h_4, h_5⟩ := id hs1
  obtain ⟨h_6, h_7, hm_8, h_9, h_10⟩ := id hs2
  obtain ⟨hb_11, c_12, x_13, v_14, g_15, h_16, hm_17, hm_18, hm_19, lo_20, lc_21, vw_22⟩ := id h_4
  obtain ⟨hb_11_1, hb_11_2, hb_11_3⟩ := hb_11
  have hrw_hb_11 := rw_le hb_11_1 hb_11_3
  obtain ⟨hb_23, c_24, x_25, v_26, g_27, h_28, hm_29, hm_30, hm_31, lo_32, lc_33, vw_34⟩ := id h_9
  obtain ⟨hb_23_1, hb_23_2, hb_23_3⟩ := hb_23
  have hrw_hb_23 := rw_le hb_23_1 hb_23_3
  refine lv_aload_n hx hb dX3_newColumns_0 rfl (lv_at hl 0 rfl) ?_
  refine va_get (D := D) (ci := 3) (v := .ref q1) (C := RX3) (T := TX3) (N := 3) hx hb hts inlX3 hown hK hP 0 rfl rfl 0 (by decide) (hts _ mw_823) (fun _ h9 => h9) rfl dX3_newColumns_1 ?_
  refine va_get (D := D) (ci := 7) (v := .ref S1) (C := RX7) (T := TX7) (N := 4) hx hb hts inlX7 hown hK (oneP (C := [(jn, .inr (3, [.ref q1, .ref q2, .int zt]))]) hP hm_3) 0 rfl rfl 0 (by decide) (hts _ mw_840) (fun _ h9 => h9) rfl dX3_newColumns_4 ?_
  refine va_get (D := D) (ci := 5) (v := .ref c_12) (C := RX5) (T := TX5) (N := 4) hx hb hts inlX5 hown hK (oneP (C := [(jn, .inr (3, [.ref q1, .ref q2, .int zt]))]) hP hm_17) 0 rfl rfl 0 (by decide) (hts _ mw_841) (fun _ h9 => h9) rfl dX3_newColumns_7 ?_
  refine va_alen hx hb hK (oneP (C := [(jn, .inr (3, [.ref q1, .ref q2, .int zt]))]) hP hm_18) 0 3 rfl rfl (v := nI w1) rfl dX3_newColumns_10 ?_
  refine lv_istore_n (lv' := [(1, .int (nI w1)), (0, .ref jn)]) hx hb dX3_newColumns_11 rfl hl (by decide) rfl (fun ls hl => ?_)
  refine lv_iload_n hx hb dX3_newColumns_12 rfl (lv_at hl 0 rfl) ?_
  refine lv_aload_n hx hb dX3_newColumns_13 rfl (lv_at hl 1 rfl) ?_
  refine va_get (D := D) (ci := 3) (v := .ref q2) (C := RX3) (T := TX3) (N := 3) hx hb hts inlX3 hown hK hP 0 rfl rfl 1 (by decide) (hts _ mw_824) (fun _ h9 => h9) rfl dX3_newColumns_14 ?_
  refine va_get (D := D) (ci := 7) (v := .ref S2) (C := RX7) (T := TX7) (N := 4) hx hb hts inlX7 hown hK (oneP (C := [(jn, .inr (3, [.ref q1, .ref q2, .int zt]))]) hP hm_8) 0 rfl rfl 0 (by decide) (hts _ mw_840) (fun _ h9 => h9) rfl dX3_newColumns_17 ?_
  refine va_get (D := D) (ci := 5) (v := .ref c_24) (C := RX5) (T := TX5) (N := 4) hx hb hts inlX5 hown hK (oneP (C := [(jn, .inr (3, [.ref q1, .ref q2, .int zt]))]) hP hm_29) 0 rfl rfl 0 (by decide) (hts _ mw_841) (fun _ h9 => h9) rfl dX3_newColumns_20 ?_
  refine va_alen hx hb hK (oneP (C := [(jn, .inr (3, [.ref q1, .ref q2, .int zt]))]) hP hm_30) 0 3 rfl rfl (v := nI w2) rfl dX3_newColumns_23 ?_
  refine lv_iadd hx hb dX3_newColumns_24 ?_
  refine ki (v := (nI (w1 + w2))) (nI_add w1 w2) ?_
  refine lv_iconst (v := 1) hx hb dX3_newColumns_25 (by decide) ?_
  refine lv_isub hx hb dX3_newColumns_26 ?_
  refine ki (v := (nI (w1 + w2 - 1))) (pk_sub (a := (w1 + w2)) (b := 1) (by omega)) ?_
  refine lv_istore_n (lv' := [(2, .int (nI (w1 + w2 - 1))), (1, .int (nI w1)), (0, .ref jn)]) hx hb dX3_newColumns_27 rfl hl (by decide) rfl (fun ls hl => ?_)
  refine lv_iload_n hx hb dX3_newColumns_28 rfl (lv_at hl 0 rfl) ?_
  refine lv_bipush (v := 8) hx hb dX3_newColumns_29 (by decide) ?_
  refine lv_icmp_le (tgt := 36) hx hb dX3_newColumns_31 (by decide) (fun c_35 => ?_) (fun c_35 => ?_)
  · have nc_35 := cv_le (a := (w1 + w2 - 1)) (b := 8) (by omega) (by omega) c_35
    refine lv_iload_n hx hb dX3_newColumns_36 rfl (lv_at hl 0 rfl) ?_
    refine my_newq hx hb hown (hts _ mw_842) hKK.2.2.1 hK hP hD hS hA 3 rfl (N' := (w1 + w2 - 1)) (nI_pos (by omega)) (nI_clamp (by omega)) (by omega) (Nat.le_of_ble_eq_true rfl) (by show _ ≤ 192; omega) dX3_newColumns_37 (fun q_36 H hP hD hS => ?_)
    refine W.widen (k := 1) (n := 8) (Nat.le_refl _) (by omega) ?_
    replace hP : va_P D vwCl ([(jn, .inr (3, [.ref q1, .ref q2, .int zt])), (q_36, .inl (κ 3, w1 + w2 - 1, .inr (.inr (.inr (.inr (fun _ => none))))))] ++ im) H := mvP hP
    replace hD : va_D A ([(jn, .inr (3, [.ref q1, .ref q2, .int zt])), (q_36, .inl (κ 3, w1 + w2 - 1, .inr (.inr (.inr (.inr (fun _ => none))))))] ++ im) := mvD hD
    refine lv_astore_n (lv' := [(3, .ref q_36), (2, .int (nI (w1 + w2 - 1))), (1, .int (nI w1)), (0, .ref jn)]) hx hb dX3_newColumns_40 rfl hl (by decide) rfl (fun ls hl => ?_)
    refine lv_iconst (v := 0) hx hb dX3_newColumns_41 (by decide) ?_
    refine lv_istore (lv' := [(4, .int 0), (3, .ref q_36), (2, .int (nI (w1 + w2 - 1))), (1, .int (nI w1)), (0, .ref jn)]) hx hb dX3_newColumns_42 hl (by decide) rfl (fun ls hl => ?_)
    refine loop_dn (fun k9 H locs ls => ∃ (k4_44 : Nat), ∃ (gq_36_44 : Nat → Option Nat), (k4_44 ≤ w1) ∧ Lo κ im gq_36_44 k4_44 ∧ w1 - k4_44 = k9 ∧ va_P D vwCl ([(jn, .inr (3, [.ref q1, .ref q2, .int zt])), (q_36, .inl (κ 3, w1 + w2 - 1, .inr (.inr (.inr (.inr gq_36_44)))))] ++ im) H ∧ va_D A ([(jn, .inr (3, [.ref q1, .ref q2, .int zt])), (q_36, .inl (κ 3, w1 + w2 - 1, .inr (.inr (.inr (.inr gq_36_44)))))] ++ im) ∧ va_S A s.heap H locs ∧ lv_has ls 7 [(4, .int (nI k4_44)), (3, .ref q_36), (2, .int (nI (w1 + w2 - 1))), (1, .int (nI w1)), (0, .ref jn)]) (fun k9 H locs ls hI44 ih44 => ?_) (w1 - 0) _ _ _ ⟨0, (fun _ => none), (by omega), Lo_0, rfl, hP, hD, hS, lv_sub hl [0, 1, 2, 3, 4] rfl⟩
    obtain ⟨k4_44, gq_36_44, hl44_0, hq44_0, hm44, hP, hD, hS, hl⟩ := hI44
    refine lv_iload hx hb dX3_newColumns_44 (lv_at hl 0 rfl) ?_
    refine lv_iload_n hx hb dX3_newColumns_46 rfl (lv_at hl 3 rfl) ?_
    refine lv_icmp_ge (tgt := 73) hx hb dX3_newColumns_47 (by decide) (fun c_37 => ?_) (fun c_37 => ?_)
    · have nc_37 := cv_le (a := w1) (b := k4_44) (by omega) (by omega) c_37
      obtain rfl : w1 = k4_44 := by omega
      refine lv_iload_n hx hb dX3_newColumns_73 rfl (lv_at hl 3 rfl) ?_
      refine lv_istore (lv' := [(4, .int (nI w1)), (3, .ref q_36), (2, .int (nI (w1 + w2 - 1))), (1, .int (nI w1)), (0, .ref jn)]) hx hb dX3_newColumns_74 hl (by decide) rfl (fun ls hl => ?_)
      refine W.widen (k := 17 - 2 * (w1 + w2 - 1 - w1)) (n := 192 - 23 * (w1 + w2 - 1 - w1)) (by omega) (by omega) ?_
      refine loop_mk (8) 2 23 17 192 (fun k9 H locs ls => ∃ (k4_76 : Nat), ∃ (gq_36_76 : Nat → Option Nat), ∃ (im_L76 : va_W), (k4_76 ≤ w1 + w2 - 1) ∧ (w1 ≤ k4_76) ∧ (Sb im im_L76) ∧ Lo κ im_L76 gq_36_76 k4_76 ∧ w1 + w2 - 1 - k4_76 = k9 ∧ va_P D vwCl ([(jn, .inr (3, [.ref q1, .ref q2, .int zt])), (q_36, .inl (κ 3, w1 + w2 - 1, .inr (.inr (.inr (.inr gq_36_76)))))] ++ im_L76) H ∧ va_D A ([(jn, .inr (3, [.ref q1, .ref q2, .int zt])), (q_36, .inl (κ 3, w1 + w2 - 1, .inr (.inr (.inr (.inr gq_36_76)))))] ++ im_L76) ∧ va_S A s.heap H locs ∧ lv_has ls 7 [(4, .int (nI k4_76)), (3, .ref q_36), (2, .int (nI (w1 + w2 - 1))), (1, .int (nI w1)), (0, .ref jn)]) (fun kz76 H locs ls hkz76 hI76 ih76 => ?_) (w1 + w2 - 1 - w1) _ _ _ (by omega) ⟨w1, gq_36_44, im, (by omega), (by omega), Sb.rf, hq44_0, rfl, hP, hD, hS, lv_sub hl [0, 1, 2, 3, 4] rfl⟩
      obtain ⟨k4_76, gq_36_76, im_L76, hl76_0, hl76_1, hl76_2, hq76_0, hm76, hP, hD, hS, hl⟩ := hI76
      replace hs1 := hs1.up hl76_2
      replace hs2 := hs2.up hl76_2
      replace h_4 := h_4.up hl76_2
      replace h_5 := h_5.up hl76_2
      replace h_9 := h_9.up hl76_2
      replace h_10 := h_10.up hl76_2
      replace lo_20 := lo_20.up hl76_2
      replace lc_21 := lc_21.up hl76_2
      replace vw_22 := vw_22.up hl76_2
      replace lo_32 := lo_32.up hl76_2
      replace lc_33 := lc_33.up hl76_2
      replace vw_34 := vw_34.up hl76_2
      replace hq44_0 := hq44_0.up hl76_2
      replace hm_3 := hl76_2 _ hm_3
      replace hm_8 := hl76_2 _ hm_8
      replace hm_17 := hl76_2 _ hm_17
      replace hm_18 := hl76_2 _ hm_18
      replace hm_19 := hl76_2 _ hm_19
      replace hm_29 := hl76_2 _ hm_29
      replace hm_30 := hl76_2 _ hm_30
      replace hm_31 := hl76_2 _ hm_31
      refine lv_iload hx hb dX3_newColumns_76 (lv_at hl 0 rfl) ?_
      refine lv_iload_n hx hb dX3_newColumns_78 rfl (lv_at hl 2 rfl) ?_
      refine lv_icmp_ge (tgt := 147) hx hb dX3_newColumns_79 (by decide) (fun c_38 => ?_) (fun c_38 => ?_)
      · have nc_38 := cv_le (a := (w1 + w2 - 1)) (b := k4_76) (by omega) (by omega) c_38
        refine lv_aload_n hx hb dX3_newColumns_147 rfl (lv_at hl 1 rfl) ?_
        replace hP : va_P D vwCl ([(jn, .inr (3, [.ref q1, .ref q2, .int zt])), (q_36, .inl (κ 3, w1 + w2 - 1, .inr (.inr (.inr (.inr gq_36_76)))))] ++ im_L76) _ := subP hP [0, 1] rfl
        replace hD : va_D A ([(jn, .inr (3, [.ref q1, .ref q2, .int zt])), (q_36, .inl (κ 3, w1 + w2 - 1, .inr (.inr (.inr (.inr gq_36_76)))))] ++ im_L76) := subD hD [0, 1] (by decide) rfl
        obtain ⟨im_39, he_40⟩ : ∃ x9 : va_W, x9 = ([(q_36, .inl (κ 3, w1 + w2 - 1, .inr (.inr (.inr (.inr gq_36_76)))))] ++ im_L76) := ⟨_, rfl⟩
        have hs_41 : Sb im_L76 im_39 := by rw [he_40]; exact Sb.app
        have hm_q_36 : (q_36, .inl (κ 3, w1 + w2 - 1, .inr (.inr (.inr (.inr gq_36_76))))) ∈ im_39 := by rw [he_40]; exact List.mem_of_getElem? (i := 0) rfl
        replace hP : va_P D vwCl ([(jn, .inr (3, [.ref q1, .ref q2, .int zt]))] ++ ([(q_36, .inl (κ 3, w1 + w2 - 1, .inr (.inr (.inr (.inr gq_36_76)))))] ++ im_L76)) _ := hP
        replace hD : va_D A ([(jn, .inr (3, [.ref q1, .ref q2, .int zt]))] ++ ([(q_36, .inl (κ 3, w1 + w2 - 1, .inr (.inr (.inr (.inr gq_36_76)))))] ++ im_L76)) := hD
        rw [← he_40] at hP hD
        clear he_40
        replace hs1 := hs1.up hs_41
        replace hs2 := hs2.up hs_41
        replace h_4 := h_4.up hs_41
        replace h_5 := h_5.up hs_41
        replace h_9 := h_9.up hs_41
        replace h_10 := h_10.up hs_41
        replace lo_20 := lo_20.up hs_41
        replace lc_21 := lc_21.up hs_41
        replace vw_22 := vw_22.up hs_41
        replace lo_32 := lo_32.up hs_41
        replace lc_33 := lc_33.up hs_41
        replace vw_34 := vw_34.up hs_41
        replace hq44_0 := hq44_0.up hs_41
        replace hq76_0 := hq76_0.up hs_41
        replace hm_3 := hs_41 _ hm_3
        replace hm_8 := hs_41 _ hm_8
        replace hm_17 := hs_41 _ hm_17
        replace hm_18 := hs_41 _ hm_18
        replace hm_19 := hs_41 _ hm_19
        replace hm_29 := hs_41 _ hm_29
        replace hm_30 := hs_41 _ hm_30
        replace hm_31 := hs_41 _ hm_31
        have hf_42 : Ca κ im_39 q_36 (w1 + w2 - 1) := ⟨_, hm_q_36, (by have e9 : w1 + w2 - 1 = k4_76 := (by omega); rw [e9]; exact hq76_0)⟩
        exact et_aret hx hb hr (by first | exact Or.inl ⟨_, rfl⟩ | exact Or.inr ⟨_, rfl⟩) hlk (by first | exact Or.inl rfl | exact Or.inr ⟨_, rfl⟩) hS ((some q_36), im_39) rfl ⟨(show Sb im im_39 from (Sb.tr hl76_2 hs_41)), (by exact Or.inr ((⟨q_36, rfl, (show Ca κ im_39 q_36 (w1 + w2 - 1) from hf_42), (show w1 + w2 ≤ 9 from (by first | assumption | omega | rfl | exact Or.inl (by assumption) | exact Or.inr (by assumption)))⟩)))⟩ (subP hP [0] rfl) (subD hD [0] (by decide) rfl) (by show _ ≤ 17; omega) (by show _ ≤ 192; omega) dX3_newColumns_148
      · have nc_38 := cv_nle (a := (w1 + w2 - 1)) (b := k4_76) (by omega) (by omega) c_38
        refine lv_aload_n hx hb dX3_newColumns_82 rfl (lv_at hl 4 rfl) ?_
        refine va_get (D := D) (ci := 3) (v := .ref q2) (C := RX3) (T := TX3) (N := 3) hx hb hts inlX3 hown hK hP 0 rfl rfl 1 (by decide) (hts _ mw_824) (fun _ h9 => h9) rfl dX3_newColumns_83 ?_
        refine va_get (D := D) (ci := 7) (v := .ref S2) (C := RX7) (T := TX7) (N := 4) hx hb hts inlX7 hown hK (oneP (C := [(jn, .inr (3, [.ref q1, .ref q2, .int zt])), (q_36, .inl (κ 3, w1 + w2 - 1, .inr (.inr (.inr (.inr gq_36_76)))))]) hP hm_8) 0 rfl rfl 0 (by decide) (hts _ mw_840) (fun _ h9 => h9) rfl dX3_newColumns_86 ?_
        refine va_get (D := D) (ci := 5) (v := .ref c_24) (C := RX5) (T := TX5) (N := 4) hx hb hts inlX5 hown hK (oneP (C := [(jn, .inr (3, [.ref q1, .ref q2, .int zt])), (q_36, .inl (κ 3, w1 + w2 - 1, .inr (.inr (.inr (.inr gq_36_76)))))]) hP hm_29) 0 rfl rfl 0 (by decide) (hts _ mw_841) (fun _ h9 => h9) rfl dX3_newColumns_89 ?_
        refine lv_aload_n hx hb dX3_newColumns_92 rfl (lv_at hl 4 rfl) ?_
        refine lv_iload hx hb dX3_newColumns_93 (lv_at hl 0 rfl) ?_
        refine lv_iload_n hx hb dX3_newColumns_95 rfl (lv_at hl 3 rfl) ?_
        refine lv_isub hx hb dX3_newColumns_96 ?_
        refine ki (v := (nI (k4_76 - w1))) (pk_sub (a := k4_76) (b := w1) (by omega)) ?_
        refine er_V (As := [.int (nI (k4_76 - w1))]) (rest := [.ref c_24]) hFX hKK hE hS (c_X3_rightColumn l D κ κq im_L76 jn q1 S1 R1 w1 o1 a1 m1 t1 q2 S2 R2 w2 o2 a2 m2 t2 zt (k4_76 - w1) hs1 hs2 (by omega) (by omega)) 1 gV_X3_79 hdV_X3_rightColumn rfl rfl ⟨Nat.le_of_ble_eq_true rfl, Nat.le_of_ble_eq_true rfl⟩ rfl rfl (Nat.le_of_ble_eq_true rfl) dX3_newColumns_97 ⟨(by show _ ≤ 17; omega), (by show _ ≤ 192; omega)⟩ hl.1 hP 0 3 rfl rfl rfl (subP hP [0] rfl) (fun r__43 hp_44 => ?_)
        replace hp_44 : r__43 < w2 := hp_44
        have h_45 := hp_44
        clear hp_44
        refine W.eq (g2 := F0 m 100 ls [.int (nI r__43), .ref c_24]) rfl ?_
        refine va_aldq hx hb hK (oneP (C := [(jn, .inr (3, [.ref q1, .ref q2, .int zt])), (q_36, .inl (κ 3, w1 + w2 - 1, .inr (.inr (.inr (.inr gq_36_76)))))]) hP hm_30) 0 3 rfl rfl (i := nI r__43) (vp_in_nI (n := r__43) (by omega) (by omega)) dX3_newColumns_100 ?_
        obtain ⟨q_46, e_47, m_48, t_49, h_50⟩ := lo_32 r__43 (by omega)
        refine kv (v := .ref q_46) (by rw [nI_clamp (by omega)]; rw [e_47]; rfl) ?_
        refine lv_astore (lv' := [(5, .ref q_46), (4, .int (nI k4_76)), (3, .ref q_36), (2, .int (nI (w1 + w2 - 1))), (1, .int (nI w1)), (0, .ref jn)]) hx hb dX3_newColumns_101 hl (by decide) rfl (fun ls hl => ?_)
        refine lv_aload_n hx hb dX3_newColumns_103 rfl (lv_at hl 2 rfl) ?_
        refine lv_iload hx hb dX3_newColumns_104 (lv_at hl 1 rfl) ?_
        refine lv_aload hx hb dX3_newColumns_106 (lv_at hl 0 rfl) ?_
        obtain ⟨ht_51, b_52, hm_53, hb_54⟩ := id h_50
        have hn_b_52 := hb_54.1
        refine va_get (D := D) (ci := 1) (v := .ref b_52) (C := RX1) (T := TX1) (N := 2) hx hb hts inlX1 hown hK (oneP (C := [(jn, .inr (3, [.ref q1, .ref q2, .int zt])), (q_36, .inl (κ 3, w1 + w2 - 1, .inr (.inr (.inr (.inr gq_36_76)))))]) hP hm_53) 0 rfl rfl 0 (by decide) (hts _ mw_843) (fun _ h9 => h9) rfl dX3_newColumns_108 ?_
        refine et_ST (CR := [(jn, .inr (3, [.ref q1, .ref q2, .int zt]))]) (As := [.ref q_36, .int (nI k4_76), .ref b_52]) (rest := []) hFX hKK hE hP hD hS hA (c_X3_freeName l D κ κq im_L76 q_36 k4_76 b_52 m_48 (w1 + w2 - 1) gq_36_76 hb_54 hq76_0 (by omega) (by omega)) 3 gS_X3_92 hdS_X3_freeName ⟨Nat.le_of_ble_eq_true rfl, Nat.le_of_ble_eq_true rfl⟩ rfl rfl (Nat.le_of_ble_eq_true rfl) dX3_newColumns_111 ⟨(by show 17 - 2 * kz76 + 0 + 1 ≤ 17; omega), (by show 192 - 23 * kz76 + 0 + 21 ≤ 192; omega)⟩ hl.1 [1] [0] rfl rfl (by decide) (by decide) (by decide) (fun u_57 H locs hp_58 hP hD hS => ?_)
        refine W.widen (k := 17 - 2 * kz76 + 1) (n := 192 - 23 * kz76 + 21) (Nat.le_refl _) (Nat.le_refl _) ?_
        obtain ⟨r__55, im2__56⟩ := u_57
        replace hP : va_P D vwCl ([(jn, .inr (3, [.ref q1, .ref q2, .int zt])), (q_36, .inl (κ 3, w1 + w2 - 1, .inr (.inr (.inr (.inr gq_36_76)))))] ++ im2__56) H := subP (C := [(jn, .inr (3, [.ref q1, .ref q2, .int zt])), (q_36, .inl (κ 3, w1 + w2 - 1, .inr (.inr (.inr (.inr gq_36_76)))))]) hP [0, 1] rfl
        replace hD : va_D A ([(jn, .inr (3, [.ref q1, .ref q2, .int zt])), (q_36, .inl (κ 3, w1 + w2 - 1, .inr (.inr (.inr (.inr gq_36_76)))))] ++ im2__56) := subD (C := [(jn, .inr (3, [.ref q1, .ref q2, .int zt])), (q_36, .inl (κ 3, w1 + w2 - 1, .inr (.inr (.inr (.inr gq_36_76)))))]) hD [0, 1] (by decide) rfl
        replace hp_58 : Sb im_L76 im2__56 ∧ ((r__55 = none) ∨ (∃ (q : Nat), ∃ (k : Nat), r__55 = some q ∧ By κ im2__56 q k)) := hp_58
        obtain ⟨h_59, ha_60⟩ := hp_58
        replace hs1 := hs1.up h_59
        replace hs2 := hs2.up h_59
        replace h_4 := h_4.up h_59
        replace h_5 := h_5.up h_59
        replace h_9 := h_9.up h_59
        replace h_10 := h_10.up h_59
        replace lo_20 := lo_20.up h_59
        replace lc_21 := lc_21.up h_59
        replace vw_22 := vw_22.up h_59
        replace lo_32 := lo_32.up h_59
        replace lc_33 := lc_33.up h_59
        replace vw_34 := vw_34.up h_59
        replace hq44_0 := hq44_0.up h_59
        replace hq76_0 := hq76_0.up h_59
        replace h_50 := h_50.up h_59
        replace hb_54 := hb_54.up h_59
        replace hm_3 := h_59 _ hm_3
        replace hm_8 := h_59 _ hm_8
        replace hm_17 := h_59 _ hm_17
        replace hm_18 := h_59 _ hm_18
        replace hm_19 := h_59 _ hm_19
        replace hm_29 := h_59 _ hm_29
        replace hm_30 := h_59 _ hm_30
        replace hm_31 := h_59 _ hm_31
        replace hm_53 := h_59 _ hm_53
        rcases ha_60 with rfl | ⟨q__61, k__62, rfl, a_63⟩
        · refine W.eq (g2 := F0 m 114 ls [.null]) rfl ?_
          refine lv_astoreN (lv' := [(6, .null), (5, .ref q_46), (4, .int (nI k4_76)), (3, .ref q_36), (2, .int (nI (w1 + w2 - 1))), (1, .int (nI w1)), (0, .ref jn)]) hx hb dX3_newColumns_114 hl (by decide) rfl (fun ls hl => ?_)
          refine lv_aloadN hx hb dX3_newColumns_116 (lv_at hl 0 rfl) ?_
          refine lv_ifnonnullN hx hb dX3_newColumns_118 ?_
          refine lv_null hx hb dX3_newColumns_121 ?_
          replace hP : va_P D vwCl ([(jn, .inr (3, [.ref q1, .ref q2, .int zt])), (q_36, .inl (κ 3, w1 + w2 - 1, .inr (.inr (.inr (.inr gq_36_76)))))] ++ im2__56) _ := subP hP [0, 1] rfl
          replace hD : va_D A ([(jn, .inr (3, [.ref q1, .ref q2, .int zt])), (q_36, .inl (κ 3, w1 + w2 - 1, .inr (.inr (.inr (.inr gq_36_76)))))] ++ im2__56) := subD hD [0, 1] (by decide) rfl
          obtain ⟨im_64, he_65⟩ : ∃ x9 : va_W, x9 = ([(q_36, .inl (κ 3, w1 + w2 - 1, .inr (.inr (.inr (.inr gq_36_76)))))] ++ im2__56) := ⟨_, rfl⟩
          have hs_66 : Sb im2__56 im_64 := by rw [he_65]; exact Sb.app
          have hm_q_36 : (q_36, .inl (κ 3, w1 + w2 - 1, .inr (.inr (.inr (.inr gq_36_76))))) ∈ im_64 := by rw [he_65]; exact List.mem_of_getElem? (i := 0) rfl
          replace hP : va_P D vwCl ([(jn, .inr (3, [.ref q1, .ref q2, .int zt]))] ++ ([(q_36, .inl (κ 3, w1 + w2 - 1, .inr (.inr (.inr (.inr gq_36_76)))))] ++ im2__56)) _ := hP
          replace hD : va_D A ([(jn, .inr (3, [.ref q1, .ref q2, .int zt]))] ++ ([(q_36, .inl (κ 3, w1 + w2 - 1, .inr (.inr (.inr (.inr gq_36_76)))))] ++ im2__56)) := hD
          rw [← he_65] at hP hD
          clear he_65
          replace hs1 := hs1.up hs_66
          replace hs2 := hs2.up hs_66
          replace h_4 := h_4.up hs_66
          replace h_5 := h_5.up hs_66
          replace h_9 := h_9.up hs_66
          replace h_10 := h_10.up hs_66
          replace lo_20 := lo_20.up hs_66
          replace lc_21 := lc_21.up hs_66
          replace vw_22 := vw_22.up hs_66
          replace lo_32 := lo_32.up hs_66
          replace lc_33 := lc_33.up hs_66
          replace vw_34 := vw_34.up hs_66
          replace hq44_0 := hq44_0.up hs_66
          replace hq76_0 := hq76_0.up hs_66
          replace h_50 := h_50.up hs_66
          replace hb_54 := hb_54.up hs_66
          replace hm_3 := hs_66 _ hm_3
          replace hm_8 := hs_66 _ hm_8
          replace hm_17 := hs_66 _ hm_17
          replace hm_18 := hs_66 _ hm_18
          replace hm_19 := hs_66 _ hm_19
          replace hm_29 := hs_66 _ hm_29
          replace hm_30 := hs_66 _ hm_30
          replace hm_31 := hs_66 _ hm_31
          replace hm_53 := hs_66 _ hm_53
          exact et_aret hx hb hr (by first | exact Or.inl ⟨_, rfl⟩ | exact Or.inr ⟨_, rfl⟩) hlk (by first | exact Or.inl rfl | exact Or.inr ⟨_, rfl⟩) hS (none, im_64) rfl ⟨(show Sb im im_64 from (Sb.tr (Sb.tr hl76_2 h_59) hs_66)), (by exact Or.inl (rfl))⟩ (subP hP [0] rfl) (subD hD [0] (by decide) rfl) (by show _ ≤ 17; omega) (by show _ ≤ 192; omega) dX3_newColumns_122
        · refine W.eq (g2 := F0 m 114 ls [.ref q__61]) rfl ?_
          refine lv_astore (lv' := [(6, .ref q__61), (5, .ref q_46), (4, .int (nI k4_76)), (3, .ref q_36), (2, .int (nI (w1 + w2 - 1))), (1, .int (nI w1)), (0, .ref jn)]) hx hb dX3_newColumns_114 hl (by decide) rfl (fun ls hl => ?_)
          refine lv_aload hx hb dX3_newColumns_116 (lv_at hl 0 rfl) ?_
          refine lv_ifnonnull (tgt := 123) hx hb dX3_newColumns_118 (by decide) ?_
          refine lv_aload_n hx hb dX3_newColumns_123 rfl (lv_at hl 3 rfl) ?_
          refine lv_iload hx hb dX3_newColumns_124 (lv_at hl 2 rfl) ?_
          refine va_new (ci := 1) (fs := [.null, .int 0]) (C := RX1) (T := TX1) (N := 2) hx hb hts inlX1 tyX1 tyX1_ok hown (hts _ mw_842) (hts _ mw_330) (hts _ mw_331) hK hP hD hS hA rfl (fun j hj => by rcases (show j = 0 ∨ j = 1 by omega) with rfl | rfl <;> rfl) (by show _ ≤ 17; omega) (by show _ ≤ 192; omega) dX3_newColumns_126 (fun q_67 H hP hD hS => ?_)
          replace hP : va_P D vwCl ([(jn, .inr (3, [.ref q1, .ref q2, .int zt])), (q_36, .inl (κ 3, w1 + w2 - 1, .inr (.inr (.inr (.inr gq_36_76))))), (q_67, .inr (1, [.null, .int 0]))] ++ im2__56) H := mvP hP
          replace hD : va_D A ([(jn, .inr (3, [.ref q1, .ref q2, .int zt])), (q_36, .inl (κ 3, w1 + w2 - 1, .inr (.inr (.inr (.inr gq_36_76))))), (q_67, .inr (1, [.null, .int 0]))] ++ im2__56) := mvD hD
          refine lv_dup hx hb dX3_newColumns_129 rfl ?_
          refine lv_aload hx hb dX3_newColumns_130 (lv_at hl 0 rfl) ?_
          refine lv_aload hx hb dX3_newColumns_132 (lv_at hl 1 rfl) ?_
          refine va_get (D := D) (ci := 1) (v := .int t_49) (C := RX1) (T := TX1) (N := 2) hx hb hts inlX1 hown hK (oneP (C := [(jn, .inr (3, [.ref q1, .ref q2, .int zt])), (q_36, .inl (κ 3, w1 + w2 - 1, .inr (.inr (.inr (.inr gq_36_76))))), (q_67, .inr (1, [.null, .int 0]))]) hP hm_53) 0 rfl rfl 1 (by decide) (hts _ mw_844) (fun _ h9 => h9) rfl dX3_newColumns_134 ?_
          refine et_IT (CR := [(jn, .inr (3, [.ref q1, .ref q2, .int zt])), (q_36, .inl (κ 3, w1 + w2 - 1, .inr (.inr (.inr (.inr gq_36_76)))))]) (As := [.ref q__61, .int t_49]) (rest := [.ref q_67, .int (nI k4_76), .ref q_36]) hFX hKK hE hP hD hS hA (c_X1_init l D κ κq im2__56 q_67 q__61 k__62 t_49 a_63 (by first | assumption | exact To_m | exact To_n (by omega))) 2 mw_856 mw_348 mw_331 mw_349 hdI_X1_init ⟨Nat.le_of_ble_eq_true rfl, Nat.le_of_ble_eq_true rfl⟩ rfl rfl (Nat.le_of_ble_eq_true rfl) dX3_newColumns_137 ⟨(by show 17 - 2 * kz76 + 2 + 0 ≤ 17; omega), (by show 192 - 23 * kz76 + 23 + 0 ≤ 192; omega)⟩ hl.1 [2] [0, 1] rfl rfl (by decide) (by decide) (by decide) (fun im2__68 H locs hp_69 hP hD hS => ?_)
          refine W.widen (k := 17 - 2 * kz76 + 2) (n := 192 - 23 * kz76 + 23) (Nat.le_refl _) (Nat.le_refl _) ?_
          replace hP : va_P D vwCl ([(jn, .inr (3, [.ref q1, .ref q2, .int zt])), (q_36, .inl (κ 3, w1 + w2 - 1, .inr (.inr (.inr (.inr gq_36_76)))))] ++ im2__68) H := subP (C := [(jn, .inr (3, [.ref q1, .ref q2, .int zt])), (q_36, .inl (κ 3, w1 + w2 - 1, .inr (.inr (.inr (.inr gq_36_76)))))]) hP [0, 1] rfl
          replace hD : va_D A ([(jn, .inr (3, [.ref q1, .ref q2, .int zt])), (q_36, .inl (κ 3, w1 + w2 - 1, .inr (.inr (.inr (.inr gq_36_76)))))] ++ im2__68) := subD (C := [(jn, .inr (3, [.ref q1, .ref q2, .int zt])), (q_36, .inl (κ 3, w1 + w2 - 1, .inr (.inr (.inr (.inr gq_36_76)))))]) hD [0, 1] (by decide) rfl
          replace hp_69 : Sb im2__56 im2__68 ∧ Co κ im2__68 q_67 k__62 t_49 := hp_69
          obtain ⟨h_70, h_71⟩ := hp_69
          replace hs1 := hs1.up h_70
          replace hs2 := hs2.up h_70
          replace h_4 := h_4.up h_70
          replace h_5 := h_5.up h_70
          replace h_9 := h_9.up h_70
          replace h_10 := h_10.up h_70
          replace lo_20 := lo_20.up h_70
          replace lc_21 := lc_21.up h_70
          replace vw_22 := vw_22.up h_70
          replace lo_32 := lo_32.up h_70
          replace lc_33 := lc_33.up h_70
          replace vw_34 := vw_34.up h_70
          replace hq44_0 := hq44_0.up h_70
          replace hq76_0 := hq76_0.up h_70
          replace h_50 := h_50.up h_70
          replace hb_54 := hb_54.up h_70
          replace a_63 := a_63.up h_70
          replace hm_3 := h_70 _ hm_3
          replace hm_8 := h_70 _ hm_8
          replace hm_17 := h_70 _ hm_17
          replace hm_18 := h_70 _ hm_18
          replace hm_19 := h_70 _ hm_19
          replace hm_29 := h_70 _ hm_29
          replace hm_30 := h_70 _ hm_30
          replace hm_31 := h_70 _ hm_31
          replace hm_53 := h_70 _ hm_53
          refine W.eq (g2 := F0 m 140 ls [.ref q_67, .int (nI k4_76), .ref q_36]) rfl ?_
          obtain ⟨ht_72, b_73, hm_74, hb_75⟩ := id h_71
          have hn_b_73 := hb_75.1
          obtain ⟨k_76, ek_76⟩ := tl_at [(jn, .inr (3, [.ref q1, .ref q2, .int zt])), (q_36, .inl (κ 3, w1 + w2 - 1, .inr (.inr (.inr (.inr gq_36_76)))))] hm_74
          refine va_astq hx hb hK hP hD hS 1 3 k_76 1 rfl rfl ek_76 rfl (i := nI k4_76) (vp_in_nI (n := k4_76) (by omega) (by omega)) dX3_newColumns_140 (fun H locs hP hD hS => ?_)
          rw [nI_clamp (by omega)] at hP hD
          have hP : va_P D vwCl ([(jn, .inr (3, [.ref q1, .ref q2, .int zt])), (q_36, .inl (κ 3, w1 + w2 - 1, .inr (.inr (.inr (.inr (va_up gq_36_76 k4_76 (some q_67)))))))] ++ im2__68) H := hP
          have hD : va_D A ([(jn, .inr (3, [.ref q1, .ref q2, .int zt])), (q_36, .inl (κ 3, w1 + w2 - 1, .inr (.inr (.inr (.inr (va_up gq_36_76 k4_76 (some q_67)))))))] ++ im2__68) := hD
          have hf_78 : Lo κ im2__68 (va_up gq_36_76 k4_76 (some q_67)) (k4_76 + 1) := Lo_add hq76_0 h_71
          generalize va_up gq_36_76 k4_76 (some q_67) = g_77 at hP hD hf_78
          refine lv_iinc (v := (nI (k4_76 + 1))) (lv' := [(4, .int (nI (k4_76 + 1))), (6, .ref q__61), (5, .ref q_46), (3, .ref q_36), (2, .int (nI (w1 + w2 - 1))), (1, .int (nI w1)), (0, .ref jn)]) hx hb dX3_newColumns_141 hl (k := 2) rfl (nI_i k4_76) (by decide) rfl (fun ls hl => ?_)
          refine lv_goto (tgt := 76) hx hb dX3_newColumns_144 (by decide) ?_
          refine W.widen (k := 17 - 2 * (w1 + w2 - 1 - (k4_76 + 1))) (n := 192 - 23 * (w1 + w2 - 1 - (k4_76 + 1))) (by omega) (by omega) ?_
          exact ih76 (w1 + w2 - 1 - (k4_76 + 1)) _ _ _ (by omega) ⟨(k4_76 + 1), g_77, im2__68, (by omega), (by omega), (Sb.tr (Sb.tr hl76_2 h_59) h_70), hf_78, rfl, hP, hD, hS, lv_sub hl [0, 3, 4, 5, 6] rfl⟩
    · have nc_37 := cv_nle (a := w1) (b := k4_44) (by omega) (by omega) c_37
      refine lv_aload_n hx hb dX3_newColumns_50 rfl (lv_at hl 1 rfl) ?_
      refine lv_iload hx hb dX3_newColumns_51 (lv_at hl 0 rfl) ?_
      refine lv_aload_n hx hb dX3_newColumns_53 rfl (lv_at hl 4 rfl) ?_
      refine va_get (D := D) (ci := 3) (v := .ref q1) (C := RX3) (T := TX3) (N := 3) hx hb hts inlX3 hown hK hP 0 rfl rfl 0 (by decide) (hts _ mw_823) (fun _ h9 => h9) rfl dX3_newColumns_54 ?_
      refine va_get (D := D) (ci := 7) (v := .ref S1) (C := RX7) (T := TX7) (N := 4) hx hb hts inlX7 hown hK (oneP (C := [(jn, .inr (3, [.ref q1, .ref q2, .int zt])), (q_36, .inl (κ 3, w1 + w2 - 1, .inr (.inr (.inr (.inr gq_36_44)))))]) hP hm_3) 0 rfl rfl 0 (by decide) (hts _ mw_840) (fun _ h9 => h9) rfl dX3_newColumns_57 ?_
      refine va_get (D := D) (ci := 5) (v := .ref c_12) (C := RX5) (T := TX5) (N := 4) hx hb hts inlX5 hown hK (oneP (C := [(jn, .inr (3, [.ref q1, .ref q2, .int zt])), (q_36, .inl (κ 3, w1 + w2 - 1, .inr (.inr (.inr (.inr gq_36_44)))))]) hP hm_17) 0 rfl rfl 0 (by decide) (hts _ mw_841) (fun _ h9 => h9) rfl dX3_newColumns_60 ?_
      refine lv_iload hx hb dX3_newColumns_63 (lv_at hl 0 rfl) ?_
      refine va_aldq hx hb hK (oneP (C := [(jn, .inr (3, [.ref q1, .ref q2, .int zt])), (q_36, .inl (κ 3, w1 + w2 - 1, .inr (.inr (.inr (.inr gq_36_44)))))]) hP hm_18) 0 3 rfl rfl (i := nI k4_44) (vp_in_nI (n := k4_44) (by omega) (by omega)) dX3_newColumns_65 ?_
      obtain ⟨q_79, e_80, m_81, t_82, h_83⟩ := lo_20 k4_44 (by omega)
      refine kv (v := .ref q_79) (by rw [nI_clamp (by omega)]; rw [e_80]; rfl) ?_
      obtain ⟨ht_84, b_85, hm_86, hb_87⟩ := id h_83
      have hn_b_85 := hb_87.1
      obtain ⟨k_88, ek_88⟩ := tl_at [(jn, .inr (3, [.ref q1, .ref q2, .int zt])), (q_36, .inl (κ 3, w1 + w2 - 1, .inr (.inr (.inr (.inr gq_36_44)))))] hm_86
      refine va_astq hx hb hK hP hD hS 1 3 k_88 1 rfl rfl ek_88 rfl (i := nI k4_44) (vp_in_nI (n := k4_44) (by omega) (by omega)) dX3_newColumns_66 (fun H locs hP hD hS => ?_)
      rw [nI_clamp (by omega)] at hP hD
      have hP : va_P D vwCl ([(jn, .inr (3, [.ref q1, .ref q2, .int zt])), (q_36, .inl (κ 3, w1 + w2 - 1, .inr (.inr (.inr (.inr (va_up gq_36_44 k4_44 (some q_79)))))))] ++ im) H := hP
      have hD : va_D A ([(jn, .inr (3, [.ref q1, .ref q2, .int zt])), (q_36, .inl (κ 3, w1 + w2 - 1, .inr (.inr (.inr (.inr (va_up gq_36_44 k4_44 (some q_79)))))))] ++ im) := hD
      have hf_90 : Lo κ im (va_up gq_36_44 k4_44 (some q_79)) (k4_44 + 1) := Lo_add hq44_0 h_83
      generalize va_up gq_36_44 k4_44 (some q_79) = g_89 at hP hD hf_90
      refine lv_iinc (v := (nI (k4_44 + 1))) (lv' := [(4, .int (nI (k4_44 + 1))), (3, .ref q_36), (2, .int (nI (w1 + w2 - 1))), (1, .int (nI w1)), (0, .ref jn)]) hx hb dX3_newColumns_67 hl (k := 0) rfl (nI_i k4_44) (by decide) rfl (fun ls hl => ?_)
      refine lv_goto (tgt := 44) hx hb dX3_newColumns_70 (by decide) ?_
      exact ih44 _ _ _ _ (by omega) ⟨(k4_44 + 1), g_89, (by omega), hf_90, rfl, hP, hD, hS, lv_sub hl [0, 1, 2, 3, 4] rfl⟩
  · have nc_35 := cv_nle (a := (w1 + w2 - 1)) (b := 8) (by omega) (by omega) c_35
    refine lv_null hx hb dX3_newColumns_34 ?_
    exact et_aret hx hb hr (by first | exact Or.inl ⟨_, rfl⟩ | exact Or.inr ⟨_, rfl⟩) hlk (by first | exact Or.inl rfl | exact Or.inr ⟨_, rfl⟩) hS (none, im) rfl ⟨(show Sb im im from Sb.rf), (by exact Or.inl (rfl))⟩ (subP hP [0] rfl) (subD hD [0] (by decide) rfl) (Nat.le_of_ble_eq_true rfl) (Nat.le_of_ble_eq_true rfl) dX3_newColumns_35
set_option maxHeartbeats 4000000 in
set_option maxRecDepth 100000 in
theorem c_X3_newSheet (l : Launch) (D : va_G) (κ : Nat → ClassId) (κq : Nat → Nat) (im : va_W) (jn : Nat) (q1 : Nat) (S1 : Nat) (R1 : Nat) (w1 : Nat) (o1 : Nat) (a1 : Nat) (m1 : Nat) (t1 : Nat) (q2 : Nat) (S2 : Nat) (R2 : Nat) (w2 : Nat) (o2 : Nat) (a2 : Nat) (m2 : Nat) (t2 : Nat) (zt : Int32) (hs1 : Sp κ im q1 S1 R1 w1 o1 a1 m1 t1) (hs2 : Sp κ im q2 S2 R2 w2 o2 a2 m2 t2) (hto : To zt) : Et l yX3_newSheet (wl yX3_newSheet cX3_newSheet 7 (some (.object "TypedTables$Sheet"))) { frames := 5, cells := 21, slots := 560, locals := 112 } D κ κq [.ref jn] ([(jn, .inr (3, [.ref q1, .ref q2, .int zt]))] ++ im) (fun u9 : Option Nat × va_W => some (va_rf u9.1)) (fun u9 : Option Nat × va_W => Sb im u9.2 ∧ ((u9.1 = none) ∨ (∃ (q : Nat), ∃ (R9 : Nat), ∃ (w9 : Nat), u9.1 = some q ∧ Sh κ u9.2 q R9 w9))) (fun u9 : Option Nat × va_W => ([(jn, .inr (3, [.ref q1, .ref q2, .int zt]))] ++ u9.2)) := by
  refine et_of (by decide +kernel) (Nat.le_of_ble_eq_true rfl) ?_
  intro p e s m args below meth c A ls hx hb hr hml hts hown hlk hin hKK hK hA hP hD hS hE hl
  have hS : va_S A s.heap s.heap [] := hS
  have hP : va_P D vwCl ([(jn, .inr (3, [.ref q1, .ref q2, .int zt]))] ++ im) s.heap := hP
  have hD : va_D A ([(jn, .inr (3, [.ref q1, .ref q2, .int zt]))] ++ im) := hD
  have hFX : FX p s m args c cX3_newSheet 7 RX3 := ⟨hx, hb, hml, hown, hts⟩
  have hl : lv_has ls 7 [(0, .ref jn)] := hl
  obtain ⟨h_1, h_2, hm_3, h_4, h_5⟩ := id hs1
  obtain ⟨hb_6, c_7, x_8, v_9, g_10, h_11, hm_12, hm_13, hm_14, lo_15, lc_16, vw_17⟩ := id h_4
  obtain ⟨hb_6_1, hb_6_2, hb_6_3⟩ := hb_6
  have hrw_hb_6 := rw_le hb_6_1 hb_6_3
  obtain ⟨hn_18, f_19, hm_20, hf_21⟩ := id h_5
  obtain ⟨cf1_22, hcf1_22⟩ := LcF_of lc_16
  obtain ⟨h_23, h_24, hm_25, h_26, h_27⟩ := id hs2
  obtain ⟨hb_28, c_29, x_30, v_31, g_32, h_33, hm_34, hm_35, hm_36, lo_37, lc_38, vw_39⟩ := id h_26
  obtain ⟨hb_28_1, hb_28_2, hb_28_3⟩ := hb_28
  have hrw_hb_28 := rw_le hb_28_1 hb_28_3
  obtain ⟨hn_40, f_41, hm_42, hf_43⟩ := id h_27
  obtain ⟨cf2_44, hcf2_44⟩ := LcF_of lc_38
  obtain ⟨mb_45, hmb_45⟩ := Mb_of f_19 f_41 m1 m2 cf1_22 cf2_44 w1 o1 w2 o2 zt
  refine lv_aload_n hx hb dX3_newSheet_0 rfl (lv_at hl 0 rfl) ?_
  refine va_get (D := D) (ci := 3) (v := .int zt) (C := RX3) (T := TX3) (N := 3) hx hb hts inlX3 hown hK hP 0 rfl rfl 2 (by decide) (hts _ mw_826) (fun _ h9 => h9) rfl dX3_newSheet_1 ?_
  refine lv_iconst (v := (-1)) hx hb dX3_newSheet_4 (by decide) ?_
  refine lv_icmp_ne (tgt := 12) hx hb dX3_newSheet_5 (by decide) (fun c_46 => ?_) (fun c_46 => ?_)
  · refine lv_aload_n hx hb dX3_newSheet_12 rfl (lv_at hl 0 rfl) ?_
    refine et_VT (CR := []) (As := []) (rest := []) hFX hKK hE hP hD hS hA (c_X3_newColumns l D κ κq im jn q1 S1 R1 w1 o1 a1 m1 t1 q2 S2 R2 w2 o2 a2 m2 t2 zt hs1 hs2) 0 gV_X3_51 hdV_X3_newColumns ⟨Nat.le_of_ble_eq_true rfl, Nat.le_of_ble_eq_true rfl⟩ rfl rfl (Nat.le_of_ble_eq_true rfl) dX3_newSheet_13 ⟨Nat.le_of_ble_eq_true rfl, Nat.le_of_ble_eq_true rfl⟩ hl.1 [0] [] rfl rfl (by decide) (by decide) (by decide) hP 0 3 rfl rfl rfl (fun u_49 H locs hp_50 hP hD hS => ?_)
    refine W.widen (k := 17) (n := 192) (Nat.le_refl _) (Nat.le_refl _) ?_
    obtain ⟨r__47, im2__48⟩ := u_49
    replace hP : va_P D vwCl ([(jn, .inr (3, [.ref q1, .ref q2, .int zt]))] ++ im2__48) H := subP (C := [(jn, .inr (3, [.ref q1, .ref q2, .int zt]))]) hP [0] rfl
    replace hD : va_D A ([(jn, .inr (3, [.ref q1, .ref q2, .int zt]))] ++ im2__48) := subD (C := [(jn, .inr (3, [.ref q1, .ref q2, .int zt]))]) hD [0] (by decide) rfl
    replace hp_50 : Sb im im2__48 ∧ ((r__47 = none) ∨ (∃ (q : Nat), r__47 = some q ∧ Ca κ im2__48 q (w1 + w2 - 1) ∧ w1 + w2 ≤ 9)) := hp_50
    obtain ⟨h_51, ha_52⟩ := hp_50
    replace hs1 := hs1.up h_51
    replace hs2 := hs2.up h_51
    replace h_4 := h_4.up h_51
    replace h_5 := h_5.up h_51
    replace lo_15 := lo_15.up h_51
    replace lc_16 := lc_16.up h_51
    replace vw_17 := vw_17.up h_51
    replace hcf1_22 := hcf1_22.up h_51
    replace h_26 := h_26.up h_51
    replace h_27 := h_27.up h_51
    replace lo_37 := lo_37.up h_51
    replace lc_38 := lc_38.up h_51
    replace vw_39 := vw_39.up h_51
    replace hcf2_44 := hcf2_44.up h_51
    replace hm_3 := h_51 _ hm_3
    replace hm_12 := h_51 _ hm_12
    replace hm_13 := h_51 _ hm_13
    replace hm_14 := h_51 _ hm_14
    replace hm_20 := h_51 _ hm_20
    replace hm_25 := h_51 _ hm_25
    replace hm_34 := h_51 _ hm_34
    replace hm_35 := h_51 _ hm_35
    replace hm_36 := h_51 _ hm_36
    replace hm_42 := h_51 _ hm_42
    rcases ha_52 with rfl | ⟨q__53, rfl, a_54, a_55⟩
    · refine W.eq (g2 := F0 m 16 ls [.null]) rfl ?_
      refine lv_astore_nN (lv' := [(1, .null), (0, .ref jn)]) hx hb dX3_newSheet_16 rfl hl (by decide) rfl (fun ls hl => ?_)
      refine lv_aload_nN hx hb dX3_newSheet_17 rfl (lv_at hl 0 rfl) ?_
      refine lv_ifnonnullN hx hb dX3_newSheet_18 ?_
      refine lv_iconst (v := 0) hx hb dX3_newSheet_21 (by decide) ?_
      refine lv_goto (tgt := 29) hx hb dX3_newSheet_22 (by decide) ?_
      refine lv_istore_n (lv' := [(2, .int 0), (1, .null), (0, .ref jn)]) hx hb dX3_newSheet_29 rfl hl (by decide) rfl (fun ls hl => ?_)
      refine lv_aload_nN hx hb dX3_newSheet_30 rfl (lv_at hl 1 rfl) ?_
      refine lv_ifnullN (tgt := 40) hx hb dX3_newSheet_31 (by decide) ?_
      refine lv_null hx hb dX3_newSheet_40 ?_
      exact et_aret hx hb hr (by first | exact Or.inl ⟨_, rfl⟩ | exact Or.inr ⟨_, rfl⟩) hlk (by first | exact Or.inl rfl | exact Or.inr ⟨_, rfl⟩) hS (none, im2__48) rfl ⟨(show Sb im im2__48 from h_51), (by exact Or.inl (rfl))⟩ (subP hP [0] rfl) (subD hD [0] (by decide) rfl) (Nat.le_of_ble_eq_true rfl) (Nat.le_of_ble_eq_true rfl) dX3_newSheet_41
    · refine W.eq (g2 := F0 m 16 ls [.ref q__53]) rfl ?_
      refine lv_astore_n (lv' := [(1, .ref q__53), (0, .ref jn)]) hx hb dX3_newSheet_16 rfl hl (by decide) rfl (fun ls hl => ?_)
      refine lv_aload_n hx hb dX3_newSheet_17 rfl (lv_at hl 0 rfl) ?_
      refine lv_ifnonnull (tgt := 25) hx hb dX3_newSheet_18 (by decide) ?_
      refine lv_aload_n hx hb dX3_newSheet_25 rfl (lv_at hl 1 rfl) ?_
      refine er_V (As := []) (rest := []) hFX hKK hE hS (c_X3_countPairs l D κ κq im2__48 jn zt q1 S1 o1 a1 t1 c_7 x_8 R1 v_9 w1 g_10 h_11 cf1_22 q2 S2 o2 a2 t2 c_29 x_30 R2 v_31 w2 g_32 h_33 cf2_44 m1 m2 f_19 f_41 mb_45 hcf1_22 hcf2_44 (by omega) (by omega) (by omega) (by omega) (by omega) (by omega) (by omega) (by omega) hf_21 hf_43 (by assumption)) 0 gV_X3_55 hdV_X3_countPairs rfl rfl ⟨Nat.le_of_ble_eq_true rfl, Nat.le_of_ble_eq_true rfl⟩ rfl rfl (Nat.le_of_ble_eq_true rfl) dX3_newSheet_26 ⟨Nat.le_of_ble_eq_true rfl, Nat.le_of_ble_eq_true rfl⟩ hl.1 hP 0 3 rfl rfl rfl (va_P.app (w1 := [(jn, .inr (3, [.ref q1, .ref q2, .int zt]))]) (subP0 (C := [(jn, .inr (3, [.ref q1, .ref q2, .int zt]))]) hP [0] rfl) (va_P.app (w1 := [(q1, .inr (7, [.ref S1, .int (nI o1), .ref a1, .int (nI t1)]))]) (oneP (C := [(jn, .inr (3, [.ref q1, .ref q2, .int zt]))]) hP hm_3) (va_P.app (w1 := [(S1, .inr (5, [.ref c_7, .ref x_8, .int (nI R1), .ref v_9]))]) (oneP (C := [(jn, .inr (3, [.ref q1, .ref q2, .int zt]))]) hP hm_12) (va_P.app (w1 := [(c_7, .inl (κ 3, w1, .inr (.inr (.inr (.inr g_10)))))]) (oneP (C := [(jn, .inr (3, [.ref q1, .ref q2, .int zt]))]) hP hm_13) (va_P.app (w1 := [(x_8, .inl (κ 2, R1 * w1, .inr (.inr (.inr (.inr h_11)))))]) (oneP (C := [(jn, .inr (3, [.ref q1, .ref q2, .int zt]))]) hP hm_14) (va_P.app (w1 := [(q2, .inr (7, [.ref S2, .int (nI o2), .ref a2, .int (nI t2)]))]) (oneP (C := [(jn, .inr (3, [.ref q1, .ref q2, .int zt]))]) hP hm_25) (va_P.app (w1 := [(S2, .inr (5, [.ref c_29, .ref x_30, .int (nI R2), .ref v_31]))]) (oneP (C := [(jn, .inr (3, [.ref q1, .ref q2, .int zt]))]) hP hm_34) (va_P.app (w1 := [(c_29, .inl (κ 3, w2, .inr (.inr (.inr (.inr g_32)))))]) (oneP (C := [(jn, .inr (3, [.ref q1, .ref q2, .int zt]))]) hP hm_35) (va_P.app (w1 := [(x_30, .inl (κ 2, R2 * w2, .inr (.inr (.inr (.inr h_33)))))]) (oneP (C := [(jn, .inr (3, [.ref q1, .ref q2, .int zt]))]) hP hm_36) (va_P.app (w1 := [(a1, .inl (κ 0, m1, .inl f_19))]) (oneP (C := [(jn, .inr (3, [.ref q1, .ref q2, .int zt]))]) hP hm_20) (va_P.app (w1 := [(a2, .inl (κ 0, m2, .inl f_41))]) (oneP (C := [(jn, .inr (3, [.ref q1, .ref q2, .int zt]))]) hP hm_42) (subP (C := [(jn, .inr (3, [.ref q1, .ref q2, .int zt]))]) (C' := []) hP [] rfl)))))))))))) (fun r__56 hp_57 => ?_)
      replace hp_57 : r__56 = ctA mb_45 m2 m1 ∧ r__56 ≤ 1600 := hp_57
      obtain ⟨h_58, h_59⟩ := hp_57
      refine W.eq (g2 := F0 m 29 ls [.int (nI r__56)]) rfl ?_
      refine lv_istore_n (lv' := [(2, .int (nI r__56)), (1, .ref q__53), (0, .ref jn)]) hx hb dX3_newSheet_29 rfl hl (by decide) rfl (fun ls hl => ?_)
      refine lv_aload_n hx hb dX3_newSheet_30 rfl (lv_at hl 1 rfl) ?_
      refine lv_ifnull hx hb dX3_newSheet_31 ?_
      refine lv_iload_n hx hb dX3_newSheet_34 rfl (lv_at hl 0 rfl) ?_
      refine lv_bipush (v := 40) hx hb dX3_newSheet_35 (by decide) ?_
      refine lv_icmp_le (tgt := 42) hx hb dX3_newSheet_37 (by decide) (fun c_60 => ?_) (fun c_60 => ?_)
      · have nc_60 := cv_le (a := r__56) (b := 40) (by omega) (by omega) c_60
        refine lv_iload_n hx hb dX3_newSheet_42 rfl (lv_at hl 0 rfl) ?_
        refine lv_aload_n hx hb dX3_newSheet_43 rfl (lv_at hl 1 rfl) ?_
        obtain ⟨g_61, hm_62, lo_63⟩ := id a_54
        refine va_alen hx hb hK (oneP (C := [(jn, .inr (3, [.ref q1, .ref q2, .int zt]))]) hP hm_62) 0 3 rfl rfl (v := nI (w1 + w2 - 1)) rfl dX3_newSheet_44 ?_
        refine lv_imul hx hb dX3_newSheet_45 ?_
        refine ki (v := (nI (r__56 * (w1 + w2 - 1)))) (pk_mul r__56 (w1 + w2 - 1)) ?_
        have hpw9 : r__56 * (w1 + w2 - 1) ≤ 320 := rw_le (by omega) (by omega)
        refine my_newq hx hb hown (hts _ mw_833) hKK.2.1 hK hP hD hS hA 2 rfl (N' := (r__56 * (w1 + w2 - 1))) (nI_pos (by omega)) (nI_clamp (by omega)) (by omega) (Nat.le_of_ble_eq_true rfl) (by show _ ≤ 560; omega) dX3_newSheet_46 (fun q_64 H hP hD hS => ?_)
        refine W.widen (k := 18) (n := 512) (Nat.le_refl _) (by omega) ?_
        replace hP : va_P D vwCl ([(jn, .inr (3, [.ref q1, .ref q2, .int zt])), (q_64, .inl (κ 2, r__56 * (w1 + w2 - 1), .inr (.inr (.inr (.inr (fun _ => none))))))] ++ im2__48) H := mvP hP
        replace hD : va_D A ([(jn, .inr (3, [.ref q1, .ref q2, .int zt])), (q_64, .inl (κ 2, r__56 * (w1 + w2 - 1), .inr (.inr (.inr (.inr (fun _ => none))))))] ++ im2__48) := mvD hD
        refine lv_astore_n (lv' := [(3, .ref q_64), (2, .int (nI r__56)), (1, .ref q__53), (0, .ref jn)]) hx hb dX3_newSheet_49 rfl hl (by decide) rfl (fun ls hl => ?_)
        refine lv_iconst (v := 0) hx hb dX3_newSheet_50 (by decide) ?_
        refine lv_istore (lv' := [(4, .int 0), (3, .ref q_64), (2, .int (nI r__56)), (1, .ref q__53), (0, .ref jn)]) hx hb dX3_newSheet_51 hl (by decide) rfl (fun ls hl => ?_)
        refine lv_iconst (v := 0) hx hb dX3_newSheet_53 (by decide) ?_
        refine lv_istore (lv' := [(5, .int 0), (4, .int 0), (3, .ref q_64), (2, .int (nI r__56)), (1, .ref q__53), (0, .ref jn)]) hx hb dX3_newSheet_54 hl (by decide) rfl (fun ls hl => ?_)
        refine loop_dn (fun k9 H locs ls => ∃ (k5_56 : Nat), ∃ (k4_56 : Nat), ∃ (gq_64_56 : Nat → Option Nat), (k5_56 ≤ m1) ∧ (k4_56 = ctA mb_45 m2 k5_56) ∧ (k4_56 ≤ r__56) ∧ Lc κ im2__48 gq_64_56 (k4_56 * (w1 + w2 - 1)) ∧ m1 - k5_56 = k9 ∧ va_P D vwCl ([(jn, .inr (3, [.ref q1, .ref q2, .int zt])), (q_64, .inl (κ 2, r__56 * (w1 + w2 - 1), .inr (.inr (.inr (.inr gq_64_56)))))] ++ im2__48) H ∧ va_D A ([(jn, .inr (3, [.ref q1, .ref q2, .int zt])), (q_64, .inl (κ 2, r__56 * (w1 + w2 - 1), .inr (.inr (.inr (.inr gq_64_56)))))] ++ im2__48) ∧ va_S A s.heap H locs ∧ lv_has ls 7 [(5, .int (nI k5_56)), (4, .int (nI k4_56)), (3, .ref q_64), (2, .int (nI r__56)), (1, .ref q__53), (0, .ref jn)]) (fun k9 H locs ls hI56 ih56 => ?_) (m1 - 0) _ _ _ ⟨0, 0, (fun _ => none), (by omega), rfl, (by omega), (by rw [Nat.zero_mul]; exact Lc_0), rfl, hP, hD, hS, lv_sub hl [0, 1, 2, 3, 4, 5] rfl⟩
        obtain ⟨k5_56, k4_56, gq_64_56, hl56_0, hl56_1, hl56_2, hq56_0, hm56, hP, hD, hS, hl⟩ := hI56
        refine lv_iload hx hb dX3_newSheet_56 (lv_at hl 0 rfl) ?_
        refine lv_aload_n hx hb dX3_newSheet_58 rfl (lv_at hl 5 rfl) ?_
        refine va_get (D := D) (ci := 3) (v := .ref q1) (C := RX3) (T := TX3) (N := 3) hx hb hts inlX3 hown hK hP 0 rfl rfl 0 (by decide) (hts _ mw_823) (fun _ h9 => h9) rfl dX3_newSheet_59 ?_
        refine va_get (D := D) (ci := 7) (v := .ref a1) (C := RX7) (T := TX7) (N := 4) hx hb hts inlX7 hown hK (oneP (C := [(jn, .inr (3, [.ref q1, .ref q2, .int zt])), (q_64, .inl (κ 2, r__56 * (w1 + w2 - 1), .inr (.inr (.inr (.inr gq_64_56)))))]) hP hm_3) 0 rfl rfl 2 (by decide) (hts _ mw_834) (fun _ h9 => h9) rfl dX3_newSheet_62 ?_
        refine va_alen hx hb hK (oneP (C := [(jn, .inr (3, [.ref q1, .ref q2, .int zt])), (q_64, .inl (κ 2, r__56 * (w1 + w2 - 1), .inr (.inr (.inr (.inr gq_64_56)))))]) hP hm_20) 0 0 rfl rfl (v := nI m1) rfl dX3_newSheet_65 ?_
        refine lv_icmp_ge (tgt := 163) hx hb dX3_newSheet_66 (by decide) (fun c_65 => ?_) (fun c_65 => ?_)
        · have nc_65 := cv_le (a := m1) (b := k5_56) (by omega) (by omega) c_65
          have hct9 := hl56_1
          rw [show k5_56 = m1 by omega] at hct9
          obtain rfl : r__56 = k4_56 := by omega
          refine va_new (ci := 5) (fs := [.null, .null, .int 0, .null]) (C := RX5) (T := TX5) (N := 4) hx hb hts inlX5 tyX5 tyX5_ok hown (hts _ mw_835) (hts _ mw_376) (hts _ mw_377) hK hP hD hS hA rfl (fun j hj => by rcases (show j = 0 ∨ j = 1 ∨ j = 2 ∨ j = 3 by omega) with rfl | rfl | rfl | rfl <;> rfl) (Nat.le_of_ble_eq_true rfl) (Nat.le_of_ble_eq_true rfl) dX3_newSheet_163 (fun q_66 H hP hD hS => ?_)
          replace hP : va_P D vwCl ([(jn, .inr (3, [.ref q1, .ref q2, .int zt])), (q_64, .inl (κ 2, r__56 * (w1 + w2 - 1), .inr (.inr (.inr (.inr gq_64_56))))), (q_66, .inr (5, [.null, .null, .int 0, .null]))] ++ im2__48) H := mvP hP
          replace hD : va_D A ([(jn, .inr (3, [.ref q1, .ref q2, .int zt])), (q_64, .inl (κ 2, r__56 * (w1 + w2 - 1), .inr (.inr (.inr (.inr gq_64_56))))), (q_66, .inr (5, [.null, .null, .int 0, .null]))] ++ im2__48) := mvD hD
          refine lv_dup hx hb dX3_newSheet_166 rfl ?_
          refine lv_aload_n hx hb dX3_newSheet_167 rfl (lv_at hl 4 rfl) ?_
          refine lv_aload_n hx hb dX3_newSheet_168 rfl (lv_at hl 2 rfl) ?_
          refine lv_iload_n hx hb dX3_newSheet_169 rfl (lv_at hl 3 rfl) ?_
          replace hP : va_P D vwCl ([(jn, .inr (3, [.ref q1, .ref q2, .int zt])), (q_66, .inr (5, [.null, .null, .int 0, .null])), (q_64, .inl (κ 2, r__56 * (w1 + w2 - 1), .inr (.inr (.inr (.inr gq_64_56)))))] ++ im2__48) _ := subP hP [0, 2, 1] rfl
          replace hD : va_D A ([(jn, .inr (3, [.ref q1, .ref q2, .int zt])), (q_66, .inr (5, [.null, .null, .int 0, .null])), (q_64, .inl (κ 2, r__56 * (w1 + w2 - 1), .inr (.inr (.inr (.inr gq_64_56)))))] ++ im2__48) := subD hD [0, 2, 1] (by decide) rfl
          obtain ⟨im_67, he_68⟩ : ∃ x9 : va_W, x9 = ([(q_64, .inl (κ 2, r__56 * (w1 + w2 - 1), .inr (.inr (.inr (.inr gq_64_56)))))] ++ im2__48) := ⟨_, rfl⟩
          have hs_69 : Sb im2__48 im_67 := by rw [he_68]; exact Sb.app
          have hm_q_64 : (q_64, .inl (κ 2, r__56 * (w1 + w2 - 1), .inr (.inr (.inr (.inr gq_64_56))))) ∈ im_67 := by rw [he_68]; exact List.mem_of_getElem? (i := 0) rfl
          replace hP : va_P D vwCl ([(jn, .inr (3, [.ref q1, .ref q2, .int zt])), (q_66, .inr (5, [.null, .null, .int 0, .null]))] ++ ([(q_64, .inl (κ 2, r__56 * (w1 + w2 - 1), .inr (.inr (.inr (.inr gq_64_56)))))] ++ im2__48)) _ := hP
          replace hD : va_D A ([(jn, .inr (3, [.ref q1, .ref q2, .int zt])), (q_66, .inr (5, [.null, .null, .int 0, .null]))] ++ ([(q_64, .inl (κ 2, r__56 * (w1 + w2 - 1), .inr (.inr (.inr (.inr gq_64_56)))))] ++ im2__48)) := hD
          rw [← he_68] at hP hD
          clear he_68
          replace hs1 := hs1.up hs_69
          replace hs2 := hs2.up hs_69
          replace h_4 := h_4.up hs_69
          replace h_5 := h_5.up hs_69
          replace lo_15 := lo_15.up hs_69
          replace lc_16 := lc_16.up hs_69
          replace vw_17 := vw_17.up hs_69
          replace hcf1_22 := hcf1_22.up hs_69
          replace h_26 := h_26.up hs_69
          replace h_27 := h_27.up hs_69
          replace lo_37 := lo_37.up hs_69
          replace lc_38 := lc_38.up hs_69
          replace vw_39 := vw_39.up hs_69
          replace hcf2_44 := hcf2_44.up hs_69
          replace a_54 := a_54.up hs_69
          replace lo_63 := lo_63.up hs_69
          replace hq56_0 := hq56_0.up hs_69
          replace hm_3 := hs_69 _ hm_3
          replace hm_12 := hs_69 _ hm_12
          replace hm_13 := hs_69 _ hm_13
          replace hm_14 := hs_69 _ hm_14
          replace hm_20 := hs_69 _ hm_20
          replace hm_25 := hs_69 _ hm_25
          replace hm_34 := hs_69 _ hm_34
          replace hm_35 := hs_69 _ hm_35
          replace hm_36 := hs_69 _ hm_36
          replace hm_42 := hs_69 _ hm_42
          replace hm_62 := hs_69 _ hm_62
          have hf_70 : Cx κ im_67 q_64 (r__56 * (w1 + w2 - 1)) := ⟨_, hm_q_64, hq56_0⟩
          refine et_IT (CR := [(jn, .inr (3, [.ref q1, .ref q2, .int zt]))]) (As := [.ref q__53, .ref q_64, .int (nI r__56)]) (rest := [.ref q_66]) hFX hKK hE hP hD hS hA (c_X5_init l D κ κq im_67 q_66 q__53 q_64 r__56 (w1 + w2 - 1) a_54 hf_70 (by omega) (by omega) (by omega)) 3 mw_901 mw_379 mw_377 mw_380 hdI_X5_init ⟨Nat.le_of_ble_eq_true rfl, Nat.le_of_ble_eq_true rfl⟩ rfl rfl (Nat.le_of_ble_eq_true rfl) dX3_newSheet_170 ⟨Nat.le_of_ble_eq_true rfl, Nat.le_of_ble_eq_true rfl⟩ hl.1 [1] [0] rfl rfl (by decide) (by decide) (by decide) (fun im2__71 H locs hp_72 hP hD hS => ?_)
          refine W.widen (k := 21) (n := 559) (Nat.le_refl _) (Nat.le_refl _) ?_
          replace hP : va_P D vwCl ([(jn, .inr (3, [.ref q1, .ref q2, .int zt]))] ++ im2__71) H := subP (C := [(jn, .inr (3, [.ref q1, .ref q2, .int zt]))]) hP [0] rfl
          replace hD : va_D A ([(jn, .inr (3, [.ref q1, .ref q2, .int zt]))] ++ im2__71) := subD (C := [(jn, .inr (3, [.ref q1, .ref q2, .int zt]))]) hD [0] (by decide) rfl
          replace hp_72 : Sb im_67 im2__71 ∧ Sh κ im2__71 q_66 r__56 (w1 + w2 - 1) := hp_72
          obtain ⟨h_73, h_74⟩ := hp_72
          replace hs1 := hs1.up h_73
          replace hs2 := hs2.up h_73
          replace h_4 := h_4.up h_73
          replace h_5 := h_5.up h_73
          replace lo_15 := lo_15.up h_73
          replace lc_16 := lc_16.up h_73
          replace vw_17 := vw_17.up h_73
          replace hcf1_22 := hcf1_22.up h_73
          replace h_26 := h_26.up h_73
          replace h_27 := h_27.up h_73
          replace lo_37 := lo_37.up h_73
          replace lc_38 := lc_38.up h_73
          replace vw_39 := vw_39.up h_73
          replace hcf2_44 := hcf2_44.up h_73
          replace a_54 := a_54.up h_73
          replace lo_63 := lo_63.up h_73
          replace hq56_0 := hq56_0.up h_73
          replace hf_70 := hf_70.up h_73
          replace hm_3 := h_73 _ hm_3
          replace hm_12 := h_73 _ hm_12
          replace hm_13 := h_73 _ hm_13
          replace hm_14 := h_73 _ hm_14
          replace hm_20 := h_73 _ hm_20
          replace hm_25 := h_73 _ hm_25
          replace hm_34 := h_73 _ hm_34
          replace hm_35 := h_73 _ hm_35
          replace hm_36 := h_73 _ hm_36
          replace hm_42 := h_73 _ hm_42
          replace hm_62 := h_73 _ hm_62
          replace hm_q_64 := h_73 _ hm_q_64
          refine W.eq (g2 := F0 m 173 ls [.ref q_66]) rfl ?_
          exact et_aret hx hb hr (by first | exact Or.inl ⟨_, rfl⟩ | exact Or.inr ⟨_, rfl⟩) hlk (by first | exact Or.inl rfl | exact Or.inr ⟨_, rfl⟩) hS ((some q_66), im2__71) rfl ⟨(show Sb im im2__71 from (Sb.tr (Sb.tr h_51 hs_69) h_73)), (by exact Or.inr ((⟨q_66, r__56, (w1 + w2 - 1), rfl, (show Sh κ im2__71 q_66 r__56 (w1 + w2 - 1) from h_74)⟩)))⟩ (subP hP [0] rfl) (subD hD [0] (by decide) rfl) (Nat.le_of_ble_eq_true rfl) (Nat.le_of_ble_eq_true rfl) dX3_newSheet_173
        · have nc_65 := cv_nle (a := m1) (b := k5_56) (by omega) (by omega) c_65
          refine lv_iconst (v := 0) hx hb dX3_newSheet_69 (by decide) ?_
          refine lv_istore (lv' := [(6, .int 0), (5, .int (nI k5_56)), (4, .int (nI k4_56)), (3, .ref q_64), (2, .int (nI r__56)), (1, .ref q__53), (0, .ref jn)]) hx hb dX3_newSheet_70 hl (by decide) rfl (fun ls hl => ?_)
          refine loop_dn (fun k9 H locs ls => ∃ (k6_72 : Nat), ∃ (k4_72 : Nat), ∃ (gq_64_72 : Nat → Option Nat), (k6_72 ≤ m2) ∧ (k4_72 = ctA mb_45 m2 k5_56 + ctI mb_45 k5_56 k6_72) ∧ (k4_72 ≤ r__56) ∧ Lc κ im2__48 gq_64_72 (k4_72 * (w1 + w2 - 1)) ∧ m2 - k6_72 = k9 ∧ va_P D vwCl ([(jn, .inr (3, [.ref q1, .ref q2, .int zt])), (q_64, .inl (κ 2, r__56 * (w1 + w2 - 1), .inr (.inr (.inr (.inr gq_64_72)))))] ++ im2__48) H ∧ va_D A ([(jn, .inr (3, [.ref q1, .ref q2, .int zt])), (q_64, .inl (κ 2, r__56 * (w1 + w2 - 1), .inr (.inr (.inr (.inr gq_64_72)))))] ++ im2__48) ∧ va_S A s.heap H locs ∧ lv_has ls 7 [(6, .int (nI k6_72)), (5, .int (nI k5_56)), (4, .int (nI k4_72)), (3, .ref q_64), (2, .int (nI r__56)), (1, .ref q__53), (0, .ref jn)]) (fun k9 H locs ls hI72 ih72 => ?_) (m2 - 0) _ _ _ ⟨0, k4_56, gq_64_56, (by omega), (by rw [ctI_0]; omega), (by omega), hq56_0, rfl, hP, hD, hS, lv_sub hl [0, 1, 2, 3, 4, 5, 6] rfl⟩
          obtain ⟨k6_72, k4_72, gq_64_72, hl72_0, hl72_1, hl72_2, hq72_0, hm72, hP, hD, hS, hl⟩ := hI72
          refine lv_iload hx hb dX3_newSheet_72 (lv_at hl 0 rfl) ?_
          refine lv_aload_n hx hb dX3_newSheet_74 rfl (lv_at hl 6 rfl) ?_
          refine va_get (D := D) (ci := 3) (v := .ref q2) (C := RX3) (T := TX3) (N := 3) hx hb hts inlX3 hown hK hP 0 rfl rfl 1 (by decide) (hts _ mw_824) (fun _ h9 => h9) rfl dX3_newSheet_75 ?_
          refine va_get (D := D) (ci := 7) (v := .ref a2) (C := RX7) (T := TX7) (N := 4) hx hb hts inlX7 hown hK (oneP (C := [(jn, .inr (3, [.ref q1, .ref q2, .int zt])), (q_64, .inl (κ 2, r__56 * (w1 + w2 - 1), .inr (.inr (.inr (.inr gq_64_72)))))]) hP hm_25) 0 rfl rfl 2 (by decide) (hts _ mw_834) (fun _ h9 => h9) rfl dX3_newSheet_78 ?_
          refine va_alen hx hb hK (oneP (C := [(jn, .inr (3, [.ref q1, .ref q2, .int zt])), (q_64, .inl (κ 2, r__56 * (w1 + w2 - 1), .inr (.inr (.inr (.inr gq_64_72)))))]) hP hm_42) 0 0 rfl rfl (v := nI m2) rfl dX3_newSheet_81 ?_
          refine lv_icmp_ge (tgt := 157) hx hb dX3_newSheet_82 (by decide) (fun c_75 => ?_) (fun c_75 => ?_)
          · have nc_75 := cv_le (a := m2) (b := k6_72) (by omega) (by omega) c_75
            refine lv_iinc (v := (nI (k5_56 + 1))) (lv' := [(5, .int (nI (k5_56 + 1))), (6, .int (nI k6_72)), (4, .int (nI k4_72)), (3, .ref q_64), (2, .int (nI r__56)), (1, .ref q__53), (0, .ref jn)]) hx hb dX3_newSheet_157 hl (k := 1) rfl (nI_i k5_56) (by decide) rfl (fun ls hl => ?_)
            refine lv_goto (tgt := 56) hx hb dX3_newSheet_160 (by decide) ?_
            exact ih56 _ _ _ _ (by omega) ⟨(k5_56 + 1), k4_72, gq_64_72, (by omega), (by have q9 := hl72_1; rw [show k6_72 = m2 by omega] at q9; rw [ctA_s]; omega), (by omega), hq72_0, rfl, hP, hD, hS, lv_sub hl [0, 2, 3, 4, 5, 6] rfl⟩
          · have nc_75 := cv_nle (a := m2) (b := k6_72) (by omega) (by omega) c_75
            refine lv_iload hx hb dX3_newSheet_85 (lv_at hl 2 rfl) ?_
            refine lv_iload_n hx hb dX3_newSheet_87 rfl (lv_at hl 4 rfl) ?_
            refine lv_icmp_ge (tgt := 151) hx hb dX3_newSheet_88 (by decide) (fun c_76 => ?_) (fun c_76 => ?_)
            · have nc_76 := cv_le (a := r__56) (b := k4_72) (by omega) (by omega) c_76
              refine lv_iinc (v := (nI (k6_72 + 1))) (lv' := [(6, .int (nI (k6_72 + 1))), (5, .int (nI k5_56)), (4, .int (nI k4_72)), (3, .ref q_64), (2, .int (nI r__56)), (1, .ref q__53), (0, .ref jn)]) hx hb dX3_newSheet_151 hl (k := 0) rfl (nI_i k6_72) (by decide) rfl (fun ls hl => ?_)
              refine lv_goto (tgt := 72) hx hb dX3_newSheet_154 (by decide) ?_
              exact ih72 _ _ _ _ (by omega) ⟨(k6_72 + 1), k4_72, gq_64_72, (by omega), (by have q1 := ct_le (mb := mb_45) (i := k5_56) (j := k6_72 + 1) (m := m2) (m1 := m1) (by omega) (by omega); have q2 := ctI_s (mb := mb_45) (i := k5_56) (j := k6_72); omega), (by omega), hq72_0, rfl, hP, hD, hS, lv_sub hl [0, 1, 2, 3, 4, 5, 6] rfl⟩
            · have nc_76 := cv_nle (a := r__56) (b := k4_72) (by omega) (by omega) c_76
              refine lv_aload_n hx hb dX3_newSheet_91 rfl (lv_at hl 6 rfl) ?_
              refine lv_aload_n hx hb dX3_newSheet_92 rfl (lv_at hl 6 rfl) ?_
              refine va_get (D := D) (ci := 3) (v := .ref q1) (C := RX3) (T := TX3) (N := 3) hx hb hts inlX3 hown hK hP 0 rfl rfl 0 (by decide) (hts _ mw_823) (fun _ h9 => h9) rfl dX3_newSheet_93 ?_
              refine va_get (D := D) (ci := 7) (v := .ref a1) (C := RX7) (T := TX7) (N := 4) hx hb hts inlX7 hown hK (oneP (C := [(jn, .inr (3, [.ref q1, .ref q2, .int zt])), (q_64, .inl (κ 2, r__56 * (w1 + w2 - 1), .inr (.inr (.inr (.inr gq_64_72)))))]) hP hm_3) 0 rfl rfl 2 (by decide) (hts _ mw_834) (fun _ h9 => h9) rfl dX3_newSheet_96 ?_
              refine lv_iload hx hb dX3_newSheet_99 (lv_at hl 1 rfl) ?_
              refine va_iald hx hb hK (oneP (C := [(jn, .inr (3, [.ref q1, .ref q2, .int zt])), (q_64, .inl (κ 2, r__56 * (w1 + w2 - 1), .inr (.inr (.inr (.inr gq_64_72)))))]) hP hm_20) 0 0 rfl rfl (i := nI k5_56) (vp_in_nI (n := k5_56) (by omega) (by omega)) dX3_newSheet_101 ?_
              refine kv (v := .int (f_19 k5_56)) (by rw [nI_clamp (by omega)]) ?_
              obtain ⟨n_77, hn_77, en_77⟩ := hf_21 k5_56 (by omega)
              refine kv (v := .int (nI n_77)) (congrArg Value.int en_77) ?_
              refine lv_aload_n hx hb dX3_newSheet_102 rfl (lv_at hl 6 rfl) ?_
              refine va_get (D := D) (ci := 3) (v := .ref q2) (C := RX3) (T := TX3) (N := 3) hx hb hts inlX3 hown hK hP 0 rfl rfl 1 (by decide) (hts _ mw_824) (fun _ h9 => h9) rfl dX3_newSheet_103 ?_
              refine va_get (D := D) (ci := 7) (v := .ref a2) (C := RX7) (T := TX7) (N := 4) hx hb hts inlX7 hown hK (oneP (C := [(jn, .inr (3, [.ref q1, .ref q2, .int zt])), (q_64, .inl (κ 2, r__56 * (w1 + w2 - 1), .inr (.inr (.inr (.inr gq_64_72)))))]) hP hm_25) 0 rfl rfl 2 (by decide) (hts _ mw_834) (fun _ h9 => h9) rfl dX3_newSheet_106 ?_
              refine lv_iload hx hb dX3_newSheet_109 (lv_at hl 0 rfl) ?_
              refine va_iald hx hb hK (oneP (C := [(jn, .inr (3, [.ref q1, .ref q2, .int zt])), (q_64, .inl (κ 2, r__56 * (w1 + w2 - 1), .inr (.inr (.inr (.inr gq_64_72)))))]) hP hm_42) 0 0 rfl rfl (i := nI k6_72) (vp_in_nI (n := k6_72) (by omega) (by omega)) dX3_newSheet_111 ?_
              refine kv (v := .int (f_41 k6_72)) (by rw [nI_clamp (by omega)]) ?_
              obtain ⟨n_78, hn_78, en_78⟩ := hf_43 k6_72 (by omega)
              refine kv (v := .int (nI n_78)) (congrArg Value.int en_78) ?_
              refine er_V (As := [.int (nI n_77), .int (nI n_78)]) (rest := []) hFX hKK hE hS (c_X3_match l D κ κq im2__48 jn zt q1 S1 o1 a1 t1 c_7 x_8 R1 v_9 w1 g_10 h_11 cf1_22 q2 S2 o2 a2 t2 c_29 x_30 R2 v_31 w2 g_32 h_33 cf2_44 n_77 n_78 hcf1_22 hcf2_44 (by omega) (by omega) (by omega) (by omega) (by omega) (by omega) (by omega) (by omega)) 2 gV_X3_47 hdV_X3_match rfl rfl ⟨Nat.le_of_ble_eq_true rfl, Nat.le_of_ble_eq_true rfl⟩ rfl rfl (Nat.le_of_ble_eq_true rfl) dX3_newSheet_112 ⟨Nat.le_of_ble_eq_true rfl, Nat.le_of_ble_eq_true rfl⟩ hl.1 hP 0 3 rfl rfl rfl (va_P.app (w1 := [(jn, .inr (3, [.ref q1, .ref q2, .int zt]))]) (subP0 (C := [(jn, .inr (3, [.ref q1, .ref q2, .int zt])), (q_64, .inl (κ 2, r__56 * (w1 + w2 - 1), .inr (.inr (.inr (.inr gq_64_72)))))]) hP [0] rfl) (va_P.app (w1 := [(q1, .inr (7, [.ref S1, .int (nI o1), .ref a1, .int (nI t1)]))]) (oneP (C := [(jn, .inr (3, [.ref q1, .ref q2, .int zt])), (q_64, .inl (κ 2, r__56 * (w1 + w2 - 1), .inr (.inr (.inr (.inr gq_64_72)))))]) hP hm_3) (va_P.app (w1 := [(S1, .inr (5, [.ref c_7, .ref x_8, .int (nI R1), .ref v_9]))]) (oneP (C := [(jn, .inr (3, [.ref q1, .ref q2, .int zt])), (q_64, .inl (κ 2, r__56 * (w1 + w2 - 1), .inr (.inr (.inr (.inr gq_64_72)))))]) hP hm_12) (va_P.app (w1 := [(c_7, .inl (κ 3, w1, .inr (.inr (.inr (.inr g_10)))))]) (oneP (C := [(jn, .inr (3, [.ref q1, .ref q2, .int zt])), (q_64, .inl (κ 2, r__56 * (w1 + w2 - 1), .inr (.inr (.inr (.inr gq_64_72)))))]) hP hm_13) (va_P.app (w1 := [(x_8, .inl (κ 2, R1 * w1, .inr (.inr (.inr (.inr h_11)))))]) (oneP (C := [(jn, .inr (3, [.ref q1, .ref q2, .int zt])), (q_64, .inl (κ 2, r__56 * (w1 + w2 - 1), .inr (.inr (.inr (.inr gq_64_72)))))]) hP hm_14) (va_P.app (w1 := [(q2, .inr (7, [.ref S2, .int (nI o2), .ref a2, .int (nI t2)]))]) (oneP (C := [(jn, .inr (3, [.ref q1, .ref q2, .int zt])), (q_64, .inl (κ 2, r__56 * (w1 + w2 - 1), .inr (.inr (.inr (.inr gq_64_72)))))]) hP hm_25) (va_P.app (w1 := [(S2, .inr (5, [.ref c_29, .ref x_30, .int (nI R2), .ref v_31]))]) (oneP (C := [(jn, .inr (3, [.ref q1, .ref q2, .int zt])), (q_64, .inl (κ 2, r__56 * (w1 + w2 - 1), .inr (.inr (.inr (.inr gq_64_72)))))]) hP hm_34) (va_P.app (w1 := [(c_29, .inl (κ 3, w2, .inr (.inr (.inr (.inr g_32)))))]) (oneP (C := [(jn, .inr (3, [.ref q1, .ref q2, .int zt])), (q_64, .inl (κ 2, r__56 * (w1 + w2 - 1), .inr (.inr (.inr (.inr gq_64_72)))))]) hP hm_35) (va_P.app (w1 := [(x_30, .inl (κ 2, R2 * w2, .inr (.inr (.inr (.inr h_33)))))]) (oneP (C := [(jn, .inr (3, [.ref q1, .ref q2, .int zt])), (q_64, .inl (κ 2, r__56 * (w1 + w2 - 1), .inr (.inr (.inr (.inr gq_64_72)))))]) hP hm_36) (subP (C := [(jn, .inr (3, [.ref q1, .ref q2, .int zt])), (q_64, .inl (κ 2, r__56 * (w1 + w2 - 1), .inr (.inr (.inr (.inr gq_64_72)))))]) (C' := []) hP [] rfl)))))))))) (fun r__79 hp_80 => ?_)
              replace hp_80 : ((r__79 = 1 ∧ mtF (cf1_22 (n_77 * w1 + o1)) (cf2_44 (n_78 * w2 + o2)) zt = true) ∨ (r__79 = 0 ∧ mtF (cf1_22 (n_77 * w1 + o1)) (cf2_44 (n_78 * w2 + o2)) zt = false)) := hp_80
              have ha_81 := hp_80
              clear hp_80
              rcases ha_81 with ⟨rfl, a_82⟩ | ⟨rfl, a_83⟩
              · refine W.eq (g2 := F0 m 115 ls [.int 1]) rfl ?_
                have hmv_84 : mb_45 k5_56 k6_72 = true := (hmb_45 _ _ _ _ (by omega) (by omega) (by omega) (by omega) en_77 en_78).trans a_82
                refine lv_if_eq (tgt := 151) hx hb dX3_newSheet_115 (by decide) (fun c_85 => absurd c_85 (by decide)) (fun c_85 => ?_)
                refine lv_aload_n hx hb dX3_newSheet_118 rfl (lv_at hl 6 rfl) ?_
                refine lv_aload_n hx hb dX3_newSheet_119 rfl (lv_at hl 3 rfl) ?_
                refine lv_iload hx hb dX3_newSheet_120 (lv_at hl 2 rfl) ?_
                refine lv_aload_n hx hb dX3_newSheet_122 rfl (lv_at hl 5 rfl) ?_
                refine va_alen hx hb hK (oneP (C := [(jn, .inr (3, [.ref q1, .ref q2, .int zt])), (q_64, .inl (κ 2, r__56 * (w1 + w2 - 1), .inr (.inr (.inr (.inr gq_64_72)))))]) hP hm_62) 0 3 rfl rfl (v := nI (w1 + w2 - 1)) rfl dX3_newSheet_123 ?_
                refine lv_imul hx hb dX3_newSheet_124 ?_
                refine ki (v := (nI (k4_72 * (w1 + w2 - 1)))) (pk_mul k4_72 (w1 + w2 - 1)) ?_
                refine lv_aload_n hx hb dX3_newSheet_125 rfl (lv_at hl 6 rfl) ?_
                refine va_get (D := D) (ci := 3) (v := .ref q1) (C := RX3) (T := TX3) (N := 3) hx hb hts inlX3 hown hK hP 0 rfl rfl 0 (by decide) (hts _ mw_823) (fun _ h9 => h9) rfl dX3_newSheet_126 ?_
                refine va_get (D := D) (ci := 7) (v := .ref a1) (C := RX7) (T := TX7) (N := 4) hx hb hts inlX7 hown hK (oneP (C := [(jn, .inr (3, [.ref q1, .ref q2, .int zt])), (q_64, .inl (κ 2, r__56 * (w1 + w2 - 1), .inr (.inr (.inr (.inr gq_64_72)))))]) hP hm_3) 0 rfl rfl 2 (by decide) (hts _ mw_834) (fun _ h9 => h9) rfl dX3_newSheet_129 ?_
                refine lv_iload hx hb dX3_newSheet_132 (lv_at hl 1 rfl) ?_
                refine va_iald hx hb hK (oneP (C := [(jn, .inr (3, [.ref q1, .ref q2, .int zt])), (q_64, .inl (κ 2, r__56 * (w1 + w2 - 1), .inr (.inr (.inr (.inr gq_64_72)))))]) hP hm_20) 0 0 rfl rfl (i := nI k5_56) (vp_in_nI (n := k5_56) (by omega) (by omega)) dX3_newSheet_134 ?_
                refine kv (v := .int (nI n_77)) (by rw [nI_clamp (by omega)]; exact congrArg Value.int en_77) ?_
                refine lv_aload_n hx hb dX3_newSheet_135 rfl (lv_at hl 6 rfl) ?_
                refine va_get (D := D) (ci := 3) (v := .ref q2) (C := RX3) (T := TX3) (N := 3) hx hb hts inlX3 hown hK hP 0 rfl rfl 1 (by decide) (hts _ mw_824) (fun _ h9 => h9) rfl dX3_newSheet_136 ?_
                refine va_get (D := D) (ci := 7) (v := .ref a2) (C := RX7) (T := TX7) (N := 4) hx hb hts inlX7 hown hK (oneP (C := [(jn, .inr (3, [.ref q1, .ref q2, .int zt])), (q_64, .inl (κ 2, r__56 * (w1 + w2 - 1), .inr (.inr (.inr (.inr gq_64_72)))))]) hP hm_25) 0 rfl rfl 2 (by decide) (hts _ mw_834) (fun _ h9 => h9) rfl dX3_newSheet_139 ?_
                refine lv_iload hx hb dX3_newSheet_142 (lv_at hl 0 rfl) ?_
                refine va_iald hx hb hK (oneP (C := [(jn, .inr (3, [.ref q1, .ref q2, .int zt])), (q_64, .inl (κ 2, r__56 * (w1 + w2 - 1), .inr (.inr (.inr (.inr gq_64_72)))))]) hP hm_42) 0 0 rfl rfl (i := nI k6_72) (vp_in_nI (n := k6_72) (by omega) (by omega)) dX3_newSheet_144 ?_
                refine kv (v := .int (nI n_78)) (by rw [nI_clamp (by omega)]; exact congrArg Value.int en_78) ?_
                have hx_86 : k4_72 * (w1 + w2 - 1) + (w1 + w2 - 1) ≤ r__56 * (w1 + w2 - 1) := by rw [← Nat.add_one_mul]; exact Nat.mul_le_mul_right _ (by omega)
                refine et_VT (CR := []) (As := [.ref q_64, .int (nI (k4_72 * (w1 + w2 - 1))), .int (nI n_77), .int (nI n_78)]) (rest := []) hFX hKK hE hP hD hS hA (c_X3_fillRow l D κ κq im2__48 jn q1 S1 R1 w1 o1 a1 m1 t1 q2 S2 R2 w2 o2 a2 m2 t2 zt q_64 (r__56 * (w1 + w2 - 1)) (k4_72 * (w1 + w2 - 1)) n_77 n_78 gq_64_72 hs1 hs2 (by omega) (by omega) (by omega) (by omega) hq72_0) 4 gV_X3_59 hdV_X3_fillRow ⟨Nat.le_of_ble_eq_true rfl, Nat.le_of_ble_eq_true rfl⟩ rfl rfl (Nat.le_of_ble_eq_true rfl) dX3_newSheet_145 ⟨Nat.le_of_ble_eq_true rfl, Nat.le_of_ble_eq_true rfl⟩ hl.1 [0, 1] [] rfl rfl (by decide) (by decide) (by decide) hP 0 3 rfl rfl rfl (fun g__87 H locs hp_88 hP hD hS => ?_)
                refine W.widen (k := 18) (n := 512) (Nat.le_refl _) (Nat.le_refl _) ?_
                replace hP : va_P D vwCl ([(jn, .inr (3, [.ref q1, .ref q2, .int zt])), (q_64, .inl (κ 2, r__56 * (w1 + w2 - 1), .inr (.inr (.inr (.inr g__87)))))] ++ im2__48) H := subP (C := [(jn, .inr (3, [.ref q1, .ref q2, .int zt])), (q_64, .inl (κ 2, r__56 * (w1 + w2 - 1), .inr (.inr (.inr (.inr g__87)))))]) hP [0, 1] rfl
                replace hD : va_D A ([(jn, .inr (3, [.ref q1, .ref q2, .int zt])), (q_64, .inl (κ 2, r__56 * (w1 + w2 - 1), .inr (.inr (.inr (.inr g__87)))))] ++ im2__48) := subD (C := [(jn, .inr (3, [.ref q1, .ref q2, .int zt])), (q_64, .inl (κ 2, r__56 * (w1 + w2 - 1), .inr (.inr (.inr (.inr g__87)))))]) hD [0, 1] (by decide) rfl
                replace hp_88 : Lc κ im2__48 g__87 ((k4_72 * (w1 + w2 - 1)) + (w1 + w2 - 1)) := hp_88
                have h_89 := hp_88
                clear hp_88
                refine W.eq (g2 := F0 m 148 ls []) rfl ?_
                have hg_90 : Lc κ im2__48 g__87 ((k4_72 + 1) * (w1 + w2 - 1)) := by rw [Nat.add_one_mul]; exact h_89
                refine lv_iinc (v := (nI (k4_72 + 1))) (lv' := [(4, .int (nI (k4_72 + 1))), (6, .int (nI k6_72)), (5, .int (nI k5_56)), (3, .ref q_64), (2, .int (nI r__56)), (1, .ref q__53), (0, .ref jn)]) hx hb dX3_newSheet_148 hl (k := 2) rfl (nI_i k4_72) (by decide) rfl (fun ls hl => ?_)
                refine lv_iinc (v := (nI (k6_72 + 1))) (lv' := [(6, .int (nI (k6_72 + 1))), (4, .int (nI (k4_72 + 1))), (5, .int (nI k5_56)), (3, .ref q_64), (2, .int (nI r__56)), (1, .ref q__53), (0, .ref jn)]) hx hb dX3_newSheet_151 hl (k := 1) rfl (nI_i k6_72) (by decide) rfl (fun ls hl => ?_)
                refine lv_goto (tgt := 72) hx hb dX3_newSheet_154 (by decide) ?_
                exact ih72 _ _ _ _ (by omega) ⟨(k6_72 + 1), (k4_72 + 1), g__87, (by omega), (by rw [ctI_t hmv_84]; omega), (by omega), hg_90, rfl, hP, hD, hS, lv_sub hl [0, 2, 1, 3, 4, 5, 6] rfl⟩
              · refine W.eq (g2 := F0 m 115 ls [.int 0]) rfl ?_
                have hmv_91 : mb_45 k5_56 k6_72 = false := (hmb_45 _ _ _ _ (by omega) (by omega) (by omega) (by omega) en_77 en_78).trans a_83
                refine lv_if_eq (tgt := 151) hx hb dX3_newSheet_115 (by decide) (fun c_92 => ?_) (fun c_92 => absurd (by decide) c_92)
                refine lv_iinc (v := (nI (k6_72 + 1))) (lv' := [(6, .int (nI (k6_72 + 1))), (5, .int (nI k5_56)), (4, .int (nI k4_72)), (3, .ref q_64), (2, .int (nI r__56)), (1, .ref q__53), (0, .ref jn)]) hx hb dX3_newSheet_151 hl (k := 0) rfl (nI_i k6_72) (by decide) rfl (fun ls hl => ?_)
                refine lv_goto (tgt := 72) hx hb dX3_newSheet_154 (by decide) ?_
                exact ih72 _ _ _ _ (by omega) ⟨(k6_72 + 1), k4_72, gq_64_72, (by omega), (by rw [ctI_f hmv_91]; omega), (by omega), hq72_0, rfl, hP, hD, hS, lv_sub hl [0, 1, 2, 3, 4, 5, 6] rfl⟩
      · have nc_60 := cv_nle (a := r__56) (b := 40) (by omega) (by omega) c_60
        refine lv_null hx hb dX3_newSheet_40 ?_
        exact et_aret hx hb hr (by first | exact Or.inl ⟨_, rfl⟩ | exact Or.inr ⟨_, rfl⟩) hlk (by first | exact Or.inl rfl | exact Or.inr ⟨_, rfl⟩) hS (none, im2__48) rfl ⟨(show Sb im im2__48 from h_51), (by exact Or.inl (rfl))⟩ (subP hP [0] rfl) (subD hD [0] (by decide) rfl) (Nat.le_of_ble_eq_true rfl) (Nat.le_of_ble_eq_true rfl) dX3_newSheet_41
  · refine lv_null hx hb dX3_newSheet_8 ?_
    refine lv_goto (tgt := 16) hx hb dX3_newSheet_9 (by decide) ?_
    refine lv_astore_nN (lv' := [(1, .null), (0, .ref jn)]) hx hb dX3_newSheet_16 rfl hl (by decide) rfl (fun ls hl => ?_)
    refine lv_aload_nN hx hb dX3_newSheet_17 rfl (lv_at hl 0 rfl) ?_
    refine lv_ifnonnullN hx hb dX3_newSheet_18 ?_
    refine lv_iconst (v := 0) hx hb dX3_newSheet_21 (by decide) ?_
    refine lv_goto (tgt := 29) hx hb dX3_newSheet_22 (by decide) ?_
    refine lv_istore_n (lv' := [(2, .int 0), (1, .null), (0, .ref jn)]) hx hb dX3_newSheet_29 rfl hl (by decide) rfl (fun ls hl => ?_)
    refine lv_aload_nN hx hb dX3_newSheet_30 rfl (lv_at hl 1 rfl) ?_
    refine lv_ifnullN (tgt := 40) hx hb dX3_newSheet_31 (by decide) ?_
    refine lv_null hx hb dX3_newSheet_40 ?_
    exact et_aret hx hb hr (by first | exact Or.inl ⟨_, rfl⟩ | exact Or.inr ⟨_, rfl⟩) hlk (by first | exact Or.inl rfl | exact Or.inr ⟨_, rfl⟩) hS (none, im) rfl ⟨(show Sb im im from Sb.rf), (by exact Or.inl (rfl))⟩ (subP hP [0] rfl) (subD hD [0] (by decide) rfl) (Nat.le_of_ble_eq_true rfl) (Nat.le_of_ble_eq_true rfl) dX3_newSheet_41
