/-! names, widths, lines passed over, tables: as functions -/
def ltB (b : Int32) : Bool := (decide (97 ≤ b.toInt) && decide (b.toInt ≤ 122)) || ((decide (65 ≤ b.toInt) && decide (b.toInt ≤ 90)) || ((decide (48 ≤ b.toInt) && decide (b.toInt ≤ 57)) || decide (b = 95)))
def nvB (a : List Int32) : Bool := decide (1 ≤ a.length) && (decide (a.length ≤ 12) && a.all ltB)
def memB (fs : List (List Int32)) (a : List Int32) : Nat → Bool
  | 0 => false
  | j + 1 => memB fs a j || decide (fs.getD j [] = a)
def hdB (fs : List (List Int32)) : Nat → Bool
  | 0 => true
  | i + 1 => hdB fs i && (nvB (fs.getD i []) && !memB fs (fs.getD i []) i)
def wdB (x : Int32) (n w : Nat) : Bool := !(decide (n < w) && decide (x &&& 1 = 0)) && !(decide (w < n) && decide (x &&& 2 = 0))
def paF (t d : Nat → Int32) : Nat → Nat → Bool → Nat
  | 0, p, _ => p
  | n + 1, p, b => if t p = 10 then paF t d n (p + 1) false else if b = true then paF t d n (p + 1) true else if ¬ d 5 = 0 ∧ t p = d 5 then paF t d n (p + 1) true else p
section NM
variable {b x y : Int32} {f g : Nat → Int32} {n m i : Nat} {a ys : List Int32} {fs : List (List Int32)}
theorem ltB_t (h : (97 ≤ b.toInt ∧ b.toInt ≤ 122) ∨ (65 ≤ b.toInt ∧ b.toInt ≤ 90) ∨ (48 ≤ b.toInt ∧ b.toInt ≤ 57) ∨ b = 95) : ltB b = true := by
  unfold ltB
  rcases h with h | h | h | h
  · simp [h.1, h.2]
  · simp [h.1, h.2]
  · simp [h.1, h.2]
  · simp [h]
theorem ltB_f (h1 : b.toInt < 97 ∨ 122 < b.toInt) (h2 : b.toInt < 65 ∨ 90 < b.toInt) (h3 : b.toInt < 48 ∨ 57 < b.toInt) (h4 : ¬ b = 95) : ltB b = false := by
  cases h : ltB b with
  | false => rfl
  | true =>
    exfalso
    simp only [ltB, Bool.or_eq_true, Bool.and_eq_true, decide_eq_true_eq] at h
    rcases h with h | h | h | h
    · omega
    · omega
    · omega
    · exact h4 h
theorem al_go (h : (lsF f i).all ltB = true) (e : f i = x) (c : ltB x = true) : (lsF f (i + 1)).all ltB = true := by
  rw [lsF, List.all_append, h, e]
  simp [c]
theorem al_at : ∀ {n : Nat}, (lsF f n).all ltB = true → ∀ i : Nat, i < n → ltB (f i) = true
  | 0, _, i, hi => absurd hi (by omega)
  | n + 1, h, i, hi => by
    rw [lsF, List.all_append, Bool.and_eq_true] at h
    rcases Nat.lt_or_eq_of_le (Nat.le_of_lt_succ hi) with h1 | rfl
    · exact al_at h.1 i h1
    · simpa using h.2
theorem nv_t (h1 : 1 ≤ n) (h2 : n ≤ 12) (h : (lsF f n).all ltB = true) : nvB (lsF f n) = true := by
  unfold nvB
  rw [lsF_len, h, decide_eq_true h1, decide_eq_true h2]
  rfl
theorem nv_l (h : n < 1 ∨ 12 < n) : nvB (lsF f n) = false := by
  unfold nvB
  rw [lsF_len]
  rcases h with h | h
  · rw [decide_eq_false (by omega)]; rfl
  · rw [decide_eq_false (p := n ≤ 12) (by omega), Bool.false_and, Bool.and_false]
theorem nv_f (e : f i = x) (c : ltB x = false) (h : i < n) : nvB (lsF f n) = false := by
  have h1 : (lsF f n).all ltB = false := by
    cases h2 : (lsF f n).all ltB with
    | false => rfl
    | true =>
      have h3 := al_at h2 i h
      rw [e, c] at h3
      exact Bool.noConfusion h3
  unfold nvB
  rw [h1, Bool.and_false, Bool.and_false]
theorem lsF_at : ∀ {n : Nat}, lsF f n = lsF g n → ∀ i : Nat, i < n → f i = g i
  | 0, _, i, hi => absurd hi (by omega)
  | n + 1, h, i, hi => by
    rw [lsF, lsF] at h
    have h1 := List.append_inj' h rfl
    rcases Nat.lt_or_eq_of_le (Nat.le_of_lt_succ hi) with h2 | rfl
    · exact lsF_at h1.1 i h2
    · simpa using h1.2
theorem lsF_ne (e1 : f i = x) (e2 : g i = y) (c : ¬ x = y) (h : i < n) : ¬ lsF f n = lsF g n := fun q => c (by rw [← e1, ← e2]; exact lsF_at q i h)
theorem lsF_nl (h : ¬ n = m) : ¬ lsF f n = lsF g m := fun q => h (by have q2 := congrArg List.length q; rw [lsF_len, lsF_len] at q2; exact q2)
theorem lsF_go (h : lsF f i = lsF g i) (e1 : f i = x) (e2 : g i = y) (c : x = y) : lsF f (i + 1) = lsF g (i + 1) := by rw [lsF, lsF, h, e1, e2, c]
theorem mem_go (h : memB fs a i = false) (c : ¬ fs.getD i [] = a) : memB fs a (i + 1) = false := by rw [memB, h, decide_eq_false c]; rfl
theorem mem_in (c : fs.getD i [] = a) : ∀ {n : Nat}, i < n → memB fs a n = true
  | 0, h => absurd h (by omega)
  | n + 1, h => by
    rw [memB]
    rcases Nat.lt_or_eq_of_le (Nat.le_of_lt_succ h) with h1 | rfl
    · rw [mem_in c h1, Bool.true_or]
    · rw [decide_eq_true c, Bool.or_true]
theorem hd_go (h : hdB fs i = true) (c : nvB (fs.getD i []) = true) (m : memB fs (fs.getD i []) i = false) : hdB fs (i + 1) = true := by rw [hdB, h, c, m]; rfl
theorem hd_f (h : hdB fs i = false) : ∀ {n : Nat}, i ≤ n → hdB fs n = false
  | 0, hn => by
    obtain rfl : i = 0 := by omega
    exact h
  | n + 1, hn => by
    rcases Nat.lt_or_eq_of_le hn with h1 | rfl
    · rw [hdB, hd_f h (Nat.le_of_lt_succ h1), Bool.false_and]
    · exact h
theorem hd_n (c : nvB (fs.getD i []) = false) (h : i < n) : hdB fs n = false := hd_f (i := i + 1) (by rw [hdB, c, Bool.false_and, Bool.and_false]) h
theorem hd_m (m : memB fs (fs.getD i []) i = true) (h : i < n) : hdB fs n = false := hd_f (i := i + 1) (by rw [hdB, m]; simp) h
end NM
/-- a column by its name's bytes; columns by theirs -/
def Cn (κ : Nat → ClassId) (im : va_W) (a : Nat) (xs : List Int32) : Prop := ∃ (b n : Nat) (t : Int32), To t ∧ ((a, .inr (1, [.ref b, .int t])) : Nat × va_E) ∈ im ∧ Bs κ im b n xs
def Lq (κ : Nat → ClassId) (im : va_W) (h : Nat → Option Nat) (n : Nat) (fs : List (List Int32)) : Prop := ∀ i : Nat, i < n → ∃ q : Nat, h i = some q ∧ Cn κ im q (fs.getD i [])
section CN
variable {κ : Nat → ClassId} {im im2 : va_W} {a n q : Nat} {xs : List Int32} {h : Nat → Option Nat} {fs : List (List Int32)}
theorem Cn.up (hh : Cn κ im a xs) (hs : Sb im im2) : Cn κ im2 a xs := by
  obtain ⟨b, n, t, h1, h2, h3⟩ := hh
  exact ⟨b, n, t, h1, hs _ h2, h3.up hs⟩
theorem Lq.up (hh : Lq κ im h n fs) (hs : Sb im im2) : Lq κ im2 h n fs := by
  intro i hi
  obtain ⟨q, e, h3⟩ := hh i hi
  exact ⟨q, e, h3.up hs⟩
theorem Lq.lo (hh : Lq κ im h n fs) : Lo κ im h n := by
  intro i hi
  obtain ⟨q, e, b, m, t, h1, h2, h3⟩ := hh i hi
  exact ⟨q, e, m, t, h1, b, h2, h3.by⟩
theorem Lq_0 : Lq κ im h 0 fs := fun i hi => absurd hi (by omega)
theorem Lq_add (hh : Lq κ im h n fs) (hq : Cn κ im q (fs.getD n [])) : Lq κ im (va_up h n (some q)) (n + 1) fs := by
  intro i hi
  unfold va_up
  by_cases e : i = n
  · exact ⟨q, by simp [e], by rw [e]; exact hq⟩
  · obtain ⟨q2, e2, h3⟩ := hh i (by omega)
    exact ⟨q2, by simpa [e] using e2, h3⟩
end CN
theorem wd_t {x z : Int32} {n w : Nat} (h1 : w ≤ n ∨ ∃ z, z = x &&& 1 ∧ ¬ z = 0) (h2 : n ≤ w ∨ ∃ z, z = x &&& 2 ∧ ¬ z = 0) : wdB x n w = true := by
  unfold wdB
  have a1 : (decide (n < w) && decide (x &&& 1 = 0)) = false := by
    rcases h1 with h1 | ⟨z, e, c⟩
    · rw [decide_eq_false (by omega), Bool.false_and]
    · rw [decide_eq_false (p := x &&& 1 = 0) (by rw [← e]; exact c), Bool.and_false]
  have a2 : (decide (w < n) && decide (x &&& 2 = 0)) = false := by
    rcases h2 with h2 | ⟨z, e, c⟩
    · rw [decide_eq_false (by omega), Bool.false_and]
    · rw [decide_eq_false (p := x &&& 2 = 0) (by rw [← e]; exact c), Bool.and_false]
  rw [a1, a2]
  rfl
theorem wd_f1 {x z : Int32} {n w : Nat} (h : n < w) (e : z = x &&& 1) (c : z = 0) : wdB x n w = false := by
  unfold wdB
  rw [decide_eq_true h, decide_eq_true (p := x &&& 1 = 0) (by rw [← e]; exact c)]
  rfl
theorem wd_f2 {x z : Int32} {n w : Nat} (h : w < n) (e : z = x &&& 2) (c : z = 0) : wdB x n w = false := by
  unfold wdB
  rw [decide_eq_true h, decide_eq_true (p := x &&& 2 = 0) (by rw [← e]; exact c), Bool.true_and, Bool.not_true, Bool.and_false]
section PA
variable {t d : Nat → Int32} {L p : Nat} {x y z : Int32} {b : Bool}
theorem pa_end (h : L ≤ p) : paF t d (L - p) p b = p := by rw [Nat.sub_eq_zero_of_le h]; rfl
theorem pa_10 (h : p < L) (e : t p = x) (c : x = 10) : paF t d (L - p) p b = paF t d (L - (p + 1)) (p + 1) false := by rw [nx h, paF, if_pos (e.trans c)]
theorem pa_in (h : p < L) (e : t p = x) (c : ¬ x = 10) : paF t d (L - p) p true = paF t d (L - (p + 1)) (p + 1) true := by rw [nx h, paF, if_neg (by rw [e]; exact c), if_pos rfl]
theorem pa_cm (h : p < L) (e : t p = x) (c : ¬ x = 10) (e2 : d 5 = y) (c2 : ¬ y = 0) (c3 : x = y) : paF t d (L - p) p false = paF t d (L - p) p true := by
  rw [pa_in h e c, nx h, paF, if_neg (by rw [e]; exact c), if_neg Bool.noConfusion, if_pos ⟨by rw [e2]; exact c2, by rw [e, e2]; exact c3⟩]
theorem pa_sw (e : t p = 10 ∨ L ≤ p) : paF t d (L - p) p true = paF t d (L - p) p false := by
  rcases Nat.lt_or_ge p L with h | h
  · have e : t p = 10 := e.resolve_right (by omega)
    rw [pa_10 h e rfl, pa_10 h e rfl]
  · rw [pa_end h, pa_end h]
theorem pa_no (h : p < L) (e : t p = x) (c : ¬ x = 10) (e2 : d 5 = y) (c2 : y = 0 ∨ ¬ x = y) : paF t d (L - p) p false = p := by
  rw [nx h, paF, if_neg (by rw [e]; exact c), if_neg Bool.noConfusion, if_neg (fun h9 => by
    rcases c2 with c2 | c2
    · exact h9.1 (e2.trans c2)
    · exact c2 (by rw [← e, ← e2]; exact h9.2))]
end PA
theorem ix_y {A : Bool} {r : Int32} (h : (r = -1 ∧ A = false) ∨ (¬ r = -1 ∧ A = true)) (c : ¬ r = -1) : A = true := by
  rcases h with h | h
  · exact absurd h.1 c
  · exact h.2
theorem ix_n {A : Bool} {r : Int32} (h : (r = -1 ∧ A = false) ∨ (¬ r = -1 ∧ A = true)) (c : r = -1) : A = false := by
  rcases h with h | h
  · exact h.2
  · exact absurd c h.1
theorem nI_nn {n : Nat} (h : n < 2147483648) : ¬ nI n = -1 := by
  intro e
  have h1 := congrArg Int32.toInt e
  rw [nI_toInt h] at h1
  have h2 : (-1 : Int32).toInt = -1 := by decide
  omega

set_option maxHeartbeats 4000000 in
set_option maxRecDepth 100000 in
theorem c_X0_isDigit_S (l : Launch) (D : va_G) (κ : Nat → ClassId) (κq : Nat → Nat) (za : Int32) : Er l yX0_isDigit (wl yX0_isDigit cX0_isDigit 1 (some .boolean)) { frames := 0, cells := 0, slots := 0, locals := 0 } D κ κq [.int za] [] (fun r : Int32 => some (.int r)) (fun r : Int32 => ((r = 1 ∧ 48 ≤ za.toInt ∧ za.toInt ≤ 57) ∨ (r = 0 ∧ (za.toInt < 48 ∨ 57 < za.toInt)))) := by
  refine er_of (by decide +kernel) (Nat.le_of_ble_eq_true rfl) ?_
  intro p e s m args below meth c A ls hx hb hr hml hts hown hlk hKK hK hP hE hl
  have hS : va_S A s.heap s.heap [] := va_S.rf
  have hP : va_P D vwCl ([] ++ []) s.heap := hP
  have hFX : FX p s m args c cX0_isDigit 1 RX0 := ⟨hx, hb, hml, hown, hts⟩
  have hl : lv_has ls 1 [(0, .int za)] := hl
  refine lv_iload_n hx hb dX0_isDigit_0 rfl (lv_at hl 0 rfl) ?_
  refine lv_bipush (v := 48) hx hb dX0_isDigit_1 (by decide) ?_
  refine lv_icmp_lt (tgt := 16) hx hb dX0_isDigit_3 (by decide) (fun c_1 => ?_) (fun c_1 => ?_)
  · have nc_1 := cz_lt (a := za.toInt) (b := (48 : Int)) rfl (by decide) c_1
    refine lv_iconst (v := 0) hx hb dX0_isDigit_16 (by decide) ?_
    exact cr_iret hx hb hr hlk rfl 0 rfl (by exact Or.inr ((⟨rfl, (show za.toInt < 48 ∨ 57 < za.toInt from (by first | assumption | omega | rfl | exact Or.inl (by assumption) | exact Or.inr (by assumption)))⟩))) dX0_isDigit_17
  · have nc_1 := cz_nlt (a := za.toInt) (b := (48 : Int)) rfl (by decide) c_1
    refine lv_iload_n hx hb dX0_isDigit_6 rfl (lv_at hl 0 rfl) ?_
    refine lv_bipush (v := 57) hx hb dX0_isDigit_7 (by decide) ?_
    refine lv_icmp_gt (tgt := 16) hx hb dX0_isDigit_9 (by decide) (fun c_2 => ?_) (fun c_2 => ?_)
    · have nc_2 := cz_lt (a := (57 : Int)) (b := za.toInt) (by decide) rfl c_2
      refine lv_iconst (v := 0) hx hb dX0_isDigit_16 (by decide) ?_
      exact cr_iret hx hb hr hlk rfl 0 rfl (by exact Or.inr ((⟨rfl, (show za.toInt < 48 ∨ 57 < za.toInt from (by first | assumption | omega | rfl | exact Or.inl (by assumption) | exact Or.inr (by assumption)))⟩))) dX0_isDigit_17
    · have nc_2 := cz_nlt (a := (57 : Int)) (b := za.toInt) (by decide) rfl c_2
      refine lv_iconst (v := 1) hx hb dX0_isDigit_12 (by decide) ?_
      refine lv_goto (tgt := 17) hx hb dX0_isDigit_13 (by decide) ?_
      exact cr_iret hx hb hr hlk rfl 1 rfl (by exact Or.inl (⟨rfl, (show 48 ≤ za.toInt from (by first | assumption | omega | rfl | exact Or.inl (by assumption) | exact Or.inr (by assumption))), (show za.toInt ≤ 57 from (by first | assumption | omega | rfl | exact Or.inl (by assumption) | exact Or.inr (by assumption)))⟩)) dX0_isDigit_17
set_option maxHeartbeats 4000000 in
set_option maxRecDepth 100000 in
theorem c_X1_canBeInName_S (l : Launch) (D : va_G) (κ : Nat → ClassId) (κq : Nat → Nat) (za : Int32) : Er l yX1_canBeInName (wl yX1_canBeInName cX1_canBeInName 1 (some .boolean)) { frames := 1, cells := 0, slots := 0, locals := 20 } D κ κq [.int za] [] (fun r : Int32 => some (.int r)) (fun r : Int32 => ((r = 1 ∧ ltB za = true) ∨ (r = 0 ∧ ltB za = false))) := by
  refine er_of (by decide +kernel) (Nat.le_of_ble_eq_true rfl) ?_
  intro p e s m args below meth c A ls hx hb hr hml hts hown hlk hKK hK hP hE hl
  have hS : va_S A s.heap s.heap [] := va_S.rf
  have hP : va_P D vwCl ([] ++ []) s.heap := hP
  have hFX : FX p s m args c cX1_canBeInName 1 RX1 := ⟨hx, hb, hml, hown, hts⟩
  have hl : lv_has ls 1 [(0, .int za)] := hl
  refine lv_iload_n hx hb dX1_canBeInName_0 rfl (lv_at hl 0 rfl) ?_
  refine lv_bipush (v := 97) hx hb dX1_canBeInName_1 (by decide) ?_
  refine lv_icmp_lt (tgt := 12) hx hb dX1_canBeInName_3 (by decide) (fun c_1 => ?_) (fun c_1 => ?_)
  · have nc_1 := cz_lt (a := za.toInt) (b := (97 : Int)) rfl (by decide) c_1
    refine lv_iload_n hx hb dX1_canBeInName_12 rfl (lv_at hl 0 rfl) ?_
    refine lv_bipush (v := 65) hx hb dX1_canBeInName_13 (by decide) ?_
    refine lv_icmp_lt (tgt := 24) hx hb dX1_canBeInName_15 (by decide) (fun c_2 => ?_) (fun c_2 => ?_)
    · have nc_2 := cz_lt (a := za.toInt) (b := (65 : Int)) rfl (by decide) c_2
      refine lv_iload_n hx hb dX1_canBeInName_24 rfl (lv_at hl 0 rfl) ?_
      refine er_S (As := [.int za]) (rest := []) hFX hKK hE hS (c_X0_isDigit_S l D κ κq za) 1 gS_X1_32 hdS_X0_isDigit rfl rfl ⟨Nat.le_of_ble_eq_true rfl, Nat.le_of_ble_eq_true rfl⟩ rfl rfl (Nat.le_of_ble_eq_true rfl) dX1_canBeInName_25 ⟨Nat.le_of_ble_eq_true rfl, Nat.le_of_ble_eq_true rfl⟩ hl.1 (subP0 hP [] rfl) (fun r__3 hp_4 => ?_)
      replace hp_4 : ((r__3 = 1 ∧ 48 ≤ za.toInt ∧ za.toInt ≤ 57) ∨ (r__3 = 0 ∧ (za.toInt < 48 ∨ 57 < za.toInt))) := hp_4
      have ha_5 := hp_4
      clear hp_4
      rcases ha_5 with ⟨rfl, a_6, a_7⟩ | ⟨rfl, a_8⟩
      · refine W.eq (g2 := F0 m 28 ls [.int 1]) rfl ?_
        refine lv_if_ne (tgt := 37) hx hb dX1_canBeInName_28 (by decide) (fun c_9 => ?_) (fun c_9 => absurd c_9 (by decide))
        refine lv_iconst (v := 1) hx hb dX1_canBeInName_37 (by decide) ?_
        refine lv_goto (tgt := 42) hx hb dX1_canBeInName_38 (by decide) ?_
        exact cr_iret hx hb hr hlk rfl 1 rfl (by exact Or.inl (⟨rfl, (show ltB za = true from (ltB_t (by first | exact Or.inl ⟨by omega, by omega⟩ | exact Or.inr (Or.inl ⟨by omega, by omega⟩) | exact Or.inr (Or.inr (Or.inl ⟨by omega, by omega⟩)) | exact Or.inr (Or.inr (Or.inr (by assumption))))))⟩)) dX1_canBeInName_42
      · refine W.eq (g2 := F0 m 28 ls [.int 0]) rfl ?_
        refine lv_if_ne (tgt := 37) hx hb dX1_canBeInName_28 (by decide) (fun c_10 => absurd c_10 (by decide)) (fun c_10 => ?_)
        refine lv_iload_n hx hb dX1_canBeInName_31 rfl (lv_at hl 0 rfl) ?_
        refine lv_bipush (v := 95) hx hb dX1_canBeInName_32 (by decide) ?_
        refine lv_icmp_ne (tgt := 41) hx hb dX1_canBeInName_34 (by decide) (fun c_11 => ?_) (fun c_11 => ?_)
        · refine lv_iconst (v := 0) hx hb dX1_canBeInName_41 (by decide) ?_
          exact cr_iret hx hb hr hlk rfl 0 rfl (by exact Or.inr ((⟨rfl, (show ltB za = false from (ltB_f (by omega) (by omega) (by omega) (by assumption)))⟩))) dX1_canBeInName_42
        · refine lv_iconst (v := 1) hx hb dX1_canBeInName_37 (by decide) ?_
          refine lv_goto (tgt := 42) hx hb dX1_canBeInName_38 (by decide) ?_
          exact cr_iret hx hb hr hlk rfl 1 rfl (by exact Or.inl (⟨rfl, (show ltB za = true from (ltB_t (by first | exact Or.inl ⟨by omega, by omega⟩ | exact Or.inr (Or.inl ⟨by omega, by omega⟩) | exact Or.inr (Or.inr (Or.inl ⟨by omega, by omega⟩)) | exact Or.inr (Or.inr (Or.inr (by assumption))))))⟩)) dX1_canBeInName_42
    · have nc_2 := cz_nlt (a := za.toInt) (b := (65 : Int)) rfl (by decide) c_2
      refine lv_iload_n hx hb dX1_canBeInName_18 rfl (lv_at hl 0 rfl) ?_
      refine lv_bipush (v := 90) hx hb dX1_canBeInName_19 (by decide) ?_
      refine lv_icmp_le (tgt := 37) hx hb dX1_canBeInName_21 (by decide) (fun c_12 => ?_) (fun c_12 => ?_)
      · have nc_12 := cz_le (a := za.toInt) (b := (90 : Int)) rfl (by decide) c_12
        refine lv_iconst (v := 1) hx hb dX1_canBeInName_37 (by decide) ?_
        refine lv_goto (tgt := 42) hx hb dX1_canBeInName_38 (by decide) ?_
        exact cr_iret hx hb hr hlk rfl 1 rfl (by exact Or.inl (⟨rfl, (show ltB za = true from (ltB_t (by first | exact Or.inl ⟨by omega, by omega⟩ | exact Or.inr (Or.inl ⟨by omega, by omega⟩) | exact Or.inr (Or.inr (Or.inl ⟨by omega, by omega⟩)) | exact Or.inr (Or.inr (Or.inr (by assumption))))))⟩)) dX1_canBeInName_42
      · have nc_12 := cz_nle (a := za.toInt) (b := (90 : Int)) rfl (by decide) c_12
        refine lv_iload_n hx hb dX1_canBeInName_24 rfl (lv_at hl 0 rfl) ?_
        refine er_S (As := [.int za]) (rest := []) hFX hKK hE hS (c_X0_isDigit_S l D κ κq za) 1 gS_X1_32 hdS_X0_isDigit rfl rfl ⟨Nat.le_of_ble_eq_true rfl, Nat.le_of_ble_eq_true rfl⟩ rfl rfl (Nat.le_of_ble_eq_true rfl) dX1_canBeInName_25 ⟨Nat.le_of_ble_eq_true rfl, Nat.le_of_ble_eq_true rfl⟩ hl.1 (subP0 hP [] rfl) (fun r__13 hp_14 => ?_)
        replace hp_14 : ((r__13 = 1 ∧ 48 ≤ za.toInt ∧ za.toInt ≤ 57) ∨ (r__13 = 0 ∧ (za.toInt < 48 ∨ 57 < za.toInt))) := hp_14
        have ha_15 := hp_14
        clear hp_14
        rcases ha_15 with ⟨rfl, a_16, a_17⟩ | ⟨rfl, a_18⟩
        · refine W.eq (g2 := F0 m 28 ls [.int 1]) rfl ?_
          refine lv_if_ne (tgt := 37) hx hb dX1_canBeInName_28 (by decide) (fun c_19 => ?_) (fun c_19 => absurd c_19 (by decide))
          refine lv_iconst (v := 1) hx hb dX1_canBeInName_37 (by decide) ?_
          refine lv_goto (tgt := 42) hx hb dX1_canBeInName_38 (by decide) ?_
          exact cr_iret hx hb hr hlk rfl 1 rfl (by exact Or.inl (⟨rfl, (show ltB za = true from (ltB_t (by first | exact Or.inl ⟨by omega, by omega⟩ | exact Or.inr (Or.inl ⟨by omega, by omega⟩) | exact Or.inr (Or.inr (Or.inl ⟨by omega, by omega⟩)) | exact Or.inr (Or.inr (Or.inr (by assumption))))))⟩)) dX1_canBeInName_42
        · refine W.eq (g2 := F0 m 28 ls [.int 0]) rfl ?_
          refine lv_if_ne (tgt := 37) hx hb dX1_canBeInName_28 (by decide) (fun c_20 => absurd c_20 (by decide)) (fun c_20 => ?_)
          refine lv_iload_n hx hb dX1_canBeInName_31 rfl (lv_at hl 0 rfl) ?_
          refine lv_bipush (v := 95) hx hb dX1_canBeInName_32 (by decide) ?_
          refine lv_icmp_ne (tgt := 41) hx hb dX1_canBeInName_34 (by decide) (fun c_21 => ?_) (fun c_21 => ?_)
          · refine lv_iconst (v := 0) hx hb dX1_canBeInName_41 (by decide) ?_
            exact cr_iret hx hb hr hlk rfl 0 rfl (by exact Or.inr ((⟨rfl, (show ltB za = false from (ltB_f (by omega) (by omega) (by omega) (by assumption)))⟩))) dX1_canBeInName_42
          · refine lv_iconst (v := 1) hx hb dX1_canBeInName_37 (by decide) ?_
            refine lv_goto (tgt := 42) hx hb dX1_canBeInName_38 (by decide) ?_
            exact cr_iret hx hb hr hlk rfl 1 rfl (by exact Or.inl (⟨rfl, (show ltB za = true from (ltB_t (by first | exact Or.inl ⟨by omega, by omega⟩ | exact Or.inr (Or.inl ⟨by omega, by omega⟩) | exact Or.inr (Or.inr (Or.inl ⟨by omega, by omega⟩)) | exact Or.inr (Or.inr (Or.inr (by assumption))))))⟩)) dX1_canBeInName_42
  · have nc_1 := cz_nlt (a := za.toInt) (b := (97 : Int)) rfl (by decide) c_1
    refine lv_iload_n hx hb dX1_canBeInName_6 rfl (lv_at hl 0 rfl) ?_
    refine lv_bipush (v := 122) hx hb dX1_canBeInName_7 (by decide) ?_
    refine lv_icmp_le (tgt := 37) hx hb dX1_canBeInName_9 (by decide) (fun c_22 => ?_) (fun c_22 => ?_)
    · have nc_22 := cz_le (a := za.toInt) (b := (122 : Int)) rfl (by decide) c_22
      refine lv_iconst (v := 1) hx hb dX1_canBeInName_37 (by decide) ?_
      refine lv_goto (tgt := 42) hx hb dX1_canBeInName_38 (by decide) ?_
      exact cr_iret hx hb hr hlk rfl 1 rfl (by exact Or.inl (⟨rfl, (show ltB za = true from (ltB_t (by first | exact Or.inl ⟨by omega, by omega⟩ | exact Or.inr (Or.inl ⟨by omega, by omega⟩) | exact Or.inr (Or.inr (Or.inl ⟨by omega, by omega⟩)) | exact Or.inr (Or.inr (Or.inr (by assumption))))))⟩)) dX1_canBeInName_42
    · have nc_22 := cz_nle (a := za.toInt) (b := (122 : Int)) rfl (by decide) c_22
      refine lv_iload_n hx hb dX1_canBeInName_12 rfl (lv_at hl 0 rfl) ?_
      refine lv_bipush (v := 65) hx hb dX1_canBeInName_13 (by decide) ?_
      refine lv_icmp_lt (tgt := 24) hx hb dX1_canBeInName_15 (by decide) (fun c_23 => ?_) (fun c_23 => ?_)
      · have nc_23 := cz_lt (a := za.toInt) (b := (65 : Int)) rfl (by decide) c_23
        refine lv_iload_n hx hb dX1_canBeInName_24 rfl (lv_at hl 0 rfl) ?_
        refine er_S (As := [.int za]) (rest := []) hFX hKK hE hS (c_X0_isDigit_S l D κ κq za) 1 gS_X1_32 hdS_X0_isDigit rfl rfl ⟨Nat.le_of_ble_eq_true rfl, Nat.le_of_ble_eq_true rfl⟩ rfl rfl (Nat.le_of_ble_eq_true rfl) dX1_canBeInName_25 ⟨Nat.le_of_ble_eq_true rfl, Nat.le_of_ble_eq_true rfl⟩ hl.1 (subP0 hP [] rfl) (fun r__24 hp_25 => ?_)
        replace hp_25 : ((r__24 = 1 ∧ 48 ≤ za.toInt ∧ za.toInt ≤ 57) ∨ (r__24 = 0 ∧ (za.toInt < 48 ∨ 57 < za.toInt))) := hp_25
        have ha_26 := hp_25
        clear hp_25
        rcases ha_26 with ⟨rfl, a_27, a_28⟩ | ⟨rfl, a_29⟩
        · refine W.eq (g2 := F0 m 28 ls [.int 1]) rfl ?_
          refine lv_if_ne (tgt := 37) hx hb dX1_canBeInName_28 (by decide) (fun c_30 => ?_) (fun c_30 => absurd c_30 (by decide))
          refine lv_iconst (v := 1) hx hb dX1_canBeInName_37 (by decide) ?_
          refine lv_goto (tgt := 42) hx hb dX1_canBeInName_38 (by decide) ?_
          exact cr_iret hx hb hr hlk rfl 1 rfl (by exact Or.inl (⟨rfl, (show ltB za = true from (ltB_t (by first | exact Or.inl ⟨by omega, by omega⟩ | exact Or.inr (Or.inl ⟨by omega, by omega⟩) | exact Or.inr (Or.inr (Or.inl ⟨by omega, by omega⟩)) | exact Or.inr (Or.inr (Or.inr (by assumption))))))⟩)) dX1_canBeInName_42
        · refine W.eq (g2 := F0 m 28 ls [.int 0]) rfl ?_
          refine lv_if_ne (tgt := 37) hx hb dX1_canBeInName_28 (by decide) (fun c_31 => absurd c_31 (by decide)) (fun c_31 => ?_)
          refine lv_iload_n hx hb dX1_canBeInName_31 rfl (lv_at hl 0 rfl) ?_
          refine lv_bipush (v := 95) hx hb dX1_canBeInName_32 (by decide) ?_
          refine lv_icmp_ne (tgt := 41) hx hb dX1_canBeInName_34 (by decide) (fun c_32 => ?_) (fun c_32 => ?_)
          · refine lv_iconst (v := 0) hx hb dX1_canBeInName_41 (by decide) ?_
            exact cr_iret hx hb hr hlk rfl 0 rfl (by exact Or.inr ((⟨rfl, (show ltB za = false from (ltB_f (by omega) (by omega) (by omega) (by assumption)))⟩))) dX1_canBeInName_42
          · refine lv_iconst (v := 1) hx hb dX1_canBeInName_37 (by decide) ?_
            refine lv_goto (tgt := 42) hx hb dX1_canBeInName_38 (by decide) ?_
            exact cr_iret hx hb hr hlk rfl 1 rfl (by exact Or.inl (⟨rfl, (show ltB za = true from (ltB_t (by first | exact Or.inl ⟨by omega, by omega⟩ | exact Or.inr (Or.inl ⟨by omega, by omega⟩) | exact Or.inr (Or.inr (Or.inl ⟨by omega, by omega⟩)) | exact Or.inr (Or.inr (Or.inr (by assumption))))))⟩)) dX1_canBeInName_42
      · have nc_23 := cz_nlt (a := za.toInt) (b := (65 : Int)) rfl (by decide) c_23
        refine lv_iload_n hx hb dX1_canBeInName_18 rfl (lv_at hl 0 rfl) ?_
        refine lv_bipush (v := 90) hx hb dX1_canBeInName_19 (by decide) ?_
        refine lv_icmp_le (tgt := 37) hx hb dX1_canBeInName_21 (by decide) (fun c_33 => ?_) (fun c_33 => ?_)
        · have nc_33 := cz_le (a := za.toInt) (b := (90 : Int)) rfl (by decide) c_33
          refine lv_iconst (v := 1) hx hb dX1_canBeInName_37 (by decide) ?_
          refine lv_goto (tgt := 42) hx hb dX1_canBeInName_38 (by decide) ?_
          exact cr_iret hx hb hr hlk rfl 1 rfl (by exact Or.inl (⟨rfl, (show ltB za = true from (ltB_t (by first | exact Or.inl ⟨by omega, by omega⟩ | exact Or.inr (Or.inl ⟨by omega, by omega⟩) | exact Or.inr (Or.inr (Or.inl ⟨by omega, by omega⟩)) | exact Or.inr (Or.inr (Or.inr (by assumption))))))⟩)) dX1_canBeInName_42
        · have nc_33 := cz_nle (a := za.toInt) (b := (90 : Int)) rfl (by decide) c_33
          refine lv_iload_n hx hb dX1_canBeInName_24 rfl (lv_at hl 0 rfl) ?_
          refine er_S (As := [.int za]) (rest := []) hFX hKK hE hS (c_X0_isDigit_S l D κ κq za) 1 gS_X1_32 hdS_X0_isDigit rfl rfl ⟨Nat.le_of_ble_eq_true rfl, Nat.le_of_ble_eq_true rfl⟩ rfl rfl (Nat.le_of_ble_eq_true rfl) dX1_canBeInName_25 ⟨Nat.le_of_ble_eq_true rfl, Nat.le_of_ble_eq_true rfl⟩ hl.1 (subP0 hP [] rfl) (fun r__34 hp_35 => ?_)
          replace hp_35 : ((r__34 = 1 ∧ 48 ≤ za.toInt ∧ za.toInt ≤ 57) ∨ (r__34 = 0 ∧ (za.toInt < 48 ∨ 57 < za.toInt))) := hp_35
          have ha_36 := hp_35
          clear hp_35
          rcases ha_36 with ⟨rfl, a_37, a_38⟩ | ⟨rfl, a_39⟩
          · refine W.eq (g2 := F0 m 28 ls [.int 1]) rfl ?_
            refine lv_if_ne (tgt := 37) hx hb dX1_canBeInName_28 (by decide) (fun c_40 => ?_) (fun c_40 => absurd c_40 (by decide))
            refine lv_iconst (v := 1) hx hb dX1_canBeInName_37 (by decide) ?_
            refine lv_goto (tgt := 42) hx hb dX1_canBeInName_38 (by decide) ?_
            exact cr_iret hx hb hr hlk rfl 1 rfl (by exact Or.inl (⟨rfl, (show ltB za = true from (ltB_t (by first | exact Or.inl ⟨by omega, by omega⟩ | exact Or.inr (Or.inl ⟨by omega, by omega⟩) | exact Or.inr (Or.inr (Or.inl ⟨by omega, by omega⟩)) | exact Or.inr (Or.inr (Or.inr (by assumption))))))⟩)) dX1_canBeInName_42
          · refine W.eq (g2 := F0 m 28 ls [.int 0]) rfl ?_
            refine lv_if_ne (tgt := 37) hx hb dX1_canBeInName_28 (by decide) (fun c_41 => absurd c_41 (by decide)) (fun c_41 => ?_)
            refine lv_iload_n hx hb dX1_canBeInName_31 rfl (lv_at hl 0 rfl) ?_
            refine lv_bipush (v := 95) hx hb dX1_canBeInName_32 (by decide) ?_
            refine lv_icmp_ne (tgt := 41) hx hb dX1_canBeInName_34 (by decide) (fun c_42 => ?_) (fun c_42 => ?_)
            · refine lv_iconst (v := 0) hx hb dX1_canBeInName_41 (by decide) ?_
              exact cr_iret hx hb hr hlk rfl 0 rfl (by exact Or.inr ((⟨rfl, (show ltB za = false from (ltB_f (by omega) (by omega) (by omega) (by assumption)))⟩))) dX1_canBeInName_42
            · refine lv_iconst (v := 1) hx hb dX1_canBeInName_37 (by decide) ?_
              refine lv_goto (tgt := 42) hx hb dX1_canBeInName_38 (by decide) ?_
              exact cr_iret hx hb hr hlk rfl 1 rfl (by exact Or.inl (⟨rfl, (show ltB za = true from (ltB_t (by first | exact Or.inl ⟨by omega, by omega⟩ | exact Or.inr (Or.inl ⟨by omega, by omega⟩) | exact Or.inr (Or.inr (Or.inl ⟨by omega, by omega⟩)) | exact Or.inr (Or.inr (Or.inr (by assumption))))))⟩)) dX1_canBeInName_42
set_option maxHeartbeats 4000000 in
set_option maxRecDepth 100000 in
theorem c_X1_canBeName_S (l : Launch) (D : va_G) (κ : Nat → ClassId) (κq : Nat → Nat) (b : Nat) (n : Nat) (f : Nat → Int32) (h1 : n ≤ 21) : Er l yX1_canBeName (wl yX1_canBeName cX1_canBeName 2 (some .boolean)) { frames := 2, cells := 0, slots := 0, locals := 40 } D κ κq [.ref b] [(b, .inl (κ 1, n, .inl f))] (fun r : Int32 => some (.int r)) (fun r : Int32 => ((r = 1 ∧ n ≤ 12 ∧ 1 ≤ n ∧ nvB (lsF f n) = true) ∨ (r = 0 ∧ nvB (lsF f n) = false))) := by
  refine er_of (by decide +kernel) (Nat.le_of_ble_eq_true rfl) ?_
  intro p e s m args below meth c A ls hx hb hr hml hts hown hlk hKK hK hP hE hl
  have hS : va_S A s.heap s.heap [] := va_S.rf
  have hP : va_P D vwCl ([(b, .inl (κ 1, n, .inl f))] ++ []) s.heap := hP
  have hFX : FX p s m args c cX1_canBeName 2 RX1 := ⟨hx, hb, hml, hown, hts⟩
  have hl : lv_has ls 2 [(0, .ref b)] := hl
  refine lv_aload_n hx hb dX1_canBeName_0 rfl (lv_at hl 0 rfl) ?_
  refine va_alen hx hb hK hP 0 1 rfl rfl (v := nI n) rfl dX1_canBeName_1 ?_
  refine lv_iconst (v := 1) hx hb dX1_canBeName_2 (by decide) ?_
  refine lv_icmp_lt (tgt := 13) hx hb dX1_canBeName_3 (by decide) (fun c_1 => ?_) (fun c_1 => ?_)
  · have nc_1 := cv_lt (a := n) (b := 1) (by omega) (by omega) c_1
    refine lv_iconst (v := 0) hx hb dX1_canBeName_13 (by decide) ?_
    exact cr_iret hx hb hr hlk rfl 0 rfl (by exact Or.inr ((⟨rfl, (show nvB (lsF f n) = false from (nv_l (by omega)))⟩))) dX1_canBeName_14
  · have nc_1 := cv_nlt (a := n) (b := 1) (by omega) (by omega) c_1
    refine lv_aload_n hx hb dX1_canBeName_6 rfl (lv_at hl 0 rfl) ?_
    refine va_alen hx hb hK hP 0 1 rfl rfl (v := nI n) rfl dX1_canBeName_7 ?_
    refine lv_bipush (v := 12) hx hb dX1_canBeName_8 (by decide) ?_
    refine lv_icmp_le (tgt := 15) hx hb dX1_canBeName_10 (by decide) (fun c_2 => ?_) (fun c_2 => ?_)
    · have nc_2 := cv_le (a := n) (b := 12) (by omega) (by omega) c_2
      refine lv_iconst (v := 0) hx hb dX1_canBeName_15 (by decide) ?_
      refine lv_istore_n (lv' := [(1, .int 0), (0, .ref b)]) hx hb dX1_canBeName_16 rfl hl (by decide) rfl (fun ls hl => ?_)
      refine loop_r (fun k9 ls => ∃ (k1_17 : Nat), (k1_17 ≤ n) ∧ ((lsF f k1_17).all ltB = true) ∧ n - k1_17 = k9 ∧ lv_has ls 2 [(1, .int (nI k1_17)), (0, .ref b)]) (fun k9 ls hI17 ih17 => ?_) (n - 0) _ ⟨0, (by omega), rfl, rfl, lv_sub hl [0, 1] rfl⟩
      obtain ⟨k1_17, hl17_0, hl17_1, hm17, hl⟩ := hI17
      refine lv_iload_n hx hb dX1_canBeName_17 rfl (lv_at hl 0 rfl) ?_
      refine lv_aload_n hx hb dX1_canBeName_18 rfl (lv_at hl 1 rfl) ?_
      refine va_alen hx hb hK hP 0 1 rfl rfl (v := nI n) rfl dX1_canBeName_19 ?_
      refine lv_icmp_ge (tgt := 40) hx hb dX1_canBeName_20 (by decide) (fun c_3 => ?_) (fun c_3 => ?_)
      · have nc_3 := cv_le (a := n) (b := k1_17) (by omega) (by omega) c_3
        refine lv_iconst (v := 1) hx hb dX1_canBeName_40 (by decide) ?_
        exact cr_iret hx hb hr hlk rfl 1 rfl (by exact Or.inl (⟨rfl, (show n ≤ 12 from (by first | assumption | omega | rfl | exact Or.inl (by assumption) | exact Or.inr (by assumption))), (show 1 ≤ n from (by first | assumption | omega | rfl | exact Or.inl (by assumption) | exact Or.inr (by assumption))), (show nvB (lsF f n) = true from (nv_t (by omega) (by omega) (by have q9 := hl17_1; rw [show k1_17 = n by omega] at q9; exact q9)))⟩)) dX1_canBeName_41
      · have nc_3 := cv_nle (a := n) (b := k1_17) (by omega) (by omega) c_3
        refine lv_aload_n hx hb dX1_canBeName_23 rfl (lv_at hl 1 rfl) ?_
        refine lv_iload_n hx hb dX1_canBeName_24 rfl (lv_at hl 0 rfl) ?_
        refine va_bald hx hb hK hP 0 1 rfl rfl (i := nI k1_17) (vp_in_nI (n := k1_17) (by omega) (by omega)) dX1_canBeName_25 ?_
        refine kv (v := .int (f k1_17)) (by rw [nI_clamp (by omega)]) ?_
        obtain ⟨x_4, ex_4⟩ : ∃ y9 : Int32, f k1_17 = y9 := ⟨_, rfl⟩
        refine kv (v := .int x_4) (congrArg Value.int ex_4) ?_
        refine er_S (As := [.int x_4]) (rest := []) hFX hKK hE hS (c_X1_canBeInName_S l D κ κq x_4) 1 gS_X1_28 hdS_X1_canBeInName rfl rfl ⟨Nat.le_of_ble_eq_true rfl, Nat.le_of_ble_eq_true rfl⟩ rfl rfl (Nat.le_of_ble_eq_true rfl) dX1_canBeName_26 ⟨Nat.le_of_ble_eq_true rfl, Nat.le_of_ble_eq_true rfl⟩ hl.1 (subP0 hP [] rfl) (fun r__5 hp_6 => ?_)
        replace hp_6 : ((r__5 = 1 ∧ ltB x_4 = true) ∨ (r__5 = 0 ∧ ltB x_4 = false)) := hp_6
        have ha_7 := hp_6
        clear hp_6
        rcases ha_7 with ⟨rfl, a_8⟩ | ⟨rfl, a_9⟩
        · refine W.eq (g2 := F0 m 29 ls [.int 1]) rfl ?_
          refine lv_if_ne (tgt := 34) hx hb dX1_canBeName_29 (by decide) (fun c_10 => ?_) (fun c_10 => absurd c_10 (by decide))
          refine lv_iinc (v := (nI (k1_17 + 1))) (lv' := [(1, .int (nI (k1_17 + 1))), (0, .ref b)]) hx hb dX1_canBeName_34 hl (k := 0) rfl (nI_i k1_17) (by decide) rfl (fun ls hl => ?_)
          refine lv_goto (tgt := 17) hx hb dX1_canBeName_37 (by decide) ?_
          exact ih17 _ _ (by omega) ⟨(k1_17 + 1), (by omega), (al_go hl17_1 ex_4 a_8), rfl, lv_sub hl [0, 1] rfl⟩
        · refine W.eq (g2 := F0 m 29 ls [.int 0]) rfl ?_
          refine lv_if_ne (tgt := 34) hx hb dX1_canBeName_29 (by decide) (fun c_11 => absurd c_11 (by decide)) (fun c_11 => ?_)
          refine lv_iconst (v := 0) hx hb dX1_canBeName_32 (by decide) ?_
          exact cr_iret hx hb hr hlk rfl 0 rfl (by exact Or.inr ((⟨rfl, (show nvB (lsF f n) = false from (nv_f ex_4 a_9 (by omega)))⟩))) dX1_canBeName_33
    · have nc_2 := cv_nle (a := n) (b := 12) (by omega) (by omega) c_2
      refine lv_iconst (v := 0) hx hb dX1_canBeName_13 (by decide) ?_
      exact cr_iret hx hb hr hlk rfl 0 rfl (by exact Or.inr ((⟨rfl, (show nvB (lsF f n) = false from (nv_l (by omega)))⟩))) dX1_canBeName_14
set_option maxHeartbeats 4000000 in
set_option maxRecDepth 100000 in
theorem c_X1_init_S (l : Launch) (D : va_G) (κ : Nat → ClassId) (κq : Nat → Nat) (im : va_W) (a : Nat) (b : Nat) (n : Nat) (t : Int32) (xs : List Int32) (hby : Bs κ im b n xs) (hto : To t) : Et l yX1_init (wl yX1_init cX1_init 3 none) { frames := 1, cells := 0, slots := 0, locals := 12 } D κ κq [.ref a, .ref b, .int t] ([(a, .inr (1, [.null, .int 0]))] ++ im) (fun im2 : va_W => none) (fun im2 : va_W => Sb im im2 ∧ Cn κ im2 a xs) (fun im2 : va_W => ([] ++ im2)) := by
  refine et_of (by decide +kernel) (Nat.le_of_ble_eq_true rfl) ?_
  intro p e s m args below meth c A ls hx hb hr hml hts hown hlk hin hKK hK hA hP hD hS hE hl
  have hS : va_S A s.heap s.heap [] := hS
  have hP : va_P D vwCl ([(a, .inr (1, [.null, .int 0]))] ++ im) s.heap := hP
  have hD : va_D A ([(a, .inr (1, [.null, .int 0]))] ++ im) := hD
  have hFX : FX p s m args c cX1_init 3 RX1 := ⟨hx, hb, hml, hown, hts⟩
  have hl : lv_has ls 3 [(0, .ref a), (1, .ref b), (2, .int t)] := hl
  refine lv_aload_n hx hb dX1_init_0 rfl (lv_at hl 0 rfl) ?_
  refine W.objInit hx hb hown (hts _ mw_350) (hts _ mw_10) (hts _ mw_11) rfl (by rw [hml]; exact hl.1) rfl dX1_init_1 (Nat.le_of_ble_eq_true rfl) (Nat.le_of_ble_eq_true rfl) ?_
  refine W.eq (g2 := F0 m 4 ls []) rfl ?_
  refine lv_aload_n hx hb dX1_init_4 rfl (lv_at hl 0 rfl) ?_
  refine lv_aload_n hx hb dX1_init_5 rfl (lv_at hl 1 rfl) ?_
  refine va_putF (D := D) (ci := 1) (v := .ref b) (ty := tyX1 0) (C := RX1) (T := TX1) (N := 2) hx hb hts inlX1 tyX1 tyX1_ok nmX1 hown hK hP hD hS 0 rfl rfl 0 (by decide) (hts _ mw_346) (fun _ h9 => h9) rfl hin rfl (tyX1_ok 0 (by decide)) rfl rfl (Nat.le_of_ble_eq_true rfl) dX1_init_6 (fun H locs hP hD hS => ?_)
  have hP : va_P D vwCl ([(a, .inr (1, [.ref b, .int 0]))] ++ im) H := hP
  have hD : va_D A ([(a, .inr (1, [.ref b, .int 0]))] ++ im) := hD
  refine lv_aload_n hx hb dX1_init_9 rfl (lv_at hl 0 rfl) ?_
  refine lv_iload_n hx hb dX1_init_10 rfl (lv_at hl 2 rfl) ?_
  refine va_putF (D := D) (ci := 1) (v := .int t) (ty := tyX1 1) (C := RX1) (T := TX1) (N := 2) hx hb hts inlX1 tyX1 tyX1_ok nmX1 hown hK hP hD hS 0 rfl rfl 1 (by decide) (hts _ mw_351) (fun _ h9 => h9) rfl hin rfl (tyX1_ok 1 (by decide)) rfl rfl (Nat.le_of_ble_eq_true rfl) dX1_init_11 (fun H locs hP hD hS => ?_)
  have hP : va_P D vwCl ([(a, .inr (1, [.ref b, .int t]))] ++ im) H := hP
  have hD : va_D A ([(a, .inr (1, [.ref b, .int t]))] ++ im) := hD
  replace hP : va_P D vwCl ([(a, .inr (1, [.ref b, .int t]))] ++ im) _ := subP hP [0] rfl
  replace hD : va_D A ([(a, .inr (1, [.ref b, .int t]))] ++ im) := subD hD [0] (by decide) rfl
  obtain ⟨im_1, he_2⟩ : ∃ x9 : va_W, x9 = ([(a, .inr (1, [.ref b, .int t]))] ++ im) := ⟨_, rfl⟩
  have hs_3 : Sb im im_1 := by rw [he_2]; exact Sb.app
  have hm_a : (a, .inr (1, [.ref b, .int t])) ∈ im_1 := by rw [he_2]; exact List.mem_of_getElem? (i := 0) rfl
  replace hP : va_P D vwCl ([] ++ ([(a, .inr (1, [.ref b, .int t]))] ++ im)) _ := hP
  replace hD : va_D A ([] ++ ([(a, .inr (1, [.ref b, .int t]))] ++ im)) := hD
  rw [← he_2] at hP hD
  clear he_2
  replace hby := hby.up hs_3
  have hf_4 : Cn κ im_1 a xs := ⟨b, n, t, hto, hm_a, hby⟩
  exact et_vret hx hb hr hlk hS im_1 rfl ⟨(show Sb im im_1 from hs_3), (show Cn κ im_1 a xs from hf_4)⟩ (subP hP [] rfl) (subD hD [] (by decide) rfl) (Nat.le_of_ble_eq_true rfl) (Nat.le_of_ble_eq_true rfl) dX1_init_14
set_option maxHeartbeats 4000000 in
set_option maxRecDepth 100000 in
theorem c_X1_isNamed_S (l : Launch) (D : va_G) (κ : Nat → ClassId) (κq : Nat → Nat) (im : va_W) (a : Nat) (b : Nat) (n : Nat) (xs : List Int32) (ys : List Int32) (hc : Cn κ im a xs) (hby : Bs κ im b n ys) : Er l yX1_isNamed (wl yX1_isNamed cX1_isNamed 3 (some .boolean)) { frames := 0, cells := 0, slots := 0, locals := 0 } D κ κq [.ref a, .ref b] ([] ++ im) (fun r : Int32 => some (.int r)) (fun r : Int32 => ((r = 1 ∧ xs = ys) ∨ (r = 0 ∧ ¬ xs = ys))) := by
  refine er_of (by decide +kernel) (Nat.le_of_ble_eq_true rfl) ?_
  intro p e s m args below meth c A ls hx hb hr hml hts hown hlk hKK hK hP hE hl
  have hS : va_S A s.heap s.heap [] := va_S.rf
  have hP : va_P D vwCl ([] ++ im) s.heap := hP
  have hFX : FX p s m args c cX1_isNamed 3 RX1 := ⟨hx, hb, hml, hown, hts⟩
  have hl : lv_has ls 3 [(0, .ref a), (1, .ref b)] := hl
  obtain ⟨b_1, n_2, t_3, ht_4, hm_5, hb_6⟩ := id hc
  have hn_b_1 := hb_6.1
  obtain ⟨hn_7, f_8, hm_9, hfit_10, he_11⟩ := id hb_6
  obtain ⟨hn_12, f_13, hm_14, hfit_15, he_16⟩ := id hby
  refine lv_aload_n hx hb dX1_isNamed_0 rfl (lv_at hl 1 rfl) ?_
  refine va_alen hx hb hK (oneP (C := []) hP hm_14) 0 1 rfl rfl (v := nI n) rfl dX1_isNamed_1 ?_
  refine lv_aload_n hx hb dX1_isNamed_2 rfl (lv_at hl 0 rfl) ?_
  refine va_get (D := D) (ci := 1) (v := .ref b_1) (C := RX1) (T := TX1) (N := 2) hx hb hts inlX1 hown hK (oneP (C := []) hP hm_5) 0 rfl rfl 0 (by decide) (hts _ mw_346) (fun _ h9 => h9) rfl dX1_isNamed_3 ?_
  refine va_alen hx hb hK (oneP (C := []) hP hm_9) 0 1 rfl rfl (v := nI n_2) rfl dX1_isNamed_6 ?_
  refine lv_icmp_eq (tgt := 12) hx hb dX1_isNamed_7 (by decide) (fun c_17 => ?_) (fun c_17 => ?_)
  · have nc_17 := cv_eq (a := n) (b := n_2) (by omega) (by omega) c_17
    refine lv_iconst (v := 0) hx hb dX1_isNamed_12 (by decide) ?_
    refine lv_istore_n (lv' := [(2, .int 0), (0, .ref a), (1, .ref b)]) hx hb dX1_isNamed_13 rfl hl (by decide) rfl (fun ls hl => ?_)
    refine loop_r (fun k9 ls => ∃ (k2_14 : Nat), (k2_14 ≤ n) ∧ (lsF f_13 k2_14 = lsF f_8 k2_14) ∧ n - k2_14 = k9 ∧ lv_has ls 3 [(2, .int (nI k2_14)), (0, .ref a), (1, .ref b)]) (fun k9 ls hI14 ih14 => ?_) (n - 0) _ ⟨0, (by omega), rfl, rfl, lv_sub hl [0, 1, 2] rfl⟩
    obtain ⟨k2_14, hl14_0, hl14_1, hm14, hl⟩ := hI14
    refine lv_iload_n hx hb dX1_isNamed_14 rfl (lv_at hl 0 rfl) ?_
    refine lv_aload_n hx hb dX1_isNamed_15 rfl (lv_at hl 1 rfl) ?_
    refine va_get (D := D) (ci := 1) (v := .ref b_1) (C := RX1) (T := TX1) (N := 2) hx hb hts inlX1 hown hK (oneP (C := []) hP hm_5) 0 rfl rfl 0 (by decide) (hts _ mw_346) (fun _ h9 => h9) rfl dX1_isNamed_16 ?_
    refine va_alen hx hb hK (oneP (C := []) hP hm_9) 0 1 rfl rfl (v := nI n_2) rfl dX1_isNamed_19 ?_
    refine lv_icmp_ge (tgt := 43) hx hb dX1_isNamed_20 (by decide) (fun c_18 => ?_) (fun c_18 => ?_)
    · have nc_18 := cv_le (a := n_2) (b := k2_14) (by omega) (by omega) c_18
      refine lv_iconst (v := 1) hx hb dX1_isNamed_43 (by decide) ?_
      exact cr_iret hx hb hr hlk rfl 1 rfl (by exact Or.inl (⟨rfl, (show xs = ys from (by rw [← he_11, ← he_16, show n_2 = n by omega]; have q9 := hl14_1; rw [show k2_14 = n by omega] at q9; exact q9.symm))⟩)) dX1_isNamed_44
    · have nc_18 := cv_nle (a := n_2) (b := k2_14) (by omega) (by omega) c_18
      refine lv_aload_n hx hb dX1_isNamed_23 rfl (lv_at hl 2 rfl) ?_
      refine lv_iload_n hx hb dX1_isNamed_24 rfl (lv_at hl 0 rfl) ?_
      refine va_bald hx hb hK (oneP (C := []) hP hm_14) 0 1 rfl rfl (i := nI k2_14) (vp_in_nI (n := k2_14) (by omega) (by omega)) dX1_isNamed_25 ?_
      refine kv (v := .int (f_13 k2_14)) (by rw [nI_clamp (by omega)]) ?_
      obtain ⟨x_19, ex_19⟩ : ∃ y9 : Int32, f_13 k2_14 = y9 := ⟨_, rfl⟩
      refine kv (v := .int x_19) (congrArg Value.int ex_19) ?_
      refine lv_aload_n hx hb dX1_isNamed_26 rfl (lv_at hl 1 rfl) ?_
      refine va_get (D := D) (ci := 1) (v := .ref b_1) (C := RX1) (T := TX1) (N := 2) hx hb hts inlX1 hown hK (oneP (C := []) hP hm_5) 0 rfl rfl 0 (by decide) (hts _ mw_346) (fun _ h9 => h9) rfl dX1_isNamed_27 ?_
      refine lv_iload_n hx hb dX1_isNamed_30 rfl (lv_at hl 0 rfl) ?_
      refine va_bald hx hb hK (oneP (C := []) hP hm_9) 0 1 rfl rfl (i := nI k2_14) (vp_in_nI (n := k2_14) (by omega) (by omega)) dX1_isNamed_31 ?_
      refine kv (v := .int (f_8 k2_14)) (by rw [nI_clamp (by omega)]) ?_
      obtain ⟨x_20, ex_20⟩ : ∃ y9 : Int32, f_8 k2_14 = y9 := ⟨_, rfl⟩
      refine kv (v := .int x_20) (congrArg Value.int ex_20) ?_
      refine lv_icmp_eq (tgt := 37) hx hb dX1_isNamed_32 (by decide) (fun c_21 => ?_) (fun c_21 => ?_)
      · refine lv_iinc (v := (nI (k2_14 + 1))) (lv' := [(2, .int (nI (k2_14 + 1))), (0, .ref a), (1, .ref b)]) hx hb dX1_isNamed_37 hl (k := 0) rfl (nI_i k2_14) (by decide) rfl (fun ls hl => ?_)
        refine lv_goto (tgt := 14) hx hb dX1_isNamed_40 (by decide) ?_
        exact ih14 _ _ (by omega) ⟨(k2_14 + 1), (by omega), (lsF_go hl14_1 ex_19 ex_20 c_21), rfl, lv_sub hl [0, 1, 2] rfl⟩
      · refine lv_iconst (v := 0) hx hb dX1_isNamed_35 (by decide) ?_
        exact cr_iret hx hb hr hlk rfl 0 rfl (by exact Or.inr ((⟨rfl, (show ¬ xs = ys from (by rw [← he_11, ← he_16, show n_2 = n by omega]; exact fun h9 => lsF_ne ex_19 ex_20 c_21 (by omega) h9.symm))⟩))) dX1_isNamed_36
  · have nc_17 := cv_ne (a := n) (b := n_2) (by omega) (by omega) c_17
    refine lv_iconst (v := 0) hx hb dX1_isNamed_10 (by decide) ?_
    exact cr_iret hx hb hr hlk rfl 0 rfl (by exact Or.inr ((⟨rfl, (show ¬ xs = ys from (by rw [← he_11, ← he_16]; exact lsF_nl (by omega)))⟩))) dX1_isNamed_11
set_option maxHeartbeats 4000000 in
set_option maxRecDepth 100000 in
theorem c_X1_indexOf_S (l : Launch) (D : va_G) (κ : Nat → ClassId) (κq : Nat → Nat) (im : va_W) (g : Nat) (i : Nat) (b : Nat) (n : Nat) (w : Nat) (f : Nat → Option Nat) (fs : List (List Int32)) (ys : List Int32) (hby : Bs κ im b n ys) (hlq : Lq κ im f i fs) (hw : i ≤ w) (hw2 : w ≤ 20) : Er l yX1_indexOf (wl yX1_indexOf cX1_indexOf 4 (some .int)) { frames := 1, cells := 0, slots := 0, locals := 22 } D κ κq [.ref g, .int (nI i), .ref b] ([(g, .inl (κ 3, w, .inr (.inr (.inr (.inr f)))))] ++ im) (fun r : Int32 => some (.int r)) (fun r : Int32 => ((r = -1 ∧ memB fs ys i = false) ∨ (¬ r = -1 ∧ memB fs ys i = true))) := by
  refine er_of (by decide +kernel) (Nat.le_of_ble_eq_true rfl) ?_
  intro p e s m args below meth c A ls hx hb hr hml hts hown hlk hKK hK hP hE hl
  have hS : va_S A s.heap s.heap [] := va_S.rf
  have hP : va_P D vwCl ([(g, .inl (κ 3, w, .inr (.inr (.inr (.inr f)))))] ++ im) s.heap := hP
  have hFX : FX p s m args c cX1_indexOf 4 RX1 := ⟨hx, hb, hml, hown, hts⟩
  have hl : lv_has ls 4 [(0, .ref g), (1, .int (nI i)), (2, .ref b)] := hl
  refine lv_iconst (v := 0) hx hb dX1_indexOf_0 (by decide) ?_
  refine lv_istore_n (lv' := [(3, .int 0), (0, .ref g), (1, .int (nI i)), (2, .ref b)]) hx hb dX1_indexOf_1 rfl hl (by decide) rfl (fun ls hl => ?_)
  refine loop_r (fun k9 ls => ∃ (k3_2 : Nat), (k3_2 ≤ i) ∧ (memB fs ys k3_2 = false) ∧ i - k3_2 = k9 ∧ lv_has ls 4 [(3, .int (nI k3_2)), (0, .ref g), (1, .int (nI i)), (2, .ref b)]) (fun k9 ls hI2 ih2 => ?_) (i - 0) _ ⟨0, (by omega), rfl, rfl, lv_sub hl [0, 1, 2, 3] rfl⟩
  obtain ⟨k3_2, hl2_0, hl2_1, hm2, hl⟩ := hI2
  refine lv_iload_n hx hb dX1_indexOf_2 rfl (lv_at hl 0 rfl) ?_
  refine lv_iload_n hx hb dX1_indexOf_3 rfl (lv_at hl 2 rfl) ?_
  refine lv_icmp_ge (tgt := 25) hx hb dX1_indexOf_4 (by decide) (fun c_1 => ?_) (fun c_1 => ?_)
  · have nc_1 := cv_le (a := i) (b := k3_2) (by omega) (by omega) c_1
    refine lv_iconst (v := (-1)) hx hb dX1_indexOf_25 (by decide) ?_
    exact cr_iret hx hb hr hlk rfl (-1) rfl (show ((-1 : Int32) = -1 ∧ memB fs ys i = false) ∨ (¬ (-1 : Int32) = -1 ∧ memB fs ys i = true) from (Or.inl ⟨rfl, by have q9 := hl2_1; rw [show k3_2 = i by omega] at q9; exact q9⟩)) dX1_indexOf_26
  · have nc_1 := cv_nle (a := i) (b := k3_2) (by omega) (by omega) c_1
    refine lv_aload_n hx hb dX1_indexOf_7 rfl (lv_at hl 1 rfl) ?_
    refine lv_iload_n hx hb dX1_indexOf_8 rfl (lv_at hl 0 rfl) ?_
    refine va_aldq hx hb hK hP 0 3 rfl rfl (i := nI k3_2) (vp_in_nI (n := k3_2) (by omega) (by omega)) dX1_indexOf_9 ?_
    obtain ⟨q_2, e_3, h_4⟩ := hlq k3_2 (by omega)
    refine kv (v := .ref q_2) (by rw [nI_clamp (by omega)]; rw [e_3]; rfl) ?_
    refine lv_aload_n hx hb dX1_indexOf_10 rfl (lv_at hl 3 rfl) ?_
    obtain ⟨b_7, n_8, t_9, ht_10, hm_11, hb_12⟩ := id h_4
    have hn_b_7 := hb_12.1
    refine er_V (As := [.ref b]) (rest := []) hFX hKK hE hS (c_X1_isNamed_S l D κ κq im q_2 b n (fs.getD k3_2 []) ys h_4 hby) 1 gV_X1_35 hdV_X1_isNamed rfl rfl ⟨Nat.le_of_ble_eq_true rfl, Nat.le_of_ble_eq_true rfl⟩ rfl rfl (Nat.le_of_ble_eq_true rfl) dX1_indexOf_11 ⟨Nat.le_of_ble_eq_true rfl, Nat.le_of_ble_eq_true rfl⟩ hl.1 (oneP (C := [(g, .inl (κ 3, w, .inr (.inr (.inr (.inr f)))))]) hP hm_11) 0 1 rfl rfl rfl (subP hP [] rfl) (fun r__5 hp_6 => ?_)
    replace hp_6 : ((r__5 = 1 ∧ (fs.getD k3_2 []) = ys) ∨ (r__5 = 0 ∧ ¬ (fs.getD k3_2 []) = ys)) := hp_6
    have ha_13 := hp_6
    clear hp_6
    rcases ha_13 with ⟨rfl, a_14⟩ | ⟨rfl, a_15⟩
    · refine W.eq (g2 := F0 m 14 ls [.int 1]) rfl ?_
      refine lv_if_eq (tgt := 19) hx hb dX1_indexOf_14 (by decide) (fun c_16 => absurd c_16 (by decide)) (fun c_16 => ?_)
      refine lv_iload_n hx hb dX1_indexOf_17 rfl (lv_at hl 0 rfl) ?_
      exact cr_iret hx hb hr hlk rfl (nI k3_2) rfl (show ((nI k3_2) = -1 ∧ memB fs ys i = false) ∨ (¬ (nI k3_2) = -1 ∧ memB fs ys i = true) from (Or.inr ⟨nI_nn (by omega), mem_in a_14 (by omega)⟩)) dX1_indexOf_18
    · refine W.eq (g2 := F0 m 14 ls [.int 0]) rfl ?_
      refine lv_if_eq (tgt := 19) hx hb dX1_indexOf_14 (by decide) (fun c_17 => ?_) (fun c_17 => absurd (by decide) c_17)
      refine lv_iinc (v := (nI (k3_2 + 1))) (lv' := [(3, .int (nI (k3_2 + 1))), (0, .ref g), (1, .int (nI i)), (2, .ref b)]) hx hb dX1_indexOf_19 hl (k := 0) rfl (nI_i k3_2) (by decide) rfl (fun ls hl => ?_)
      refine lv_goto (tgt := 2) hx hb dX1_indexOf_22 (by decide) ?_
      exact ih2 _ _ (by omega) ⟨(k3_2 + 1), (by omega), (mem_go hl2_1 a_15), rfl, lv_sub hl [0, 1, 2, 3] rfl⟩
set_option maxHeartbeats 4000000 in
set_option maxRecDepth 100000 in
theorem c_X4_takeNames_S (l : Launch) (D : va_G) (κ : Nat → ClassId) (κq : Nat → Nat) (im : va_W) (rd : Nat) (tp : Nat) (d : Nat) (ft : Nat) (bl : Nat) (aq : Nat) (wk : Nat) (sz : Nat) (fl : Nat) (sr : Nat) (cnt : Nat) (cl : Nat) (rw : Nat) (ca : Int32) (cv : Value) (ff : Nat → Option Nat) (sf : Nat → Int32) (fs : List (List Int32)) (hfs : Fs κ im ff cnt fs) (hc8 : cnt ≤ 8) (hc1 : 1 ≤ cnt) : Et l yX4_takeNames (wl yX4_takeNames cX4_takeNames 4 (some .int)) { frames := 3, cells := 9, slots := 24, locals := 61 } D κ κq [.ref rd] ([(rd, .inr (4, [.ref tp, .ref d, .ref ft, .ref bl, .int (nI aq), .int ca, .ref wk, .int (nI sz), .ref fl, .ref sr, .int (nI cnt), cv, .ref cl, .int (nI rw)])), (fl, .inl (κ 2, 8, .inr (.inr (.inr (.inr ff))))), (sr, .inl (κ 0, 8, .inl sf))] ++ im) (fun u9 : Int32 × Int32 × Int32 × Value × va_W => some (.int u9.1)) (fun u9 : Int32 × Int32 × Int32 × Value × va_W => Sb im u9.2.2.2.2 ∧ ((u9.1 = 0 ∧ hdB fs cnt = true ∧ u9.2.1 = nI aq ∧ ∃ q : Nat, u9.2.2.2.1 = .ref q ∧ Ca κ u9.2.2.2.2 q cnt) ∨ (¬ u9.1 = 0 ∧ hdB fs cnt = false))) (fun u9 : Int32 × Int32 × Int32 × Value × va_W => ([(rd, .inr (4, [.ref tp, .ref d, .ref ft, .ref bl, .int u9.2.1, .int u9.2.2.1, .ref wk, .int (nI sz), .ref fl, .ref sr, .int (nI cnt), u9.2.2.2.1, .ref cl, .int (nI rw)])), (fl, .inl (κ 2, 8, .inr (.inr (.inr (.inr ff))))), (sr, .inl (κ 0, 8, .inl sf))] ++ u9.2.2.2.2)) := by
  refine et_of (by decide +kernel) (Nat.le_of_ble_eq_true rfl) ?_
  intro p e s m args below meth c A ls hx hb hr hml hts hown hlk hin hKK hK hA hP hD hS hE hl
  have hS : va_S A s.heap s.heap [] := hS
  have hP : va_P D vwCl ([(rd, .inr (4, [.ref tp, .ref d, .ref ft, .ref bl, .int (nI aq), .int ca, .ref wk, .int (nI sz), .ref fl, .ref sr, .int (nI cnt), cv, .ref cl, .int (nI rw)])), (fl, .inl (κ 2, 8, .inr (.inr (.inr (.inr ff))))), (sr, .inl (κ 0, 8, .inl sf))] ++ im) s.heap := hP
  have hD : va_D A ([(rd, .inr (4, [.ref tp, .ref d, .ref ft, .ref bl, .int (nI aq), .int ca, .ref wk, .int (nI sz), .ref fl, .ref sr, .int (nI cnt), cv, .ref cl, .int (nI rw)])), (fl, .inl (κ 2, 8, .inr (.inr (.inr (.inr ff))))), (sr, .inl (κ 0, 8, .inl sf))] ++ im) := hD
  have hFX : FX p s m args c cX4_takeNames 4 RX4 := ⟨hx, hb, hml, hown, hts⟩
  have hl : lv_has ls 4 [(0, .ref rd)] := hl
  refine lv_aload_n hx hb dX4_takeNames_0 rfl (lv_at hl 0 rfl) ?_
  refine va_get (D := D) (ci := 4) (v := .int (nI cnt)) (C := RX4) (T := TX4) (N := 14) hx hb hts inlX4 hown hK hP 0 rfl rfl 10 (by decide) (hts _ mw_77) (fun _ h9 => h9) rfl dX4_takeNames_1 ?_
  refine my_newq hx hb hown (hts _ mw_328) hKK.2.2.1 hK hP hD hS hA 3 rfl (N' := cnt) (nI_pos (by omega)) (nI_clamp (by omega)) (by omega) (Nat.le_of_ble_eq_true rfl) (by show _ ≤ 24; omega) dX4_takeNames_4 (fun q_1 H hP hD hS => ?_)
  refine W.widen (k := 1) (n := 8) (Nat.le_refl _) (by omega) ?_
  replace hP : va_P D vwCl ([(rd, .inr (4, [.ref tp, .ref d, .ref ft, .ref bl, .int (nI aq), .int ca, .ref wk, .int (nI sz), .ref fl, .ref sr, .int (nI cnt), cv, .ref cl, .int (nI rw)])), (fl, .inl (κ 2, 8, .inr (.inr (.inr (.inr ff))))), (sr, .inl (κ 0, 8, .inl sf)), (q_1, .inl (κ 3, cnt, .inr (.inr (.inr (.inr (fun _ => none))))))] ++ im) H := mvP hP
  replace hD : va_D A ([(rd, .inr (4, [.ref tp, .ref d, .ref ft, .ref bl, .int (nI aq), .int ca, .ref wk, .int (nI sz), .ref fl, .ref sr, .int (nI cnt), cv, .ref cl, .int (nI rw)])), (fl, .inl (κ 2, 8, .inr (.inr (.inr (.inr ff))))), (sr, .inl (κ 0, 8, .inl sf)), (q_1, .inl (κ 3, cnt, .inr (.inr (.inr (.inr (fun _ => none))))))] ++ im) := mvD hD
  refine lv_astore_n (lv' := [(1, .ref q_1), (0, .ref rd)]) hx hb dX4_takeNames_7 rfl hl (by decide) rfl (fun ls hl => ?_)
  refine lv_iconst (v := 0) hx hb dX4_takeNames_8 (by decide) ?_
  refine lv_istore_n (lv' := [(2, .int 0), (1, .ref q_1), (0, .ref rd)]) hx hb dX4_takeNames_9 rfl hl (by decide) rfl (fun ls hl => ?_)
  refine W.widen (k := 9 - 1 * (cnt - 0)) (n := 24 - 2 * (cnt - 0)) (by omega) (by omega) ?_
  refine loop_mk (8) 1 2 9 24 (fun k9 H locs ls => ∃ (k2_10 : Nat), ∃ (gq_1_10 : Nat → Option Nat), ∃ (im_L10 : va_W), (k2_10 ≤ cnt) ∧ (hdB fs k2_10 = true) ∧ (Sb im im_L10) ∧ Lq κ im_L10 gq_1_10 k2_10 fs ∧ cnt - k2_10 = k9 ∧ va_P D vwCl ([(rd, .inr (4, [.ref tp, .ref d, .ref ft, .ref bl, .int (nI aq), .int ca, .ref wk, .int (nI sz), .ref fl, .ref sr, .int (nI cnt), cv, .ref cl, .int (nI rw)])), (fl, .inl (κ 2, 8, .inr (.inr (.inr (.inr ff))))), (sr, .inl (κ 0, 8, .inl sf)), (q_1, .inl (κ 3, cnt, .inr (.inr (.inr (.inr gq_1_10)))))] ++ im_L10) H ∧ va_D A ([(rd, .inr (4, [.ref tp, .ref d, .ref ft, .ref bl, .int (nI aq), .int ca, .ref wk, .int (nI sz), .ref fl, .ref sr, .int (nI cnt), cv, .ref cl, .int (nI rw)])), (fl, .inl (κ 2, 8, .inr (.inr (.inr (.inr ff))))), (sr, .inl (κ 0, 8, .inl sf)), (q_1, .inl (κ 3, cnt, .inr (.inr (.inr (.inr gq_1_10)))))] ++ im_L10) ∧ va_S A s.heap H locs ∧ lv_has ls 4 [(2, .int (nI k2_10)), (1, .ref q_1), (0, .ref rd)]) (fun kz10 H locs ls hkz10 hI10 ih10 => ?_) (cnt - 0) _ _ _ (by omega) ⟨0, (fun _ => none), im, (by omega), rfl, Sb.rf, Lq_0, rfl, hP, hD, hS, lv_sub hl [0, 1, 2] rfl⟩
  obtain ⟨k2_10, gq_1_10, im_L10, hl10_0, hl10_1, hl10_2, hq10_0, hm10, hP, hD, hS, hl⟩ := hI10
  replace hfs := hfs.up hl10_2
  refine lv_iload_n hx hb dX4_takeNames_10 rfl (lv_at hl 0 rfl) ?_
  refine lv_aload_n hx hb dX4_takeNames_11 rfl (lv_at hl 2 rfl) ?_
  refine va_get (D := D) (ci := 4) (v := .int (nI cnt)) (C := RX4) (T := TX4) (N := 14) hx hb hts inlX4 hown hK hP 0 rfl rfl 10 (by decide) (hts _ mw_77) (fun _ h9 => h9) rfl dX4_takeNames_12 ?_
  refine lv_icmp_ge (tgt := 81) hx hb dX4_takeNames_15 (by decide) (fun c_2 => ?_) (fun c_2 => ?_)
  · have nc_2 := cv_le (a := cnt) (b := k2_10) (by omega) (by omega) c_2
    obtain rfl : cnt = k2_10 := by omega
    refine lv_aload_n hx hb dX4_takeNames_81 rfl (lv_at hl 2 rfl) ?_
    refine lv_aload_n hx hb dX4_takeNames_82 rfl (lv_at hl 1 rfl) ?_
    refine va_put (D := D) (ci := 4) (v := .ref q_1) (ty := tyX4 11) (C := RX4) (T := TX4) (N := 14) hx hb hts inlX4 tyX4 tyX4_ok nmX4 hown hK hP hD hS 0 rfl rfl 11 (by decide) (hts _ mw_78) (fun _ h9 => h9) rfl (tyX4_ok 11 (by decide)) rfl rfl (Nat.le_of_ble_eq_true rfl) dX4_takeNames_83 (fun H locs hP hD hS => ?_)
    have hP : va_P D vwCl ([(rd, .inr (4, [.ref tp, .ref d, .ref ft, .ref bl, .int (nI aq), .int ca, .ref wk, .int (nI sz), .ref fl, .ref sr, .int (nI cnt), .ref q_1, .ref cl, .int (nI rw)])), (fl, .inl (κ 2, 8, .inr (.inr (.inr (.inr ff))))), (sr, .inl (κ 0, 8, .inl sf)), (q_1, .inl (κ 3, cnt, .inr (.inr (.inr (.inr gq_1_10)))))] ++ im_L10) H := hP
    have hD : va_D A ([(rd, .inr (4, [.ref tp, .ref d, .ref ft, .ref bl, .int (nI aq), .int ca, .ref wk, .int (nI sz), .ref fl, .ref sr, .int (nI cnt), .ref q_1, .ref cl, .int (nI rw)])), (fl, .inl (κ 2, 8, .inr (.inr (.inr (.inr ff))))), (sr, .inl (κ 0, 8, .inl sf)), (q_1, .inl (κ 3, cnt, .inr (.inr (.inr (.inr gq_1_10)))))] ++ im_L10) := hD
    refine lv_iconst (v := 0) hx hb dX4_takeNames_86 (by decide) ?_
    replace hP : va_P D vwCl ([(rd, .inr (4, [.ref tp, .ref d, .ref ft, .ref bl, .int (nI aq), .int ca, .ref wk, .int (nI sz), .ref fl, .ref sr, .int (nI cnt), .ref q_1, .ref cl, .int (nI rw)])), (fl, .inl (κ 2, 8, .inr (.inr (.inr (.inr ff))))), (sr, .inl (κ 0, 8, .inl sf)), (q_1, .inl (κ 3, cnt, .inr (.inr (.inr (.inr gq_1_10)))))] ++ im_L10) _ := subP hP [0, 1, 2, 3] rfl
    replace hD : va_D A ([(rd, .inr (4, [.ref tp, .ref d, .ref ft, .ref bl, .int (nI aq), .int ca, .ref wk, .int (nI sz), .ref fl, .ref sr, .int (nI cnt), .ref q_1, .ref cl, .int (nI rw)])), (fl, .inl (κ 2, 8, .inr (.inr (.inr (.inr ff))))), (sr, .inl (κ 0, 8, .inl sf)), (q_1, .inl (κ 3, cnt, .inr (.inr (.inr (.inr gq_1_10)))))] ++ im_L10) := subD hD [0, 1, 2, 3] (by decide) rfl
    obtain ⟨im_3, he_4⟩ : ∃ x9 : va_W, x9 = ([(q_1, .inl (κ 3, cnt, .inr (.inr (.inr (.inr gq_1_10)))))] ++ im_L10) := ⟨_, rfl⟩
    have hs_5 : Sb im_L10 im_3 := by rw [he_4]; exact Sb.app
    have hm_q_1 : (q_1, .inl (κ 3, cnt, .inr (.inr (.inr (.inr gq_1_10))))) ∈ im_3 := by rw [he_4]; exact List.mem_of_getElem? (i := 0) rfl
    replace hP : va_P D vwCl ([(rd, .inr (4, [.ref tp, .ref d, .ref ft, .ref bl, .int (nI aq), .int ca, .ref wk, .int (nI sz), .ref fl, .ref sr, .int (nI cnt), .ref q_1, .ref cl, .int (nI rw)])), (fl, .inl (κ 2, 8, .inr (.inr (.inr (.inr ff))))), (sr, .inl (κ 0, 8, .inl sf))] ++ ([(q_1, .inl (κ 3, cnt, .inr (.inr (.inr (.inr gq_1_10)))))] ++ im_L10)) _ := hP
    replace hD : va_D A ([(rd, .inr (4, [.ref tp, .ref d, .ref ft, .ref bl, .int (nI aq), .int ca, .ref wk, .int (nI sz), .ref fl, .ref sr, .int (nI cnt), .ref q_1, .ref cl, .int (nI rw)])), (fl, .inl (κ 2, 8, .inr (.inr (.inr (.inr ff))))), (sr, .inl (κ 0, 8, .inl sf))] ++ ([(q_1, .inl (κ 3, cnt, .inr (.inr (.inr (.inr gq_1_10)))))] ++ im_L10)) := hD
    rw [← he_4] at hP hD
    clear he_4
    replace hfs := hfs.up hs_5
    replace hq10_0 := hq10_0.up hs_5
    have hf_6 : Ca κ im_3 q_1 cnt := ⟨_, hm_q_1, hq10_0.lo⟩
    exact et_iret hx hb hr hlk rfl hS (0, nI aq, ca, (Value.ref q_1), im_3) rfl ⟨(show Sb im im_3 from (Sb.tr hl10_2 hs_5)), (show ((0 : Int32) = 0 ∧ hdB fs cnt = true ∧ (nI aq) = nI aq ∧ ∃ q : Nat, (Value.ref q_1) = .ref q ∧ Ca κ im_3 q cnt) ∨ (¬ (0 : Int32) = 0 ∧ hdB fs cnt = false) from (Or.inl ⟨rfl, hl10_1, rfl, q_1, rfl, hf_6⟩))⟩ (subP hP [0, 1, 2] rfl) (subD hD [0, 1, 2] (by decide) rfl) (by show _ ≤ 9; omega) (by show _ ≤ 24; omega) dX4_takeNames_87
  · have nc_2 := cv_nle (a := cnt) (b := k2_10) (by omega) (by omega) c_2
    refine lv_aload_n hx hb dX4_takeNames_18 rfl (lv_at hl 2 rfl) ?_
    refine va_get (D := D) (ci := 4) (v := .ref fl) (C := RX4) (T := TX4) (N := 14) hx hb hts inlX4 hown hK hP 0 rfl rfl 8 (by decide) (hts _ mw_75) (fun _ h9 => h9) rfl dX4_takeNames_19 ?_
    refine lv_iload_n hx hb dX4_takeNames_22 rfl (lv_at hl 0 rfl) ?_
    refine va_aldq hx hb hK hP 1 2 rfl rfl (i := nI k2_10) (vp_in_nI (n := k2_10) (by omega) (by omega)) dX4_takeNames_23 ?_
    obtain ⟨q_7, e_8, h_9⟩ := hfs.2 k2_10 (by omega)
    refine kv (v := .ref q_7) (by rw [nI_clamp (by omega)]; rw [e_8]; rfl) ?_
    obtain ⟨k_10, n_11, b_12, x_13, hk_14, hm_15, hb_16⟩ := id h_9
    have hn_b_12 := hb_16.1
    refine va_get (D := D) (ci := 0) (v := .ref b_12) (C := RX0) (T := TX0) (N := 3) hx hb hts inlX0 hown hK (oneP (C := [(rd, .inr (4, [.ref tp, .ref d, .ref ft, .ref bl, .int (nI aq), .int ca, .ref wk, .int (nI sz), .ref fl, .ref sr, .int (nI cnt), cv, .ref cl, .int (nI rw)])), (fl, .inl (κ 2, 8, .inr (.inr (.inr (.inr ff))))), (sr, .inl (κ 0, 8, .inl sf)), (q_1, .inl (κ 3, cnt, .inr (.inr (.inr (.inr gq_1_10)))))]) hP hm_15) 0 rfl rfl 0 (by decide) (hts _ mw_329) (fun _ h9 => h9) rfl dX4_takeNames_24 ?_
    obtain ⟨hn_17, f_18, hm_19, hfit_20, he_21⟩ := id hb_16
    refine lv_astore_n (lv' := [(3, .ref b_12), (2, .int (nI k2_10)), (1, .ref q_1), (0, .ref rd)]) hx hb dX4_takeNames_27 rfl hl (by decide) rfl (fun ls hl => ?_)
    refine lv_aload_n hx hb dX4_takeNames_28 rfl (lv_at hl 0 rfl) ?_
    refine er_S (As := [.ref b_12]) (rest := []) hFX hKK hE hS (c_X1_canBeName_S l D κ κq b_12 n_11 f_18 (by omega)) 1 gS_X4_130 hdS_X1_canBeName rfl rfl ⟨Nat.le_of_ble_eq_true rfl, Nat.le_of_ble_eq_true rfl⟩ rfl rfl (Nat.le_of_ble_eq_true rfl) dX4_takeNames_29 ⟨(by show _ ≤ 9; omega), (by show _ ≤ 24; omega)⟩ hl.1 (oneP (C := [(rd, .inr (4, [.ref tp, .ref d, .ref ft, .ref bl, .int (nI aq), .int ca, .ref wk, .int (nI sz), .ref fl, .ref sr, .int (nI cnt), cv, .ref cl, .int (nI rw)])), (fl, .inl (κ 2, 8, .inr (.inr (.inr (.inr ff))))), (sr, .inl (κ 0, 8, .inl sf)), (q_1, .inl (κ 3, cnt, .inr (.inr (.inr (.inr gq_1_10)))))]) hP hm_19) (fun r__22 hp_23 => ?_)
    replace hp_23 : ((r__22 = 1 ∧ n_11 ≤ 12 ∧ 1 ≤ n_11 ∧ nvB (lsF f_18 n_11) = true) ∨ (r__22 = 0 ∧ nvB (lsF f_18 n_11) = false)) := hp_23
    have ha_24 := hp_23
    clear hp_23
    rcases ha_24 with ⟨rfl, a_25, a_26, a_27⟩ | ⟨rfl, a_28⟩
    · refine W.eq (g2 := F0 m 32 ls [.int 1]) rfl ?_
      refine lv_if_eq (tgt := 45) hx hb dX4_takeNames_32 (by decide) (fun c_29 => absurd c_29 (by decide)) (fun c_29 => ?_)
      refine lv_aload_n hx hb dX4_takeNames_35 rfl (lv_at hl 2 rfl) ?_
      refine lv_iload_n hx hb dX4_takeNames_36 rfl (lv_at hl 1 rfl) ?_
      refine lv_aload_n hx hb dX4_takeNames_37 rfl (lv_at hl 0 rfl) ?_
      refine er_S (As := [.ref q_1, .int (nI k2_10), .ref b_12]) (rest := []) hFX hKK hE hS (c_X1_indexOf_S l D κ κq im_L10 q_1 k2_10 b_12 n_11 cnt gq_1_10 fs (fs.getD k2_10 []) hb_16 hq10_0 (by omega) (by omega)) 3 gS_X4_134 hdS_X1_indexOf rfl rfl ⟨Nat.le_of_ble_eq_true rfl, Nat.le_of_ble_eq_true rfl⟩ rfl rfl (Nat.le_of_ble_eq_true rfl) dX4_takeNames_38 ⟨(by show _ ≤ 9; omega), (by show _ ≤ 24; omega)⟩ hl.1 (subP hP [3] rfl) (fun r__30 hp_31 => ?_)
      replace hp_31 : ((r__30 = -1 ∧ memB fs (fs.getD k2_10 []) k2_10 = false) ∨ (¬ r__30 = -1 ∧ memB fs (fs.getD k2_10 []) k2_10 = true)) := hp_31
      have h_32 := hp_31
      clear hp_31
      refine W.eq (g2 := F0 m 41 ls [.int r__30]) rfl ?_
      refine lv_iconst (v := (-1)) hx hb dX4_takeNames_41 (by decide) ?_
      refine lv_icmp_eq (tgt := 63) hx hb dX4_takeNames_42 (by decide) (fun c_33 => ?_) (fun c_33 => ?_)
      · refine lv_aload_n hx hb dX4_takeNames_63 rfl (lv_at hl 2 rfl) ?_
        refine lv_iload_n hx hb dX4_takeNames_64 rfl (lv_at hl 1 rfl) ?_
        refine va_new (ci := 1) (fs := [.null, .int 0]) (C := RX1) (T := TX1) (N := 2) hx hb hts inlX1 tyX1 tyX1_ok hown (hts _ mw_328) (hts _ mw_330) (hts _ mw_331) hK hP hD hS hA rfl (fun j hj => by rcases (show j = 0 ∨ j = 1 by omega) with rfl | rfl <;> rfl) (by show _ ≤ 9; omega) (by show _ ≤ 24; omega) dX4_takeNames_65 (fun q_34 H hP hD hS => ?_)
        replace hP : va_P D vwCl ([(rd, .inr (4, [.ref tp, .ref d, .ref ft, .ref bl, .int (nI aq), .int ca, .ref wk, .int (nI sz), .ref fl, .ref sr, .int (nI cnt), cv, .ref cl, .int (nI rw)])), (fl, .inl (κ 2, 8, .inr (.inr (.inr (.inr ff))))), (sr, .inl (κ 0, 8, .inl sf)), (q_1, .inl (κ 3, cnt, .inr (.inr (.inr (.inr gq_1_10))))), (q_34, .inr (1, [.null, .int 0]))] ++ im_L10) H := mvP hP
        replace hD : va_D A ([(rd, .inr (4, [.ref tp, .ref d, .ref ft, .ref bl, .int (nI aq), .int ca, .ref wk, .int (nI sz), .ref fl, .ref sr, .int (nI cnt), cv, .ref cl, .int (nI rw)])), (fl, .inl (κ 2, 8, .inr (.inr (.inr (.inr ff))))), (sr, .inl (κ 0, 8, .inl sf)), (q_1, .inl (κ 3, cnt, .inr (.inr (.inr (.inr gq_1_10))))), (q_34, .inr (1, [.null, .int 0]))] ++ im_L10) := mvD hD
        refine lv_dup hx hb dX4_takeNames_68 rfl ?_
        refine lv_aload_n hx hb dX4_takeNames_69 rfl (lv_at hl 0 rfl) ?_
        refine lv_iconst (v := (-1)) hx hb dX4_takeNames_70 (by decide) ?_
        refine et_IT (CR := [(rd, .inr (4, [.ref tp, .ref d, .ref ft, .ref bl, .int (nI aq), .int ca, .ref wk, .int (nI sz), .ref fl, .ref sr, .int (nI cnt), cv, .ref cl, .int (nI rw)])), (fl, .inl (κ 2, 8, .inr (.inr (.inr (.inr ff))))), (sr, .inl (κ 0, 8, .inl sf)), (q_1, .inl (κ 3, cnt, .inr (.inr (.inr (.inr gq_1_10)))))]) (As := [.ref b_12, .int (-1)]) (rest := [.ref q_34, .int (nI k2_10), .ref q_1]) hFX hKK hE hP hD hS hA (c_X1_init_S l D κ κq im_L10 q_34 b_12 n_11 (-1) (fs.getD k2_10 []) hb_16 (by first | assumption | exact To_m | exact To_n (by omega))) 2 mw_347 mw_348 mw_331 mw_349 hdI_X1_init ⟨Nat.le_of_ble_eq_true rfl, Nat.le_of_ble_eq_true rfl⟩ rfl rfl (Nat.le_of_ble_eq_true rfl) dX4_takeNames_71 ⟨(by show 9 - 1 * kz10 + 1 + 0 ≤ 9; omega), (by show 24 - 2 * kz10 + 2 + 0 ≤ 24; omega)⟩ hl.1 [4] [0, 1, 2, 3] rfl rfl (by decide) (by decide) (by decide) (fun im2__35 H locs hp_36 hP hD hS => ?_)
        refine W.widen (k := 9 - 1 * kz10 + 1) (n := 24 - 2 * kz10 + 2) (Nat.le_refl _) (Nat.le_refl _) ?_
        replace hP : va_P D vwCl ([(rd, .inr (4, [.ref tp, .ref d, .ref ft, .ref bl, .int (nI aq), .int ca, .ref wk, .int (nI sz), .ref fl, .ref sr, .int (nI cnt), cv, .ref cl, .int (nI rw)])), (fl, .inl (κ 2, 8, .inr (.inr (.inr (.inr ff))))), (sr, .inl (κ 0, 8, .inl sf)), (q_1, .inl (κ 3, cnt, .inr (.inr (.inr (.inr gq_1_10)))))] ++ im2__35) H := subP (C := [(rd, .inr (4, [.ref tp, .ref d, .ref ft, .ref bl, .int (nI aq), .int ca, .ref wk, .int (nI sz), .ref fl, .ref sr, .int (nI cnt), cv, .ref cl, .int (nI rw)])), (fl, .inl (κ 2, 8, .inr (.inr (.inr (.inr ff))))), (sr, .inl (κ 0, 8, .inl sf)), (q_1, .inl (κ 3, cnt, .inr (.inr (.inr (.inr gq_1_10)))))]) hP [0, 1, 2, 3] rfl
        replace hD : va_D A ([(rd, .inr (4, [.ref tp, .ref d, .ref ft, .ref bl, .int (nI aq), .int ca, .ref wk, .int (nI sz), .ref fl, .ref sr, .int (nI cnt), cv, .ref cl, .int (nI rw)])), (fl, .inl (κ 2, 8, .inr (.inr (.inr (.inr ff))))), (sr, .inl (κ 0, 8, .inl sf)), (q_1, .inl (κ 3, cnt, .inr (.inr (.inr (.inr gq_1_10)))))] ++ im2__35) := subD (C := [(rd, .inr (4, [.ref tp, .ref d, .ref ft, .ref bl, .int (nI aq), .int ca, .ref wk, .int (nI sz), .ref fl, .ref sr, .int (nI cnt), cv, .ref cl, .int (nI rw)])), (fl, .inl (κ 2, 8, .inr (.inr (.inr (.inr ff))))), (sr, .inl (κ 0, 8, .inl sf)), (q_1, .inl (κ 3, cnt, .inr (.inr (.inr (.inr gq_1_10)))))]) hD [0, 1, 2, 3] (by decide) rfl
        replace hp_36 : Sb im_L10 im2__35 ∧ Cn κ im2__35 q_34 (fs.getD k2_10 []) := hp_36
        obtain ⟨h_37, h_38⟩ := hp_36
        replace hfs := hfs.up h_37
        replace hq10_0 := hq10_0.up h_37
        replace h_9 := h_9.up h_37
        replace hb_16 := hb_16.up h_37
        replace hm_15 := h_37 _ hm_15
        replace hm_19 := h_37 _ hm_19
        refine W.eq (g2 := F0 m 74 ls [.ref q_34, .int (nI k2_10), .ref q_1]) rfl ?_
        obtain ⟨b_39, n_40, t_41, ht_42, hm_43, hb_44⟩ := id h_38
        have hn_b_39 := hb_44.1
        obtain ⟨k_45, ek_45⟩ := tl_at [(rd, .inr (4, [.ref tp, .ref d, .ref ft, .ref bl, .int (nI aq), .int ca, .ref wk, .int (nI sz), .ref fl, .ref sr, .int (nI cnt), cv, .ref cl, .int (nI rw)])), (fl, .inl (κ 2, 8, .inr (.inr (.inr (.inr ff))))), (sr, .inl (κ 0, 8, .inl sf)), (q_1, .inl (κ 3, cnt, .inr (.inr (.inr (.inr gq_1_10)))))] hm_43
        refine va_astq hx hb hK hP hD hS 3 3 k_45 1 rfl rfl ek_45 rfl (i := nI k2_10) (vp_in_nI (n := k2_10) (by omega) (by omega)) dX4_takeNames_74 (fun H locs hP hD hS => ?_)
        rw [nI_clamp (by omega)] at hP hD
        have hP : va_P D vwCl ([(rd, .inr (4, [.ref tp, .ref d, .ref ft, .ref bl, .int (nI aq), .int ca, .ref wk, .int (nI sz), .ref fl, .ref sr, .int (nI cnt), cv, .ref cl, .int (nI rw)])), (fl, .inl (κ 2, 8, .inr (.inr (.inr (.inr ff))))), (sr, .inl (κ 0, 8, .inl sf)), (q_1, .inl (κ 3, cnt, .inr (.inr (.inr (.inr (va_up gq_1_10 k2_10 (some q_34)))))))] ++ im2__35) H := hP
        have hD : va_D A ([(rd, .inr (4, [.ref tp, .ref d, .ref ft, .ref bl, .int (nI aq), .int ca, .ref wk, .int (nI sz), .ref fl, .ref sr, .int (nI cnt), cv, .ref cl, .int (nI rw)])), (fl, .inl (κ 2, 8, .inr (.inr (.inr (.inr ff))))), (sr, .inl (κ 0, 8, .inl sf)), (q_1, .inl (κ 3, cnt, .inr (.inr (.inr (.inr (va_up gq_1_10 k2_10 (some q_34)))))))] ++ im2__35) := hD
        have hf_47 : Lq κ im2__35 (va_up gq_1_10 k2_10 (some q_34)) (k2_10 + 1) fs := Lq_add hq10_0 h_38
        generalize va_up gq_1_10 k2_10 (some q_34) = g_46 at hP hD hf_47
        refine lv_iinc (v := (nI (k2_10 + 1))) (lv' := [(2, .int (nI (k2_10 + 1))), (3, .ref b_12), (1, .ref q_1), (0, .ref rd)]) hx hb dX4_takeNames_75 hl (k := 1) rfl (nI_i k2_10) (by decide) rfl (fun ls hl => ?_)
        refine lv_goto (tgt := 10) hx hb dX4_takeNames_78 (by decide) ?_
        refine W.widen (k := 9 - 1 * (cnt - (k2_10 + 1))) (n := 24 - 2 * (cnt - (k2_10 + 1))) (by omega) (by omega) ?_
        exact ih10 (cnt - (k2_10 + 1)) _ _ _ (by omega) ⟨(k2_10 + 1), g_46, im2__35, (by omega), (hd_go hl10_1 (by rw [← he_21]; exact a_27) (ix_n h_32 c_33)), (Sb.tr hl10_2 h_37), hf_47, rfl, hP, hD, hS, lv_sub hl [0, 2, 3] rfl⟩
      · refine lv_aload_n hx hb dX4_takeNames_45 rfl (lv_at hl 3 rfl) ?_
        refine lv_aload_n hx hb dX4_takeNames_46 rfl (lv_at hl 3 rfl) ?_
        refine va_get (D := D) (ci := 4) (v := .ref sr) (C := RX4) (T := TX4) (N := 14) hx hb hts inlX4 hown hK hP 0 rfl rfl 9 (by decide) (hts _ mw_76) (fun _ h9 => h9) rfl dX4_takeNames_47 ?_
        refine lv_iload_n hx hb dX4_takeNames_50 rfl (lv_at hl 1 rfl) ?_
        refine va_iald hx hb hK hP 2 0 rfl rfl (i := nI k2_10) (vp_in_nI (n := k2_10) (by omega) (by omega)) dX4_takeNames_51 ?_
        refine kv (v := .int (sf k2_10)) (by rw [nI_clamp (by omega)]) ?_
        obtain ⟨x_48, ex_48⟩ : ∃ y9 : Int32, sf k2_10 = y9 := ⟨_, rfl⟩
        refine kv (v := .int x_48) (congrArg Value.int ex_48) ?_
        refine va_put (D := D) (ci := 4) (v := .int x_48) (ty := tyX4 4) (C := RX4) (T := TX4) (N := 14) hx hb hts inlX4 tyX4 tyX4_ok nmX4 hown hK hP hD hS 0 rfl rfl 4 (by decide) (hts _ mw_71) (fun _ h9 => h9) rfl (tyX4_ok 4 (by decide)) rfl rfl (Nat.le_of_ble_eq_true rfl) dX4_takeNames_52 (fun H locs hP hD hS => ?_)
        have hP : va_P D vwCl ([(rd, .inr (4, [.ref tp, .ref d, .ref ft, .ref bl, .int x_48, .int ca, .ref wk, .int (nI sz), .ref fl, .ref sr, .int (nI cnt), cv, .ref cl, .int (nI rw)])), (fl, .inl (κ 2, 8, .inr (.inr (.inr (.inr ff))))), (sr, .inl (κ 0, 8, .inl sf)), (q_1, .inl (κ 3, cnt, .inr (.inr (.inr (.inr gq_1_10)))))] ++ im_L10) H := hP
        have hD : va_D A ([(rd, .inr (4, [.ref tp, .ref d, .ref ft, .ref bl, .int x_48, .int ca, .ref wk, .int (nI sz), .ref fl, .ref sr, .int (nI cnt), cv, .ref cl, .int (nI rw)])), (fl, .inl (κ 2, 8, .inr (.inr (.inr (.inr ff))))), (sr, .inl (κ 0, 8, .inl sf)), (q_1, .inl (κ 3, cnt, .inr (.inr (.inr (.inr gq_1_10)))))] ++ im_L10) := hD
        refine lv_aload_n hx hb dX4_takeNames_55 rfl (lv_at hl 3 rfl) ?_
        refine lv_iload_n hx hb dX4_takeNames_56 rfl (lv_at hl 1 rfl) ?_
        refine va_put (D := D) (ci := 4) (v := .int (nI k2_10)) (ty := tyX4 5) (C := RX4) (T := TX4) (N := 14) hx hb hts inlX4 tyX4 tyX4_ok nmX4 hown hK hP hD hS 0 rfl rfl 5 (by decide) (hts _ mw_72) (fun _ h9 => h9) rfl (tyX4_ok 5 (by decide)) rfl rfl (Nat.le_of_ble_eq_true rfl) dX4_takeNames_57 (fun H locs hP hD hS => ?_)
        have hP : va_P D vwCl ([(rd, .inr (4, [.ref tp, .ref d, .ref ft, .ref bl, .int x_48, .int (nI k2_10), .ref wk, .int (nI sz), .ref fl, .ref sr, .int (nI cnt), cv, .ref cl, .int (nI rw)])), (fl, .inl (κ 2, 8, .inr (.inr (.inr (.inr ff))))), (sr, .inl (κ 0, 8, .inl sf)), (q_1, .inl (κ 3, cnt, .inr (.inr (.inr (.inr gq_1_10)))))] ++ im_L10) H := hP
        have hD : va_D A ([(rd, .inr (4, [.ref tp, .ref d, .ref ft, .ref bl, .int x_48, .int (nI k2_10), .ref wk, .int (nI sz), .ref fl, .ref sr, .int (nI cnt), cv, .ref cl, .int (nI rw)])), (fl, .inl (κ 2, 8, .inr (.inr (.inr (.inr ff))))), (sr, .inl (κ 0, 8, .inl sf)), (q_1, .inl (κ 3, cnt, .inr (.inr (.inr (.inr gq_1_10)))))] ++ im_L10) := hD
        refine lv_bipush (v := 7) hx hb dX4_takeNames_60 (by decide) ?_
        replace hP : va_P D vwCl ([(rd, .inr (4, [.ref tp, .ref d, .ref ft, .ref bl, .int x_48, .int (nI k2_10), .ref wk, .int (nI sz), .ref fl, .ref sr, .int (nI cnt), cv, .ref cl, .int (nI rw)])), (fl, .inl (κ 2, 8, .inr (.inr (.inr (.inr ff))))), (sr, .inl (κ 0, 8, .inl sf)), (q_1, .inl (κ 3, cnt, .inr (.inr (.inr (.inr gq_1_10)))))] ++ im_L10) _ := subP hP [0, 1, 2, 3] rfl
        replace hD : va_D A ([(rd, .inr (4, [.ref tp, .ref d, .ref ft, .ref bl, .int x_48, .int (nI k2_10), .ref wk, .int (nI sz), .ref fl, .ref sr, .int (nI cnt), cv, .ref cl, .int (nI rw)])), (fl, .inl (κ 2, 8, .inr (.inr (.inr (.inr ff))))), (sr, .inl (κ 0, 8, .inl sf)), (q_1, .inl (κ 3, cnt, .inr (.inr (.inr (.inr gq_1_10)))))] ++ im_L10) := subD hD [0, 1, 2, 3] (by decide) rfl
        obtain ⟨im_49, he_50⟩ : ∃ x9 : va_W, x9 = ([(q_1, .inl (κ 3, cnt, .inr (.inr (.inr (.inr gq_1_10)))))] ++ im_L10) := ⟨_, rfl⟩
        have hs_51 : Sb im_L10 im_49 := by rw [he_50]; exact Sb.app
        have hm_q_1 : (q_1, .inl (κ 3, cnt, .inr (.inr (.inr (.inr gq_1_10))))) ∈ im_49 := by rw [he_50]; exact List.mem_of_getElem? (i := 0) rfl
        replace hP : va_P D vwCl ([(rd, .inr (4, [.ref tp, .ref d, .ref ft, .ref bl, .int x_48, .int (nI k2_10), .ref wk, .int (nI sz), .ref fl, .ref sr, .int (nI cnt), cv, .ref cl, .int (nI rw)])), (fl, .inl (κ 2, 8, .inr (.inr (.inr (.inr ff))))), (sr, .inl (κ 0, 8, .inl sf))] ++ ([(q_1, .inl (κ 3, cnt, .inr (.inr (.inr (.inr gq_1_10)))))] ++ im_L10)) _ := hP
        replace hD : va_D A ([(rd, .inr (4, [.ref tp, .ref d, .ref ft, .ref bl, .int x_48, .int (nI k2_10), .ref wk, .int (nI sz), .ref fl, .ref sr, .int (nI cnt), cv, .ref cl, .int (nI rw)])), (fl, .inl (κ 2, 8, .inr (.inr (.inr (.inr ff))))), (sr, .inl (κ 0, 8, .inl sf))] ++ ([(q_1, .inl (κ 3, cnt, .inr (.inr (.inr (.inr gq_1_10)))))] ++ im_L10)) := hD
        rw [← he_50] at hP hD
        clear he_50
        replace hfs := hfs.up hs_51
        replace hq10_0 := hq10_0.up hs_51
        replace h_9 := h_9.up hs_51
        replace hb_16 := hb_16.up hs_51
        replace hm_15 := hs_51 _ hm_15
        replace hm_19 := hs_51 _ hm_19
        exact et_iret hx hb hr hlk rfl hS (7, x_48, nI k2_10, cv, im_49) rfl ⟨(show Sb im im_49 from (Sb.tr hl10_2 hs_51)), (show ((7 : Int32) = 0 ∧ hdB fs cnt = true ∧ x_48 = nI aq ∧ ∃ q : Nat, cv = .ref q ∧ Ca κ im_49 q cnt) ∨ (¬ (7 : Int32) = 0 ∧ hdB fs cnt = false) from (Or.inr ⟨by decide, hd_m (ix_y h_32 c_33) (by omega)⟩))⟩ (subP hP [0, 1, 2] rfl) (subD hD [0, 1, 2] (by decide) rfl) (by show _ ≤ 9; omega) (by show _ ≤ 24; omega) dX4_takeNames_62
    · refine W.eq (g2 := F0 m 32 ls [.int 0]) rfl ?_
      refine lv_if_eq (tgt := 45) hx hb dX4_takeNames_32 (by decide) (fun c_52 => ?_) (fun c_52 => absurd (by decide) c_52)
      refine lv_aload_n hx hb dX4_takeNames_45 rfl (lv_at hl 3 rfl) ?_
      refine lv_aload_n hx hb dX4_takeNames_46 rfl (lv_at hl 3 rfl) ?_
      refine va_get (D := D) (ci := 4) (v := .ref sr) (C := RX4) (T := TX4) (N := 14) hx hb hts inlX4 hown hK hP 0 rfl rfl 9 (by decide) (hts _ mw_76) (fun _ h9 => h9) rfl dX4_takeNames_47 ?_
      refine lv_iload_n hx hb dX4_takeNames_50 rfl (lv_at hl 1 rfl) ?_
      refine va_iald hx hb hK hP 2 0 rfl rfl (i := nI k2_10) (vp_in_nI (n := k2_10) (by omega) (by omega)) dX4_takeNames_51 ?_
      refine kv (v := .int (sf k2_10)) (by rw [nI_clamp (by omega)]) ?_
      obtain ⟨x_53, ex_53⟩ : ∃ y9 : Int32, sf k2_10 = y9 := ⟨_, rfl⟩
      refine kv (v := .int x_53) (congrArg Value.int ex_53) ?_
      refine va_put (D := D) (ci := 4) (v := .int x_53) (ty := tyX4 4) (C := RX4) (T := TX4) (N := 14) hx hb hts inlX4 tyX4 tyX4_ok nmX4 hown hK hP hD hS 0 rfl rfl 4 (by decide) (hts _ mw_71) (fun _ h9 => h9) rfl (tyX4_ok 4 (by decide)) rfl rfl (Nat.le_of_ble_eq_true rfl) dX4_takeNames_52 (fun H locs hP hD hS => ?_)
      have hP : va_P D vwCl ([(rd, .inr (4, [.ref tp, .ref d, .ref ft, .ref bl, .int x_53, .int ca, .ref wk, .int (nI sz), .ref fl, .ref sr, .int (nI cnt), cv, .ref cl, .int (nI rw)])), (fl, .inl (κ 2, 8, .inr (.inr (.inr (.inr ff))))), (sr, .inl (κ 0, 8, .inl sf)), (q_1, .inl (κ 3, cnt, .inr (.inr (.inr (.inr gq_1_10)))))] ++ im_L10) H := hP
      have hD : va_D A ([(rd, .inr (4, [.ref tp, .ref d, .ref ft, .ref bl, .int x_53, .int ca, .ref wk, .int (nI sz), .ref fl, .ref sr, .int (nI cnt), cv, .ref cl, .int (nI rw)])), (fl, .inl (κ 2, 8, .inr (.inr (.inr (.inr ff))))), (sr, .inl (κ 0, 8, .inl sf)), (q_1, .inl (κ 3, cnt, .inr (.inr (.inr (.inr gq_1_10)))))] ++ im_L10) := hD
      refine lv_aload_n hx hb dX4_takeNames_55 rfl (lv_at hl 3 rfl) ?_
      refine lv_iload_n hx hb dX4_takeNames_56 rfl (lv_at hl 1 rfl) ?_
      refine va_put (D := D) (ci := 4) (v := .int (nI k2_10)) (ty := tyX4 5) (C := RX4) (T := TX4) (N := 14) hx hb hts inlX4 tyX4 tyX4_ok nmX4 hown hK hP hD hS 0 rfl rfl 5 (by decide) (hts _ mw_72) (fun _ h9 => h9) rfl (tyX4_ok 5 (by decide)) rfl rfl (Nat.le_of_ble_eq_true rfl) dX4_takeNames_57 (fun H locs hP hD hS => ?_)
      have hP : va_P D vwCl ([(rd, .inr (4, [.ref tp, .ref d, .ref ft, .ref bl, .int x_53, .int (nI k2_10), .ref wk, .int (nI sz), .ref fl, .ref sr, .int (nI cnt), cv, .ref cl, .int (nI rw)])), (fl, .inl (κ 2, 8, .inr (.inr (.inr (.inr ff))))), (sr, .inl (κ 0, 8, .inl sf)), (q_1, .inl (κ 3, cnt, .inr (.inr (.inr (.inr gq_1_10)))))] ++ im_L10) H := hP
      have hD : va_D A ([(rd, .inr (4, [.ref tp, .ref d, .ref ft, .ref bl, .int x_53, .int (nI k2_10), .ref wk, .int (nI sz), .ref fl, .ref sr, .int (nI cnt), cv, .ref cl, .int (nI rw)])), (fl, .inl (κ 2, 8, .inr (.inr (.inr (.inr ff))))), (sr, .inl (κ 0, 8, .inl sf)), (q_1, .inl (κ 3, cnt, .inr (.inr (.inr (.inr gq_1_10)))))] ++ im_L10) := hD
      refine lv_bipush (v := 7) hx hb dX4_takeNames_60 (by decide) ?_
      replace hP : va_P D vwCl ([(rd, .inr (4, [.ref tp, .ref d, .ref ft, .ref bl, .int x_53, .int (nI k2_10), .ref wk, .int (nI sz), .ref fl, .ref sr, .int (nI cnt), cv, .ref cl, .int (nI rw)])), (fl, .inl (κ 2, 8, .inr (.inr (.inr (.inr ff))))), (sr, .inl (κ 0, 8, .inl sf)), (q_1, .inl (κ 3, cnt, .inr (.inr (.inr (.inr gq_1_10)))))] ++ im_L10) _ := subP hP [0, 1, 2, 3] rfl
      replace hD : va_D A ([(rd, .inr (4, [.ref tp, .ref d, .ref ft, .ref bl, .int x_53, .int (nI k2_10), .ref wk, .int (nI sz), .ref fl, .ref sr, .int (nI cnt), cv, .ref cl, .int (nI rw)])), (fl, .inl (κ 2, 8, .inr (.inr (.inr (.inr ff))))), (sr, .inl (κ 0, 8, .inl sf)), (q_1, .inl (κ 3, cnt, .inr (.inr (.inr (.inr gq_1_10)))))] ++ im_L10) := subD hD [0, 1, 2, 3] (by decide) rfl
      obtain ⟨im_54, he_55⟩ : ∃ x9 : va_W, x9 = ([(q_1, .inl (κ 3, cnt, .inr (.inr (.inr (.inr gq_1_10)))))] ++ im_L10) := ⟨_, rfl⟩
      have hs_56 : Sb im_L10 im_54 := by rw [he_55]; exact Sb.app
      have hm_q_1 : (q_1, .inl (κ 3, cnt, .inr (.inr (.inr (.inr gq_1_10))))) ∈ im_54 := by rw [he_55]; exact List.mem_of_getElem? (i := 0) rfl
      replace hP : va_P D vwCl ([(rd, .inr (4, [.ref tp, .ref d, .ref ft, .ref bl, .int x_53, .int (nI k2_10), .ref wk, .int (nI sz), .ref fl, .ref sr, .int (nI cnt), cv, .ref cl, .int (nI rw)])), (fl, .inl (κ 2, 8, .inr (.inr (.inr (.inr ff))))), (sr, .inl (κ 0, 8, .inl sf))] ++ ([(q_1, .inl (κ 3, cnt, .inr (.inr (.inr (.inr gq_1_10)))))] ++ im_L10)) _ := hP
      replace hD : va_D A ([(rd, .inr (4, [.ref tp, .ref d, .ref ft, .ref bl, .int x_53, .int (nI k2_10), .ref wk, .int (nI sz), .ref fl, .ref sr, .int (nI cnt), cv, .ref cl, .int (nI rw)])), (fl, .inl (κ 2, 8, .inr (.inr (.inr (.inr ff))))), (sr, .inl (κ 0, 8, .inl sf))] ++ ([(q_1, .inl (κ 3, cnt, .inr (.inr (.inr (.inr gq_1_10)))))] ++ im_L10)) := hD
      rw [← he_55] at hP hD
      clear he_55
      replace hfs := hfs.up hs_56
      replace hq10_0 := hq10_0.up hs_56
      replace h_9 := h_9.up hs_56
      replace hb_16 := hb_16.up hs_56
      replace hm_15 := hs_56 _ hm_15
      replace hm_19 := hs_56 _ hm_19
      exact et_iret hx hb hr hlk rfl hS (7, x_53, nI k2_10, cv, im_54) rfl ⟨(show Sb im im_54 from (Sb.tr hl10_2 hs_56)), (show ((7 : Int32) = 0 ∧ hdB fs cnt = true ∧ x_53 = nI aq ∧ ∃ q : Nat, cv = .ref q ∧ Ca κ im_54 q cnt) ∨ (¬ (7 : Int32) = 0 ∧ hdB fs cnt = false) from (Or.inr ⟨by decide, hd_n (by rw [← he_21]; exact a_28) (by omega)⟩))⟩ (subP hP [0, 1, 2] rfl) (subD hD [0, 1, 2] (by decide) rfl) (by show _ ≤ 9; omega) (by show _ ≤ 24; omega) dX4_takeNames_62
set_option maxHeartbeats 4000000 in
set_option maxRecDepth 100000 in
theorem c_X4_takeRow_S (l : Launch) (D : va_G) (κ : Nat → ClassId) (κq : Nat → Nat) (im : va_W) (rd : Nat) (tp : Nat) (d : Nat) (ft : Nat) (bl : Nat) (aq : Nat) (wk : Nat) (sz : Nat) (fl : Nat) (sr : Nat) (cnt : Nat) (cl : Nat) (rw : Nat) (ca : Int32) (dl : Nat → Int32) (ff : Nat → Option Nat) (sf : Nat → Int32) (fc : Nat → Option Nat) (ca9 : Nat) (w : Nat) (kb : Nat) (nb : Nat) (hlf : Lc κ im ff cnt) (hlc : Lc κ im fc (rw * w)) (hca : Ca κ im ca9 w) (hbl : Cl κ im bl kb nb) (hr39 : rw ≤ 39) (hc8 : cnt ≤ 8) (hc1 : 1 ≤ cnt) (hw1 : 1 ≤ w) (hw8 : w ≤ 8) : Et l yX4_takeRow (wl yX4_takeRow cX4_takeRow 3 (some .int)) { frames := 0, cells := 0, slots := 0, locals := 0 } D κ κq [.ref rd] ([(rd, .inr (4, [.ref tp, .ref d, .ref ft, .ref bl, .int (nI aq), .int ca, .ref wk, .int (nI sz), .ref fl, .ref sr, .int (nI cnt), .ref ca9, .ref cl, .int (nI rw)])), (d, .inl (κ 0, 6, .inl dl)), (fl, .inl (κ 2, 8, .inr (.inr (.inr (.inr ff))))), (sr, .inl (κ 0, 8, .inl sf)), (cl, .inl (κ 2, 320, .inr (.inr (.inr (.inr fc)))))] ++ im) (fun u9 : Int32 × Int32 × Int32 × Nat × (Nat → Option Nat) => some (.int u9.1)) (fun u9 : Int32 × Int32 × Int32 × Nat × (Nat → Option Nat) => u9.2.2.2.1 ≤ 40 ∧ ((u9.1 = 0 ∧ wdB (dl 4) cnt w = true ∧ u9.2.1 = nI aq ∧ u9.2.2.2.1 = rw + 1 ∧ Lc κ im u9.2.2.2.2 ((rw + 1) * w)) ∨ (¬ u9.1 = 0 ∧ wdB (dl 4) cnt w = false))) (fun u9 : Int32 × Int32 × Int32 × Nat × (Nat → Option Nat) => ([(rd, .inr (4, [.ref tp, .ref d, .ref ft, .ref bl, .int u9.2.1, .int u9.2.2.1, .ref wk, .int (nI sz), .ref fl, .ref sr, .int (nI cnt), .ref ca9, .ref cl, .int (nI u9.2.2.2.1)])), (d, .inl (κ 0, 6, .inl dl)), (fl, .inl (κ 2, 8, .inr (.inr (.inr (.inr ff))))), (sr, .inl (κ 0, 8, .inl sf)), (cl, .inl (κ 2, 320, .inr (.inr (.inr (.inr u9.2.2.2.2)))))] ++ im)) := by
  refine et_of (by decide +kernel) (Nat.le_of_ble_eq_true rfl) ?_
  intro p e s m args below meth c A ls hx hb hr hml hts hown hlk hin hKK hK hA hP hD hS hE hl
  have hS : va_S A s.heap s.heap [] := hS
  have hP : va_P D vwCl ([(rd, .inr (4, [.ref tp, .ref d, .ref ft, .ref bl, .int (nI aq), .int ca, .ref wk, .int (nI sz), .ref fl, .ref sr, .int (nI cnt), .ref ca9, .ref cl, .int (nI rw)])), (d, .inl (κ 0, 6, .inl dl)), (fl, .inl (κ 2, 8, .inr (.inr (.inr (.inr ff))))), (sr, .inl (κ 0, 8, .inl sf)), (cl, .inl (κ 2, 320, .inr (.inr (.inr (.inr fc)))))] ++ im) s.heap := hP
  have hD : va_D A ([(rd, .inr (4, [.ref tp, .ref d, .ref ft, .ref bl, .int (nI aq), .int ca, .ref wk, .int (nI sz), .ref fl, .ref sr, .int (nI cnt), .ref ca9, .ref cl, .int (nI rw)])), (d, .inl (κ 0, 6, .inl dl)), (fl, .inl (κ 2, 8, .inr (.inr (.inr (.inr ff))))), (sr, .inl (κ 0, 8, .inl sf)), (cl, .inl (κ 2, 320, .inr (.inr (.inr (.inr fc)))))] ++ im) := hD
  have hFX : FX p s m args c cX4_takeRow 3 RX4 := ⟨hx, hb, hml, hown, hts⟩
  have hl : lv_has ls 3 [(0, .ref rd)] := hl
  obtain ⟨g_1, hm_2, lo_3⟩ := id hca
  refine lv_aload_n hx hb dX4_takeRow_0 rfl (lv_at hl 0 rfl) ?_
  refine va_get (D := D) (ci := 4) (v := .ref ca9) (C := RX4) (T := TX4) (N := 14) hx hb hts inlX4 hown hK hP 0 rfl rfl 11 (by decide) (hts _ mw_78) (fun _ h9 => h9) rfl dX4_takeRow_1 ?_
  refine va_alen hx hb hK (oneP (C := [(rd, .inr (4, [.ref tp, .ref d, .ref ft, .ref bl, .int (nI aq), .int ca, .ref wk, .int (nI sz), .ref fl, .ref sr, .int (nI cnt), .ref ca9, .ref cl, .int (nI rw)])), (d, .inl (κ 0, 6, .inl dl)), (fl, .inl (κ 2, 8, .inr (.inr (.inr (.inr ff))))), (sr, .inl (κ 0, 8, .inl sf)), (cl, .inl (κ 2, 320, .inr (.inr (.inr (.inr fc)))))]) hP hm_2) 0 3 rfl rfl (v := nI w) rfl dX4_takeRow_4 ?_
  refine lv_istore_n (lv' := [(1, .int (nI w)), (0, .ref rd)]) hx hb dX4_takeRow_5 rfl hl (by decide) rfl (fun ls hl => ?_)
  refine lv_aload_n hx hb dX4_takeRow_6 rfl (lv_at hl 1 rfl) ?_
  refine va_get (D := D) (ci := 4) (v := .int (nI cnt)) (C := RX4) (T := TX4) (N := 14) hx hb hts inlX4 hown hK hP 0 rfl rfl 10 (by decide) (hts _ mw_77) (fun _ h9 => h9) rfl dX4_takeRow_7 ?_
  refine lv_iload_n hx hb dX4_takeRow_10 rfl (lv_at hl 0 rfl) ?_
  refine lv_icmp_ge (tgt := 36) hx hb dX4_takeRow_11 (by decide) (fun c_4 => ?_) (fun c_4 => ?_)
  · have nc_4 := cv_le (a := w) (b := cnt) (by omega) (by omega) c_4
    refine lv_aload_n hx hb dX4_takeRow_36 rfl (lv_at hl 1 rfl) ?_
    refine va_get (D := D) (ci := 4) (v := .int (nI cnt)) (C := RX4) (T := TX4) (N := 14) hx hb hts inlX4 hown hK hP 0 rfl rfl 10 (by decide) (hts _ mw_77) (fun _ h9 => h9) rfl dX4_takeRow_37 ?_
    refine lv_iload_n hx hb dX4_takeRow_40 rfl (lv_at hl 0 rfl) ?_
    refine lv_icmp_le (tgt := 78) hx hb dX4_takeRow_41 (by decide) (fun c_5 => ?_) (fun c_5 => ?_)
    · have nc_5 := cv_le (a := cnt) (b := w) (by omega) (by omega) c_5
      refine lv_iconst (v := 0) hx hb dX4_takeRow_78 (by decide) ?_
      refine lv_istore_n (lv' := [(2, .int 0), (1, .int (nI w)), (0, .ref rd)]) hx hb dX4_takeRow_79 rfl hl (by decide) rfl (fun ls hl => ?_)
      refine loop_dn (fun k9 H locs ls => ∃ (k2_80 : Nat), ∃ (gcl_80 : Nat → Option Nat), (k2_80 ≤ w) ∧ Lc κ im gcl_80 (rw * w + k2_80) ∧ w - k2_80 = k9 ∧ va_P D vwCl ([(rd, .inr (4, [.ref tp, .ref d, .ref ft, .ref bl, .int (nI aq), .int ca, .ref wk, .int (nI sz), .ref fl, .ref sr, .int (nI cnt), .ref ca9, .ref cl, .int (nI rw)])), (d, .inl (κ 0, 6, .inl dl)), (fl, .inl (κ 2, 8, .inr (.inr (.inr (.inr ff))))), (sr, .inl (κ 0, 8, .inl sf)), (cl, .inl (κ 2, 320, .inr (.inr (.inr (.inr gcl_80)))))] ++ im) H ∧ va_D A ([(rd, .inr (4, [.ref tp, .ref d, .ref ft, .ref bl, .int (nI aq), .int ca, .ref wk, .int (nI sz), .ref fl, .ref sr, .int (nI cnt), .ref ca9, .ref cl, .int (nI rw)])), (d, .inl (κ 0, 6, .inl dl)), (fl, .inl (κ 2, 8, .inr (.inr (.inr (.inr ff))))), (sr, .inl (κ 0, 8, .inl sf)), (cl, .inl (κ 2, 320, .inr (.inr (.inr (.inr gcl_80)))))] ++ im) ∧ va_S A s.heap H locs ∧ lv_has ls 3 [(2, .int (nI k2_80)), (1, .int (nI w)), (0, .ref rd)]) (fun k9 H locs ls hI80 ih80 => ?_) (w - 0) _ _ _ ⟨0, fc, (by omega), hlc, rfl, hP, hD, hS, lv_sub hl [0, 1, 2] rfl⟩
      obtain ⟨k2_80, gcl_80, hl80_0, hq80_0, hm80, hP, hD, hS, hl⟩ := hI80
      refine lv_iload_n hx hb dX4_takeRow_80 rfl (lv_at hl 0 rfl) ?_
      refine lv_iload_n hx hb dX4_takeRow_81 rfl (lv_at hl 1 rfl) ?_
      refine lv_icmp_ge (tgt := 125) hx hb dX4_takeRow_82 (by decide) (fun c_6 => ?_) (fun c_6 => ?_)
      · have nc_6 := cv_le (a := w) (b := k2_80) (by omega) (by omega) c_6
        obtain rfl : w = k2_80 := by omega
        refine lv_aload_n hx hb dX4_takeRow_125 rfl (lv_at hl 2 rfl) ?_
        refine lv_dup hx hb dX4_takeRow_126 rfl ?_
        refine va_get (D := D) (ci := 4) (v := .int (nI rw)) (C := RX4) (T := TX4) (N := 14) hx hb hts inlX4 hown hK hP 0 rfl rfl 13 (by decide) (hts _ mw_80) (fun _ h9 => h9) rfl dX4_takeRow_127 ?_
        refine lv_iconst (v := 1) hx hb dX4_takeRow_130 (by decide) ?_
        refine lv_iadd hx hb dX4_takeRow_131 ?_
        refine ki (v := (nI (rw + 1))) (nI_add rw 1) ?_
        refine va_put (D := D) (ci := 4) (v := .int (nI (rw + 1))) (ty := tyX4 13) (C := RX4) (T := TX4) (N := 14) hx hb hts inlX4 tyX4 tyX4_ok nmX4 hown hK hP hD hS 0 rfl rfl 13 (by decide) (hts _ mw_80) (fun _ h9 => h9) rfl (tyX4_ok 13 (by decide)) rfl rfl (Nat.le_of_ble_eq_true rfl) dX4_takeRow_132 (fun H locs hP hD hS => ?_)
        have hP : va_P D vwCl ([(rd, .inr (4, [.ref tp, .ref d, .ref ft, .ref bl, .int (nI aq), .int ca, .ref wk, .int (nI sz), .ref fl, .ref sr, .int (nI cnt), .ref ca9, .ref cl, .int (nI (rw + 1))])), (d, .inl (κ 0, 6, .inl dl)), (fl, .inl (κ 2, 8, .inr (.inr (.inr (.inr ff))))), (sr, .inl (κ 0, 8, .inl sf)), (cl, .inl (κ 2, 320, .inr (.inr (.inr (.inr gcl_80)))))] ++ im) H := hP
        have hD : va_D A ([(rd, .inr (4, [.ref tp, .ref d, .ref ft, .ref bl, .int (nI aq), .int ca, .ref wk, .int (nI sz), .ref fl, .ref sr, .int (nI cnt), .ref ca9, .ref cl, .int (nI (rw + 1))])), (d, .inl (κ 0, 6, .inl dl)), (fl, .inl (κ 2, 8, .inr (.inr (.inr (.inr ff))))), (sr, .inl (κ 0, 8, .inl sf)), (cl, .inl (κ 2, 320, .inr (.inr (.inr (.inr gcl_80)))))] ++ im) := hD
        refine lv_iconst (v := 0) hx hb dX4_takeRow_135 (by decide) ?_
        exact et_iret hx hb hr hlk rfl hS (0, nI aq, ca, rw + 1, gcl_80) rfl ⟨(show (rw + 1) ≤ 40 from (by first | assumption | omega | rfl | exact Or.inl (by assumption) | exact Or.inr (by assumption))), (show ((0 : Int32) = 0 ∧ wdB (dl 4) cnt w = true ∧ (nI aq) = nI aq ∧ (rw + 1) = rw + 1 ∧ Lc κ im gcl_80 ((rw + 1) * w)) ∨ (¬ (0 : Int32) = 0 ∧ wdB (dl 4) cnt w = false) from (Or.inl ⟨rfl, wd_t (z := 0) (Or.inl (by omega)) (Or.inl (by omega)), rfl, rfl, by rw [Nat.add_one_mul]; exact hq80_0⟩))⟩ (subP hP [0, 1, 2, 3, 4] rfl) (subD hD [0, 1, 2, 3, 4] (by decide) rfl) (Nat.le_of_ble_eq_true rfl) (Nat.le_of_ble_eq_true rfl) dX4_takeRow_136
      · have nc_6 := cv_nle (a := w) (b := k2_80) (by omega) (by omega) c_6
        refine lv_aload_n hx hb dX4_takeRow_85 rfl (lv_at hl 2 rfl) ?_
        refine va_get (D := D) (ci := 4) (v := .ref cl) (C := RX4) (T := TX4) (N := 14) hx hb hts inlX4 hown hK hP 0 rfl rfl 12 (by decide) (hts _ mw_79) (fun _ h9 => h9) rfl dX4_takeRow_86 ?_
        refine lv_aload_n hx hb dX4_takeRow_89 rfl (lv_at hl 2 rfl) ?_
        refine va_get (D := D) (ci := 4) (v := .int (nI rw)) (C := RX4) (T := TX4) (N := 14) hx hb hts inlX4 hown hK hP 0 rfl rfl 13 (by decide) (hts _ mw_80) (fun _ h9 => h9) rfl dX4_takeRow_90 ?_
        refine lv_iload_n hx hb dX4_takeRow_93 rfl (lv_at hl 1 rfl) ?_
        refine lv_imul hx hb dX4_takeRow_94 ?_
        refine ki (v := (nI (rw * w))) (pk_mul rw w) ?_
        refine lv_iload_n hx hb dX4_takeRow_95 rfl (lv_at hl 0 rfl) ?_
        refine lv_iadd hx hb dX4_takeRow_96 ?_
        refine ki (v := (nI (rw * w + k2_80))) (nI_add (rw * w) k2_80) ?_
        refine lv_iload_n hx hb dX4_takeRow_97 rfl (lv_at hl 0 rfl) ?_
        refine lv_aload_n hx hb dX4_takeRow_98 rfl (lv_at hl 2 rfl) ?_
        refine va_get (D := D) (ci := 4) (v := .int (nI cnt)) (C := RX4) (T := TX4) (N := 14) hx hb hts inlX4 hown hK hP 0 rfl rfl 10 (by decide) (hts _ mw_77) (fun _ h9 => h9) rfl dX4_takeRow_99 ?_
        refine lv_icmp_ge (tgt := 114) hx hb dX4_takeRow_102 (by decide) (fun c_7 => ?_) (fun c_7 => ?_)
        · have nc_7 := cv_le (a := cnt) (b := k2_80) (by omega) (by omega) c_7
          refine lv_aload_n hx hb dX4_takeRow_114 rfl (lv_at hl 2 rfl) ?_
          refine va_get (D := D) (ci := 4) (v := .ref bl) (C := RX4) (T := TX4) (N := 14) hx hb hts inlX4 hown hK hP 0 rfl rfl 3 (by decide) (hts _ mw_70) (fun _ h9 => h9) rfl dX4_takeRow_115 ?_
          obtain ⟨hk_8, b_9, x_10, hm_11, hb_12⟩ := id hbl
          have hn_b_9 := hb_12.1
          obtain ⟨k_13, ek_13⟩ := tl_at [(rd, .inr (4, [.ref tp, .ref d, .ref ft, .ref bl, .int (nI aq), .int ca, .ref wk, .int (nI sz), .ref fl, .ref sr, .int (nI cnt), .ref ca9, .ref cl, .int (nI rw)])), (d, .inl (κ 0, 6, .inl dl)), (fl, .inl (κ 2, 8, .inr (.inr (.inr (.inr ff))))), (sr, .inl (κ 0, 8, .inl sf)), (cl, .inl (κ 2, 320, .inr (.inr (.inr (.inr gcl_80)))))] hm_11
          refine va_astq hx hb hK hP hD hS 4 2 k_13 0 rfl rfl ek_13 rfl (i := nI (rw * w + k2_80)) (vp_in_nI (n := rw * w + k2_80) (by have q9 := ix_lt (R := 40) (w := w) (r := rw) (c := k2_80) (by omega) (by omega); omega) (by have q9 := ix_lt (R := 40) (w := w) (r := rw) (c := k2_80) (by omega) (by omega); omega)) dX4_takeRow_118 (fun H locs hP hD hS => ?_)
          rw [nI_clamp (by have q9 := ix_lt (R := 40) (w := w) (r := rw) (c := k2_80) (by omega) (by omega); omega)] at hP hD
          have hP : va_P D vwCl ([(rd, .inr (4, [.ref tp, .ref d, .ref ft, .ref bl, .int (nI aq), .int ca, .ref wk, .int (nI sz), .ref fl, .ref sr, .int (nI cnt), .ref ca9, .ref cl, .int (nI rw)])), (d, .inl (κ 0, 6, .inl dl)), (fl, .inl (κ 2, 8, .inr (.inr (.inr (.inr ff))))), (sr, .inl (κ 0, 8, .inl sf)), (cl, .inl (κ 2, 320, .inr (.inr (.inr (.inr (va_up gcl_80 (rw * w + k2_80) (some bl)))))))] ++ im) H := hP
          have hD : va_D A ([(rd, .inr (4, [.ref tp, .ref d, .ref ft, .ref bl, .int (nI aq), .int ca, .ref wk, .int (nI sz), .ref fl, .ref sr, .int (nI cnt), .ref ca9, .ref cl, .int (nI rw)])), (d, .inl (κ 0, 6, .inl dl)), (fl, .inl (κ 2, 8, .inr (.inr (.inr (.inr ff))))), (sr, .inl (κ 0, 8, .inl sf)), (cl, .inl (κ 2, 320, .inr (.inr (.inr (.inr (va_up gcl_80 (rw * w + k2_80) (some bl)))))))] ++ im) := hD
          have hf_15 : Lc κ im (va_up gcl_80 (rw * w + k2_80) (some bl)) (rw * w + k2_80 + 1) := Lc_add hq80_0 hbl
          generalize va_up gcl_80 (rw * w + k2_80) (some bl) = g_14 at hP hD hf_15
          refine lv_iinc (v := (nI (k2_80 + 1))) (lv' := [(2, .int (nI (k2_80 + 1))), (1, .int (nI w)), (0, .ref rd)]) hx hb dX4_takeRow_119 hl (k := 0) rfl (nI_i k2_80) (by decide) rfl (fun ls hl => ?_)
          refine lv_goto (tgt := 80) hx hb dX4_takeRow_122 (by decide) ?_
          exact ih80 _ _ _ _ (by omega) ⟨(k2_80 + 1), g_14, (by omega), hf_15, rfl, hP, hD, hS, lv_sub hl [0, 1, 2] rfl⟩
        · have nc_7 := cv_nle (a := cnt) (b := k2_80) (by omega) (by omega) c_7
          refine lv_aload_n hx hb dX4_takeRow_105 rfl (lv_at hl 2 rfl) ?_
          refine va_get (D := D) (ci := 4) (v := .ref fl) (C := RX4) (T := TX4) (N := 14) hx hb hts inlX4 hown hK hP 0 rfl rfl 8 (by decide) (hts _ mw_75) (fun _ h9 => h9) rfl dX4_takeRow_106 ?_
          refine lv_iload_n hx hb dX4_takeRow_109 rfl (lv_at hl 0 rfl) ?_
          refine va_aldq hx hb hK hP 2 2 rfl rfl (i := nI k2_80) (vp_in_nI (n := k2_80) (by omega) (by omega)) dX4_takeRow_110 ?_
          obtain ⟨q_16, e_17, k_18, m_19, h_20⟩ := hlf k2_80 (by omega)
          refine kv (v := .ref q_16) (by rw [nI_clamp (by omega)]; rw [e_17]; rfl) ?_
          refine lv_goto (tgt := 118) hx hb dX4_takeRow_111 (by decide) ?_
          obtain ⟨hk_21, b_22, x_23, hm_24, hb_25⟩ := id h_20
          have hn_b_22 := hb_25.1
          obtain ⟨k_26, ek_26⟩ := tl_at [(rd, .inr (4, [.ref tp, .ref d, .ref ft, .ref bl, .int (nI aq), .int ca, .ref wk, .int (nI sz), .ref fl, .ref sr, .int (nI cnt), .ref ca9, .ref cl, .int (nI rw)])), (d, .inl (κ 0, 6, .inl dl)), (fl, .inl (κ 2, 8, .inr (.inr (.inr (.inr ff))))), (sr, .inl (κ 0, 8, .inl sf)), (cl, .inl (κ 2, 320, .inr (.inr (.inr (.inr gcl_80)))))] hm_24
          refine va_astq hx hb hK hP hD hS 4 2 k_26 0 rfl rfl ek_26 rfl (i := nI (rw * w + k2_80)) (vp_in_nI (n := rw * w + k2_80) (by have q9 := ix_lt (R := 40) (w := w) (r := rw) (c := k2_80) (by omega) (by omega); omega) (by have q9 := ix_lt (R := 40) (w := w) (r := rw) (c := k2_80) (by omega) (by omega); omega)) dX4_takeRow_118 (fun H locs hP hD hS => ?_)
          rw [nI_clamp (by have q9 := ix_lt (R := 40) (w := w) (r := rw) (c := k2_80) (by omega) (by omega); omega)] at hP hD
          have hP : va_P D vwCl ([(rd, .inr (4, [.ref tp, .ref d, .ref ft, .ref bl, .int (nI aq), .int ca, .ref wk, .int (nI sz), .ref fl, .ref sr, .int (nI cnt), .ref ca9, .ref cl, .int (nI rw)])), (d, .inl (κ 0, 6, .inl dl)), (fl, .inl (κ 2, 8, .inr (.inr (.inr (.inr ff))))), (sr, .inl (κ 0, 8, .inl sf)), (cl, .inl (κ 2, 320, .inr (.inr (.inr (.inr (va_up gcl_80 (rw * w + k2_80) (some q_16)))))))] ++ im) H := hP
          have hD : va_D A ([(rd, .inr (4, [.ref tp, .ref d, .ref ft, .ref bl, .int (nI aq), .int ca, .ref wk, .int (nI sz), .ref fl, .ref sr, .int (nI cnt), .ref ca9, .ref cl, .int (nI rw)])), (d, .inl (κ 0, 6, .inl dl)), (fl, .inl (κ 2, 8, .inr (.inr (.inr (.inr ff))))), (sr, .inl (κ 0, 8, .inl sf)), (cl, .inl (κ 2, 320, .inr (.inr (.inr (.inr (va_up gcl_80 (rw * w + k2_80) (some q_16)))))))] ++ im) := hD
          have hf_28 : Lc κ im (va_up gcl_80 (rw * w + k2_80) (some q_16)) (rw * w + k2_80 + 1) := Lc_add hq80_0 h_20
          generalize va_up gcl_80 (rw * w + k2_80) (some q_16) = g_27 at hP hD hf_28
          refine lv_iinc (v := (nI (k2_80 + 1))) (lv' := [(2, .int (nI (k2_80 + 1))), (1, .int (nI w)), (0, .ref rd)]) hx hb dX4_takeRow_119 hl (k := 0) rfl (nI_i k2_80) (by decide) rfl (fun ls hl => ?_)
          refine lv_goto (tgt := 80) hx hb dX4_takeRow_122 (by decide) ?_
          exact ih80 _ _ _ _ (by omega) ⟨(k2_80 + 1), g_27, (by omega), hf_28, rfl, hP, hD, hS, lv_sub hl [0, 1, 2] rfl⟩
    · have nc_5 := cv_nle (a := cnt) (b := w) (by omega) (by omega) c_5
      refine lv_aload_n hx hb dX4_takeRow_44 rfl (lv_at hl 1 rfl) ?_
      refine va_get (D := D) (ci := 4) (v := .ref d) (C := RX4) (T := TX4) (N := 14) hx hb hts inlX4 hown hK hP 0 rfl rfl 1 (by decide) (hts _ mw_82) (fun _ h9 => h9) rfl dX4_takeRow_45 ?_
      refine lv_iconst (v := 4) hx hb dX4_takeRow_48 (by decide) ?_
      refine va_iald hx hb hK hP 1 0 rfl rfl (i := 4) (vp_k (by decide)) dX4_takeRow_49 ?_
      obtain ⟨x_29, ex_29⟩ : ∃ y9 : Int32, dl 4 = y9 := ⟨_, rfl⟩
      refine kv (v := .int x_29) (congrArg Value.int ex_29) ?_
      refine lv_iconst (v := 2) hx hb dX4_takeRow_50 (by decide) ?_
      refine lv_iand hx hb dX4_takeRow_51 ?_
      refine lv_topi (fun x_30 ex_30 => ?_)
      refine lv_if_ne (tgt := 78) hx hb dX4_takeRow_52 (by decide) (fun c_31 => ?_) (fun c_31 => ?_)
      · refine lv_iconst (v := 0) hx hb dX4_takeRow_78 (by decide) ?_
        refine lv_istore_n (lv' := [(2, .int 0), (1, .int (nI w)), (0, .ref rd)]) hx hb dX4_takeRow_79 rfl hl (by decide) rfl (fun ls hl => ?_)
        refine loop_dn (fun k9 H locs ls => ∃ (k2_80 : Nat), ∃ (gcl_80 : Nat → Option Nat), (k2_80 ≤ w) ∧ Lc κ im gcl_80 (rw * w + k2_80) ∧ w - k2_80 = k9 ∧ va_P D vwCl ([(rd, .inr (4, [.ref tp, .ref d, .ref ft, .ref bl, .int (nI aq), .int ca, .ref wk, .int (nI sz), .ref fl, .ref sr, .int (nI cnt), .ref ca9, .ref cl, .int (nI rw)])), (d, .inl (κ 0, 6, .inl dl)), (fl, .inl (κ 2, 8, .inr (.inr (.inr (.inr ff))))), (sr, .inl (κ 0, 8, .inl sf)), (cl, .inl (κ 2, 320, .inr (.inr (.inr (.inr gcl_80)))))] ++ im) H ∧ va_D A ([(rd, .inr (4, [.ref tp, .ref d, .ref ft, .ref bl, .int (nI aq), .int ca, .ref wk, .int (nI sz), .ref fl, .ref sr, .int (nI cnt), .ref ca9, .ref cl, .int (nI rw)])), (d, .inl (κ 0, 6, .inl dl)), (fl, .inl (κ 2, 8, .inr (.inr (.inr (.inr ff))))), (sr, .inl (κ 0, 8, .inl sf)), (cl, .inl (κ 2, 320, .inr (.inr (.inr (.inr gcl_80)))))] ++ im) ∧ va_S A s.heap H locs ∧ lv_has ls 3 [(2, .int (nI k2_80)), (1, .int (nI w)), (0, .ref rd)]) (fun k9 H locs ls hI80 ih80 => ?_) (w - 0) _ _ _ ⟨0, fc, (by omega), hlc, rfl, hP, hD, hS, lv_sub hl [0, 1, 2] rfl⟩
        obtain ⟨k2_80, gcl_80, hl80_0, hq80_0, hm80, hP, hD, hS, hl⟩ := hI80
        refine lv_iload_n hx hb dX4_takeRow_80 rfl (lv_at hl 0 rfl) ?_
        refine lv_iload_n hx hb dX4_takeRow_81 rfl (lv_at hl 1 rfl) ?_
        refine lv_icmp_ge (tgt := 125) hx hb dX4_takeRow_82 (by decide) (fun c_32 => ?_) (fun c_32 => ?_)
        · have nc_32 := cv_le (a := w) (b := k2_80) (by omega) (by omega) c_32
          obtain rfl : w = k2_80 := by omega
          refine lv_aload_n hx hb dX4_takeRow_125 rfl (lv_at hl 2 rfl) ?_
          refine lv_dup hx hb dX4_takeRow_126 rfl ?_
          refine va_get (D := D) (ci := 4) (v := .int (nI rw)) (C := RX4) (T := TX4) (N := 14) hx hb hts inlX4 hown hK hP 0 rfl rfl 13 (by decide) (hts _ mw_80) (fun _ h9 => h9) rfl dX4_takeRow_127 ?_
          refine lv_iconst (v := 1) hx hb dX4_takeRow_130 (by decide) ?_
          refine lv_iadd hx hb dX4_takeRow_131 ?_
          refine ki (v := (nI (rw + 1))) (nI_add rw 1) ?_
          refine va_put (D := D) (ci := 4) (v := .int (nI (rw + 1))) (ty := tyX4 13) (C := RX4) (T := TX4) (N := 14) hx hb hts inlX4 tyX4 tyX4_ok nmX4 hown hK hP hD hS 0 rfl rfl 13 (by decide) (hts _ mw_80) (fun _ h9 => h9) rfl (tyX4_ok 13 (by decide)) rfl rfl (Nat.le_of_ble_eq_true rfl) dX4_takeRow_132 (fun H locs hP hD hS => ?_)
          have hP : va_P D vwCl ([(rd, .inr (4, [.ref tp, .ref d, .ref ft, .ref bl, .int (nI aq), .int ca, .ref wk, .int (nI sz), .ref fl, .ref sr, .int (nI cnt), .ref ca9, .ref cl, .int (nI (rw + 1))])), (d, .inl (κ 0, 6, .inl dl)), (fl, .inl (κ 2, 8, .inr (.inr (.inr (.inr ff))))), (sr, .inl (κ 0, 8, .inl sf)), (cl, .inl (κ 2, 320, .inr (.inr (.inr (.inr gcl_80)))))] ++ im) H := hP
          have hD : va_D A ([(rd, .inr (4, [.ref tp, .ref d, .ref ft, .ref bl, .int (nI aq), .int ca, .ref wk, .int (nI sz), .ref fl, .ref sr, .int (nI cnt), .ref ca9, .ref cl, .int (nI (rw + 1))])), (d, .inl (κ 0, 6, .inl dl)), (fl, .inl (κ 2, 8, .inr (.inr (.inr (.inr ff))))), (sr, .inl (κ 0, 8, .inl sf)), (cl, .inl (κ 2, 320, .inr (.inr (.inr (.inr gcl_80)))))] ++ im) := hD
          refine lv_iconst (v := 0) hx hb dX4_takeRow_135 (by decide) ?_
          exact et_iret hx hb hr hlk rfl hS (0, nI aq, ca, rw + 1, gcl_80) rfl ⟨(show (rw + 1) ≤ 40 from (by first | assumption | omega | rfl | exact Or.inl (by assumption) | exact Or.inr (by assumption))), (show ((0 : Int32) = 0 ∧ wdB (dl 4) cnt w = true ∧ (nI aq) = nI aq ∧ (rw + 1) = rw + 1 ∧ Lc κ im gcl_80 ((rw + 1) * w)) ∨ (¬ (0 : Int32) = 0 ∧ wdB (dl 4) cnt w = false) from (Or.inl ⟨rfl, wd_t (z := 0) (Or.inl (by omega)) (Or.inr ⟨_, (show x_30 = dl 4 &&& 2 from (by rw [ex_29]; exact ex_30)), c_31⟩), rfl, rfl, by rw [Nat.add_one_mul]; exact hq80_0⟩))⟩ (subP hP [0, 1, 2, 3, 4] rfl) (subD hD [0, 1, 2, 3, 4] (by decide) rfl) (Nat.le_of_ble_eq_true rfl) (Nat.le_of_ble_eq_true rfl) dX4_takeRow_136
        · have nc_32 := cv_nle (a := w) (b := k2_80) (by omega) (by omega) c_32
          refine lv_aload_n hx hb dX4_takeRow_85 rfl (lv_at hl 2 rfl) ?_
          refine va_get (D := D) (ci := 4) (v := .ref cl) (C := RX4) (T := TX4) (N := 14) hx hb hts inlX4 hown hK hP 0 rfl rfl 12 (by decide) (hts _ mw_79) (fun _ h9 => h9) rfl dX4_takeRow_86 ?_
          refine lv_aload_n hx hb dX4_takeRow_89 rfl (lv_at hl 2 rfl) ?_
          refine va_get (D := D) (ci := 4) (v := .int (nI rw)) (C := RX4) (T := TX4) (N := 14) hx hb hts inlX4 hown hK hP 0 rfl rfl 13 (by decide) (hts _ mw_80) (fun _ h9 => h9) rfl dX4_takeRow_90 ?_
          refine lv_iload_n hx hb dX4_takeRow_93 rfl (lv_at hl 1 rfl) ?_
          refine lv_imul hx hb dX4_takeRow_94 ?_
          refine ki (v := (nI (rw * w))) (pk_mul rw w) ?_
          refine lv_iload_n hx hb dX4_takeRow_95 rfl (lv_at hl 0 rfl) ?_
          refine lv_iadd hx hb dX4_takeRow_96 ?_
          refine ki (v := (nI (rw * w + k2_80))) (nI_add (rw * w) k2_80) ?_
          refine lv_iload_n hx hb dX4_takeRow_97 rfl (lv_at hl 0 rfl) ?_
          refine lv_aload_n hx hb dX4_takeRow_98 rfl (lv_at hl 2 rfl) ?_
          refine va_get (D := D) (ci := 4) (v := .int (nI cnt)) (C := RX4) (T := TX4) (N := 14) hx hb hts inlX4 hown hK hP 0 rfl rfl 10 (by decide) (hts _ mw_77) (fun _ h9 => h9) rfl dX4_takeRow_99 ?_
          refine lv_icmp_ge (tgt := 114) hx hb dX4_takeRow_102 (by decide) (fun c_33 => ?_) (fun c_33 => ?_)
          · have nc_33 := cv_le (a := cnt) (b := k2_80) (by omega) (by omega) c_33
            refine lv_aload_n hx hb dX4_takeRow_114 rfl (lv_at hl 2 rfl) ?_
            refine va_get (D := D) (ci := 4) (v := .ref bl) (C := RX4) (T := TX4) (N := 14) hx hb hts inlX4 hown hK hP 0 rfl rfl 3 (by decide) (hts _ mw_70) (fun _ h9 => h9) rfl dX4_takeRow_115 ?_
            obtain ⟨hk_34, b_35, x_36, hm_37, hb_38⟩ := id hbl
            have hn_b_35 := hb_38.1
            obtain ⟨k_39, ek_39⟩ := tl_at [(rd, .inr (4, [.ref tp, .ref d, .ref ft, .ref bl, .int (nI aq), .int ca, .ref wk, .int (nI sz), .ref fl, .ref sr, .int (nI cnt), .ref ca9, .ref cl, .int (nI rw)])), (d, .inl (κ 0, 6, .inl dl)), (fl, .inl (κ 2, 8, .inr (.inr (.inr (.inr ff))))), (sr, .inl (κ 0, 8, .inl sf)), (cl, .inl (κ 2, 320, .inr (.inr (.inr (.inr gcl_80)))))] hm_37
            refine va_astq hx hb hK hP hD hS 4 2 k_39 0 rfl rfl ek_39 rfl (i := nI (rw * w + k2_80)) (vp_in_nI (n := rw * w + k2_80) (by have q9 := ix_lt (R := 40) (w := w) (r := rw) (c := k2_80) (by omega) (by omega); omega) (by have q9 := ix_lt (R := 40) (w := w) (r := rw) (c := k2_80) (by omega) (by omega); omega)) dX4_takeRow_118 (fun H locs hP hD hS => ?_)
            rw [nI_clamp (by have q9 := ix_lt (R := 40) (w := w) (r := rw) (c := k2_80) (by omega) (by omega); omega)] at hP hD
            have hP : va_P D vwCl ([(rd, .inr (4, [.ref tp, .ref d, .ref ft, .ref bl, .int (nI aq), .int ca, .ref wk, .int (nI sz), .ref fl, .ref sr, .int (nI cnt), .ref ca9, .ref cl, .int (nI rw)])), (d, .inl (κ 0, 6, .inl dl)), (fl, .inl (κ 2, 8, .inr (.inr (.inr (.inr ff))))), (sr, .inl (κ 0, 8, .inl sf)), (cl, .inl (κ 2, 320, .inr (.inr (.inr (.inr (va_up gcl_80 (rw * w + k2_80) (some bl)))))))] ++ im) H := hP
            have hD : va_D A ([(rd, .inr (4, [.ref tp, .ref d, .ref ft, .ref bl, .int (nI aq), .int ca, .ref wk, .int (nI sz), .ref fl, .ref sr, .int (nI cnt), .ref ca9, .ref cl, .int (nI rw)])), (d, .inl (κ 0, 6, .inl dl)), (fl, .inl (κ 2, 8, .inr (.inr (.inr (.inr ff))))), (sr, .inl (κ 0, 8, .inl sf)), (cl, .inl (κ 2, 320, .inr (.inr (.inr (.inr (va_up gcl_80 (rw * w + k2_80) (some bl)))))))] ++ im) := hD
            have hf_41 : Lc κ im (va_up gcl_80 (rw * w + k2_80) (some bl)) (rw * w + k2_80 + 1) := Lc_add hq80_0 hbl
            generalize va_up gcl_80 (rw * w + k2_80) (some bl) = g_40 at hP hD hf_41
            refine lv_iinc (v := (nI (k2_80 + 1))) (lv' := [(2, .int (nI (k2_80 + 1))), (1, .int (nI w)), (0, .ref rd)]) hx hb dX4_takeRow_119 hl (k := 0) rfl (nI_i k2_80) (by decide) rfl (fun ls hl => ?_)
            refine lv_goto (tgt := 80) hx hb dX4_takeRow_122 (by decide) ?_
            exact ih80 _ _ _ _ (by omega) ⟨(k2_80 + 1), g_40, (by omega), hf_41, rfl, hP, hD, hS, lv_sub hl [0, 1, 2] rfl⟩
          · have nc_33 := cv_nle (a := cnt) (b := k2_80) (by omega) (by omega) c_33
            refine lv_aload_n hx hb dX4_takeRow_105 rfl (lv_at hl 2 rfl) ?_
            refine va_get (D := D) (ci := 4) (v := .ref fl) (C := RX4) (T := TX4) (N := 14) hx hb hts inlX4 hown hK hP 0 rfl rfl 8 (by decide) (hts _ mw_75) (fun _ h9 => h9) rfl dX4_takeRow_106 ?_
            refine lv_iload_n hx hb dX4_takeRow_109 rfl (lv_at hl 0 rfl) ?_
            refine va_aldq hx hb hK hP 2 2 rfl rfl (i := nI k2_80) (vp_in_nI (n := k2_80) (by omega) (by omega)) dX4_takeRow_110 ?_
            obtain ⟨q_42, e_43, k_44, m_45, h_46⟩ := hlf k2_80 (by omega)
            refine kv (v := .ref q_42) (by rw [nI_clamp (by omega)]; rw [e_43]; rfl) ?_
            refine lv_goto (tgt := 118) hx hb dX4_takeRow_111 (by decide) ?_
            obtain ⟨hk_47, b_48, x_49, hm_50, hb_51⟩ := id h_46
            have hn_b_48 := hb_51.1
            obtain ⟨k_52, ek_52⟩ := tl_at [(rd, .inr (4, [.ref tp, .ref d, .ref ft, .ref bl, .int (nI aq), .int ca, .ref wk, .int (nI sz), .ref fl, .ref sr, .int (nI cnt), .ref ca9, .ref cl, .int (nI rw)])), (d, .inl (κ 0, 6, .inl dl)), (fl, .inl (κ 2, 8, .inr (.inr (.inr (.inr ff))))), (sr, .inl (κ 0, 8, .inl sf)), (cl, .inl (κ 2, 320, .inr (.inr (.inr (.inr gcl_80)))))] hm_50
            refine va_astq hx hb hK hP hD hS 4 2 k_52 0 rfl rfl ek_52 rfl (i := nI (rw * w + k2_80)) (vp_in_nI (n := rw * w + k2_80) (by have q9 := ix_lt (R := 40) (w := w) (r := rw) (c := k2_80) (by omega) (by omega); omega) (by have q9 := ix_lt (R := 40) (w := w) (r := rw) (c := k2_80) (by omega) (by omega); omega)) dX4_takeRow_118 (fun H locs hP hD hS => ?_)
            rw [nI_clamp (by have q9 := ix_lt (R := 40) (w := w) (r := rw) (c := k2_80) (by omega) (by omega); omega)] at hP hD
            have hP : va_P D vwCl ([(rd, .inr (4, [.ref tp, .ref d, .ref ft, .ref bl, .int (nI aq), .int ca, .ref wk, .int (nI sz), .ref fl, .ref sr, .int (nI cnt), .ref ca9, .ref cl, .int (nI rw)])), (d, .inl (κ 0, 6, .inl dl)), (fl, .inl (κ 2, 8, .inr (.inr (.inr (.inr ff))))), (sr, .inl (κ 0, 8, .inl sf)), (cl, .inl (κ 2, 320, .inr (.inr (.inr (.inr (va_up gcl_80 (rw * w + k2_80) (some q_42)))))))] ++ im) H := hP
            have hD : va_D A ([(rd, .inr (4, [.ref tp, .ref d, .ref ft, .ref bl, .int (nI aq), .int ca, .ref wk, .int (nI sz), .ref fl, .ref sr, .int (nI cnt), .ref ca9, .ref cl, .int (nI rw)])), (d, .inl (κ 0, 6, .inl dl)), (fl, .inl (κ 2, 8, .inr (.inr (.inr (.inr ff))))), (sr, .inl (κ 0, 8, .inl sf)), (cl, .inl (κ 2, 320, .inr (.inr (.inr (.inr (va_up gcl_80 (rw * w + k2_80) (some q_42)))))))] ++ im) := hD
            have hf_54 : Lc κ im (va_up gcl_80 (rw * w + k2_80) (some q_42)) (rw * w + k2_80 + 1) := Lc_add hq80_0 h_46
            generalize va_up gcl_80 (rw * w + k2_80) (some q_42) = g_53 at hP hD hf_54
            refine lv_iinc (v := (nI (k2_80 + 1))) (lv' := [(2, .int (nI (k2_80 + 1))), (1, .int (nI w)), (0, .ref rd)]) hx hb dX4_takeRow_119 hl (k := 0) rfl (nI_i k2_80) (by decide) rfl (fun ls hl => ?_)
            refine lv_goto (tgt := 80) hx hb dX4_takeRow_122 (by decide) ?_
            exact ih80 _ _ _ _ (by omega) ⟨(k2_80 + 1), g_53, (by omega), hf_54, rfl, hP, hD, hS, lv_sub hl [0, 1, 2] rfl⟩
      · refine lv_aload_n hx hb dX4_takeRow_55 rfl (lv_at hl 1 rfl) ?_
        refine lv_aload_n hx hb dX4_takeRow_56 rfl (lv_at hl 1 rfl) ?_
        refine va_get (D := D) (ci := 4) (v := .int (nI cnt)) (C := RX4) (T := TX4) (N := 14) hx hb hts inlX4 hown hK hP 0 rfl rfl 10 (by decide) (hts _ mw_77) (fun _ h9 => h9) rfl dX4_takeRow_57 ?_
        refine va_put (D := D) (ci := 4) (v := .int (nI cnt)) (ty := tyX4 5) (C := RX4) (T := TX4) (N := 14) hx hb hts inlX4 tyX4 tyX4_ok nmX4 hown hK hP hD hS 0 rfl rfl 5 (by decide) (hts _ mw_72) (fun _ h9 => h9) rfl (tyX4_ok 5 (by decide)) rfl rfl (Nat.le_of_ble_eq_true rfl) dX4_takeRow_60 (fun H locs hP hD hS => ?_)
        have hP : va_P D vwCl ([(rd, .inr (4, [.ref tp, .ref d, .ref ft, .ref bl, .int (nI aq), .int (nI cnt), .ref wk, .int (nI sz), .ref fl, .ref sr, .int (nI cnt), .ref ca9, .ref cl, .int (nI rw)])), (d, .inl (κ 0, 6, .inl dl)), (fl, .inl (κ 2, 8, .inr (.inr (.inr (.inr ff))))), (sr, .inl (κ 0, 8, .inl sf)), (cl, .inl (κ 2, 320, .inr (.inr (.inr (.inr fc)))))] ++ im) H := hP
        have hD : va_D A ([(rd, .inr (4, [.ref tp, .ref d, .ref ft, .ref bl, .int (nI aq), .int (nI cnt), .ref wk, .int (nI sz), .ref fl, .ref sr, .int (nI cnt), .ref ca9, .ref cl, .int (nI rw)])), (d, .inl (κ 0, 6, .inl dl)), (fl, .inl (κ 2, 8, .inr (.inr (.inr (.inr ff))))), (sr, .inl (κ 0, 8, .inl sf)), (cl, .inl (κ 2, 320, .inr (.inr (.inr (.inr fc)))))] ++ im) := hD
        refine lv_aload_n hx hb dX4_takeRow_63 rfl (lv_at hl 1 rfl) ?_
        refine lv_aload_n hx hb dX4_takeRow_64 rfl (lv_at hl 1 rfl) ?_
        refine va_get (D := D) (ci := 4) (v := .ref sr) (C := RX4) (T := TX4) (N := 14) hx hb hts inlX4 hown hK hP 0 rfl rfl 9 (by decide) (hts _ mw_76) (fun _ h9 => h9) rfl dX4_takeRow_65 ?_
        refine lv_iload_n hx hb dX4_takeRow_68 rfl (lv_at hl 0 rfl) ?_
        refine va_iald hx hb hK hP 3 0 rfl rfl (i := nI w) (vp_in_nI (n := w) (by omega) (by omega)) dX4_takeRow_69 ?_
        refine kv (v := .int (sf w)) (by rw [nI_clamp (by omega)]) ?_
        obtain ⟨x_55, ex_55⟩ : ∃ y9 : Int32, sf w = y9 := ⟨_, rfl⟩
        refine kv (v := .int x_55) (congrArg Value.int ex_55) ?_
        refine lv_iconst (v := 1) hx hb dX4_takeRow_70 (by decide) ?_
        refine lv_isub hx hb dX4_takeRow_71 ?_
        refine lv_topi (fun x_56 ex_56 => ?_)
        refine va_put (D := D) (ci := 4) (v := .int x_56) (ty := tyX4 4) (C := RX4) (T := TX4) (N := 14) hx hb hts inlX4 tyX4 tyX4_ok nmX4 hown hK hP hD hS 0 rfl rfl 4 (by decide) (hts _ mw_71) (fun _ h9 => h9) rfl (tyX4_ok 4 (by decide)) rfl rfl (Nat.le_of_ble_eq_true rfl) dX4_takeRow_72 (fun H locs hP hD hS => ?_)
        have hP : va_P D vwCl ([(rd, .inr (4, [.ref tp, .ref d, .ref ft, .ref bl, .int x_56, .int (nI cnt), .ref wk, .int (nI sz), .ref fl, .ref sr, .int (nI cnt), .ref ca9, .ref cl, .int (nI rw)])), (d, .inl (κ 0, 6, .inl dl)), (fl, .inl (κ 2, 8, .inr (.inr (.inr (.inr ff))))), (sr, .inl (κ 0, 8, .inl sf)), (cl, .inl (κ 2, 320, .inr (.inr (.inr (.inr fc)))))] ++ im) H := hP
        have hD : va_D A ([(rd, .inr (4, [.ref tp, .ref d, .ref ft, .ref bl, .int x_56, .int (nI cnt), .ref wk, .int (nI sz), .ref fl, .ref sr, .int (nI cnt), .ref ca9, .ref cl, .int (nI rw)])), (d, .inl (κ 0, 6, .inl dl)), (fl, .inl (κ 2, 8, .inr (.inr (.inr (.inr ff))))), (sr, .inl (κ 0, 8, .inl sf)), (cl, .inl (κ 2, 320, .inr (.inr (.inr (.inr fc)))))] ++ im) := hD
        refine lv_bipush (v := 8) hx hb dX4_takeRow_75 (by decide) ?_
        exact et_iret hx hb hr hlk rfl hS (8, x_56, nI cnt, rw, fc) rfl ⟨(show rw ≤ 40 from (by first | assumption | omega | rfl | exact Or.inl (by assumption) | exact Or.inr (by assumption))), (show ((8 : Int32) = 0 ∧ wdB (dl 4) cnt w = true ∧ x_56 = nI aq ∧ rw = rw + 1 ∧ Lc κ im fc ((rw + 1) * w)) ∨ (¬ (8 : Int32) = 0 ∧ wdB (dl 4) cnt w = false) from (Or.inr ⟨by decide, wd_f2 (by omega) (show x_30 = dl 4 &&& 2 from (by rw [ex_29]; exact ex_30)) c_31⟩))⟩ (subP hP [0, 1, 2, 3, 4] rfl) (subD hD [0, 1, 2, 3, 4] (by decide) rfl) (Nat.le_of_ble_eq_true rfl) (Nat.le_of_ble_eq_true rfl) dX4_takeRow_77
  · have nc_4 := cv_nle (a := w) (b := cnt) (by omega) (by omega) c_4
    refine lv_aload_n hx hb dX4_takeRow_14 rfl (lv_at hl 1 rfl) ?_
    refine va_get (D := D) (ci := 4) (v := .ref d) (C := RX4) (T := TX4) (N := 14) hx hb hts inlX4 hown hK hP 0 rfl rfl 1 (by decide) (hts _ mw_82) (fun _ h9 => h9) rfl dX4_takeRow_15 ?_
    refine lv_iconst (v := 4) hx hb dX4_takeRow_18 (by decide) ?_
    refine va_iald hx hb hK hP 1 0 rfl rfl (i := 4) (vp_k (by decide)) dX4_takeRow_19 ?_
    obtain ⟨x_57, ex_57⟩ : ∃ y9 : Int32, dl 4 = y9 := ⟨_, rfl⟩
    refine kv (v := .int x_57) (congrArg Value.int ex_57) ?_
    refine lv_iconst (v := 1) hx hb dX4_takeRow_20 (by decide) ?_
    refine lv_iand hx hb dX4_takeRow_21 ?_
    refine lv_topi (fun x_58 ex_58 => ?_)
    refine lv_if_ne (tgt := 36) hx hb dX4_takeRow_22 (by decide) (fun c_59 => ?_) (fun c_59 => ?_)
    · refine lv_aload_n hx hb dX4_takeRow_36 rfl (lv_at hl 1 rfl) ?_
      refine va_get (D := D) (ci := 4) (v := .int (nI cnt)) (C := RX4) (T := TX4) (N := 14) hx hb hts inlX4 hown hK hP 0 rfl rfl 10 (by decide) (hts _ mw_77) (fun _ h9 => h9) rfl dX4_takeRow_37 ?_
      refine lv_iload_n hx hb dX4_takeRow_40 rfl (lv_at hl 0 rfl) ?_
      refine lv_icmp_le (tgt := 78) hx hb dX4_takeRow_41 (by decide) (fun c_60 => ?_) (fun c_60 => ?_)
      · have nc_60 := cv_le (a := cnt) (b := w) (by omega) (by omega) c_60
        refine lv_iconst (v := 0) hx hb dX4_takeRow_78 (by decide) ?_
        refine lv_istore_n (lv' := [(2, .int 0), (1, .int (nI w)), (0, .ref rd)]) hx hb dX4_takeRow_79 rfl hl (by decide) rfl (fun ls hl => ?_)
        refine loop_dn (fun k9 H locs ls => ∃ (k2_80 : Nat), ∃ (gcl_80 : Nat → Option Nat), (k2_80 ≤ w) ∧ Lc κ im gcl_80 (rw * w + k2_80) ∧ w - k2_80 = k9 ∧ va_P D vwCl ([(rd, .inr (4, [.ref tp, .ref d, .ref ft, .ref bl, .int (nI aq), .int ca, .ref wk, .int (nI sz), .ref fl, .ref sr, .int (nI cnt), .ref ca9, .ref cl, .int (nI rw)])), (d, .inl (κ 0, 6, .inl dl)), (fl, .inl (κ 2, 8, .inr (.inr (.inr (.inr ff))))), (sr, .inl (κ 0, 8, .inl sf)), (cl, .inl (κ 2, 320, .inr (.inr (.inr (.inr gcl_80)))))] ++ im) H ∧ va_D A ([(rd, .inr (4, [.ref tp, .ref d, .ref ft, .ref bl, .int (nI aq), .int ca, .ref wk, .int (nI sz), .ref fl, .ref sr, .int (nI cnt), .ref ca9, .ref cl, .int (nI rw)])), (d, .inl (κ 0, 6, .inl dl)), (fl, .inl (κ 2, 8, .inr (.inr (.inr (.inr ff))))), (sr, .inl (κ 0, 8, .inl sf)), (cl, .inl (κ 2, 320, .inr (.inr (.inr (.inr gcl_80)))))] ++ im) ∧ va_S A s.heap H locs ∧ lv_has ls 3 [(2, .int (nI k2_80)), (1, .int (nI w)), (0, .ref rd)]) (fun k9 H locs ls hI80 ih80 => ?_) (w - 0) _ _ _ ⟨0, fc, (by omega), hlc, rfl, hP, hD, hS, lv_sub hl [0, 1, 2] rfl⟩
        obtain ⟨k2_80, gcl_80, hl80_0, hq80_0, hm80, hP, hD, hS, hl⟩ := hI80
        refine lv_iload_n hx hb dX4_takeRow_80 rfl (lv_at hl 0 rfl) ?_
        refine lv_iload_n hx hb dX4_takeRow_81 rfl (lv_at hl 1 rfl) ?_
        refine lv_icmp_ge (tgt := 125) hx hb dX4_takeRow_82 (by decide) (fun c_61 => ?_) (fun c_61 => ?_)
        · have nc_61 := cv_le (a := w) (b := k2_80) (by omega) (by omega) c_61
          obtain rfl : w = k2_80 := by omega
          refine lv_aload_n hx hb dX4_takeRow_125 rfl (lv_at hl 2 rfl) ?_
          refine lv_dup hx hb dX4_takeRow_126 rfl ?_
          refine va_get (D := D) (ci := 4) (v := .int (nI rw)) (C := RX4) (T := TX4) (N := 14) hx hb hts inlX4 hown hK hP 0 rfl rfl 13 (by decide) (hts _ mw_80) (fun _ h9 => h9) rfl dX4_takeRow_127 ?_
          refine lv_iconst (v := 1) hx hb dX4_takeRow_130 (by decide) ?_
          refine lv_iadd hx hb dX4_takeRow_131 ?_
          refine ki (v := (nI (rw + 1))) (nI_add rw 1) ?_
          refine va_put (D := D) (ci := 4) (v := .int (nI (rw + 1))) (ty := tyX4 13) (C := RX4) (T := TX4) (N := 14) hx hb hts inlX4 tyX4 tyX4_ok nmX4 hown hK hP hD hS 0 rfl rfl 13 (by decide) (hts _ mw_80) (fun _ h9 => h9) rfl (tyX4_ok 13 (by decide)) rfl rfl (Nat.le_of_ble_eq_true rfl) dX4_takeRow_132 (fun H locs hP hD hS => ?_)
          have hP : va_P D vwCl ([(rd, .inr (4, [.ref tp, .ref d, .ref ft, .ref bl, .int (nI aq), .int ca, .ref wk, .int (nI sz), .ref fl, .ref sr, .int (nI cnt), .ref ca9, .ref cl, .int (nI (rw + 1))])), (d, .inl (κ 0, 6, .inl dl)), (fl, .inl (κ 2, 8, .inr (.inr (.inr (.inr ff))))), (sr, .inl (κ 0, 8, .inl sf)), (cl, .inl (κ 2, 320, .inr (.inr (.inr (.inr gcl_80)))))] ++ im) H := hP
          have hD : va_D A ([(rd, .inr (4, [.ref tp, .ref d, .ref ft, .ref bl, .int (nI aq), .int ca, .ref wk, .int (nI sz), .ref fl, .ref sr, .int (nI cnt), .ref ca9, .ref cl, .int (nI (rw + 1))])), (d, .inl (κ 0, 6, .inl dl)), (fl, .inl (κ 2, 8, .inr (.inr (.inr (.inr ff))))), (sr, .inl (κ 0, 8, .inl sf)), (cl, .inl (κ 2, 320, .inr (.inr (.inr (.inr gcl_80)))))] ++ im) := hD
          refine lv_iconst (v := 0) hx hb dX4_takeRow_135 (by decide) ?_
          exact et_iret hx hb hr hlk rfl hS (0, nI aq, ca, rw + 1, gcl_80) rfl ⟨(show (rw + 1) ≤ 40 from (by first | assumption | omega | rfl | exact Or.inl (by assumption) | exact Or.inr (by assumption))), (show ((0 : Int32) = 0 ∧ wdB (dl 4) cnt w = true ∧ (nI aq) = nI aq ∧ (rw + 1) = rw + 1 ∧ Lc κ im gcl_80 ((rw + 1) * w)) ∨ (¬ (0 : Int32) = 0 ∧ wdB (dl 4) cnt w = false) from (Or.inl ⟨rfl, wd_t (z := 0) (Or.inr ⟨_, (show x_58 = dl 4 &&& 1 from (by rw [ex_57]; exact ex_58)), c_59⟩) (Or.inl (by omega)), rfl, rfl, by rw [Nat.add_one_mul]; exact hq80_0⟩))⟩ (subP hP [0, 1, 2, 3, 4] rfl) (subD hD [0, 1, 2, 3, 4] (by decide) rfl) (Nat.le_of_ble_eq_true rfl) (Nat.le_of_ble_eq_true rfl) dX4_takeRow_136
        · have nc_61 := cv_nle (a := w) (b := k2_80) (by omega) (by omega) c_61
          refine lv_aload_n hx hb dX4_takeRow_85 rfl (lv_at hl 2 rfl) ?_
          refine va_get (D := D) (ci := 4) (v := .ref cl) (C := RX4) (T := TX4) (N := 14) hx hb hts inlX4 hown hK hP 0 rfl rfl 12 (by decide) (hts _ mw_79) (fun _ h9 => h9) rfl dX4_takeRow_86 ?_
          refine lv_aload_n hx hb dX4_takeRow_89 rfl (lv_at hl 2 rfl) ?_
          refine va_get (D := D) (ci := 4) (v := .int (nI rw)) (C := RX4) (T := TX4) (N := 14) hx hb hts inlX4 hown hK hP 0 rfl rfl 13 (by decide) (hts _ mw_80) (fun _ h9 => h9) rfl dX4_takeRow_90 ?_
          refine lv_iload_n hx hb dX4_takeRow_93 rfl (lv_at hl 1 rfl) ?_
          refine lv_imul hx hb dX4_takeRow_94 ?_
          refine ki (v := (nI (rw * w))) (pk_mul rw w) ?_
          refine lv_iload_n hx hb dX4_takeRow_95 rfl (lv_at hl 0 rfl) ?_
          refine lv_iadd hx hb dX4_takeRow_96 ?_
          refine ki (v := (nI (rw * w + k2_80))) (nI_add (rw * w) k2_80) ?_
          refine lv_iload_n hx hb dX4_takeRow_97 rfl (lv_at hl 0 rfl) ?_
          refine lv_aload_n hx hb dX4_takeRow_98 rfl (lv_at hl 2 rfl) ?_
          refine va_get (D := D) (ci := 4) (v := .int (nI cnt)) (C := RX4) (T := TX4) (N := 14) hx hb hts inlX4 hown hK hP 0 rfl rfl 10 (by decide) (hts _ mw_77) (fun _ h9 => h9) rfl dX4_takeRow_99 ?_
          refine lv_icmp_ge (tgt := 114) hx hb dX4_takeRow_102 (by decide) (fun c_62 => ?_) (fun c_62 => ?_)
          · have nc_62 := cv_le (a := cnt) (b := k2_80) (by omega) (by omega) c_62
            refine lv_aload_n hx hb dX4_takeRow_114 rfl (lv_at hl 2 rfl) ?_
            refine va_get (D := D) (ci := 4) (v := .ref bl) (C := RX4) (T := TX4) (N := 14) hx hb hts inlX4 hown hK hP 0 rfl rfl 3 (by decide) (hts _ mw_70) (fun _ h9 => h9) rfl dX4_takeRow_115 ?_
            obtain ⟨hk_63, b_64, x_65, hm_66, hb_67⟩ := id hbl
            have hn_b_64 := hb_67.1
            obtain ⟨k_68, ek_68⟩ := tl_at [(rd, .inr (4, [.ref tp, .ref d, .ref ft, .ref bl, .int (nI aq), .int ca, .ref wk, .int (nI sz), .ref fl, .ref sr, .int (nI cnt), .ref ca9, .ref cl, .int (nI rw)])), (d, .inl (κ 0, 6, .inl dl)), (fl, .inl (κ 2, 8, .inr (.inr (.inr (.inr ff))))), (sr, .inl (κ 0, 8, .inl sf)), (cl, .inl (κ 2, 320, .inr (.inr (.inr (.inr gcl_80)))))] hm_66
            refine va_astq hx hb hK hP hD hS 4 2 k_68 0 rfl rfl ek_68 rfl (i := nI (rw * w + k2_80)) (vp_in_nI (n := rw * w + k2_80) (by have q9 := ix_lt (R := 40) (w := w) (r := rw) (c := k2_80) (by omega) (by omega); omega) (by have q9 := ix_lt (R := 40) (w := w) (r := rw) (c := k2_80) (by omega) (by omega); omega)) dX4_takeRow_118 (fun H locs hP hD hS => ?_)
            rw [nI_clamp (by have q9 := ix_lt (R := 40) (w := w) (r := rw) (c := k2_80) (by omega) (by omega); omega)] at hP hD
            have hP : va_P D vwCl ([(rd, .inr (4, [.ref tp, .ref d, .ref ft, .ref bl, .int (nI aq), .int ca, .ref wk, .int (nI sz), .ref fl, .ref sr, .int (nI cnt), .ref ca9, .ref cl, .int (nI rw)])), (d, .inl (κ 0, 6, .inl dl)), (fl, .inl (κ 2, 8, .inr (.inr (.inr (.inr ff))))), (sr, .inl (κ 0, 8, .inl sf)), (cl, .inl (κ 2, 320, .inr (.inr (.inr (.inr (va_up gcl_80 (rw * w + k2_80) (some bl)))))))] ++ im) H := hP
            have hD : va_D A ([(rd, .inr (4, [.ref tp, .ref d, .ref ft, .ref bl, .int (nI aq), .int ca, .ref wk, .int (nI sz), .ref fl, .ref sr, .int (nI cnt), .ref ca9, .ref cl, .int (nI rw)])), (d, .inl (κ 0, 6, .inl dl)), (fl, .inl (κ 2, 8, .inr (.inr (.inr (.inr ff))))), (sr, .inl (κ 0, 8, .inl sf)), (cl, .inl (κ 2, 320, .inr (.inr (.inr (.inr (va_up gcl_80 (rw * w + k2_80) (some bl)))))))] ++ im) := hD
            have hf_70 : Lc κ im (va_up gcl_80 (rw * w + k2_80) (some bl)) (rw * w + k2_80 + 1) := Lc_add hq80_0 hbl
            generalize va_up gcl_80 (rw * w + k2_80) (some bl) = g_69 at hP hD hf_70
            refine lv_iinc (v := (nI (k2_80 + 1))) (lv' := [(2, .int (nI (k2_80 + 1))), (1, .int (nI w)), (0, .ref rd)]) hx hb dX4_takeRow_119 hl (k := 0) rfl (nI_i k2_80) (by decide) rfl (fun ls hl => ?_)
            refine lv_goto (tgt := 80) hx hb dX4_takeRow_122 (by decide) ?_
            exact ih80 _ _ _ _ (by omega) ⟨(k2_80 + 1), g_69, (by omega), hf_70, rfl, hP, hD, hS, lv_sub hl [0, 1, 2] rfl⟩
          · have nc_62 := cv_nle (a := cnt) (b := k2_80) (by omega) (by omega) c_62
            refine lv_aload_n hx hb dX4_takeRow_105 rfl (lv_at hl 2 rfl) ?_
            refine va_get (D := D) (ci := 4) (v := .ref fl) (C := RX4) (T := TX4) (N := 14) hx hb hts inlX4 hown hK hP 0 rfl rfl 8 (by decide) (hts _ mw_75) (fun _ h9 => h9) rfl dX4_takeRow_106 ?_
            refine lv_iload_n hx hb dX4_takeRow_109 rfl (lv_at hl 0 rfl) ?_
            refine va_aldq hx hb hK hP 2 2 rfl rfl (i := nI k2_80) (vp_in_nI (n := k2_80) (by omega) (by omega)) dX4_takeRow_110 ?_
            obtain ⟨q_71, e_72, k_73, m_74, h_75⟩ := hlf k2_80 (by omega)
            refine kv (v := .ref q_71) (by rw [nI_clamp (by omega)]; rw [e_72]; rfl) ?_
            refine lv_goto (tgt := 118) hx hb dX4_takeRow_111 (by decide) ?_
            obtain ⟨hk_76, b_77, x_78, hm_79, hb_80⟩ := id h_75
            have hn_b_77 := hb_80.1
            obtain ⟨k_81, ek_81⟩ := tl_at [(rd, .inr (4, [.ref tp, .ref d, .ref ft, .ref bl, .int (nI aq), .int ca, .ref wk, .int (nI sz), .ref fl, .ref sr, .int (nI cnt), .ref ca9, .ref cl, .int (nI rw)])), (d, .inl (κ 0, 6, .inl dl)), (fl, .inl (κ 2, 8, .inr (.inr (.inr (.inr ff))))), (sr, .inl (κ 0, 8, .inl sf)), (cl, .inl (κ 2, 320, .inr (.inr (.inr (.inr gcl_80)))))] hm_79
            refine va_astq hx hb hK hP hD hS 4 2 k_81 0 rfl rfl ek_81 rfl (i := nI (rw * w + k2_80)) (vp_in_nI (n := rw * w + k2_80) (by have q9 := ix_lt (R := 40) (w := w) (r := rw) (c := k2_80) (by omega) (by omega); omega) (by have q9 := ix_lt (R := 40) (w := w) (r := rw) (c := k2_80) (by omega) (by omega); omega)) dX4_takeRow_118 (fun H locs hP hD hS => ?_)
            rw [nI_clamp (by have q9 := ix_lt (R := 40) (w := w) (r := rw) (c := k2_80) (by omega) (by omega); omega)] at hP hD
            have hP : va_P D vwCl ([(rd, .inr (4, [.ref tp, .ref d, .ref ft, .ref bl, .int (nI aq), .int ca, .ref wk, .int (nI sz), .ref fl, .ref sr, .int (nI cnt), .ref ca9, .ref cl, .int (nI rw)])), (d, .inl (κ 0, 6, .inl dl)), (fl, .inl (κ 2, 8, .inr (.inr (.inr (.inr ff))))), (sr, .inl (κ 0, 8, .inl sf)), (cl, .inl (κ 2, 320, .inr (.inr (.inr (.inr (va_up gcl_80 (rw * w + k2_80) (some q_71)))))))] ++ im) H := hP
            have hD : va_D A ([(rd, .inr (4, [.ref tp, .ref d, .ref ft, .ref bl, .int (nI aq), .int ca, .ref wk, .int (nI sz), .ref fl, .ref sr, .int (nI cnt), .ref ca9, .ref cl, .int (nI rw)])), (d, .inl (κ 0, 6, .inl dl)), (fl, .inl (κ 2, 8, .inr (.inr (.inr (.inr ff))))), (sr, .inl (κ 0, 8, .inl sf)), (cl, .inl (κ 2, 320, .inr (.inr (.inr (.inr (va_up gcl_80 (rw * w + k2_80) (some q_71)))))))] ++ im) := hD
            have hf_83 : Lc κ im (va_up gcl_80 (rw * w + k2_80) (some q_71)) (rw * w + k2_80 + 1) := Lc_add hq80_0 h_75
            generalize va_up gcl_80 (rw * w + k2_80) (some q_71) = g_82 at hP hD hf_83
            refine lv_iinc (v := (nI (k2_80 + 1))) (lv' := [(2, .int (nI (k2_80 + 1))), (1, .int (nI w)), (0, .ref rd)]) hx hb dX4_takeRow_119 hl (k := 0) rfl (nI_i k2_80) (by decide) rfl (fun ls hl => ?_)
            refine lv_goto (tgt := 80) hx hb dX4_takeRow_122 (by decide) ?_
            exact ih80 _ _ _ _ (by omega) ⟨(k2_80 + 1), g_82, (by omega), hf_83, rfl, hP, hD, hS, lv_sub hl [0, 1, 2] rfl⟩
      · have nc_60 := cv_nle (a := cnt) (b := w) (by omega) (by omega) c_60
        refine lv_aload_n hx hb dX4_takeRow_44 rfl (lv_at hl 1 rfl) ?_
        refine va_get (D := D) (ci := 4) (v := .ref d) (C := RX4) (T := TX4) (N := 14) hx hb hts inlX4 hown hK hP 0 rfl rfl 1 (by decide) (hts _ mw_82) (fun _ h9 => h9) rfl dX4_takeRow_45 ?_
        refine lv_iconst (v := 4) hx hb dX4_takeRow_48 (by decide) ?_
        refine va_iald hx hb hK hP 1 0 rfl rfl (i := 4) (vp_k (by decide)) dX4_takeRow_49 ?_
        refine kv (v := .int x_57) (congrArg Value.int (ex_57)) ?_
        refine lv_iconst (v := 2) hx hb dX4_takeRow_50 (by decide) ?_
        refine lv_iand hx hb dX4_takeRow_51 ?_
        refine lv_topi (fun x_84 ex_84 => ?_)
        refine lv_if_ne (tgt := 78) hx hb dX4_takeRow_52 (by decide) (fun c_85 => ?_) (fun c_85 => ?_)
        · refine lv_iconst (v := 0) hx hb dX4_takeRow_78 (by decide) ?_
          refine lv_istore_n (lv' := [(2, .int 0), (1, .int (nI w)), (0, .ref rd)]) hx hb dX4_takeRow_79 rfl hl (by decide) rfl (fun ls hl => ?_)
          refine loop_dn (fun k9 H locs ls => ∃ (k2_80 : Nat), ∃ (gcl_80 : Nat → Option Nat), (k2_80 ≤ w) ∧ Lc κ im gcl_80 (rw * w + k2_80) ∧ w - k2_80 = k9 ∧ va_P D vwCl ([(rd, .inr (4, [.ref tp, .ref d, .ref ft, .ref bl, .int (nI aq), .int ca, .ref wk, .int (nI sz), .ref fl, .ref sr, .int (nI cnt), .ref ca9, .ref cl, .int (nI rw)])), (d, .inl (κ 0, 6, .inl dl)), (fl, .inl (κ 2, 8, .inr (.inr (.inr (.inr ff))))), (sr, .inl (κ 0, 8, .inl sf)), (cl, .inl (κ 2, 320, .inr (.inr (.inr (.inr gcl_80)))))] ++ im) H ∧ va_D A ([(rd, .inr (4, [.ref tp, .ref d, .ref ft, .ref bl, .int (nI aq), .int ca, .ref wk, .int (nI sz), .ref fl, .ref sr, .int (nI cnt), .ref ca9, .ref cl, .int (nI rw)])), (d, .inl (κ 0, 6, .inl dl)), (fl, .inl (κ 2, 8, .inr (.inr (.inr (.inr ff))))), (sr, .inl (κ 0, 8, .inl sf)), (cl, .inl (κ 2, 320, .inr (.inr (.inr (.inr gcl_80)))))] ++ im) ∧ va_S A s.heap H locs ∧ lv_has ls 3 [(2, .int (nI k2_80)), (1, .int (nI w)), (0, .ref rd)]) (fun k9 H locs ls hI80 ih80 => ?_) (w - 0) _ _ _ ⟨0, fc, (by omega), hlc, rfl, hP, hD, hS, lv_sub hl [0, 1, 2] rfl⟩
          obtain ⟨k2_80, gcl_80, hl80_0, hq80_0, hm80, hP, hD, hS, hl⟩ := hI80
          refine lv_iload_n hx hb dX4_takeRow_80 rfl (lv_at hl 0 rfl) ?_
          refine lv_iload_n hx hb dX4_takeRow_81 rfl (lv_at hl 1 rfl) ?_
          refine lv_icmp_ge (tgt := 125) hx hb dX4_takeRow_82 (by decide) (fun c_86 => ?_) (fun c_86 => ?_)
          · have nc_86 := cv_le (a := w) (b := k2_80) (by omega) (by omega) c_86
            obtain rfl : w = k2_80 := by omega
            refine lv_aload_n hx hb dX4_takeRow_125 rfl (lv_at hl 2 rfl) ?_
            refine lv_dup hx hb dX4_takeRow_126 rfl ?_
            refine va_get (D := D) (ci := 4) (v := .int (nI rw)) (C := RX4) (T := TX4) (N := 14) hx hb hts inlX4 hown hK hP 0 rfl rfl 13 (by decide) (hts _ mw_80) (fun _ h9 => h9) rfl dX4_takeRow_127 ?_
            refine lv_iconst (v := 1) hx hb dX4_takeRow_130 (by decide) ?_
            refine lv_iadd hx hb dX4_takeRow_131 ?_
            refine ki (v := (nI (rw + 1))) (nI_add rw 1) ?_
            refine va_put (D := D) (ci := 4) (v := .int (nI (rw + 1))) (ty := tyX4 13) (C := RX4) (T := TX4) (N := 14) hx hb hts inlX4 tyX4 tyX4_ok nmX4 hown hK hP hD hS 0 rfl rfl 13 (by decide) (hts _ mw_80) (fun _ h9 => h9) rfl (tyX4_ok 13 (by decide)) rfl rfl (Nat.le_of_ble_eq_true rfl) dX4_takeRow_132 (fun H locs hP hD hS => ?_)
            have hP : va_P D vwCl ([(rd, .inr (4, [.ref tp, .ref d, .ref ft, .ref bl, .int (nI aq), .int ca, .ref wk, .int (nI sz), .ref fl, .ref sr, .int (nI cnt), .ref ca9, .ref cl, .int (nI (rw + 1))])), (d, .inl (κ 0, 6, .inl dl)), (fl, .inl (κ 2, 8, .inr (.inr (.inr (.inr ff))))), (sr, .inl (κ 0, 8, .inl sf)), (cl, .inl (κ 2, 320, .inr (.inr (.inr (.inr gcl_80)))))] ++ im) H := hP
            have hD : va_D A ([(rd, .inr (4, [.ref tp, .ref d, .ref ft, .ref bl, .int (nI aq), .int ca, .ref wk, .int (nI sz), .ref fl, .ref sr, .int (nI cnt), .ref ca9, .ref cl, .int (nI (rw + 1))])), (d, .inl (κ 0, 6, .inl dl)), (fl, .inl (κ 2, 8, .inr (.inr (.inr (.inr ff))))), (sr, .inl (κ 0, 8, .inl sf)), (cl, .inl (κ 2, 320, .inr (.inr (.inr (.inr gcl_80)))))] ++ im) := hD
            refine lv_iconst (v := 0) hx hb dX4_takeRow_135 (by decide) ?_
            exact et_iret hx hb hr hlk rfl hS (0, nI aq, ca, rw + 1, gcl_80) rfl ⟨(show (rw + 1) ≤ 40 from (by first | assumption | omega | rfl | exact Or.inl (by assumption) | exact Or.inr (by assumption))), (show ((0 : Int32) = 0 ∧ wdB (dl 4) cnt w = true ∧ (nI aq) = nI aq ∧ (rw + 1) = rw + 1 ∧ Lc κ im gcl_80 ((rw + 1) * w)) ∨ (¬ (0 : Int32) = 0 ∧ wdB (dl 4) cnt w = false) from (Or.inl ⟨rfl, wd_t (z := 0) (Or.inr ⟨_, (show x_58 = dl 4 &&& 1 from (by rw [ex_57]; exact ex_58)), c_59⟩) (Or.inr ⟨_, (show x_84 = dl 4 &&& 2 from (by rw [ex_57]; exact ex_84)), c_85⟩), rfl, rfl, by rw [Nat.add_one_mul]; exact hq80_0⟩))⟩ (subP hP [0, 1, 2, 3, 4] rfl) (subD hD [0, 1, 2, 3, 4] (by decide) rfl) (Nat.le_of_ble_eq_true rfl) (Nat.le_of_ble_eq_true rfl) dX4_takeRow_136
          · have nc_86 := cv_nle (a := w) (b := k2_80) (by omega) (by omega) c_86
            refine lv_aload_n hx hb dX4_takeRow_85 rfl (lv_at hl 2 rfl) ?_
            refine va_get (D := D) (ci := 4) (v := .ref cl) (C := RX4) (T := TX4) (N := 14) hx hb hts inlX4 hown hK hP 0 rfl rfl 12 (by decide) (hts _ mw_79) (fun _ h9 => h9) rfl dX4_takeRow_86 ?_
            refine lv_aload_n hx hb dX4_takeRow_89 rfl (lv_at hl 2 rfl) ?_
            refine va_get (D := D) (ci := 4) (v := .int (nI rw)) (C := RX4) (T := TX4) (N := 14) hx hb hts inlX4 hown hK hP 0 rfl rfl 13 (by decide) (hts _ mw_80) (fun _ h9 => h9) rfl dX4_takeRow_90 ?_
            refine lv_iload_n hx hb dX4_takeRow_93 rfl (lv_at hl 1 rfl) ?_
            refine lv_imul hx hb dX4_takeRow_94 ?_
            refine ki (v := (nI (rw * w))) (pk_mul rw w) ?_
            refine lv_iload_n hx hb dX4_takeRow_95 rfl (lv_at hl 0 rfl) ?_
            refine lv_iadd hx hb dX4_takeRow_96 ?_
            refine ki (v := (nI (rw * w + k2_80))) (nI_add (rw * w) k2_80) ?_
            refine lv_iload_n hx hb dX4_takeRow_97 rfl (lv_at hl 0 rfl) ?_
            refine lv_aload_n hx hb dX4_takeRow_98 rfl (lv_at hl 2 rfl) ?_
            refine va_get (D := D) (ci := 4) (v := .int (nI cnt)) (C := RX4) (T := TX4) (N := 14) hx hb hts inlX4 hown hK hP 0 rfl rfl 10 (by decide) (hts _ mw_77) (fun _ h9 => h9) rfl dX4_takeRow_99 ?_
            refine lv_icmp_ge (tgt := 114) hx hb dX4_takeRow_102 (by decide) (fun c_87 => ?_) (fun c_87 => ?_)
            · have nc_87 := cv_le (a := cnt) (b := k2_80) (by omega) (by omega) c_87
              refine lv_aload_n hx hb dX4_takeRow_114 rfl (lv_at hl 2 rfl) ?_
              refine va_get (D := D) (ci := 4) (v := .ref bl) (C := RX4) (T := TX4) (N := 14) hx hb hts inlX4 hown hK hP 0 rfl rfl 3 (by decide) (hts _ mw_70) (fun _ h9 => h9) rfl dX4_takeRow_115 ?_
              obtain ⟨hk_88, b_89, x_90, hm_91, hb_92⟩ := id hbl
              have hn_b_89 := hb_92.1
              obtain ⟨k_93, ek_93⟩ := tl_at [(rd, .inr (4, [.ref tp, .ref d, .ref ft, .ref bl, .int (nI aq), .int ca, .ref wk, .int (nI sz), .ref fl, .ref sr, .int (nI cnt), .ref ca9, .ref cl, .int (nI rw)])), (d, .inl (κ 0, 6, .inl dl)), (fl, .inl (κ 2, 8, .inr (.inr (.inr (.inr ff))))), (sr, .inl (κ 0, 8, .inl sf)), (cl, .inl (κ 2, 320, .inr (.inr (.inr (.inr gcl_80)))))] hm_91
              refine va_astq hx hb hK hP hD hS 4 2 k_93 0 rfl rfl ek_93 rfl (i := nI (rw * w + k2_80)) (vp_in_nI (n := rw * w + k2_80) (by have q9 := ix_lt (R := 40) (w := w) (r := rw) (c := k2_80) (by omega) (by omega); omega) (by have q9 := ix_lt (R := 40) (w := w) (r := rw) (c := k2_80) (by omega) (by omega); omega)) dX4_takeRow_118 (fun H locs hP hD hS => ?_)
              rw [nI_clamp (by have q9 := ix_lt (R := 40) (w := w) (r := rw) (c := k2_80) (by omega) (by omega); omega)] at hP hD
              have hP : va_P D vwCl ([(rd, .inr (4, [.ref tp, .ref d, .ref ft, .ref bl, .int (nI aq), .int ca, .ref wk, .int (nI sz), .ref fl, .ref sr, .int (nI cnt), .ref ca9, .ref cl, .int (nI rw)])), (d, .inl (κ 0, 6, .inl dl)), (fl, .inl (κ 2, 8, .inr (.inr (.inr (.inr ff))))), (sr, .inl (κ 0, 8, .inl sf)), (cl, .inl (κ 2, 320, .inr (.inr (.inr (.inr (va_up gcl_80 (rw * w + k2_80) (some bl)))))))] ++ im) H := hP
              have hD : va_D A ([(rd, .inr (4, [.ref tp, .ref d, .ref ft, .ref bl, .int (nI aq), .int ca, .ref wk, .int (nI sz), .ref fl, .ref sr, .int (nI cnt), .ref ca9, .ref cl, .int (nI rw)])), (d, .inl (κ 0, 6, .inl dl)), (fl, .inl (κ 2, 8, .inr (.inr (.inr (.inr ff))))), (sr, .inl (κ 0, 8, .inl sf)), (cl, .inl (κ 2, 320, .inr (.inr (.inr (.inr (va_up gcl_80 (rw * w + k2_80) (some bl)))))))] ++ im) := hD
              have hf_95 : Lc κ im (va_up gcl_80 (rw * w + k2_80) (some bl)) (rw * w + k2_80 + 1) := Lc_add hq80_0 hbl
              generalize va_up gcl_80 (rw * w + k2_80) (some bl) = g_94 at hP hD hf_95
              refine lv_iinc (v := (nI (k2_80 + 1))) (lv' := [(2, .int (nI (k2_80 + 1))), (1, .int (nI w)), (0, .ref rd)]) hx hb dX4_takeRow_119 hl (k := 0) rfl (nI_i k2_80) (by decide) rfl (fun ls hl => ?_)
              refine lv_goto (tgt := 80) hx hb dX4_takeRow_122 (by decide) ?_
              exact ih80 _ _ _ _ (by omega) ⟨(k2_80 + 1), g_94, (by omega), hf_95, rfl, hP, hD, hS, lv_sub hl [0, 1, 2] rfl⟩
            · have nc_87 := cv_nle (a := cnt) (b := k2_80) (by omega) (by omega) c_87
              refine lv_aload_n hx hb dX4_takeRow_105 rfl (lv_at hl 2 rfl) ?_
              refine va_get (D := D) (ci := 4) (v := .ref fl) (C := RX4) (T := TX4) (N := 14) hx hb hts inlX4 hown hK hP 0 rfl rfl 8 (by decide) (hts _ mw_75) (fun _ h9 => h9) rfl dX4_takeRow_106 ?_
              refine lv_iload_n hx hb dX4_takeRow_109 rfl (lv_at hl 0 rfl) ?_
              refine va_aldq hx hb hK hP 2 2 rfl rfl (i := nI k2_80) (vp_in_nI (n := k2_80) (by omega) (by omega)) dX4_takeRow_110 ?_
              obtain ⟨q_96, e_97, k_98, m_99, h_100⟩ := hlf k2_80 (by omega)
              refine kv (v := .ref q_96) (by rw [nI_clamp (by omega)]; rw [e_97]; rfl) ?_
              refine lv_goto (tgt := 118) hx hb dX4_takeRow_111 (by decide) ?_
              obtain ⟨hk_101, b_102, x_103, hm_104, hb_105⟩ := id h_100
              have hn_b_102 := hb_105.1
              obtain ⟨k_106, ek_106⟩ := tl_at [(rd, .inr (4, [.ref tp, .ref d, .ref ft, .ref bl, .int (nI aq), .int ca, .ref wk, .int (nI sz), .ref fl, .ref sr, .int (nI cnt), .ref ca9, .ref cl, .int (nI rw)])), (d, .inl (κ 0, 6, .inl dl)), (fl, .inl (κ 2, 8, .inr (.inr (.inr (.inr ff))))), (sr, .inl (κ 0, 8, .inl sf)), (cl, .inl (κ 2, 320, .inr (.inr (.inr (.inr gcl_80)))))] hm_104
              refine va_astq hx hb hK hP hD hS 4 2 k_106 0 rfl rfl ek_106 rfl (i := nI (rw * w + k2_80)) (vp_in_nI (n := rw * w + k2_80) (by have q9 := ix_lt (R := 40) (w := w) (r := rw) (c := k2_80) (by omega) (by omega); omega) (by have q9 := ix_lt (R := 40) (w := w) (r := rw) (c := k2_80) (by omega) (by omega); omega)) dX4_takeRow_118 (fun H locs hP hD hS => ?_)
              rw [nI_clamp (by have q9 := ix_lt (R := 40) (w := w) (r := rw) (c := k2_80) (by omega) (by omega); omega)] at hP hD
              have hP : va_P D vwCl ([(rd, .inr (4, [.ref tp, .ref d, .ref ft, .ref bl, .int (nI aq), .int ca, .ref wk, .int (nI sz), .ref fl, .ref sr, .int (nI cnt), .ref ca9, .ref cl, .int (nI rw)])), (d, .inl (κ 0, 6, .inl dl)), (fl, .inl (κ 2, 8, .inr (.inr (.inr (.inr ff))))), (sr, .inl (κ 0, 8, .inl sf)), (cl, .inl (κ 2, 320, .inr (.inr (.inr (.inr (va_up gcl_80 (rw * w + k2_80) (some q_96)))))))] ++ im) H := hP
              have hD : va_D A ([(rd, .inr (4, [.ref tp, .ref d, .ref ft, .ref bl, .int (nI aq), .int ca, .ref wk, .int (nI sz), .ref fl, .ref sr, .int (nI cnt), .ref ca9, .ref cl, .int (nI rw)])), (d, .inl (κ 0, 6, .inl dl)), (fl, .inl (κ 2, 8, .inr (.inr (.inr (.inr ff))))), (sr, .inl (κ 0, 8, .inl sf)), (cl, .inl (κ 2, 320, .inr (.inr (.inr (.inr (va_up gcl_80 (rw * w + k2_80) (some q_96)))))))] ++ im) := hD
              have hf_108 : Lc κ im (va_up gcl_80 (rw * w + k2_80) (some q_96)) (rw * w + k2_80 + 1) := Lc_add hq80_0 h_100
              generalize va_up gcl_80 (rw * w + k2_80) (some q_96) = g_107 at hP hD hf_108
              refine lv_iinc (v := (nI (k2_80 + 1))) (lv' := [(2, .int (nI (k2_80 + 1))), (1, .int (nI w)), (0, .ref rd)]) hx hb dX4_takeRow_119 hl (k := 0) rfl (nI_i k2_80) (by decide) rfl (fun ls hl => ?_)
              refine lv_goto (tgt := 80) hx hb dX4_takeRow_122 (by decide) ?_
              exact ih80 _ _ _ _ (by omega) ⟨(k2_80 + 1), g_107, (by omega), hf_108, rfl, hP, hD, hS, lv_sub hl [0, 1, 2] rfl⟩
        · refine lv_aload_n hx hb dX4_takeRow_55 rfl (lv_at hl 1 rfl) ?_
          refine lv_aload_n hx hb dX4_takeRow_56 rfl (lv_at hl 1 rfl) ?_
          refine va_get (D := D) (ci := 4) (v := .int (nI cnt)) (C := RX4) (T := TX4) (N := 14) hx hb hts inlX4 hown hK hP 0 rfl rfl 10 (by decide) (hts _ mw_77) (fun _ h9 => h9) rfl dX4_takeRow_57 ?_
          refine va_put (D := D) (ci := 4) (v := .int (nI cnt)) (ty := tyX4 5) (C := RX4) (T := TX4) (N := 14) hx hb hts inlX4 tyX4 tyX4_ok nmX4 hown hK hP hD hS 0 rfl rfl 5 (by decide) (hts _ mw_72) (fun _ h9 => h9) rfl (tyX4_ok 5 (by decide)) rfl rfl (Nat.le_of_ble_eq_true rfl) dX4_takeRow_60 (fun H locs hP hD hS => ?_)
          have hP : va_P D vwCl ([(rd, .inr (4, [.ref tp, .ref d, .ref ft, .ref bl, .int (nI aq), .int (nI cnt), .ref wk, .int (nI sz), .ref fl, .ref sr, .int (nI cnt), .ref ca9, .ref cl, .int (nI rw)])), (d, .inl (κ 0, 6, .inl dl)), (fl, .inl (κ 2, 8, .inr (.inr (.inr (.inr ff))))), (sr, .inl (κ 0, 8, .inl sf)), (cl, .inl (κ 2, 320, .inr (.inr (.inr (.inr fc)))))] ++ im) H := hP
          have hD : va_D A ([(rd, .inr (4, [.ref tp, .ref d, .ref ft, .ref bl, .int (nI aq), .int (nI cnt), .ref wk, .int (nI sz), .ref fl, .ref sr, .int (nI cnt), .ref ca9, .ref cl, .int (nI rw)])), (d, .inl (κ 0, 6, .inl dl)), (fl, .inl (κ 2, 8, .inr (.inr (.inr (.inr ff))))), (sr, .inl (κ 0, 8, .inl sf)), (cl, .inl (κ 2, 320, .inr (.inr (.inr (.inr fc)))))] ++ im) := hD
          refine lv_aload_n hx hb dX4_takeRow_63 rfl (lv_at hl 1 rfl) ?_
          refine lv_aload_n hx hb dX4_takeRow_64 rfl (lv_at hl 1 rfl) ?_
          refine va_get (D := D) (ci := 4) (v := .ref sr) (C := RX4) (T := TX4) (N := 14) hx hb hts inlX4 hown hK hP 0 rfl rfl 9 (by decide) (hts _ mw_76) (fun _ h9 => h9) rfl dX4_takeRow_65 ?_
          refine lv_iload_n hx hb dX4_takeRow_68 rfl (lv_at hl 0 rfl) ?_
          refine va_iald hx hb hK hP 3 0 rfl rfl (i := nI w) (vp_in_nI (n := w) (by omega) (by omega)) dX4_takeRow_69 ?_
          refine kv (v := .int (sf w)) (by rw [nI_clamp (by omega)]) ?_
          obtain ⟨x_109, ex_109⟩ : ∃ y9 : Int32, sf w = y9 := ⟨_, rfl⟩
          refine kv (v := .int x_109) (congrArg Value.int ex_109) ?_
          refine lv_iconst (v := 1) hx hb dX4_takeRow_70 (by decide) ?_
          refine lv_isub hx hb dX4_takeRow_71 ?_
          refine lv_topi (fun x_110 ex_110 => ?_)
          refine va_put (D := D) (ci := 4) (v := .int x_110) (ty := tyX4 4) (C := RX4) (T := TX4) (N := 14) hx hb hts inlX4 tyX4 tyX4_ok nmX4 hown hK hP hD hS 0 rfl rfl 4 (by decide) (hts _ mw_71) (fun _ h9 => h9) rfl (tyX4_ok 4 (by decide)) rfl rfl (Nat.le_of_ble_eq_true rfl) dX4_takeRow_72 (fun H locs hP hD hS => ?_)
          have hP : va_P D vwCl ([(rd, .inr (4, [.ref tp, .ref d, .ref ft, .ref bl, .int x_110, .int (nI cnt), .ref wk, .int (nI sz), .ref fl, .ref sr, .int (nI cnt), .ref ca9, .ref cl, .int (nI rw)])), (d, .inl (κ 0, 6, .inl dl)), (fl, .inl (κ 2, 8, .inr (.inr (.inr (.inr ff))))), (sr, .inl (κ 0, 8, .inl sf)), (cl, .inl (κ 2, 320, .inr (.inr (.inr (.inr fc)))))] ++ im) H := hP
          have hD : va_D A ([(rd, .inr (4, [.ref tp, .ref d, .ref ft, .ref bl, .int x_110, .int (nI cnt), .ref wk, .int (nI sz), .ref fl, .ref sr, .int (nI cnt), .ref ca9, .ref cl, .int (nI rw)])), (d, .inl (κ 0, 6, .inl dl)), (fl, .inl (κ 2, 8, .inr (.inr (.inr (.inr ff))))), (sr, .inl (κ 0, 8, .inl sf)), (cl, .inl (κ 2, 320, .inr (.inr (.inr (.inr fc)))))] ++ im) := hD
          refine lv_bipush (v := 8) hx hb dX4_takeRow_75 (by decide) ?_
          exact et_iret hx hb hr hlk rfl hS (8, x_110, nI cnt, rw, fc) rfl ⟨(show rw ≤ 40 from (by first | assumption | omega | rfl | exact Or.inl (by assumption) | exact Or.inr (by assumption))), (show ((8 : Int32) = 0 ∧ wdB (dl 4) cnt w = true ∧ x_110 = nI aq ∧ rw = rw + 1 ∧ Lc κ im fc ((rw + 1) * w)) ∨ (¬ (8 : Int32) = 0 ∧ wdB (dl 4) cnt w = false) from (Or.inr ⟨by decide, wd_f2 (by omega) (show x_84 = dl 4 &&& 2 from (by rw [ex_57]; exact ex_84)) c_85⟩))⟩ (subP hP [0, 1, 2, 3, 4] rfl) (subD hD [0, 1, 2, 3, 4] (by decide) rfl) (Nat.le_of_ble_eq_true rfl) (Nat.le_of_ble_eq_true rfl) dX4_takeRow_77
    · refine lv_aload_n hx hb dX4_takeRow_25 rfl (lv_at hl 1 rfl) ?_
      refine lv_aload_n hx hb dX4_takeRow_26 rfl (lv_at hl 1 rfl) ?_
      refine va_get (D := D) (ci := 4) (v := .int (nI cnt)) (C := RX4) (T := TX4) (N := 14) hx hb hts inlX4 hown hK hP 0 rfl rfl 10 (by decide) (hts _ mw_77) (fun _ h9 => h9) rfl dX4_takeRow_27 ?_
      refine va_put (D := D) (ci := 4) (v := .int (nI cnt)) (ty := tyX4 5) (C := RX4) (T := TX4) (N := 14) hx hb hts inlX4 tyX4 tyX4_ok nmX4 hown hK hP hD hS 0 rfl rfl 5 (by decide) (hts _ mw_72) (fun _ h9 => h9) rfl (tyX4_ok 5 (by decide)) rfl rfl (Nat.le_of_ble_eq_true rfl) dX4_takeRow_30 (fun H locs hP hD hS => ?_)
      have hP : va_P D vwCl ([(rd, .inr (4, [.ref tp, .ref d, .ref ft, .ref bl, .int (nI aq), .int (nI cnt), .ref wk, .int (nI sz), .ref fl, .ref sr, .int (nI cnt), .ref ca9, .ref cl, .int (nI rw)])), (d, .inl (κ 0, 6, .inl dl)), (fl, .inl (κ 2, 8, .inr (.inr (.inr (.inr ff))))), (sr, .inl (κ 0, 8, .inl sf)), (cl, .inl (κ 2, 320, .inr (.inr (.inr (.inr fc)))))] ++ im) H := hP
      have hD : va_D A ([(rd, .inr (4, [.ref tp, .ref d, .ref ft, .ref bl, .int (nI aq), .int (nI cnt), .ref wk, .int (nI sz), .ref fl, .ref sr, .int (nI cnt), .ref ca9, .ref cl, .int (nI rw)])), (d, .inl (κ 0, 6, .inl dl)), (fl, .inl (κ 2, 8, .inr (.inr (.inr (.inr ff))))), (sr, .inl (κ 0, 8, .inl sf)), (cl, .inl (κ 2, 320, .inr (.inr (.inr (.inr fc)))))] ++ im) := hD
      refine lv_bipush (v := 8) hx hb dX4_takeRow_33 (by decide) ?_
      exact et_iret hx hb hr hlk rfl hS (8, nI aq, nI cnt, rw, fc) rfl ⟨(show rw ≤ 40 from (by first | assumption | omega | rfl | exact Or.inl (by assumption) | exact Or.inr (by assumption))), (show ((8 : Int32) = 0 ∧ wdB (dl 4) cnt w = true ∧ (nI aq) = nI aq ∧ rw = rw + 1 ∧ Lc κ im fc ((rw + 1) * w)) ∨ (¬ (8 : Int32) = 0 ∧ wdB (dl 4) cnt w = false) from (Or.inr ⟨by decide, wd_f1 (by omega) (show x_58 = dl 4 &&& 1 from (by rw [ex_57]; exact ex_58)) c_59⟩))⟩ (subP hP [0, 1, 2, 3, 4] rfl) (subD hD [0, 1, 2, 3, 4] (by decide) rfl) (Nat.le_of_ble_eq_true rfl) (Nat.le_of_ble_eq_true rfl) dX4_takeRow_35
set_option maxHeartbeats 4000000 in
set_option maxRecDepth 100000 in
theorem c_X4_toLine_S (l : Launch) (D : va_G) (κ : Nat → ClassId) (κq : Nat → Nat) (rd : Nat) (tp : Nat) (d : Nat) (ft : Nat) (bl : Nat) (aq : Nat) (wk : Nat) (sz : Nat) (fl : Nat) (sr : Nat) (cnt : Nat) (cl : Nat) (rw : Nat) (ca : Int32) (cv : Value) (tb : Nat) (L : Nat) (tf : Nat → Int32) (dl : Nat → Int32) (hL8 : L ≤ 800) (hat : aq ≤ L) : Et l yX4_toLine (wl yX4_toLine cX4_toLine 1 (some .boolean)) { frames := 0, cells := 0, slots := 0, locals := 0 } D κ κq [.ref rd] [(rd, .inr (4, [.ref tp, .ref d, .ref ft, .ref bl, .int (nI aq), .int ca, .ref wk, .int (nI sz), .ref fl, .ref sr, .int (nI cnt), cv, .ref cl, .int (nI rw)])), (tp, .inr (8, [.ref tb, .int (nI L)])), (tb, .inl (κ 0, 800, .inl tf)), (d, .inl (κ 0, 6, .inl dl))] (fun u9 : Int32 × Nat => some (.int u9.1)) (fun u9 : Int32 × Nat => u9.2 ≤ L ∧ aq ≤ u9.2 ∧ u9.2 = paF tf dl (L - aq) aq false ∧ ((u9.1 = 1 ∧ u9.2 < L ∧ ¬ tf u9.2 = 10) ∨ (u9.1 = 0 ∧ L ≤ u9.2))) (fun u9 : Int32 × Nat => [(rd, .inr (4, [.ref tp, .ref d, .ref ft, .ref bl, .int (nI u9.2), .int ca, .ref wk, .int (nI sz), .ref fl, .ref sr, .int (nI cnt), cv, .ref cl, .int (nI rw)])), (tp, .inr (8, [.ref tb, .int (nI L)])), (tb, .inl (κ 0, 800, .inl tf)), (d, .inl (κ 0, 6, .inl dl))]) := by
  refine et_of (by decide +kernel) (Nat.le_of_ble_eq_true rfl) ?_
  intro p e s m args below meth c A ls hx hb hr hml hts hown hlk hin hKK hK hA hP hD hS hE hl
  have hS : va_S A s.heap s.heap [] := hS
  have hP : va_P D vwCl ([(rd, .inr (4, [.ref tp, .ref d, .ref ft, .ref bl, .int (nI aq), .int ca, .ref wk, .int (nI sz), .ref fl, .ref sr, .int (nI cnt), cv, .ref cl, .int (nI rw)])), (tp, .inr (8, [.ref tb, .int (nI L)])), (tb, .inl (κ 0, 800, .inl tf)), (d, .inl (κ 0, 6, .inl dl))] ++ []) s.heap := hP
  have hD : va_D A ([(rd, .inr (4, [.ref tp, .ref d, .ref ft, .ref bl, .int (nI aq), .int ca, .ref wk, .int (nI sz), .ref fl, .ref sr, .int (nI cnt), cv, .ref cl, .int (nI rw)])), (tp, .inr (8, [.ref tb, .int (nI L)])), (tb, .inl (κ 0, 800, .inl tf)), (d, .inl (κ 0, 6, .inl dl))] ++ []) := hD
  have hFX : FX p s m args c cX4_toLine 1 RX4 := ⟨hx, hb, hml, hown, hts⟩
  have hl : lv_has ls 1 [(0, .ref rd)] := hl
  refine loop_dn (fun k9 H locs ls => ∃ (v4_0 : Nat), (v4_0 ≤ L) ∧ (aq ≤ v4_0) ∧ (paF tf dl (L - v4_0) v4_0 false = paF tf dl (L - aq) aq false) ∧ L - v4_0 = k9 ∧ va_P D vwCl ([(rd, .inr (4, [.ref tp, .ref d, .ref ft, .ref bl, .int (nI v4_0), .int ca, .ref wk, .int (nI sz), .ref fl, .ref sr, .int (nI cnt), cv, .ref cl, .int (nI rw)])), (tp, .inr (8, [.ref tb, .int (nI L)])), (tb, .inl (κ 0, 800, .inl tf)), (d, .inl (κ 0, 6, .inl dl))] ++ []) H ∧ va_D A ([(rd, .inr (4, [.ref tp, .ref d, .ref ft, .ref bl, .int (nI v4_0), .int ca, .ref wk, .int (nI sz), .ref fl, .ref sr, .int (nI cnt), cv, .ref cl, .int (nI rw)])), (tp, .inr (8, [.ref tb, .int (nI L)])), (tb, .inl (κ 0, 800, .inl tf)), (d, .inl (κ 0, 6, .inl dl))] ++ []) ∧ va_S A s.heap H locs ∧ lv_has ls 1 [(0, .ref rd)]) (fun k9 H locs ls hI0 ih0 => ?_) (L - aq) _ _ _ ⟨aq, (by omega), (by omega), rfl, rfl, hP, hD, hS, lv_sub hl [0] rfl⟩
  obtain ⟨v4_0, hl0_0, hl0_1, hl0_2, hm0, hP, hD, hS, hl⟩ := hI0
  refine lv_aload_n hx hb dX4_toLine_0 rfl (lv_at hl 0 rfl) ?_
  refine va_get (D := D) (ci := 4) (v := .int (nI v4_0)) (C := RX4) (T := TX4) (N := 14) hx hb hts inlX4 hown hK hP 0 rfl rfl 4 (by decide) (hts _ mw_71) (fun _ h9 => h9) rfl dX4_toLine_1 ?_
  refine lv_aload_n hx hb dX4_toLine_4 rfl (lv_at hl 0 rfl) ?_
  refine va_get (D := D) (ci := 4) (v := .ref tp) (C := RX4) (T := TX4) (N := 14) hx hb hts inlX4 hown hK hP 0 rfl rfl 0 (by decide) (hts _ mw_81) (fun _ h9 => h9) rfl dX4_toLine_5 ?_
  refine va_get (D := D) (ci := 8) (v := .int (nI L)) (C := RX8) (T := TX8) (N := 2) hx hb hts inlX8 hown hK hP 1 rfl rfl 1 (by decide) (hts _ mw_261) (fun _ h9 => h9) rfl dX4_toLine_8 ?_
  refine lv_icmp_ge (tgt := 120) hx hb dX4_toLine_11 (by decide) (fun c_1 => ?_) (fun c_1 => ?_)
  · have nc_1 := cv_le (a := L) (b := v4_0) (by omega) (by omega) c_1
    refine lv_iconst (v := 0) hx hb dX4_toLine_120 (by decide) ?_
    exact et_iret hx hb hr hlk rfl hS (0, v4_0) rfl ⟨(show v4_0 ≤ L from (by first | assumption | omega | rfl | exact Or.inl (by assumption) | exact Or.inr (by assumption))), (show aq ≤ v4_0 from (by first | assumption | omega | rfl | exact Or.inl (by assumption) | exact Or.inr (by assumption))), (show v4_0 = paF tf dl (L - aq) aq false from ((pa_end (by omega)).symm.trans hl0_2)), (by exact Or.inr ((⟨rfl, (show L ≤ v4_0 from (by first | assumption | omega | rfl | exact Or.inl (by assumption) | exact Or.inr (by assumption)))⟩)))⟩ (subP0 hP [0, 1, 2, 3] rfl) (hD.sub [0, 1, 2, 3] (by decide) rfl) (Nat.le_of_ble_eq_true rfl) (Nat.le_of_ble_eq_true rfl) dX4_toLine_121
  · have nc_1 := cv_nle (a := L) (b := v4_0) (by omega) (by omega) c_1
    refine lv_aload_n hx hb dX4_toLine_14 rfl (lv_at hl 0 rfl) ?_
    refine va_get (D := D) (ci := 4) (v := .ref tp) (C := RX4) (T := TX4) (N := 14) hx hb hts inlX4 hown hK hP 0 rfl rfl 0 (by decide) (hts _ mw_81) (fun _ h9 => h9) rfl dX4_toLine_15 ?_
    refine va_get (D := D) (ci := 8) (v := .ref tb) (C := RX8) (T := TX8) (N := 2) hx hb hts inlX8 hown hK hP 1 rfl rfl 0 (by decide) (hts _ mw_266) (fun _ h9 => h9) rfl dX4_toLine_18 ?_
    refine lv_aload_n hx hb dX4_toLine_21 rfl (lv_at hl 0 rfl) ?_
    refine va_get (D := D) (ci := 4) (v := .int (nI v4_0)) (C := RX4) (T := TX4) (N := 14) hx hb hts inlX4 hown hK hP 0 rfl rfl 4 (by decide) (hts _ mw_71) (fun _ h9 => h9) rfl dX4_toLine_22 ?_
    refine va_iald hx hb hK hP 2 0 rfl rfl (i := nI v4_0) (vp_in_nI (n := v4_0) (by omega) (by omega)) dX4_toLine_25 ?_
    refine kv (v := .int (tf v4_0)) (by rw [nI_clamp (by omega)]) ?_
    obtain ⟨x_2, ex_2⟩ : ∃ y9 : Int32, tf v4_0 = y9 := ⟨_, rfl⟩
    refine kv (v := .int x_2) (congrArg Value.int ex_2) ?_
    refine lv_bipush (v := 10) hx hb dX4_toLine_26 (by decide) ?_
    refine lv_icmp_ne (tgt := 44) hx hb dX4_toLine_28 (by decide) (fun c_3 => ?_) (fun c_3 => ?_)
    · refine lv_aload_n hx hb dX4_toLine_44 rfl (lv_at hl 0 rfl) ?_
      refine va_get (D := D) (ci := 4) (v := .ref d) (C := RX4) (T := TX4) (N := 14) hx hb hts inlX4 hown hK hP 0 rfl rfl 1 (by decide) (hts _ mw_82) (fun _ h9 => h9) rfl dX4_toLine_45 ?_
      refine lv_iconst (v := 5) hx hb dX4_toLine_48 (by decide) ?_
      refine va_iald hx hb hK hP 3 0 rfl rfl (i := 5) (vp_k (by decide)) dX4_toLine_49 ?_
      obtain ⟨x_4, ex_4⟩ : ∃ y9 : Int32, dl 5 = y9 := ⟨_, rfl⟩
      refine kv (v := .int x_4) (congrArg Value.int ex_4) ?_
      refine lv_if_eq (tgt := 118) hx hb dX4_toLine_50 (by decide) (fun c_5 => ?_) (fun c_5 => ?_)
      · refine lv_iconst (v := 1) hx hb dX4_toLine_118 (by decide) ?_
        exact et_iret hx hb hr hlk rfl hS (1, v4_0) rfl ⟨(show v4_0 ≤ L from (by first | assumption | omega | rfl | exact Or.inl (by assumption) | exact Or.inr (by assumption))), (show aq ≤ v4_0 from (by first | assumption | omega | rfl | exact Or.inl (by assumption) | exact Or.inr (by assumption))), (show v4_0 = paF tf dl (L - aq) aq false from ((pa_no (by omega) ex_2 c_3 ex_4 (Or.inl c_5)).symm.trans hl0_2)), (by exact Or.inl (⟨rfl, (show v4_0 < L from (by first | assumption | omega | rfl | exact Or.inl (by assumption) | exact Or.inr (by assumption))), (show ¬ tf v4_0 = 10 from (fun h9 => c_3 (ex_2.symm.trans h9)))⟩))⟩ (subP0 hP [0, 1, 2, 3] rfl) (hD.sub [0, 1, 2, 3] (by decide) rfl) (Nat.le_of_ble_eq_true rfl) (Nat.le_of_ble_eq_true rfl) dX4_toLine_119
      · refine lv_aload_n hx hb dX4_toLine_53 rfl (lv_at hl 0 rfl) ?_
        refine va_get (D := D) (ci := 4) (v := .ref tp) (C := RX4) (T := TX4) (N := 14) hx hb hts inlX4 hown hK hP 0 rfl rfl 0 (by decide) (hts _ mw_81) (fun _ h9 => h9) rfl dX4_toLine_54 ?_
        refine va_get (D := D) (ci := 8) (v := .ref tb) (C := RX8) (T := TX8) (N := 2) hx hb hts inlX8 hown hK hP 1 rfl rfl 0 (by decide) (hts _ mw_266) (fun _ h9 => h9) rfl dX4_toLine_57 ?_
        refine lv_aload_n hx hb dX4_toLine_60 rfl (lv_at hl 0 rfl) ?_
        refine va_get (D := D) (ci := 4) (v := .int (nI v4_0)) (C := RX4) (T := TX4) (N := 14) hx hb hts inlX4 hown hK hP 0 rfl rfl 4 (by decide) (hts _ mw_71) (fun _ h9 => h9) rfl dX4_toLine_61 ?_
        refine va_iald hx hb hK hP 2 0 rfl rfl (i := nI v4_0) (vp_in_nI (n := v4_0) (by omega) (by omega)) dX4_toLine_64 ?_
        refine kv (v := .int x_2) (by rw [nI_clamp (by omega)]; exact congrArg Value.int ex_2) ?_
        refine lv_aload_n hx hb dX4_toLine_65 rfl (lv_at hl 0 rfl) ?_
        refine va_get (D := D) (ci := 4) (v := .ref d) (C := RX4) (T := TX4) (N := 14) hx hb hts inlX4 hown hK hP 0 rfl rfl 1 (by decide) (hts _ mw_82) (fun _ h9 => h9) rfl dX4_toLine_66 ?_
        refine lv_iconst (v := 5) hx hb dX4_toLine_69 (by decide) ?_
        refine va_iald hx hb hK hP 3 0 rfl rfl (i := 5) (vp_k (by decide)) dX4_toLine_70 ?_
        refine kv (v := .int x_4) (congrArg Value.int (ex_4)) ?_
        refine lv_icmp_ne (tgt := 118) hx hb dX4_toLine_71 (by decide) (fun c_6 => ?_) (fun c_6 => ?_)
        · refine lv_iconst (v := 1) hx hb dX4_toLine_118 (by decide) ?_
          exact et_iret hx hb hr hlk rfl hS (1, v4_0) rfl ⟨(show v4_0 ≤ L from (by first | assumption | omega | rfl | exact Or.inl (by assumption) | exact Or.inr (by assumption))), (show aq ≤ v4_0 from (by first | assumption | omega | rfl | exact Or.inl (by assumption) | exact Or.inr (by assumption))), (show v4_0 = paF tf dl (L - aq) aq false from ((pa_no (by omega) ex_2 c_3 ex_4 (Or.inr c_6)).symm.trans hl0_2)), (by exact Or.inl (⟨rfl, (show v4_0 < L from (by first | assumption | omega | rfl | exact Or.inl (by assumption) | exact Or.inr (by assumption))), (show ¬ tf v4_0 = 10 from (fun h9 => c_3 (ex_2.symm.trans h9)))⟩))⟩ (subP0 hP [0, 1, 2, 3] rfl) (hD.sub [0, 1, 2, 3] (by decide) rfl) (Nat.le_of_ble_eq_true rfl) (Nat.le_of_ble_eq_true rfl) dX4_toLine_119
        · refine loop_dn (fun k9 H locs ls => ∃ (v4_74 : Nat), (v4_74 ≤ L) ∧ (aq ≤ v4_74) ∧ (v4_0 ≤ v4_74) ∧ (v4_0 < v4_74 ∨ ¬ tf v4_74 = 10) ∧ (paF tf dl (L - v4_74) v4_74 true = paF tf dl (L - aq) aq false) ∧ L - v4_74 = k9 ∧ va_P D vwCl ([(rd, .inr (4, [.ref tp, .ref d, .ref ft, .ref bl, .int (nI v4_74), .int ca, .ref wk, .int (nI sz), .ref fl, .ref sr, .int (nI cnt), cv, .ref cl, .int (nI rw)])), (tp, .inr (8, [.ref tb, .int (nI L)])), (tb, .inl (κ 0, 800, .inl tf)), (d, .inl (κ 0, 6, .inl dl))] ++ []) H ∧ va_D A ([(rd, .inr (4, [.ref tp, .ref d, .ref ft, .ref bl, .int (nI v4_74), .int ca, .ref wk, .int (nI sz), .ref fl, .ref sr, .int (nI cnt), cv, .ref cl, .int (nI rw)])), (tp, .inr (8, [.ref tb, .int (nI L)])), (tb, .inl (κ 0, 800, .inl tf)), (d, .inl (κ 0, 6, .inl dl))] ++ []) ∧ va_S A s.heap H locs ∧ lv_has ls 1 [(0, .ref rd)]) (fun k9 H locs ls hI74 ih74 => ?_) (L - v4_0) _ _ _ ⟨v4_0, (by omega), (by omega), (by omega), (Or.inr (by rw [ex_2]; exact c_3)), ((pa_cm (by omega) ex_2 c_3 ex_4 c_5 c_6).symm.trans hl0_2), rfl, hP, hD, hS, lv_sub hl [0] rfl⟩
          obtain ⟨v4_74, hl74_0, hl74_1, hl74_2, hl74_3, hl74_4, hm74, hP, hD, hS, hl⟩ := hI74
          refine lv_aload_n hx hb dX4_toLine_74 rfl (lv_at hl 0 rfl) ?_
          refine va_get (D := D) (ci := 4) (v := .int (nI v4_74)) (C := RX4) (T := TX4) (N := 14) hx hb hts inlX4 hown hK hP 0 rfl rfl 4 (by decide) (hts _ mw_71) (fun _ h9 => h9) rfl dX4_toLine_75 ?_
          refine lv_aload_n hx hb dX4_toLine_78 rfl (lv_at hl 0 rfl) ?_
          refine va_get (D := D) (ci := 4) (v := .ref tp) (C := RX4) (T := TX4) (N := 14) hx hb hts inlX4 hown hK hP 0 rfl rfl 0 (by decide) (hts _ mw_81) (fun _ h9 => h9) rfl dX4_toLine_79 ?_
          refine va_get (D := D) (ci := 8) (v := .int (nI L)) (C := RX8) (T := TX8) (N := 2) hx hb hts inlX8 hown hK hP 1 rfl rfl 1 (by decide) (hts _ mw_261) (fun _ h9 => h9) rfl dX4_toLine_82 ?_
          refine lv_icmp_ge (tgt := 0) hx hb dX4_toLine_85 (by decide) (fun c_7 => ?_) (fun c_7 => ?_)
          · have nc_7 := cv_le (a := L) (b := v4_74) (by omega) (by omega) c_7
            exact ih0 _ _ _ _ (by omega) ⟨v4_74, (by omega), (by omega), ((pa_sw (Or.inr (by omega))).symm.trans hl74_4), rfl, hP, hD, hS, lv_sub hl [0] rfl⟩
          · have nc_7 := cv_nle (a := L) (b := v4_74) (by omega) (by omega) c_7
            refine lv_aload_n hx hb dX4_toLine_88 rfl (lv_at hl 0 rfl) ?_
            refine va_get (D := D) (ci := 4) (v := .ref tp) (C := RX4) (T := TX4) (N := 14) hx hb hts inlX4 hown hK hP 0 rfl rfl 0 (by decide) (hts _ mw_81) (fun _ h9 => h9) rfl dX4_toLine_89 ?_
            refine va_get (D := D) (ci := 8) (v := .ref tb) (C := RX8) (T := TX8) (N := 2) hx hb hts inlX8 hown hK hP 1 rfl rfl 0 (by decide) (hts _ mw_266) (fun _ h9 => h9) rfl dX4_toLine_92 ?_
            refine lv_aload_n hx hb dX4_toLine_95 rfl (lv_at hl 0 rfl) ?_
            refine va_get (D := D) (ci := 4) (v := .int (nI v4_74)) (C := RX4) (T := TX4) (N := 14) hx hb hts inlX4 hown hK hP 0 rfl rfl 4 (by decide) (hts _ mw_71) (fun _ h9 => h9) rfl dX4_toLine_96 ?_
            refine va_iald hx hb hK hP 2 0 rfl rfl (i := nI v4_74) (vp_in_nI (n := v4_74) (by omega) (by omega)) dX4_toLine_99 ?_
            refine kv (v := .int (tf v4_74)) (by rw [nI_clamp (by omega)]) ?_
            obtain ⟨x_8, ex_8⟩ : ∃ y9 : Int32, tf v4_74 = y9 := ⟨_, rfl⟩
            refine kv (v := .int x_8) (congrArg Value.int ex_8) ?_
            refine lv_bipush (v := 10) hx hb dX4_toLine_100 (by decide) ?_
            refine lv_icmp_eq (tgt := 0) hx hb dX4_toLine_102 (by decide) (fun c_9 => ?_) (fun c_9 => ?_)
            · exact ih0 _ _ _ _ (by rcases hl74_3 with h9 | h9; (omega); exact absurd (ex_8.trans c_9) h9) ⟨v4_74, (by omega), (by omega), ((pa_sw (Or.inl (ex_8.trans c_9))).symm.trans hl74_4), rfl, hP, hD, hS, lv_sub hl [0] rfl⟩
            · refine lv_aload_n hx hb dX4_toLine_105 rfl (lv_at hl 0 rfl) ?_
              refine lv_dup hx hb dX4_toLine_106 rfl ?_
              refine va_get (D := D) (ci := 4) (v := .int (nI v4_74)) (C := RX4) (T := TX4) (N := 14) hx hb hts inlX4 hown hK hP 0 rfl rfl 4 (by decide) (hts _ mw_71) (fun _ h9 => h9) rfl dX4_toLine_107 ?_
              refine lv_iconst (v := 1) hx hb dX4_toLine_110 (by decide) ?_
              refine lv_iadd hx hb dX4_toLine_111 ?_
              refine ki (v := (nI (v4_74 + 1))) (nI_add v4_74 1) ?_
              refine va_put (D := D) (ci := 4) (v := .int (nI (v4_74 + 1))) (ty := tyX4 4) (C := RX4) (T := TX4) (N := 14) hx hb hts inlX4 tyX4 tyX4_ok nmX4 hown hK hP hD hS 0 rfl rfl 4 (by decide) (hts _ mw_71) (fun _ h9 => h9) rfl (tyX4_ok 4 (by decide)) rfl rfl (Nat.le_of_ble_eq_true rfl) dX4_toLine_112 (fun H locs hP hD hS => ?_)
              have hP : va_P D vwCl ([(rd, .inr (4, [.ref tp, .ref d, .ref ft, .ref bl, .int (nI (v4_74 + 1)), .int ca, .ref wk, .int (nI sz), .ref fl, .ref sr, .int (nI cnt), cv, .ref cl, .int (nI rw)])), (tp, .inr (8, [.ref tb, .int (nI L)])), (tb, .inl (κ 0, 800, .inl tf)), (d, .inl (κ 0, 6, .inl dl))] ++ []) H := hP
              have hD : va_D A ([(rd, .inr (4, [.ref tp, .ref d, .ref ft, .ref bl, .int (nI (v4_74 + 1)), .int ca, .ref wk, .int (nI sz), .ref fl, .ref sr, .int (nI cnt), cv, .ref cl, .int (nI rw)])), (tp, .inr (8, [.ref tb, .int (nI L)])), (tb, .inl (κ 0, 800, .inl tf)), (d, .inl (κ 0, 6, .inl dl))] ++ []) := hD
              refine lv_goto (tgt := 74) hx hb dX4_toLine_115 (by decide) ?_
              exact ih74 _ _ _ _ (by omega) ⟨(v4_74 + 1), (by omega), (by omega), (by omega), (Or.inl (by omega)), ((pa_in (by omega) ex_8 c_9).symm.trans hl74_4), rfl, hP, hD, hS, lv_sub hl [0] rfl⟩
    · refine lv_aload_n hx hb dX4_toLine_31 rfl (lv_at hl 0 rfl) ?_
      refine lv_dup hx hb dX4_toLine_32 rfl ?_
      refine va_get (D := D) (ci := 4) (v := .int (nI v4_0)) (C := RX4) (T := TX4) (N := 14) hx hb hts inlX4 hown hK hP 0 rfl rfl 4 (by decide) (hts _ mw_71) (fun _ h9 => h9) rfl dX4_toLine_33 ?_
      refine lv_iconst (v := 1) hx hb dX4_toLine_36 (by decide) ?_
      refine lv_iadd hx hb dX4_toLine_37 ?_
      refine ki (v := (nI (v4_0 + 1))) (nI_add v4_0 1) ?_
      refine va_put (D := D) (ci := 4) (v := .int (nI (v4_0 + 1))) (ty := tyX4 4) (C := RX4) (T := TX4) (N := 14) hx hb hts inlX4 tyX4 tyX4_ok nmX4 hown hK hP hD hS 0 rfl rfl 4 (by decide) (hts _ mw_71) (fun _ h9 => h9) rfl (tyX4_ok 4 (by decide)) rfl rfl (Nat.le_of_ble_eq_true rfl) dX4_toLine_38 (fun H locs hP hD hS => ?_)
      have hP : va_P D vwCl ([(rd, .inr (4, [.ref tp, .ref d, .ref ft, .ref bl, .int (nI (v4_0 + 1)), .int ca, .ref wk, .int (nI sz), .ref fl, .ref sr, .int (nI cnt), cv, .ref cl, .int (nI rw)])), (tp, .inr (8, [.ref tb, .int (nI L)])), (tb, .inl (κ 0, 800, .inl tf)), (d, .inl (κ 0, 6, .inl dl))] ++ []) H := hP
      have hD : va_D A ([(rd, .inr (4, [.ref tp, .ref d, .ref ft, .ref bl, .int (nI (v4_0 + 1)), .int ca, .ref wk, .int (nI sz), .ref fl, .ref sr, .int (nI cnt), cv, .ref cl, .int (nI rw)])), (tp, .inr (8, [.ref tb, .int (nI L)])), (tb, .inl (κ 0, 800, .inl tf)), (d, .inl (κ 0, 6, .inl dl))] ++ []) := hD
      refine lv_goto (tgt := 0) hx hb dX4_toLine_41 (by decide) ?_
      exact ih0 _ _ _ _ (by omega) ⟨(v4_0 + 1), (by omega), (by omega), ((pa_10 (by omega) ex_2 c_3).symm.trans hl0_2), rfl, hP, hD, hS, lv_sub hl [0] rfl⟩
