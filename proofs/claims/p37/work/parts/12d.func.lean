/-! how two cells are compared, as a function of what they hold -/
def icF (a b : Int32) : Int32 := if a < b then -1 else if a = b then 0 else 1
theorem icF_lt {a b : Int32} (h : ¬ b ≤ a) : (-1 : Int32) = icF a b := by
  unfold icF
  rw [if_pos (Int32.not_le.mp h)]
theorem icF_eq {a b : Int32} (h : b ≤ a) (e : a = b) : (0 : Int32) = icF a b := by
  unfold icF
  rw [if_neg (fun h9 => absurd h (Int32.not_le.mpr h9)), if_pos e]
theorem icF_gt {a b : Int32} (h : b ≤ a) (e : ¬ a = b) : (1 : Int32) = icF a b := by
  unfold icF
  rw [if_neg (fun h9 => absurd h (Int32.not_le.mpr h9)), if_neg e]
theorem icF_self (a : Int32) : icF a a = 0 := (icF_eq (Int32.le_refl a) rfl).symm
def nmF (k n : Nat) (x : Int64) (zt : Int32) : Int64 := if zt = 5 then (nI n).toInt64 else if zt = 3 then (if nI k = 2 then x * 10000 else x) else x
theorem nmF_t {k n : Nat} {x : Int64} {zt : Int32} (h : zt = 5) : (nI n).toInt64 = nmF k n x zt := by unfold nmF; rw [if_pos h]
theorem nmF_x {k n : Nat} {x y : Int64} {zt : Int32} (h : ¬ zt = 5) (h3 : zt = 3) (h2 : nI k = 2) (e : y = x * 10000) : y = nmF k n x zt := by unfold nmF; rw [if_neg h, if_pos h3, if_pos h2, e]
theorem nmF_a {k n : Nat} {x : Int64} {zt : Int32} (h : ¬ zt = 5) (h3 : ¬ zt = 3) : x = nmF k n x zt := by unfold nmF; rw [if_neg h, if_neg h3]
theorem nmF_b {k n : Nat} {x : Int64} {zt : Int32} (h : ¬ zt = 5) (h3 : zt = 3) (h2 : ¬ nI k = 2) : x = nmF k n x zt := by unfold nmF; rw [if_neg h, if_pos h3, if_neg h2]
def bcF (f g : Nat → Int32) (n m : Nat) : Nat → Nat → Int32
  | _, 0 => icF (nI n) (nI m)
  | i, d + 1 => if f i = g i then bcF f g n m (i + 1) d else icF (f i) (g i)
theorem bcF_go {f g : Nat → Int32} {n m i r : Nat} {x y : Int32} (h : i < r) (e1 : f i = x) (e2 : g i = y) (e : x = y) : bcF f g n m (i + 1) (r - (i + 1)) = bcF f g n m i (r - i) := by
  obtain ⟨d, hd⟩ : ∃ d, r - i = d + 1 := ⟨r - i - 1, by omega⟩
  rw [hd, show r - (i + 1) = d by omega]
  rw [show bcF f g n m i (d + 1) = if f i = g i then bcF f g n m (i + 1) d else icF (f i) (g i) from rfl, if_pos (by rw [e1, e2, e])]
theorem bcF_no {f g : Nat → Int32} {n m i r : Nat} {x y : Int32} (h : i < r) (e1 : f i = x) (e2 : g i = y) (e : ¬ x = y) : icF x y = bcF f g n m i (r - i) := by
  obtain ⟨d, hd⟩ : ∃ d, r - i = d + 1 := ⟨r - i - 1, by omega⟩
  rw [hd]
  rw [show bcF f g n m i (d + 1) = if f i = g i then bcF f g n m (i + 1) d else icF (f i) (g i) from rfl, if_neg (by rw [e1, e2]; exact e), e1, e2]
theorem bcF_end {f g : Nat → Int32} {n m i r : Nat} (h : r ≤ i) : icF (nI n) (nI m) = bcF f g n m i (r - i) := by
  rw [show r - i = 0 by omega]
  cases i <;> rfl
theorem bcF_self (f : Nat → Int32) (n : Nat) : ∀ (d i : Nat), bcF f f n n i d = 0
  | 0, i => by cases i <;> exact icF_self _
  | d + 1, i => by
    rw [show bcF f f n n i (d + 1) = if f i = f i then bcF f f n n (i + 1) d else icF (f i) (f i) from rfl, if_pos rfl]
    exact bcF_self f n d (i + 1)
def cpF (k n : Nat) (x : Int64) (f : Nat → Int32) (k2 n2 : Nat) (x2 : Int64) (g : Nat → Int32) (zt : Int32) : Int32 :=
  if n = 0 ∨ n2 = 0 then icF (nI n) (nI n2) else if zt = 5 then bcF f g n n2 0 (min n n2) else icF (lg_cmp (nmF k n x zt) (nmF k2 n2 x2 zt)) 0
section CPF
variable {k n k2 n2 : Nat} {x x2 : Int64} {f g : Nat → Int32} {zt r : Int32}
theorem cpF_e (h : n = 0 ∨ n2 = 0) (e : r = icF (nI n) (nI n2)) : r = cpF k n x f k2 n2 x2 g zt := by unfold cpF; rw [if_pos h, e]
theorem cpF_b (h : 1 ≤ n) (h2 : 1 ≤ n2) (h5 : zt = 5) (e : r = bcF f g n n2 0 (min n n2)) : r = cpF k n x f k2 n2 x2 g zt := by unfold cpF; rw [if_neg (by omega), if_pos h5, e]
theorem cpF_n (h : 1 ≤ n) (h2 : 1 ≤ n2) (h5 : ¬ zt = 5) {y y2 : Int64} (e1 : y = nmF k n x zt) (e2 : y2 = nmF k2 n2 x2 zt) (e : r = icF (lg_cmp y y2) 0) : r = cpF k n x f k2 n2 x2 g zt := by unfold cpF; rw [if_neg (by omega), if_neg h5, e, e1, e2]
theorem lg_self (a : Int64) : lg_cmp a a = 0 := by simp [lg_cmp]
theorem cpF_self : cpF k n x f k n x f zt = 0 := by
  unfold cpF
  split
  · exact icF_self _
  · split
    · exact bcF_self _ _ _ _
    · rw [lg_self]; exact icF_self 0
end CPF

set_option maxHeartbeats 4000000 in
set_option maxRecDepth 100000 in
theorem c_J6_compare_F (l : Launch) (D : va_G) (κ : Nat → ClassId) (κq : Nat → Nat) (za : Int32) (zb : Int32) : Er l yJ6_compare_7cf53 (wl yJ6_compare_7cf53 cJ6_compare_7cf53 2 (some .int)) { frames := 0, cells := 0, slots := 0, locals := 0 } D κ κq [.int za, .int zb] [] (fun r : Int32 => some (.int r)) (fun r : Int32 => r = icF za zb) := by
  refine er_of (by decide +kernel) (Nat.le_of_ble_eq_true rfl) ?_
  intro p e s m args below meth c A ls hx hb hr hml hts hown hlk hKK hK hP hE hl
  have hS : va_S A s.heap s.heap [] := va_S.rf
  have hP : va_P D vwCl ([] ++ []) s.heap := hP
  have hFX : FX p s m args c cJ6_compare_7cf53 2 RJ6 := ⟨hx, hb, hml, hown, hts⟩
  have hl : lv_has ls 2 [(0, .int za), (1, .int zb)] := hl
  refine lv_iload_n hx hb dJ6_compare_7cf53_0 rfl (lv_at hl 0 rfl) ?_
  refine lv_iload_n hx hb dJ6_compare_7cf53_1 rfl (lv_at hl 1 rfl) ?_
  refine lv_icmp_ge (tgt := 9) hx hb dJ6_compare_7cf53_2 (by decide) (fun c_1 => ?_) (fun c_1 => ?_)
  · refine lv_iload_n hx hb dJ6_compare_7cf53_9 rfl (lv_at hl 0 rfl) ?_
    refine lv_iload_n hx hb dJ6_compare_7cf53_10 rfl (lv_at hl 1 rfl) ?_
    refine lv_icmp_ne (tgt := 18) hx hb dJ6_compare_7cf53_11 (by decide) (fun c_2 => ?_) (fun c_2 => ?_)
    · refine lv_iconst (v := 1) hx hb dJ6_compare_7cf53_18 (by decide) ?_
      exact cr_iret hx hb hr hlk rfl 1 rfl (show (1 : Int32) = icF za zb from (by first | exact icF_lt (by assumption) | exact icF_eq (by assumption) (by assumption) | exact icF_gt (by assumption) (by assumption))) dJ6_compare_7cf53_19
    · refine lv_iconst (v := 0) hx hb dJ6_compare_7cf53_14 (by decide) ?_
      refine lv_goto (tgt := 19) hx hb dJ6_compare_7cf53_15 (by decide) ?_
      exact cr_iret hx hb hr hlk rfl 0 rfl (show (0 : Int32) = icF za zb from (by first | exact icF_lt (by assumption) | exact icF_eq (by assumption) (by assumption) | exact icF_gt (by assumption) (by assumption))) dJ6_compare_7cf53_19
  · refine lv_iconst (v := (-1)) hx hb dJ6_compare_7cf53_5 (by decide) ?_
    refine lv_goto (tgt := 19) hx hb dJ6_compare_7cf53_6 (by decide) ?_
    exact cr_iret hx hb hr hlk rfl (-1) rfl (show (-1 : Int32) = icF za zb from (by first | exact icF_lt (by assumption) | exact icF_eq (by assumption) (by assumption) | exact icF_gt (by assumption) (by assumption))) dJ6_compare_7cf53_19
set_option maxHeartbeats 4000000 in
set_option maxRecDepth 100000 in
theorem c_J13_compare_F (l : Launch) (D : va_G) (κ : Nat → ClassId) (κq : Nat → Nat) (za : Int64) (zb : Int64) : Er l yJ13_compare_74951 (wl yJ13_compare_74951 cJ13_compare_74951 4 (some .int)) { frames := 0, cells := 0, slots := 0, locals := 0 } D κ κq [.long za, .long zb] [] (fun r : Int32 => some (.int r)) (fun r : Int32 => r = icF (lg_cmp za zb) 0) := by
  refine er_of (by decide +kernel) (Nat.le_of_ble_eq_true rfl) ?_
  intro p e s m args below meth c A ls hx hb hr hml hts hown hlk hKK hK hP hE hl
  have hS : va_S A s.heap s.heap [] := va_S.rf
  have hP : va_P D vwCl ([] ++ []) s.heap := hP
  have hFX : FX p s m args c cJ13_compare_74951 4 RJ13 := ⟨hx, hb, hml, hown, hts⟩
  have hl : lv_has ls 4 [(0, .long za), (2, .long zb)] := hl
  refine lv_lload_n hx hb dJ13_compare_74951_0 rfl (lv_at hl 0 rfl) ?_
  refine lv_lload_n hx hb dJ13_compare_74951_1 rfl (lv_at hl 1 rfl) ?_
  refine W.lcmp hx hb dJ13_compare_74951_2 ?_
  refine lv_if_ge (tgt := 10) hx hb dJ13_compare_74951_3 (by decide) (fun c_1 => ?_) (fun c_1 => ?_)
  · refine lv_lload_n hx hb dJ13_compare_74951_10 rfl (lv_at hl 0 rfl) ?_
    refine lv_lload_n hx hb dJ13_compare_74951_11 rfl (lv_at hl 1 rfl) ?_
    refine W.lcmp hx hb dJ13_compare_74951_12 ?_
    refine lv_if_ne (tgt := 20) hx hb dJ13_compare_74951_13 (by decide) (fun c_2 => ?_) (fun c_2 => ?_)
    · refine lv_iconst (v := 1) hx hb dJ13_compare_74951_20 (by decide) ?_
      exact cr_iret hx hb hr hlk rfl 1 rfl (show (1 : Int32) = icF (lg_cmp za zb) 0 from (by first | exact icF_lt (by assumption) | exact icF_eq (by assumption) (by assumption) | exact icF_gt (by assumption) (by assumption))) dJ13_compare_74951_21
    · refine lv_iconst (v := 0) hx hb dJ13_compare_74951_16 (by decide) ?_
      refine lv_goto (tgt := 21) hx hb dJ13_compare_74951_17 (by decide) ?_
      exact cr_iret hx hb hr hlk rfl 0 rfl (show (0 : Int32) = icF (lg_cmp za zb) 0 from (by first | exact icF_lt (by assumption) | exact icF_eq (by assumption) (by assumption) | exact icF_gt (by assumption) (by assumption))) dJ13_compare_74951_21
  · refine lv_iconst (v := (-1)) hx hb dJ13_compare_74951_6 (by decide) ?_
    refine lv_goto (tgt := 21) hx hb dJ13_compare_74951_7 (by decide) ?_
    exact cr_iret hx hb hr hlk rfl (-1) rfl (show (-1 : Int32) = icF (lg_cmp za zb) 0 from (by first | exact icF_lt (by assumption) | exact icF_eq (by assumption) (by assumption) | exact icF_gt (by assumption) (by assumption))) dJ13_compare_74951_21
set_option maxHeartbeats 4000000 in
set_option maxRecDepth 100000 in
theorem c_X0_isEmpty_F (l : Launch) (D : va_G) (κ : Nat → ClassId) (κq : Nat → Nat) (a : Nat) (b : Nat) (k : Nat) (n : Nat) (x : Int64) (f : Nat → Int32) (hn1 : n ≤ 20) (hk1 : k ≤ 5) : Er l yX0_isEmpty (wl yX0_isEmpty cX0_isEmpty 1 (some .boolean)) { frames := 0, cells := 0, slots := 0, locals := 0 } D κ κq [.ref a] [(a, .inr (0, [.ref b, .int (nI k), .long x])), (b, .inl (κ 1, n, .inl f))] (fun r : Int32 => some (.int r)) (fun r : Int32 => ((r = 1 ∧ n = 0) ∨ (r = 0 ∧ 1 ≤ n))) := by
  refine er_of (by decide +kernel) (Nat.le_of_ble_eq_true rfl) ?_
  intro p e s m args below meth c A ls hx hb hr hml hts hown hlk hKK hK hP hE hl
  have hS : va_S A s.heap s.heap [] := va_S.rf
  have hP : va_P D vwCl ([(a, .inr (0, [.ref b, .int (nI k), .long x])), (b, .inl (κ 1, n, .inl f))] ++ []) s.heap := hP
  have hFX : FX p s m args c cX0_isEmpty 1 RX0 := ⟨hx, hb, hml, hown, hts⟩
  have hl : lv_has ls 1 [(0, .ref a)] := hl
  refine lv_aload_n hx hb dX0_isEmpty_0 rfl (lv_at hl 0 rfl) ?_
  refine va_get (D := D) (ci := 0) (v := .ref b) (C := RX0) (T := TX0) (N := 3) hx hb hts inlX0 hown hK hP 0 rfl rfl 0 (by decide) (hts _ mw_88) (fun _ h9 => h9) rfl dX0_isEmpty_1 ?_
  refine va_alen hx hb hK hP 1 1 rfl rfl (v := nI n) rfl dX0_isEmpty_4 ?_
  refine lv_if_ne (tgt := 12) hx hb dX0_isEmpty_5 (by decide) (fun c_1 => ?_) (fun c_1 => ?_)
  · have nc_1 := cv_ne (a := n) (b := 0) (by omega) (by omega) c_1
    refine lv_iconst (v := 0) hx hb dX0_isEmpty_12 (by decide) ?_
    exact cr_iret hx hb hr hlk rfl 0 rfl (by exact Or.inr ((⟨rfl, (show 1 ≤ n from (by first | assumption | omega | rfl | exact Or.inl (by assumption) | exact Or.inr (by assumption)))⟩))) dX0_isEmpty_13
  · have nc_1 := cv_eq (a := n) (b := 0) (by omega) (by omega) c_1
    refine lv_iconst (v := 1) hx hb dX0_isEmpty_8 (by decide) ?_
    refine lv_goto (tgt := 13) hx hb dX0_isEmpty_9 (by decide) ?_
    exact cr_iret hx hb hr hlk rfl 1 rfl (by exact Or.inl (⟨rfl, (show n = 0 from (by first | assumption | omega | rfl | exact Or.inl (by assumption) | exact Or.inr (by assumption)))⟩)) dX0_isEmpty_13
set_option maxHeartbeats 4000000 in
set_option maxRecDepth 100000 in
theorem c_X0_numberAs_F (l : Launch) (D : va_G) (κ : Nat → ClassId) (κq : Nat → Nat) (a : Nat) (b : Nat) (k : Nat) (n : Nat) (x : Int64) (f : Nat → Int32) (zt : Int32) (hn1 : n ≤ 20) (hk1 : k ≤ 5) : Er l yX0_numberAs (wl yX0_numberAs cX0_numberAs 2 (some .long)) { frames := 0, cells := 0, slots := 0, locals := 0 } D κ κq [.ref a, .int zt] [(a, .inr (0, [.ref b, .int (nI k), .long x])), (b, .inl (κ 1, n, .inl f))] (fun r : Int64 => some (.long r)) (fun r : Int64 => r = nmF k n x zt) := by
  refine er_of (by decide +kernel) (Nat.le_of_ble_eq_true rfl) ?_
  intro p e s m args below meth c A ls hx hb hr hml hts hown hlk hKK hK hP hE hl
  have hS : va_S A s.heap s.heap [] := va_S.rf
  have hP : va_P D vwCl ([(a, .inr (0, [.ref b, .int (nI k), .long x])), (b, .inl (κ 1, n, .inl f))] ++ []) s.heap := hP
  have hFX : FX p s m args c cX0_numberAs 2 RX0 := ⟨hx, hb, hml, hown, hts⟩
  have hl : lv_has ls 2 [(0, .ref a), (1, .int zt)] := hl
  refine lv_iload_n hx hb dX0_numberAs_0 rfl (lv_at hl 1 rfl) ?_
  refine lv_iconst (v := 5) hx hb dX0_numberAs_1 (by decide) ?_
  refine lv_icmp_ne (tgt := 12) hx hb dX0_numberAs_2 (by decide) (fun c_1 => ?_) (fun c_1 => ?_)
  · refine lv_iload_n hx hb dX0_numberAs_12 rfl (lv_at hl 1 rfl) ?_
    refine lv_iconst (v := 3) hx hb dX0_numberAs_13 (by decide) ?_
    refine lv_icmp_ne (tgt := 36) hx hb dX0_numberAs_14 (by decide) (fun c_2 => ?_) (fun c_2 => ?_)
    · refine lv_aload_n hx hb dX0_numberAs_36 rfl (lv_at hl 0 rfl) ?_
      refine va_get (D := D) (ci := 0) (v := .long x) (C := RX0) (T := TX0) (N := 3) hx hb hts inlX0 hown hK hP 0 rfl rfl 2 (by decide) (hts _ mw_90) (fun _ h9 => h9) rfl dX0_numberAs_37 ?_
      exact cr_lret hx hb hr hlk x rfl (show x = nmF k n x zt from (by first | exact nmF_t (by assumption) | exact nmF_a (by assumption) (by assumption) | exact nmF_b (by assumption) (by assumption) (by assumption) | exact nmF_x (by assumption) (by assumption) (by assumption) (by assumption))) dX0_numberAs_40
    · refine lv_aload_n hx hb dX0_numberAs_17 rfl (lv_at hl 0 rfl) ?_
      refine va_get (D := D) (ci := 0) (v := .int (nI k)) (C := RX0) (T := TX0) (N := 3) hx hb hts inlX0 hown hK hP 0 rfl rfl 1 (by decide) (hts _ mw_89) (fun _ h9 => h9) rfl dX0_numberAs_18 ?_
      refine lv_iconst (v := 2) hx hb dX0_numberAs_21 (by decide) ?_
      refine lv_icmp_ne (tgt := 36) hx hb dX0_numberAs_22 (by decide) (fun c_3 => ?_) (fun c_3 => ?_)
      · have nc_3 := cv_ne (a := k) (b := 2) (by omega) (by omega) c_3
        refine lv_aload_n hx hb dX0_numberAs_36 rfl (lv_at hl 0 rfl) ?_
        refine va_get (D := D) (ci := 0) (v := .long x) (C := RX0) (T := TX0) (N := 3) hx hb hts inlX0 hown hK hP 0 rfl rfl 2 (by decide) (hts _ mw_90) (fun _ h9 => h9) rfl dX0_numberAs_37 ?_
        exact cr_lret hx hb hr hlk x rfl (show x = nmF k n x zt from (by first | exact nmF_t (by assumption) | exact nmF_a (by assumption) (by assumption) | exact nmF_b (by assumption) (by assumption) (by assumption) | exact nmF_x (by assumption) (by assumption) (by assumption) (by assumption))) dX0_numberAs_40
      · have nc_3 := cv_eq (a := k) (b := 2) (by omega) (by omega) c_3
        refine lv_aload_n hx hb dX0_numberAs_25 rfl (lv_at hl 0 rfl) ?_
        refine va_get (D := D) (ci := 0) (v := .long x) (C := RX0) (T := TX0) (N := 3) hx hb hts inlX0 hown hK hP 0 rfl rfl 2 (by decide) (hts _ mw_90) (fun _ h9 => h9) rfl dX0_numberAs_26 ?_
        refine lv_ldc2 hx hb hown (hts _ mw_891) dX0_numberAs_29 ?_
        refine lv_lmul hx hb dX0_numberAs_32 ?_
        refine lv_topl (fun x_4 ex_4 => ?_)
        refine lv_goto (tgt := 40) hx hb dX0_numberAs_33 (by decide) ?_
        exact cr_lret hx hb hr hlk x_4 rfl (show x_4 = nmF k n x zt from (by first | exact nmF_t (by assumption) | exact nmF_a (by assumption) (by assumption) | exact nmF_b (by assumption) (by assumption) (by assumption) | exact nmF_x (by assumption) (by assumption) (by assumption) (by assumption))) dX0_numberAs_40
  · refine lv_aload_n hx hb dX0_numberAs_5 rfl (lv_at hl 0 rfl) ?_
    refine va_get (D := D) (ci := 0) (v := .ref b) (C := RX0) (T := TX0) (N := 3) hx hb hts inlX0 hown hK hP 0 rfl rfl 0 (by decide) (hts _ mw_88) (fun _ h9 => h9) rfl dX0_numberAs_6 ?_
    refine va_alen hx hb hK hP 1 1 rfl rfl (v := nI n) rfl dX0_numberAs_9 ?_
    refine lv_i2l (v := (nI n).toInt64) hx hb dX0_numberAs_10 rfl ?_
    exact cr_lret hx hb hr hlk ((nI n).toInt64) rfl (show ((nI n).toInt64) = nmF k n x zt from (by first | exact nmF_t (by assumption) | exact nmF_a (by assumption) (by assumption) | exact nmF_b (by assumption) (by assumption) (by assumption) | exact nmF_x (by assumption) (by assumption) (by assumption) (by assumption))) dX0_numberAs_11
set_option maxHeartbeats 4000000 in
set_option maxRecDepth 100000 in
theorem c_X0_bytesComparedTo_F (l : Launch) (D : va_G) (κ : Nat → ClassId) (κq : Nat → Nat) (a : Nat) (b : Nat) (k : Nat) (n : Nat) (x : Int64) (f : Nat → Int32) (a2 : Nat) (b2 : Nat) (k2 : Nat) (n2 : Nat) (x2 : Int64) (f2 : Nat → Int32) (hn1 : n ≤ 20) (hk1 : k ≤ 5) (hn2 : n2 ≤ 20) (hk2 : k2 ≤ 5) : Er l yX0_bytesComparedTo (wl yX0_bytesComparedTo cX0_bytesComparedTo 4 (some .int)) { frames := 1, cells := 0, slots := 0, locals := 21 } D κ κq [.ref a, .ref a2] [(a, .inr (0, [.ref b, .int (nI k), .long x])), (b, .inl (κ 1, n, .inl f)), (a2, .inr (0, [.ref b2, .int (nI k2), .long x2])), (b2, .inl (κ 1, n2, .inl f2))] (fun r : Int32 => some (.int r)) (fun r : Int32 => r = bcF f f2 n n2 0 (min n n2)) := by
  refine er_of (by decide +kernel) (Nat.le_of_ble_eq_true rfl) ?_
  intro p e s m args below meth c A ls hx hb hr hml hts hown hlk hKK hK hP hE hl
  have hS : va_S A s.heap s.heap [] := va_S.rf
  have hP : va_P D vwCl ([(a, .inr (0, [.ref b, .int (nI k), .long x])), (b, .inl (κ 1, n, .inl f)), (a2, .inr (0, [.ref b2, .int (nI k2), .long x2])), (b2, .inl (κ 1, n2, .inl f2))] ++ []) s.heap := hP
  have hFX : FX p s m args c cX0_bytesComparedTo 4 RX0 := ⟨hx, hb, hml, hown, hts⟩
  have hl : lv_has ls 4 [(0, .ref a), (1, .ref a2)] := hl
  refine lv_aload_n hx hb dX0_bytesComparedTo_0 rfl (lv_at hl 0 rfl) ?_
  refine va_get (D := D) (ci := 0) (v := .ref b) (C := RX0) (T := TX0) (N := 3) hx hb hts inlX0 hown hK hP 0 rfl rfl 0 (by decide) (hts _ mw_88) (fun _ h9 => h9) rfl dX0_bytesComparedTo_1 ?_
  refine va_alen hx hb hK hP 1 1 rfl rfl (v := nI n) rfl dX0_bytesComparedTo_4 ?_
  refine lv_aload_n hx hb dX0_bytesComparedTo_5 rfl (lv_at hl 1 rfl) ?_
  refine va_get (D := D) (ci := 0) (v := .ref b2) (C := RX0) (T := TX0) (N := 3) hx hb hts inlX0 hown hK hP 2 rfl rfl 0 (by decide) (hts _ mw_88) (fun _ h9 => h9) rfl dX0_bytesComparedTo_6 ?_
  refine va_alen hx hb hK hP 3 1 rfl rfl (v := nI n2) rfl dX0_bytesComparedTo_9 ?_
  refine va_mmin hx hb (hml.trans hl.1.symm) hown (hts _ mw_886) (hts _ mw_317) (hts _ mw_318) (hts _ mw_319) (Nat.le_of_ble_eq_true rfl) (Nat.le_of_ble_eq_true rfl) (Nat.le_of_ble_eq_true rfl) (Nat.le_of_ble_eq_true rfl) dX0_bytesComparedTo_10 ?_
  obtain ⟨r_1, hr_1a, hr_1b, hr_1c, er_1⟩ := min_n (a := n) (b := n2) (by omega) (by omega)
  refine ki (v := nI r_1) er_1 ?_
  refine W.eq (g2 := F0 m 13 ls [.int (nI r_1)]) rfl ?_
  refine lv_istore_n (lv' := [(2, .int (nI r_1)), (0, .ref a), (1, .ref a2)]) hx hb dX0_bytesComparedTo_13 rfl hl (by decide) rfl (fun ls hl => ?_)
  refine lv_iconst (v := 0) hx hb dX0_bytesComparedTo_14 (by decide) ?_
  refine lv_istore_n (lv' := [(3, .int 0), (2, .int (nI r_1)), (0, .ref a), (1, .ref a2)]) hx hb dX0_bytesComparedTo_15 rfl hl (by decide) rfl (fun ls hl => ?_)
  refine loop_r (fun k9 ls => ∃ (k3_16 : Nat), (k3_16 ≤ r_1) ∧ (bcF f f2 n n2 k3_16 (r_1 - k3_16) = bcF f f2 n n2 0 (min n n2)) ∧ r_1 - k3_16 = k9 ∧ lv_has ls 4 [(3, .int (nI k3_16)), (2, .int (nI r_1)), (0, .ref a), (1, .ref a2)]) (fun k9 ls hI16 ih16 => ?_) (r_1 - 0) _ ⟨0, (by omega), (by have e9 : r_1 = min n n2 := (by omega); rw [Nat.sub_zero, e9]), rfl, lv_sub hl [0, 1, 2, 3] rfl⟩
  obtain ⟨k3_16, hl16_0, hl16_1, hm16, hl⟩ := hI16
  refine lv_iload_n hx hb dX0_bytesComparedTo_16 rfl (lv_at hl 0 rfl) ?_
  refine lv_iload_n hx hb dX0_bytesComparedTo_17 rfl (lv_at hl 1 rfl) ?_
  refine lv_icmp_ge (tgt := 58) hx hb dX0_bytesComparedTo_18 (by decide) (fun c_2 => ?_) (fun c_2 => ?_)
  · have nc_2 := cv_le (a := r_1) (b := k3_16) (by omega) (by omega) c_2
    refine lv_aload_n hx hb dX0_bytesComparedTo_58 rfl (lv_at hl 2 rfl) ?_
    refine va_get (D := D) (ci := 0) (v := .ref b) (C := RX0) (T := TX0) (N := 3) hx hb hts inlX0 hown hK hP 0 rfl rfl 0 (by decide) (hts _ mw_88) (fun _ h9 => h9) rfl dX0_bytesComparedTo_59 ?_
    refine va_alen hx hb hK hP 1 1 rfl rfl (v := nI n) rfl dX0_bytesComparedTo_62 ?_
    refine lv_aload_n hx hb dX0_bytesComparedTo_63 rfl (lv_at hl 3 rfl) ?_
    refine va_get (D := D) (ci := 0) (v := .ref b2) (C := RX0) (T := TX0) (N := 3) hx hb hts inlX0 hown hK hP 2 rfl rfl 0 (by decide) (hts _ mw_88) (fun _ h9 => h9) rfl dX0_bytesComparedTo_64 ?_
    refine va_alen hx hb hK hP 3 1 rfl rfl (v := nI n2) rfl dX0_bytesComparedTo_67 ?_
    refine er_S (As := [.int (nI n), .int (nI n2)]) (rest := []) hFX hKK hE hS (c_J6_compare_F l D κ κq (nI n) (nI n2)) 2 gS_X0_37 hdS_J6_compare_7cf53 rfl rfl ⟨Nat.le_of_ble_eq_true rfl, Nat.le_of_ble_eq_true rfl⟩ rfl rfl (Nat.le_of_ble_eq_true rfl) dX0_bytesComparedTo_68 ⟨Nat.le_of_ble_eq_true rfl, Nat.le_of_ble_eq_true rfl⟩ hl.1 (subP0 hP [] rfl) (fun r__3 hp_4 => ?_)
    replace hp_4 : r__3 = icF (nI n) (nI n2) := hp_4
    have h_5 := hp_4
    clear hp_4
    refine W.eq (g2 := F0 m 71 ls [.int r__3]) rfl ?_
    exact cr_iret hx hb hr hlk rfl r__3 rfl (show r__3 = bcF f f2 n n2 0 (min n n2) from (h_5.trans ((bcF_end (by omega)).trans hl16_1))) dX0_bytesComparedTo_71
  · have nc_2 := cv_nle (a := r_1) (b := k3_16) (by omega) (by omega) c_2
    refine lv_aload_n hx hb dX0_bytesComparedTo_21 rfl (lv_at hl 2 rfl) ?_
    refine va_get (D := D) (ci := 0) (v := .ref b) (C := RX0) (T := TX0) (N := 3) hx hb hts inlX0 hown hK hP 0 rfl rfl 0 (by decide) (hts _ mw_88) (fun _ h9 => h9) rfl dX0_bytesComparedTo_22 ?_
    refine lv_iload_n hx hb dX0_bytesComparedTo_25 rfl (lv_at hl 0 rfl) ?_
    refine va_bald hx hb hK hP 1 1 rfl rfl (i := nI k3_16) (vp_in_nI (n := k3_16) (by omega) (by omega)) dX0_bytesComparedTo_26 ?_
    refine kv (v := .int (f k3_16)) (by rw [nI_clamp (by omega)]) ?_
    obtain ⟨x_6, ex_6⟩ : ∃ y9 : Int32, f k3_16 = y9 := ⟨_, rfl⟩
    refine kv (v := .int x_6) (congrArg Value.int ex_6) ?_
    refine lv_aload_n hx hb dX0_bytesComparedTo_27 rfl (lv_at hl 3 rfl) ?_
    refine va_get (D := D) (ci := 0) (v := .ref b2) (C := RX0) (T := TX0) (N := 3) hx hb hts inlX0 hown hK hP 2 rfl rfl 0 (by decide) (hts _ mw_88) (fun _ h9 => h9) rfl dX0_bytesComparedTo_28 ?_
    refine lv_iload_n hx hb dX0_bytesComparedTo_31 rfl (lv_at hl 0 rfl) ?_
    refine va_bald hx hb hK hP 3 1 rfl rfl (i := nI k3_16) (vp_in_nI (n := k3_16) (by omega) (by omega)) dX0_bytesComparedTo_32 ?_
    refine kv (v := .int (f2 k3_16)) (by rw [nI_clamp (by omega)]) ?_
    obtain ⟨x_7, ex_7⟩ : ∃ y9 : Int32, f2 k3_16 = y9 := ⟨_, rfl⟩
    refine kv (v := .int x_7) (congrArg Value.int ex_7) ?_
    refine lv_icmp_eq (tgt := 52) hx hb dX0_bytesComparedTo_33 (by decide) (fun c_8 => ?_) (fun c_8 => ?_)
    · refine lv_iinc (v := (nI (k3_16 + 1))) (lv' := [(3, .int (nI (k3_16 + 1))), (2, .int (nI r_1)), (0, .ref a), (1, .ref a2)]) hx hb dX0_bytesComparedTo_52 hl (k := 0) rfl (nI_i k3_16) (by decide) rfl (fun ls hl => ?_)
      refine lv_goto (tgt := 16) hx hb dX0_bytesComparedTo_55 (by decide) ?_
      exact ih16 _ _ (by omega) ⟨(k3_16 + 1), (by omega), ((bcF_go (by omega) ex_6 ex_7 c_8).trans hl16_1), rfl, lv_sub hl [0, 1, 2, 3] rfl⟩
    · refine lv_aload_n hx hb dX0_bytesComparedTo_36 rfl (lv_at hl 2 rfl) ?_
      refine va_get (D := D) (ci := 0) (v := .ref b) (C := RX0) (T := TX0) (N := 3) hx hb hts inlX0 hown hK hP 0 rfl rfl 0 (by decide) (hts _ mw_88) (fun _ h9 => h9) rfl dX0_bytesComparedTo_37 ?_
      refine lv_iload_n hx hb dX0_bytesComparedTo_40 rfl (lv_at hl 0 rfl) ?_
      refine va_bald hx hb hK hP 1 1 rfl rfl (i := nI k3_16) (vp_in_nI (n := k3_16) (by omega) (by omega)) dX0_bytesComparedTo_41 ?_
      refine kv (v := .int x_6) (by rw [nI_clamp (by omega)]; exact congrArg Value.int ex_6) ?_
      refine lv_aload_n hx hb dX0_bytesComparedTo_42 rfl (lv_at hl 3 rfl) ?_
      refine va_get (D := D) (ci := 0) (v := .ref b2) (C := RX0) (T := TX0) (N := 3) hx hb hts inlX0 hown hK hP 2 rfl rfl 0 (by decide) (hts _ mw_88) (fun _ h9 => h9) rfl dX0_bytesComparedTo_43 ?_
      refine lv_iload_n hx hb dX0_bytesComparedTo_46 rfl (lv_at hl 0 rfl) ?_
      refine va_bald hx hb hK hP 3 1 rfl rfl (i := nI k3_16) (vp_in_nI (n := k3_16) (by omega) (by omega)) dX0_bytesComparedTo_47 ?_
      refine kv (v := .int x_7) (by rw [nI_clamp (by omega)]; exact congrArg Value.int ex_7) ?_
      refine er_S (As := [.int x_6, .int x_7]) (rest := []) hFX hKK hE hS (c_J6_compare_F l D κ κq x_6 x_7) 2 gS_X0_37 hdS_J6_compare_7cf53 rfl rfl ⟨Nat.le_of_ble_eq_true rfl, Nat.le_of_ble_eq_true rfl⟩ rfl rfl (Nat.le_of_ble_eq_true rfl) dX0_bytesComparedTo_48 ⟨Nat.le_of_ble_eq_true rfl, Nat.le_of_ble_eq_true rfl⟩ hl.1 (subP0 hP [] rfl) (fun r__9 hp_10 => ?_)
      replace hp_10 : r__9 = icF x_6 x_7 := hp_10
      have h_11 := hp_10
      clear hp_10
      refine W.eq (g2 := F0 m 51 ls [.int r__9]) rfl ?_
      exact cr_iret hx hb hr hlk rfl r__9 rfl (show r__9 = bcF f f2 n n2 0 (min n n2) from (h_11.trans ((bcF_no (by omega) ex_6 ex_7 c_8).trans hl16_1))) dX0_bytesComparedTo_51
set_option maxHeartbeats 4000000 in
set_option maxRecDepth 100000 in
theorem c_X0_comparedTo_F (l : Launch) (D : va_G) (κ : Nat → ClassId) (κq : Nat → Nat) (a : Nat) (b : Nat) (k : Nat) (n : Nat) (x : Int64) (f : Nat → Int32) (a2 : Nat) (b2 : Nat) (k2 : Nat) (n2 : Nat) (x2 : Int64) (f2 : Nat → Int32) (zt : Int32) (hn1 : n ≤ 20) (hk1 : k ≤ 5) (hn2 : n2 ≤ 20) (hk2 : k2 ≤ 5) : Er l yX0_comparedTo (wl yX0_comparedTo cX0_comparedTo 3 (some .int)) { frames := 2, cells := 0, slots := 0, locals := 44 } D κ κq [.ref a, .ref a2, .int zt] [(a, .inr (0, [.ref b, .int (nI k), .long x])), (b, .inl (κ 1, n, .inl f)), (a2, .inr (0, [.ref b2, .int (nI k2), .long x2])), (b2, .inl (κ 1, n2, .inl f2))] (fun r : Int32 => some (.int r)) (fun r : Int32 => r = cpF k n x f k2 n2 x2 f2 zt) := by
  refine er_of (by decide +kernel) (Nat.le_of_ble_eq_true rfl) ?_
  intro p e s m args below meth c A ls hx hb hr hml hts hown hlk hKK hK hP hE hl
  have hS : va_S A s.heap s.heap [] := va_S.rf
  have hP : va_P D vwCl ([(a, .inr (0, [.ref b, .int (nI k), .long x])), (b, .inl (κ 1, n, .inl f)), (a2, .inr (0, [.ref b2, .int (nI k2), .long x2])), (b2, .inl (κ 1, n2, .inl f2))] ++ []) s.heap := hP
  have hFX : FX p s m args c cX0_comparedTo 3 RX0 := ⟨hx, hb, hml, hown, hts⟩
  have hl : lv_has ls 3 [(0, .ref a), (1, .ref a2), (2, .int zt)] := hl
  refine lv_aload_n hx hb dX0_comparedTo_0 rfl (lv_at hl 0 rfl) ?_
  refine er_V (As := []) (rest := []) hFX hKK hE hS (c_X0_isEmpty_F l D κ κq a b k n x f (by omega) (by omega)) 0 gV_X0_33 hdV_X0_isEmpty rfl rfl ⟨Nat.le_of_ble_eq_true rfl, Nat.le_of_ble_eq_true rfl⟩ rfl rfl (Nat.le_of_ble_eq_true rfl) dX0_comparedTo_1 ⟨Nat.le_of_ble_eq_true rfl, Nat.le_of_ble_eq_true rfl⟩ hl.1 hP 0 0 rfl rfl rfl (subP0 hP [0, 1] rfl) (fun r__1 hp_2 => ?_)
  replace hp_2 : ((r__1 = 1 ∧ n = 0) ∨ (r__1 = 0 ∧ 1 ≤ n)) := hp_2
  have ha_3 := hp_2
  clear hp_2
  rcases ha_3 with ⟨rfl, a_4⟩ | ⟨rfl, a_5⟩
  · refine W.eq (g2 := F0 m 4 ls [.int 1]) rfl ?_
    refine lv_if_ne (tgt := 14) hx hb dX0_comparedTo_4 (by decide) (fun c_6 => ?_) (fun c_6 => absurd c_6 (by decide))
    refine lv_aload_n hx hb dX0_comparedTo_14 rfl (lv_at hl 0 rfl) ?_
    refine va_get (D := D) (ci := 0) (v := .ref b) (C := RX0) (T := TX0) (N := 3) hx hb hts inlX0 hown hK hP 0 rfl rfl 0 (by decide) (hts _ mw_88) (fun _ h9 => h9) rfl dX0_comparedTo_15 ?_
    refine va_alen hx hb hK hP 1 1 rfl rfl (v := nI n) rfl dX0_comparedTo_18 ?_
    refine lv_aload_n hx hb dX0_comparedTo_19 rfl (lv_at hl 1 rfl) ?_
    refine va_get (D := D) (ci := 0) (v := .ref b2) (C := RX0) (T := TX0) (N := 3) hx hb hts inlX0 hown hK hP 2 rfl rfl 0 (by decide) (hts _ mw_88) (fun _ h9 => h9) rfl dX0_comparedTo_20 ?_
    refine va_alen hx hb hK hP 3 1 rfl rfl (v := nI n2) rfl dX0_comparedTo_23 ?_
    refine er_S (As := [.int (nI n), .int (nI n2)]) (rest := []) hFX hKK hE hS (c_J6_compare_F l D κ κq (nI n) (nI n2)) 2 gS_X0_37 hdS_J6_compare_7cf53 rfl rfl ⟨Nat.le_of_ble_eq_true rfl, Nat.le_of_ble_eq_true rfl⟩ rfl rfl (Nat.le_of_ble_eq_true rfl) dX0_comparedTo_24 ⟨Nat.le_of_ble_eq_true rfl, Nat.le_of_ble_eq_true rfl⟩ hl.1 (subP0 hP [] rfl) (fun r__7 hp_8 => ?_)
    replace hp_8 : r__7 = icF (nI n) (nI n2) := hp_8
    have h_9 := hp_8
    clear hp_8
    refine W.eq (g2 := F0 m 27 ls [.int r__7]) rfl ?_
    exact cr_iret hx hb hr hlk rfl r__7 rfl (show r__7 = cpF k n x f k2 n2 x2 f2 zt from (cpF_e (by omega) h_9)) dX0_comparedTo_27
  · refine W.eq (g2 := F0 m 4 ls [.int 0]) rfl ?_
    refine lv_if_ne (tgt := 14) hx hb dX0_comparedTo_4 (by decide) (fun c_10 => absurd c_10 (by decide)) (fun c_10 => ?_)
    refine lv_aload_n hx hb dX0_comparedTo_7 rfl (lv_at hl 1 rfl) ?_
    refine er_V (As := []) (rest := []) hFX hKK hE hS (c_X0_isEmpty_F l D κ κq a2 b2 k2 n2 x2 f2 (by omega) (by omega)) 0 gV_X0_33 hdV_X0_isEmpty rfl rfl ⟨Nat.le_of_ble_eq_true rfl, Nat.le_of_ble_eq_true rfl⟩ rfl rfl (Nat.le_of_ble_eq_true rfl) dX0_comparedTo_8 ⟨Nat.le_of_ble_eq_true rfl, Nat.le_of_ble_eq_true rfl⟩ hl.1 hP 2 0 rfl rfl rfl (subP0 hP [2, 3] rfl) (fun r__11 hp_12 => ?_)
    replace hp_12 : ((r__11 = 1 ∧ n2 = 0) ∨ (r__11 = 0 ∧ 1 ≤ n2)) := hp_12
    have ha_13 := hp_12
    clear hp_12
    rcases ha_13 with ⟨rfl, a_14⟩ | ⟨rfl, a_15⟩
    · refine W.eq (g2 := F0 m 11 ls [.int 1]) rfl ?_
      refine lv_if_eq (tgt := 28) hx hb dX0_comparedTo_11 (by decide) (fun c_16 => absurd c_16 (by decide)) (fun c_16 => ?_)
      refine lv_aload_n hx hb dX0_comparedTo_14 rfl (lv_at hl 0 rfl) ?_
      refine va_get (D := D) (ci := 0) (v := .ref b) (C := RX0) (T := TX0) (N := 3) hx hb hts inlX0 hown hK hP 0 rfl rfl 0 (by decide) (hts _ mw_88) (fun _ h9 => h9) rfl dX0_comparedTo_15 ?_
      refine va_alen hx hb hK hP 1 1 rfl rfl (v := nI n) rfl dX0_comparedTo_18 ?_
      refine lv_aload_n hx hb dX0_comparedTo_19 rfl (lv_at hl 1 rfl) ?_
      refine va_get (D := D) (ci := 0) (v := .ref b2) (C := RX0) (T := TX0) (N := 3) hx hb hts inlX0 hown hK hP 2 rfl rfl 0 (by decide) (hts _ mw_88) (fun _ h9 => h9) rfl dX0_comparedTo_20 ?_
      refine va_alen hx hb hK hP 3 1 rfl rfl (v := nI n2) rfl dX0_comparedTo_23 ?_
      refine er_S (As := [.int (nI n), .int (nI n2)]) (rest := []) hFX hKK hE hS (c_J6_compare_F l D κ κq (nI n) (nI n2)) 2 gS_X0_37 hdS_J6_compare_7cf53 rfl rfl ⟨Nat.le_of_ble_eq_true rfl, Nat.le_of_ble_eq_true rfl⟩ rfl rfl (Nat.le_of_ble_eq_true rfl) dX0_comparedTo_24 ⟨Nat.le_of_ble_eq_true rfl, Nat.le_of_ble_eq_true rfl⟩ hl.1 (subP0 hP [] rfl) (fun r__17 hp_18 => ?_)
      replace hp_18 : r__17 = icF (nI n) (nI n2) := hp_18
      have h_19 := hp_18
      clear hp_18
      refine W.eq (g2 := F0 m 27 ls [.int r__17]) rfl ?_
      exact cr_iret hx hb hr hlk rfl r__17 rfl (show r__17 = cpF k n x f k2 n2 x2 f2 zt from (cpF_e (by omega) h_19)) dX0_comparedTo_27
    · refine W.eq (g2 := F0 m 11 ls [.int 0]) rfl ?_
      refine lv_if_eq (tgt := 28) hx hb dX0_comparedTo_11 (by decide) (fun c_20 => ?_) (fun c_20 => absurd (by decide) c_20)
      refine lv_iload_n hx hb dX0_comparedTo_28 rfl (lv_at hl 2 rfl) ?_
      refine lv_iconst (v := 5) hx hb dX0_comparedTo_29 (by decide) ?_
      refine lv_icmp_ne (tgt := 39) hx hb dX0_comparedTo_30 (by decide) (fun c_21 => ?_) (fun c_21 => ?_)
      · refine lv_aload_n hx hb dX0_comparedTo_39 rfl (lv_at hl 0 rfl) ?_
        refine lv_iload_n hx hb dX0_comparedTo_40 rfl (lv_at hl 2 rfl) ?_
        refine er_V (As := [.int zt]) (rest := []) hFX hKK hE hS (c_X0_numberAs_F l D κ κq a b k n x f zt (by omega) (by omega)) 1 gV_X0_47 hdV_X0_numberAs rfl rfl ⟨Nat.le_of_ble_eq_true rfl, Nat.le_of_ble_eq_true rfl⟩ rfl rfl (Nat.le_of_ble_eq_true rfl) dX0_comparedTo_41 ⟨Nat.le_of_ble_eq_true rfl, Nat.le_of_ble_eq_true rfl⟩ hl.1 hP 0 0 rfl rfl rfl (subP0 hP [0, 1] rfl) (fun r__22 hp_23 => ?_)
        replace hp_23 : r__22 = nmF k n x zt := hp_23
        have h_24 := hp_23
        clear hp_23
        refine W.eq (g2 := F0 m 44 ls [.long r__22]) rfl ?_
        refine lv_aload_n hx hb dX0_comparedTo_44 rfl (lv_at hl 1 rfl) ?_
        refine lv_iload_n hx hb dX0_comparedTo_45 rfl (lv_at hl 2 rfl) ?_
        refine er_V (As := [.int zt]) (rest := [.long r__22]) hFX hKK hE hS (c_X0_numberAs_F l D κ κq a2 b2 k2 n2 x2 f2 zt (by omega) (by omega)) 1 gV_X0_47 hdV_X0_numberAs rfl rfl ⟨Nat.le_of_ble_eq_true rfl, Nat.le_of_ble_eq_true rfl⟩ rfl rfl (Nat.le_of_ble_eq_true rfl) dX0_comparedTo_46 ⟨Nat.le_of_ble_eq_true rfl, Nat.le_of_ble_eq_true rfl⟩ hl.1 hP 2 0 rfl rfl rfl (subP0 hP [2, 3] rfl) (fun r__25 hp_26 => ?_)
        replace hp_26 : r__25 = nmF k2 n2 x2 zt := hp_26
        have h_27 := hp_26
        clear hp_26
        refine W.eq (g2 := F0 m 49 ls [.long r__25, .long r__22]) rfl ?_
        refine er_S (As := [.long r__22, .long r__25]) (rest := []) hFX hKK hE hS (c_J13_compare_F l D κ κq r__22 r__25) 2 gS_X0_51 hdS_J13_compare_74951 rfl rfl ⟨Nat.le_of_ble_eq_true rfl, Nat.le_of_ble_eq_true rfl⟩ rfl rfl (Nat.le_of_ble_eq_true rfl) dX0_comparedTo_49 ⟨Nat.le_of_ble_eq_true rfl, Nat.le_of_ble_eq_true rfl⟩ hl.1 (subP0 hP [] rfl) (fun r__28 hp_29 => ?_)
        replace hp_29 : r__28 = icF (lg_cmp r__22 r__25) 0 := hp_29
        have h_30 := hp_29
        clear hp_29
        refine W.eq (g2 := F0 m 52 ls [.int r__28]) rfl ?_
        exact cr_iret hx hb hr hlk rfl r__28 rfl (show r__28 = cpF k n x f k2 n2 x2 f2 zt from (cpF_n (by omega) (by omega) (by assumption) h_24 h_27 h_30)) dX0_comparedTo_52
      · refine lv_aload_n hx hb dX0_comparedTo_33 rfl (lv_at hl 0 rfl) ?_
        refine lv_aload_n hx hb dX0_comparedTo_34 rfl (lv_at hl 1 rfl) ?_
        refine er_V (As := [.ref a2]) (rest := []) hFX hKK hE hS (c_X0_bytesComparedTo_F l D κ κq a b k n x f a2 b2 k2 n2 x2 f2 (by omega) (by omega) (by omega) (by omega)) 1 gV_X0_43 hdV_X0_bytesComparedTo rfl rfl ⟨Nat.le_of_ble_eq_true rfl, Nat.le_of_ble_eq_true rfl⟩ rfl rfl (Nat.le_of_ble_eq_true rfl) dX0_comparedTo_35 ⟨Nat.le_of_ble_eq_true rfl, Nat.le_of_ble_eq_true rfl⟩ hl.1 hP 0 0 rfl rfl rfl (subP0 hP [0, 1, 2, 3] rfl) (fun r__31 hp_32 => ?_)
        replace hp_32 : r__31 = bcF f f2 n n2 0 (min n n2) := hp_32
        have h_33 := hp_32
        clear hp_32
        refine W.eq (g2 := F0 m 38 ls [.int r__31]) rfl ?_
        exact cr_iret hx hb hr hlk rfl r__31 rfl (show r__31 = cpF k n x f k2 n2 x2 f2 zt from (cpF_b (by omega) (by omega) (by assumption) h_33)) dX0_comparedTo_38
