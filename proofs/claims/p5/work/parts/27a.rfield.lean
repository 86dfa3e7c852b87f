/-! the reference's reader, by the same functions -/
def dW (w : Nat → Int32) : Nat → Int32 := fun k => w (21369 + k)
/-- a field: how many bytes, which -/
def FC (f : Nat → Int32) (a : Nat) (xs : List Int32) : Prop := f (21 * a) = nI xs.length ∧ xs.length ≤ 20 ∧ lsF (fun i => f (21 * a + 1 + i)) xs.length = xs
def FO (f g : Nat → Int32) (a : Nat) : Prop := ∀ p : Nat, ¬ (21 * a ≤ p ∧ p < 21 * a + 21) → g p = f p
theorem FC_add {f : Nat → Int32} {a : Nat} {xs : List Int32} {z : Int32} (h : FC f a xs) (hl : xs.length < 20) : FC (upd (upd f (21 * a + 1 + xs.length) z) (21 * a) (nI (xs.length + 1))) a (xs ++ [z]) := by
  obtain ⟨h1, h2, h3⟩ := h
  have e : (xs ++ [z]).length = xs.length + 1 := by simp
  refine ⟨by rw [e]; simp [upd], by omega, ?_⟩
  rw [e, lsF, lsF_same (g := fun i => f (21 * a + 1 + i)) (fun i hi => by simp [upd, show ¬ 21 * a + 1 + i = 21 * a by omega, show ¬ i = xs.length by omega]), h3]
  simp [upd, show ¬ 21 * a + 1 + xs.length = 21 * a by omega]
theorem FC_out {f : Nat → Int32} {a n : Nat} {z y : Int32} (hl : n < 20) : FO f (upd (upd f (21 * a + 1 + n) z) (21 * a) y) a := by
  intro p hp
  simp [upd, show ¬ p = 21 * a by omega, show ¬ p = 21 * a + 1 + n by omega]
theorem FO_rf {f : Nat → Int32} {a : Nat} : FO f f a := fun _ _ => rfl
theorem FO_tr {f g h : Nat → Int32} {a : Nat} (h1 : FO f g a) (h2 : FO g h a) : FO f h a := fun p hp => (h2 p hp).trans (h1 p hp)
theorem cb_sg {x y z : Int32} (h : (x = 9 ∧ y = 0 ∧ z = 9) ∨ sgB x = true ∨ x = 10) (n2 : ¬ x = 10) (n1 : ¬ x = z) : sgB x = true := by
  rcases h with h | h | h
  · exact absurd (h.1.trans h.2.2.symm) n1
  · exact h
  · exact absurd h n2
theorem cb_no {x : Int32} {P Q : Prop} (h : sgB x = false ∧ P ∧ Q) : sgB x = false := h.1
theorem pl_ov {t d : Nat → Int32} {L p k : Nat} {a : List Int32} (hp : p ≤ L) (h : p = L ∨ t p = 10 ∨ t p = d 0) : plF t d (L - p) p k a = some (p, a) := by
  rcases Nat.lt_or_ge p L with h1 | h1
  · rcases h with h | h | h
    · omega
    · exact pl_10 h1 rfl h
    · exact pl_sep h1 rfl rfl h
  · exact pl_end h1
theorem rp_bk {xs A : List Int32} {k : Nat} (hk : 1 ≤ k) (h : xs ++ List.replicate k 32 = A) : xs ++ [32] ++ List.replicate (k - 1) 32 = A := by
  obtain ⟨j, rfl⟩ : ∃ j, k = j + 1 := ⟨k - 1, by omega⟩
  rw [← h, Nat.add_sub_cancel, List.append_assoc]
  rfl
theorem pl_bk {xs A : List Int32} {x : Int32} {k' : Nat} (hk : k' = 0) (h : xs ++ List.replicate k' 32 = A) : xs ++ [x] = A ++ [x] := by
  subst hk
  rw [← h]
  simp
theorem FC_0 {f : Nat → Int32} {a : Nat} : FC (upd f (21 * a) 0) a [] := ⟨by simp [upd]; rfl, by decide, rfl⟩
theorem FO_0 {f : Nat → Int32} {a : Nat} {z : Int32} : FO f (upd f (21 * a) z) a := fun p hp => by simp [upd, show ¬ p = 21 * a by omega]
theorem cb_q {x y z : Int32} (h : (x = 9 ∧ y = 0 ∧ z = 9) ∨ sgB x = true ∨ x = 10) (n : ¬ y = 0) : sgB x = true ∨ x = 10 := by
  rcases h with h | h
  · exact absurd h.2.1 n
  · exact h
/-- a field from behind its quote on -/
def qbF (t d : Nat → Int32) (L p : Nat) : Option (Nat × List Int32) :=
  match quF t d (L - p) p [] with
  | none => none
  | some (r, a) => bhF t d L r a
section QB
variable {t d : Nat → Int32} {L p q r s : Nat} {a b : List Int32}
theorem qb_n (e : quF t d (L - p) p [] = none) : qbF t d L p = none := by unfold qbF; rw [e]
theorem qb_y (e : quF t d (L - p) p [] = some (r, a)) (e2 : bhF t d L r a = some (s, b)) : qbF t d L p = some (s, b) := by unfold qbF; rw [e]; exact e2
theorem qb_b (e : quF t d (L - p) p [] = some (r, a)) (e2 : bhF t d L r a = none) : qbF t d L p = none := by unfold qbF; rw [e]; exact e2
theorem bh_o (e : s = skF t d (L - r) r) (hs : s ≤ L) (h : s = L ∨ t s = 10 ∨ t s = d 0) : bhF t d L r a = some (s, a) := by
  rcases h with h | h | h
  · exact bh_1 e (by omega)
  · exact bh_3 e rfl h
  · exact bh_2 e rfl rfl h
theorem fd_qb (e : q = skF t d (L - p) p) (h : q < L) (h2 : t q = d 1) : fdF t d L p = qbF t d L (q + 1) := by
  subst e
  exact if_pos ⟨h, h2⟩
end QB
/-- fields -/
def FL (f : Nat → Int32) (n : Nat) (fs : List (List Int32)) : Prop := fs.length = n ∧ ∀ c : Nat, c < n → FC f c (fs.getD c [])
theorem FL_0 {f : Nat → Int32} : FL f 0 [] := ⟨rfl, fun c hc => absurd hc (by omega)⟩
theorem FC_fo {f g : Nat → Int32} {a c : Nat} {xs : List Int32} (h : FC f c xs) (ho : FO f g a) (hne : ¬ c = a) : FC g c xs := by
  obtain ⟨h1, h2, h3⟩ := h
  refine ⟨by rw [ho _ (by omega)]; exact h1, h2, ?_⟩
  rw [lsF_same (g := fun i => f (21 * c + 1 + i)) (fun i hi => ho _ (by omega))]
  exact h3
theorem FL_add {f g : Nat → Int32} {n : Nat} {fs : List (List Int32)} {xs : List Int32} (h : FL f n fs) (ho : FO f g n) (hx : FC g n xs) : FL g (n + 1) (fs ++ [xs]) := by
  obtain ⟨h1, h2⟩ := h
  refine ⟨by rw [List.length_append, h1]; rfl, fun c hc => ?_⟩
  by_cases e : c = n
  · rw [e, List.getD_eq_getElem?_getD, List.getElem?_append_right (by omega), h1, Nat.sub_self]
    exact hx
  · rw [List.getD_eq_getElem?_getD, List.getElem?_append_left (by omega), ← List.getD_eq_getElem?_getD]
    exact FC_fo (h2 c (by omega)) ho e
def FA (f : Nat → Int32) (a : Nat) (xs : List Int32) : Prop := f a = nI xs.length ∧ xs.length ≤ 20 ∧ lsF (fun i => f (a + 1 + i)) xs.length = xs
theorem cp_y {n : Nat} {P Q : Prop} (h : (n = 0 ∧ P) ∨ (1 ≤ n ∧ Q)) (c : n = 0) : P := by
  rcases h with h | h
  · exact h.2
  · omega
theorem cp_n {n : Nat} {P Q : Prop} (h : (n = 0 ∧ P) ∨ (1 ≤ n ∧ Q)) (c : 1 ≤ n) : Q := by
  rcases h with h | h
  · omega
  · exact h.2
theorem nm_put {g f : Nat → Int32} {A pl k : Nat} {x : Int32} (e : f (pl + k) = x) (h : ∀ j : Nat, j < k → g (A + j) = f (pl + j)) : ∀ j : Nat, j < k + 1 → (upd g (A + k) x) (A + j) = f (pl + j) := by
  intro j hj
  by_cases e2 : j = k
  · subst e2
    simp [upd, e]
  · have h1 : ¬ A + j = A + k := by omega
    simp [upd, h1, e2, h j (by omega)]
/-- names that are laid -/
def NL (f : Nat → Int32) (i : Nat) (fs : List (List Int32)) : Prop := ∀ o : Nat, o < i → FA f (4 + 13 * o) (fs.getD o []) ∧ (fs.getD o []).length ≤ 12
theorem NL_0 {f : Nat → Int32} {fs : List (List Int32)} : NL f 0 fs := fun o h => absurd h (by omega)
theorem NL_add {f g : Nat → Int32} {b : Nat} {fs : List (List Int32)} (h : NL f b fs) (hx : FA g (4 + 13 * b) (fs.getD b [])) (hl : (fs.getD b []).length ≤ 12) (ho : ∀ p : Nat, ¬ (4 + 13 * b ≤ p ∧ p < 4 + 13 * b + 13) → g p = f p) : NL g (b + 1) fs := by
  intro o hob
  by_cases e : o = b
  · subst e
    exact ⟨hx, hl⟩
  · obtain ⟨⟨h1, h2, h3⟩, h4⟩ := h o (by omega)
    refine ⟨⟨by rw [ho _ (by omega)]; exact h1, h2, ?_⟩, h4⟩
    rw [lsF_same (g := fun i => f (4 + 13 * o + 1 + i)) (fun i hi => ho _ (by omega))]
    exact h3
theorem nv_12 {a : List Int32} (h : nvB a = true) : a.length ≤ 12 := by
  unfold nvB at h
  rw [Bool.and_eq_true, Bool.and_eq_true, decide_eq_true_eq, decide_eq_true_eq] at h
  exact h.2.1
theorem is_y {x : Int32} {P Q R : Prop} (h : (¬ x = 0 ∧ P ∧ Q) ∨ (x = 0 ∧ R)) (c : ¬ x = 0) : P ∧ Q := by
  rcases h with h | h
  · exact h.2
  · exact absurd h.1 c
theorem is_n {x : Int32} {P Q R : Prop} (h : (¬ x = 0 ∧ P ∧ Q) ∨ (x = 0 ∧ R)) (c : x = 0) : R := by
  rcases h with h | h
  · exact absurd c h.1
  · exact h.2

set_option maxHeartbeats 4000000 in
set_option maxRecDepth 100000 in
theorem f_X12_isEnd (l : Launch) (D : va_G) (κ : Nat → ClassId) (m0 : Nat) (a0 : Nat) (a1 : Nat) (a2 : Nat) (u3 : Nat) (f4 : Int32) (a5 : Nat) (u6 : Nat) (f7 : Int32) (f8 : Int32) (f9 : Int32) (f10 : Int32) (u11 : Nat) (u12 : Nat) (u13 : Nat) (a14 : Nat) (a15 : Nat) (a16 : Nat) (a17 : Nat) (f18 : Int32) (f19 : Int32) (a20 : Nat) (a21 : Nat) (u22 : Nat) (a23 : Nat) (a24 : Nat) (a25 : Nat) (u26 : Nat) (f27 : Int32) (a28 : Nat) (u29 : Nat) (tp : Nat → Int32) (h6 : u6 ≤ 800) (h11 : u11 ≤ u6) : Cr l yX12_isEnd (wl yX12_isEnd cX12_isEnd 1 (some .boolean)) { frames := 0, cells := 0, slots := 0, locals := 0 } D κ [.ref m0] (va_P D vwCl [(m0, .inr (12, [.ref a0, .ref a1, .ref a2, .int (nI u3), .int f4, .ref a5, .int (nI u6), .int f7, .int f8, .int f9, .int f10, .int (nI u11), .int (nI u12), .int (nI u13), .ref a14, .ref a15, .ref a16, .ref a17, .int f18, .int f19, .ref a20, .ref a21, .int (nI u22), .ref a23, .ref a24, .ref a25, .int (nI u26), .int f27, .ref a28, .int (nI u29)])), (a5, .inl (κ 0, 800, .inl tp))]) (fun r : Int32 => some (.int r)) (fun r : Int32 => ((r = 1 ∧ (u11 = u6 ∨ tp u11 = 10)) ∨ (r = 0 ∧ u11 < u6 ∧ ¬ tp u11 = 10))) := by
  refine cr_of (by decide +kernel) (Nat.le_of_ble_eq_true rfl) ?_
  intro p e s m args below meth c ls hx hb hr hml hts hown hlk hKK hK hI hl
  have hP : va_P D vwCl [(m0, .inr (12, [.ref a0, .ref a1, .ref a2, .int (nI u3), .int f4, .ref a5, .int (nI u6), .int f7, .int f8, .int f9, .int f10, .int (nI u11), .int (nI u12), .int (nI u13), .ref a14, .ref a15, .ref a16, .ref a17, .int f18, .int f19, .ref a20, .ref a21, .int (nI u22), .ref a23, .ref a24, .ref a25, .int (nI u26), .int f27, .ref a28, .int (nI u29)])), (a5, .inl (κ 0, 800, .inl tp))] s.heap := hI
  have hFX : FX p s m args c cX12_isEnd 1 RX12 := ⟨hx, hb, hml, hown, hts⟩
  have hl : lv_has ls 1 [(0, .ref m0)] := hl
  refine lv_aload_n hx hb dX12_isEnd_0 rfl (lv_at hl 0 rfl) ?_
  refine va_get (D := D) (ci := 12) (v := .int (nI u11)) (C := RX12) (T := TX12) (N := 30) hx hb hts inlX12 hown hK hP 0 rfl rfl 11 (by decide) (hts _ mw_423) (fun _ h9 => h9) rfl dX12_isEnd_1 ?_
  refine lv_aload_n hx hb dX12_isEnd_4 rfl (lv_at hl 0 rfl) ?_
  refine va_get (D := D) (ci := 12) (v := .int (nI u6)) (C := RX12) (T := TX12) (N := 30) hx hb hts inlX12 hown hK hP 0 rfl rfl 6 (by decide) (hts _ mw_236) (fun _ h9 => h9) rfl dX12_isEnd_5 ?_
  refine lv_icmp_eq (tgt := 25) hx hb dX12_isEnd_8 (by decide) (fun c_1 => ?_) (fun c_1 => ?_)
  · have nc_1 := cv_eq (a := u11) (b := u6) (by omega) (by omega) c_1
    refine lv_iconst (v := 1) hx hb dX12_isEnd_25 (by decide) ?_
    refine lv_goto (tgt := 30) hx hb dX12_isEnd_26 (by decide) ?_
    exact cr_iret hx hb hr hlk rfl 1 rfl (by exact Or.inl (⟨rfl, (show u11 = u6 ∨ tp u11 = 10 from (Or.inl (by omega)))⟩)) dX12_isEnd_30
  · have nc_1 := cv_ne (a := u11) (b := u6) (by omega) (by omega) c_1
    refine lv_aload_n hx hb dX12_isEnd_11 rfl (lv_at hl 0 rfl) ?_
    refine va_get (D := D) (ci := 12) (v := .ref a5) (C := RX12) (T := TX12) (N := 30) hx hb hts inlX12 hown hK hP 0 rfl rfl 5 (by decide) (hts _ mw_191) (fun _ h9 => h9) rfl dX12_isEnd_12 ?_
    refine lv_aload_n hx hb dX12_isEnd_15 rfl (lv_at hl 0 rfl) ?_
    refine va_get (D := D) (ci := 12) (v := .int (nI u11)) (C := RX12) (T := TX12) (N := 30) hx hb hts inlX12 hown hK hP 0 rfl rfl 11 (by decide) (hts _ mw_423) (fun _ h9 => h9) rfl dX12_isEnd_16 ?_
    refine va_iald hx hb hK hP 1 0 rfl rfl (i := nI u11) (vp_in_nI (n := u11) (by omega) (by omega)) dX12_isEnd_19 ?_
    refine kv (v := .int (tp u11)) (by rw [nI_clamp (by omega)]) ?_
    obtain ⟨x_2, ex_2⟩ : ∃ y9 : Int32, tp u11 = y9 := ⟨_, rfl⟩
    refine kv (v := .int x_2) (congrArg Value.int ex_2) ?_
    refine lv_bipush (v := 10) hx hb dX12_isEnd_20 (by decide) ?_
    refine lv_icmp_ne (tgt := 29) hx hb dX12_isEnd_22 (by decide) (fun c_3 => ?_) (fun c_3 => ?_)
    · refine lv_iconst (v := 0) hx hb dX12_isEnd_29 (by decide) ?_
      exact cr_iret hx hb hr hlk rfl 0 rfl (by exact Or.inr ((⟨rfl, (show u11 < u6 from (by first | assumption | omega | rfl | exact Or.inl (by assumption) | exact Or.inr (by assumption))), (show ¬ tp u11 = 10 from (fun h9 => c_3 (ex_2.symm.trans h9)))⟩))) dX12_isEnd_30
    · refine lv_iconst (v := 1) hx hb dX12_isEnd_25 (by decide) ?_
      refine lv_goto (tgt := 30) hx hb dX12_isEnd_26 (by decide) ?_
      exact cr_iret hx hb hr hlk rfl 1 rfl (by exact Or.inl (⟨rfl, (show u11 = u6 ∨ tp u11 = 10 from (Or.inr (ex_2.trans c_3)))⟩)) dX12_isEnd_30
set_option maxHeartbeats 4000000 in
set_option maxRecDepth 100000 in
theorem f_X12_isOver (l : Launch) (D : va_G) (κ : Nat → ClassId) (m0 : Nat) (a0 : Nat) (a1 : Nat) (a2 : Nat) (u3 : Nat) (f4 : Int32) (a5 : Nat) (u6 : Nat) (f7 : Int32) (f8 : Int32) (f9 : Int32) (f10 : Int32) (u11 : Nat) (u12 : Nat) (u13 : Nat) (a14 : Nat) (a15 : Nat) (a16 : Nat) (a17 : Nat) (f18 : Int32) (f19 : Int32) (a20 : Nat) (a21 : Nat) (u22 : Nat) (a23 : Nat) (a24 : Nat) (a25 : Nat) (u26 : Nat) (f27 : Int32) (a28 : Nat) (u29 : Nat) (w : Nat → Int32) (tp : Nat → Int32) (h6 : u6 ≤ 800) (h_a0 : Pw w) (h11 : u11 ≤ u6) : Cr l yX12_isOver (wl yX12_isOver cX12_isOver 1 (some .boolean)) { frames := 1, cells := 0, slots := 0, locals := 20 } D κ [.ref m0] (va_P D vwCl [(m0, .inr (12, [.ref a0, .ref a1, .ref a2, .int (nI u3), .int f4, .ref a5, .int (nI u6), .int f7, .int f8, .int f9, .int f10, .int (nI u11), .int (nI u12), .int (nI u13), .ref a14, .ref a15, .ref a16, .ref a17, .int f18, .int f19, .ref a20, .ref a21, .int (nI u22), .ref a23, .ref a24, .ref a25, .int (nI u26), .int f27, .ref a28, .int (nI u29)])), (a0, .inl (κ 0, 21375, .inl w)), (a5, .inl (κ 0, 800, .inl tp))]) (fun r : Int32 => some (.int r)) (fun r : Int32 => ((r = 1 ∧ (u11 = u6 ∨ tp u11 = 10 ∨ tp u11 = w 21369)) ∨ (r = 0 ∧ u11 < u6 ∧ (¬ tp u11 = 10 ∧ ¬ tp u11 = w 21369)))) := by
  refine cr_of (by decide +kernel) (Nat.le_of_ble_eq_true rfl) ?_
  intro p e s m args below meth c ls hx hb hr hml hts hown hlk hKK hK hI hl
  have hP : va_P D vwCl [(m0, .inr (12, [.ref a0, .ref a1, .ref a2, .int (nI u3), .int f4, .ref a5, .int (nI u6), .int f7, .int f8, .int f9, .int f10, .int (nI u11), .int (nI u12), .int (nI u13), .ref a14, .ref a15, .ref a16, .ref a17, .int f18, .int f19, .ref a20, .ref a21, .int (nI u22), .ref a23, .ref a24, .ref a25, .int (nI u26), .int f27, .ref a28, .int (nI u29)])), (a0, .inl (κ 0, 21375, .inl w)), (a5, .inl (κ 0, 800, .inl tp))] s.heap := hI
  have hFX : FX p s m args c cX12_isOver 1 RX12 := ⟨hx, hb, hml, hown, hts⟩
  have hl : lv_has ls 1 [(0, .ref m0)] := hl
  refine lv_aload_n hx hb dX12_isOver_0 rfl (lv_at hl 0 rfl) ?_
  refine cr_V (As := []) (rest := []) hFX hKK (f_X12_isEnd l D κ m0 a0 a1 a2 u3 f4 a5 u6 f7 f8 f9 f10 u11 u12 u13 a14 a15 a16 a17 f18 f19 a20 a21 u22 a23 a24 a25 u26 f27 a28 u29 tp (by omega) (by omega)) 0 gV_X12_198 hdV_X12_isEnd rfl rfl ⟨Nat.le_of_ble_eq_true rfl, Nat.le_of_ble_eq_true rfl⟩ rfl rfl (Nat.le_of_ble_eq_true rfl) dX12_isOver_1 ⟨Nat.le_of_ble_eq_true rfl, Nat.le_of_ble_eq_true rfl⟩ hl.1 hP 0 12 rfl rfl rfl (hP.sub [0, 2] rfl) (fun r__1 hp_2 => ?_)
  replace hp_2 : ((r__1 = 1 ∧ (u11 = u6 ∨ tp u11 = 10)) ∨ (r__1 = 0 ∧ u11 < u6 ∧ ¬ tp u11 = 10)) := hp_2
  have ha_3 := hp_2
  clear hp_2
  rcases ha_3 with ⟨rfl, a_4⟩ | ⟨rfl, a_5, a_6⟩
  · refine W.eq (g2 := F0 m 4 ls [.int 1]) rfl ?_
    refine lv_if_ne (tgt := 27) hx hb dX12_isOver_4 (by decide) (fun c_7 => ?_) (fun c_7 => absurd c_7 (by decide))
    refine lv_iconst (v := 1) hx hb dX12_isOver_27 (by decide) ?_
    refine lv_goto (tgt := 32) hx hb dX12_isOver_28 (by decide) ?_
    exact cr_iret hx hb hr hlk rfl 1 rfl (by exact Or.inl (⟨rfl, (show u11 = u6 ∨ tp u11 = 10 ∨ tp u11 = w 21369 from (by rcases a_4 with h9 | h9; (exact Or.inl h9); exact Or.inr (Or.inl h9)))⟩)) dX12_isOver_32
  · refine W.eq (g2 := F0 m 4 ls [.int 0]) rfl ?_
    refine lv_if_ne (tgt := 27) hx hb dX12_isOver_4 (by decide) (fun c_8 => absurd c_8 (by decide)) (fun c_8 => ?_)
    refine lv_aload_n hx hb dX12_isOver_7 rfl (lv_at hl 0 rfl) ?_
    refine va_get (D := D) (ci := 12) (v := .ref a5) (C := RX12) (T := TX12) (N := 30) hx hb hts inlX12 hown hK hP 0 rfl rfl 5 (by decide) (hts _ mw_191) (fun _ h9 => h9) rfl dX12_isOver_8 ?_
    refine lv_aload_n hx hb dX12_isOver_11 rfl (lv_at hl 0 rfl) ?_
    refine va_get (D := D) (ci := 12) (v := .int (nI u11)) (C := RX12) (T := TX12) (N := 30) hx hb hts inlX12 hown hK hP 0 rfl rfl 11 (by decide) (hts _ mw_423) (fun _ h9 => h9) rfl dX12_isOver_12 ?_
    refine va_iald hx hb hK hP 2 0 rfl rfl (i := nI u11) (vp_in_nI (n := u11) (by omega) (by omega)) dX12_isOver_15 ?_
    refine kv (v := .int (tp u11)) (by rw [nI_clamp (by omega)]) ?_
    obtain ⟨x_9, ex_9⟩ : ∃ y9 : Int32, tp u11 = y9 := ⟨_, rfl⟩
    refine kv (v := .int x_9) (congrArg Value.int ex_9) ?_
    refine lv_aload_n hx hb dX12_isOver_16 rfl (lv_at hl 0 rfl) ?_
    refine va_get (D := D) (ci := 12) (v := .ref a0) (C := RX12) (T := TX12) (N := 30) hx hb hts inlX12 hown hK hP 0 rfl rfl 0 (by decide) (hts _ mw_187) (fun _ h9 => h9) rfl dX12_isOver_17 ?_
    refine lv_sipush (v := 21369) hx hb dX12_isOver_20 (by decide) ?_
    refine va_iald hx hb hK hP 1 0 rfl rfl (i := 21369) (vp_k (by decide)) dX12_isOver_23 ?_
    obtain ⟨x_10, ex_10⟩ : ∃ y9 : Int32, w 21369 = y9 := ⟨_, rfl⟩
    refine kv (v := .int x_10) (congrArg Value.int ex_10) ?_
    refine lv_icmp_ne (tgt := 31) hx hb dX12_isOver_24 (by decide) (fun c_11 => ?_) (fun c_11 => ?_)
    · refine lv_iconst (v := 0) hx hb dX12_isOver_31 (by decide) ?_
      exact cr_iret hx hb hr hlk rfl 0 rfl (by exact Or.inr ((⟨rfl, (show u11 < u6 from (by first | assumption | omega | rfl | exact Or.inl (by assumption) | exact Or.inr (by assumption))), (show ¬ tp u11 = 10 ∧ ¬ tp u11 = w 21369 from ⟨a_6, fun h9 => c_11 ((ex_9.symm.trans h9).trans ex_10)⟩)⟩))) dX12_isOver_32
    · refine lv_iconst (v := 1) hx hb dX12_isOver_27 (by decide) ?_
      refine lv_goto (tgt := 32) hx hb dX12_isOver_28 (by decide) ?_
      exact cr_iret hx hb hr hlk rfl 1 rfl (by exact Or.inl (⟨rfl, (show u11 = u6 ∨ tp u11 = 10 ∨ tp u11 = w 21369 from (Or.inr (Or.inr (ex_9.trans (c_11.trans ex_10.symm)))))⟩)) dX12_isOver_32
set_option maxHeartbeats 4000000 in
set_option maxRecDepth 100000 in
theorem f_X12_blanks (l : Launch) (D : va_G) (κ : Nat → ClassId) (m0 : Nat) (a0 : Nat) (a1 : Nat) (a2 : Nat) (u3 : Nat) (f4 : Int32) (a5 : Nat) (u6 : Nat) (f7 : Int32) (f8 : Int32) (f9 : Int32) (f10 : Int32) (u11 : Nat) (u12 : Nat) (u13 : Nat) (a14 : Nat) (a15 : Nat) (a16 : Nat) (a17 : Nat) (f18 : Int32) (f19 : Int32) (a20 : Nat) (a21 : Nat) (u22 : Nat) (a23 : Nat) (a24 : Nat) (a25 : Nat) (u26 : Nat) (f27 : Int32) (a28 : Nat) (u29 : Nat) (w : Nat → Int32) (tp : Nat → Int32) (h6 : u6 ≤ 800) (h_a0 : Pw w) (h11 : u11 ≤ u6) : Ct l yX12_blanks (wl yX12_blanks cX12_blanks 1 none) { frames := 0, cells := 0, slots := 0, locals := 0 } D κ [.ref m0] [(m0, .inr (12, [.ref a0, .ref a1, .ref a2, .int (nI u3), .int f4, .ref a5, .int (nI u6), .int f7, .int f8, .int f9, .int f10, .int (nI u11), .int (nI u12), .int (nI u13), .ref a14, .ref a15, .ref a16, .ref a17, .int f18, .int f19, .ref a20, .ref a21, .int (nI u22), .ref a23, .ref a24, .ref a25, .int (nI u26), .int f27, .ref a28, .int (nI u29)])), (a0, .inl (κ 0, 21375, .inl w)), (a5, .inl (κ 0, 800, .inl tp))] (fun _ => True) (fun y11 : Nat => none) (fun y11 : Nat => u11 ≤ y11 ∧ y11 ≤ u6 ∧ y11 = skF tp (dW w) (u6 - u11) u11) (fun y11 : Nat => [(m0, .inr (12, [.ref a0, .ref a1, .ref a2, .int (nI u3), .int f4, .ref a5, .int (nI u6), .int f7, .int f8, .int f9, .int f10, .int (nI y11), .int (nI u12), .int (nI u13), .ref a14, .ref a15, .ref a16, .ref a17, .int f18, .int f19, .ref a20, .ref a21, .int (nI u22), .ref a23, .ref a24, .ref a25, .int (nI u26), .int f27, .ref a28, .int (nI u29)])), (a0, .inl (κ 0, 21375, .inl w)), (a5, .inl (κ 0, 800, .inl tp))]) (fun _ _ => True) := by
  refine ct_of (by decide +kernel) (Nat.le_of_ble_eq_true rfl) ?_
  intro p e s m args below meth c A ls hx hb hr hml hts hown hlk hin hKK hK hA hP hD hS hI hl
  have hS : va_S A s.heap s.heap [] := hS
  have hFX : FX p s m args c cX12_blanks 1 RX12 := ⟨hx, hb, hml, hown, hts⟩
  have hl : lv_has ls 1 [(0, .ref m0)] := hl
  refine lv_aload_n hx hb dX12_blanks_0 rfl (lv_at hl 0 rfl) ?_
  refine va_get (D := D) (ci := 12) (v := .ref a0) (C := RX12) (T := TX12) (N := 30) hx hb hts inlX12 hown hK hP 0 rfl rfl 0 (by decide) (hts _ mw_187) (fun _ h9 => h9) rfl dX12_blanks_1 ?_
  refine lv_sipush (v := 21372) hx hb dX12_blanks_4 (by decide) ?_
  refine va_iald hx hb hK hP 1 0 rfl rfl (i := 21372) (vp_k (by decide)) dX12_blanks_7 ?_
  obtain ⟨x_1, ex_1⟩ : ∃ y9 : Int32, w 21372 = y9 := ⟨_, rfl⟩
  refine kv (v := .int x_1) (congrArg Value.int ex_1) ?_
  refine lv_iconst (v := 1) hx hb dX12_blanks_8 (by decide) ?_
  refine lv_icmp_ne (tgt := 50) hx hb dX12_blanks_9 (by decide) (fun c_2 => ?_) (fun c_2 => ?_)
  · exact ct_vret hx hb hr hlk hS hP hD u11 rfl ⟨(show u11 ≤ u11 from (by first | assumption | omega | rfl | exact Or.inl (by assumption) | exact Or.inr (by assumption))), (show u11 ≤ u6 from (by first | assumption | omega | rfl | exact Or.inl (by assumption) | exact Or.inr (by assumption))), (show u11 = skF tp (dW w) (u6 - u11) u11 from ((sk_no (t := tp) (d := (dW w)) ex_1 c_2 _).symm))⟩ [0, 1, 2] rfl (by decide) trivial (Nat.le_of_ble_eq_true rfl) (Nat.le_of_ble_eq_true rfl) dX12_blanks_50
  · refine loop_dn (fun k9 H locs ls => ∃ (v11_12 : Nat), (u11 ≤ v11_12) ∧ (v11_12 ≤ u6) ∧ (skF tp (dW w) (u6 - v11_12) v11_12 = skF tp (dW w) (u6 - u11) u11) ∧ u6 - v11_12 = k9 ∧ va_P D vwCl [(m0, .inr (12, [.ref a0, .ref a1, .ref a2, .int (nI u3), .int f4, .ref a5, .int (nI u6), .int f7, .int f8, .int f9, .int f10, .int (nI v11_12), .int (nI u12), .int (nI u13), .ref a14, .ref a15, .ref a16, .ref a17, .int f18, .int f19, .ref a20, .ref a21, .int (nI u22), .ref a23, .ref a24, .ref a25, .int (nI u26), .int f27, .ref a28, .int (nI u29)])), (a0, .inl (κ 0, 21375, .inl w)), (a5, .inl (κ 0, 800, .inl tp))] H ∧ va_D A [(m0, .inr (12, [.ref a0, .ref a1, .ref a2, .int (nI u3), .int f4, .ref a5, .int (nI u6), .int f7, .int f8, .int f9, .int f10, .int (nI v11_12), .int (nI u12), .int (nI u13), .ref a14, .ref a15, .ref a16, .ref a17, .int f18, .int f19, .ref a20, .ref a21, .int (nI u22), .ref a23, .ref a24, .ref a25, .int (nI u26), .int f27, .ref a28, .int (nI u29)])), (a0, .inl (κ 0, 21375, .inl w)), (a5, .inl (κ 0, 800, .inl tp))] ∧ va_S A s.heap H locs ∧ lv_has ls 1 [(0, .ref m0)]) (fun k9 H locs ls hI12 ih12 => ?_) (u6 - u11) _ _ _ ⟨u11, (by omega), (by omega), rfl, rfl, hP, hD, hS, lv_sub hl [0] rfl⟩
    obtain ⟨v11_12, hl12_0, hl12_1, hl12_2, hm12, hP, hD, hS, hl⟩ := hI12
    refine lv_aload_n hx hb dX12_blanks_12 rfl (lv_at hl 0 rfl) ?_
    refine va_get (D := D) (ci := 12) (v := .int (nI v11_12)) (C := RX12) (T := TX12) (N := 30) hx hb hts inlX12 hown hK hP 0 rfl rfl 11 (by decide) (hts _ mw_423) (fun _ h9 => h9) rfl dX12_blanks_13 ?_
    refine lv_aload_n hx hb dX12_blanks_16 rfl (lv_at hl 0 rfl) ?_
    refine va_get (D := D) (ci := 12) (v := .int (nI u6)) (C := RX12) (T := TX12) (N := 30) hx hb hts inlX12 hown hK hP 0 rfl rfl 6 (by decide) (hts _ mw_236) (fun _ h9 => h9) rfl dX12_blanks_17 ?_
    refine lv_icmp_ge (tgt := 50) hx hb dX12_blanks_20 (by decide) (fun c_3 => ?_) (fun c_3 => ?_)
    · have nc_3 := cv_le (a := u6) (b := v11_12) (by omega) (by omega) c_3
      exact ct_vret hx hb hr hlk hS hP hD v11_12 rfl ⟨(show u11 ≤ v11_12 from (by first | assumption | omega | rfl | exact Or.inl (by assumption) | exact Or.inr (by assumption))), (show v11_12 ≤ u6 from (by first | assumption | omega | rfl | exact Or.inl (by assumption) | exact Or.inr (by assumption))), (show v11_12 = skF tp (dW w) (u6 - u11) u11 from ((sk_end (t := tp) (d := (dW w)) (by omega)).symm.trans hl12_2))⟩ [0, 1, 2] rfl (by decide) trivial (Nat.le_of_ble_eq_true rfl) (Nat.le_of_ble_eq_true rfl) dX12_blanks_50
    · have nc_3 := cv_nle (a := u6) (b := v11_12) (by omega) (by omega) c_3
      refine lv_aload_n hx hb dX12_blanks_23 rfl (lv_at hl 0 rfl) ?_
      refine va_get (D := D) (ci := 12) (v := .ref a5) (C := RX12) (T := TX12) (N := 30) hx hb hts inlX12 hown hK hP 0 rfl rfl 5 (by decide) (hts _ mw_191) (fun _ h9 => h9) rfl dX12_blanks_24 ?_
      refine lv_aload_n hx hb dX12_blanks_27 rfl (lv_at hl 0 rfl) ?_
      refine va_get (D := D) (ci := 12) (v := .int (nI v11_12)) (C := RX12) (T := TX12) (N := 30) hx hb hts inlX12 hown hK hP 0 rfl rfl 11 (by decide) (hts _ mw_423) (fun _ h9 => h9) rfl dX12_blanks_28 ?_
      refine va_iald hx hb hK hP 2 0 rfl rfl (i := nI v11_12) (vp_in_nI (n := v11_12) (by omega) (by omega)) dX12_blanks_31 ?_
      refine kv (v := .int (tp v11_12)) (by rw [nI_clamp (by omega)]) ?_
      obtain ⟨x_4, ex_4⟩ : ∃ y9 : Int32, tp v11_12 = y9 := ⟨_, rfl⟩
      refine kv (v := .int x_4) (congrArg Value.int ex_4) ?_
      refine lv_bipush (v := 32) hx hb dX12_blanks_32 (by decide) ?_
      refine lv_icmp_ne (tgt := 50) hx hb dX12_blanks_34 (by decide) (fun c_5 => ?_) (fun c_5 => ?_)
      · exact ct_vret hx hb hr hlk hS hP hD v11_12 rfl ⟨(show u11 ≤ v11_12 from (by first | assumption | omega | rfl | exact Or.inl (by assumption) | exact Or.inr (by assumption))), (show v11_12 ≤ u6 from (by first | assumption | omega | rfl | exact Or.inl (by assumption) | exact Or.inr (by assumption))), (show v11_12 = skF tp (dW w) (u6 - u11) u11 from ((sk_stop (t := tp) (d := (dW w)) ex_4 c_5 _).symm.trans hl12_2))⟩ [0, 1, 2] rfl (by decide) trivial (Nat.le_of_ble_eq_true rfl) (Nat.le_of_ble_eq_true rfl) dX12_blanks_50
      · refine lv_aload_n hx hb dX12_blanks_37 rfl (lv_at hl 0 rfl) ?_
        refine lv_dup hx hb dX12_blanks_38 rfl ?_
        refine va_get (D := D) (ci := 12) (v := .int (nI v11_12)) (C := RX12) (T := TX12) (N := 30) hx hb hts inlX12 hown hK hP 0 rfl rfl 11 (by decide) (hts _ mw_423) (fun _ h9 => h9) rfl dX12_blanks_39 ?_
        refine lv_iconst (v := 1) hx hb dX12_blanks_42 (by decide) ?_
        refine lv_iadd hx hb dX12_blanks_43 ?_
        refine ki (v := (nI (v11_12 + 1))) (nI_add v11_12 1) ?_
        refine va_put (D := D) (ci := 12) (v := .int (nI (v11_12 + 1))) (ty := tyX12 11) (C := RX12) (T := TX12) (N := 30) hx hb hts inlX12 tyX12 tyX12_ok nmX12 hown hK hP hD hS 0 rfl rfl 11 (by decide) (hts _ mw_423) (fun _ h9 => h9) rfl (tyX12_ok 11 (by decide)) rfl rfl (Nat.le_of_ble_eq_true rfl) dX12_blanks_44 (fun H locs hP hD hS => ?_)
        have hP : va_P D vwCl [(m0, .inr (12, [.ref a0, .ref a1, .ref a2, .int (nI u3), .int f4, .ref a5, .int (nI u6), .int f7, .int f8, .int f9, .int f10, .int (nI (v11_12 + 1)), .int (nI u12), .int (nI u13), .ref a14, .ref a15, .ref a16, .ref a17, .int f18, .int f19, .ref a20, .ref a21, .int (nI u22), .ref a23, .ref a24, .ref a25, .int (nI u26), .int f27, .ref a28, .int (nI u29)])), (a0, .inl (κ 0, 21375, .inl w)), (a5, .inl (κ 0, 800, .inl tp))] H := hP
        have hD : va_D A [(m0, .inr (12, [.ref a0, .ref a1, .ref a2, .int (nI u3), .int f4, .ref a5, .int (nI u6), .int f7, .int f8, .int f9, .int f10, .int (nI (v11_12 + 1)), .int (nI u12), .int (nI u13), .ref a14, .ref a15, .ref a16, .ref a17, .int f18, .int f19, .ref a20, .ref a21, .int (nI u22), .ref a23, .ref a24, .ref a25, .int (nI u26), .int f27, .ref a28, .int (nI u29)])), (a0, .inl (κ 0, 21375, .inl w)), (a5, .inl (κ 0, 800, .inl tp))] := hD
        refine lv_goto (tgt := 0) hx hb dX12_blanks_47 (by decide) ?_
        refine lv_aload_n hx hb dX12_blanks_0 rfl (lv_at hl 0 rfl) ?_
        refine va_get (D := D) (ci := 12) (v := .ref a0) (C := RX12) (T := TX12) (N := 30) hx hb hts inlX12 hown hK hP 0 rfl rfl 0 (by decide) (hts _ mw_187) (fun _ h9 => h9) rfl dX12_blanks_1 ?_
        refine lv_sipush (v := 21372) hx hb dX12_blanks_4 (by decide) ?_
        refine va_iald hx hb hK hP 1 0 rfl rfl (i := 21372) (vp_k (by decide)) dX12_blanks_7 ?_
        refine kv (v := .int x_1) (congrArg Value.int (ex_1)) ?_
        refine lv_iconst (v := 1) hx hb dX12_blanks_8 (by decide) ?_
        refine lv_icmp_ne (tgt := 50) hx hb dX12_blanks_9 (by decide) (fun c_6 => absurd c_2 c_6) (fun c_6 => ?_)
        exact ih12 _ _ _ _ (by omega) ⟨(v11_12 + 1), (by omega), (by omega), ((sk_go (t := tp) (d := (dW w)) (by omega) ex_1 c_2 ex_4 c_5).symm.trans hl12_2), rfl, hP, hD, hS, lv_sub hl [0] rfl⟩
set_option maxHeartbeats 4000000 in
set_option maxRecDepth 100000 in
theorem f_X12_canBe (l : Launch) (D : va_G) (κ : Nat → ClassId) (m0 : Nat) (a0 : Nat) (a1 : Nat) (a2 : Nat) (u3 : Nat) (f4 : Int32) (a5 : Nat) (u6 : Nat) (f7 : Int32) (f8 : Int32) (f9 : Int32) (f10 : Int32) (u11 : Nat) (u12 : Nat) (u13 : Nat) (a14 : Nat) (a15 : Nat) (a16 : Nat) (a17 : Nat) (f18 : Int32) (f19 : Int32) (a20 : Nat) (a21 : Nat) (u22 : Nat) (a23 : Nat) (a24 : Nat) (a25 : Nat) (u26 : Nat) (f27 : Int32) (a28 : Nat) (u29 : Nat) (w : Nat → Int32) (za : Int32) (zb : Int32) (h_a0 : Pw w) : Cr l yX12_canBe (wl yX12_canBe cX12_canBe 3 (some .boolean)) { frames := 1, cells := 0, slots := 0, locals := 25 } D κ [.ref m0, .int za, .int zb] (va_P D vwCl [(m0, .inr (12, [.ref a0, .ref a1, .ref a2, .int (nI u3), .int f4, .ref a5, .int (nI u6), .int f7, .int f8, .int f9, .int f10, .int (nI u11), .int (nI u12), .int (nI u13), .ref a14, .ref a15, .ref a16, .ref a17, .int f18, .int f19, .ref a20, .ref a21, .int (nI u22), .ref a23, .ref a24, .ref a25, .int (nI u26), .int f27, .ref a28, .int (nI u29)])), (a0, .inl (κ 0, 21375, .inl w))]) (fun r : Int32 => some (.int r)) (fun r : Int32 => ((r = 1 ∧ ((za = 9 ∧ zb = 0 ∧ w 21369 = 9) ∨ sgB za = true ∨ za = 10)) ∨ (r = 0 ∧ (sgB za = false ∧ ¬ za = 10 ∧ ¬ (zb = 0 ∧ za = 9 ∧ w 21369 = 9))))) := by
  refine cr_of (by decide +kernel) (Nat.le_of_ble_eq_true rfl) ?_
  intro p e s m args below meth c ls hx hb hr hml hts hown hlk hKK hK hI hl
  have hP : va_P D vwCl [(m0, .inr (12, [.ref a0, .ref a1, .ref a2, .int (nI u3), .int f4, .ref a5, .int (nI u6), .int f7, .int f8, .int f9, .int f10, .int (nI u11), .int (nI u12), .int (nI u13), .ref a14, .ref a15, .ref a16, .ref a17, .int f18, .int f19, .ref a20, .ref a21, .int (nI u22), .ref a23, .ref a24, .ref a25, .int (nI u26), .int f27, .ref a28, .int (nI u29)])), (a0, .inl (κ 0, 21375, .inl w))] s.heap := hI
  have hFX : FX p s m args c cX12_canBe 3 RX12 := ⟨hx, hb, hml, hown, hts⟩
  have hl : lv_has ls 3 [(0, .ref m0), (1, .int za), (2, .int zb)] := hl
  refine lv_iload_n hx hb dX12_canBe_0 rfl (lv_at hl 1 rfl) ?_
  refine lv_bipush (v := 9) hx hb dX12_canBe_1 (by decide) ?_
  refine lv_icmp_ne (tgt := 29) hx hb dX12_canBe_3 (by decide) (fun c_1 => ?_) (fun c_1 => ?_)
  · refine lv_iload_n hx hb dX12_canBe_29 rfl (lv_at hl 1 rfl) ?_
    refine lv_i2l (v := za.toInt64) hx hb dX12_canBe_30 rfl ?_
    refine lv_ldc2 hx hb hown (hts _ mw_436) dX12_canBe_31 ?_
    refine lv_ldc2 hx hb hown (hts _ mw_437) dX12_canBe_34 ?_
    refine cr_S (As := [.long za.toInt64, .long 32, .long 126]) (rest := []) hFX hKK (s_X12_isIn l D κ za.toInt64 32 126) 3 gS_X12_62 hdS_X12_isIn rfl rfl ⟨Nat.le_of_ble_eq_true rfl, Nat.le_of_ble_eq_true rfl⟩ rfl rfl (Nat.le_of_ble_eq_true rfl) dX12_canBe_37 ⟨Nat.le_of_ble_eq_true rfl, Nat.le_of_ble_eq_true rfl⟩ hl.1 (hP.sub [] rfl) (fun r__2 hp_3 => ?_)
    replace hp_3 : ((r__2 = 1 ∧ ¬ lg_cmp za.toInt64 (32 : Int64) < 0 ∧ ¬ 0 < lg_cmp za.toInt64 (126 : Int64)) ∨ (r__2 = 0 ∧ (lg_cmp za.toInt64 (32 : Int64) < 0 ∨ 0 < lg_cmp za.toInt64 (126 : Int64)))) := hp_3
    have ha_4 := hp_3
    clear hp_3
    rcases ha_4 with ⟨rfl, a_5, a_6⟩ | ⟨rfl, a_7⟩
    · refine W.eq (g2 := F0 m 40 ls [.int 1]) rfl ?_
      have hin_8 : (32 : Int) ≤ za.toInt ∧ za.toInt ≤ (126 : Int) := l_in (l_of rfl) (by decide) (by decide) a_5 a_6
      obtain ⟨j_9, hj_9, rfl⟩ : ∃ j9 : Nat, (j9 : Int) ≤ (126 : Int) ∧ za = nI j9 := i_nat (by omega) (by omega)
      refine lv_if_ne (tgt := 49) hx hb dX12_canBe_40 (by decide) (fun c_10 => ?_) (fun c_10 => absurd c_10 (by decide))
      refine lv_iconst (v := 1) hx hb dX12_canBe_49 (by decide) ?_
      refine lv_goto (tgt := 54) hx hb dX12_canBe_50 (by decide) ?_
      exact cr_iret hx hb hr hlk rfl 1 rfl (by exact Or.inl (⟨rfl, (show ((nI j_9) = 9 ∧ zb = 0 ∧ w 21369 = 9) ∨ sgB (nI j_9) = true ∨ (nI j_9) = 10 from (Or.inr (Or.inl (sgB_t (by omega) (by omega)))))⟩)) dX12_canBe_54
    · refine W.eq (g2 := F0 m 40 ls [.int 0]) rfl ?_
      have hin_11 : za.toInt < (32 : Int) ∨ (126 : Int) < za.toInt := l_out (l_of rfl) (by decide) (by decide) a_7
      refine lv_if_ne (tgt := 49) hx hb dX12_canBe_40 (by decide) (fun c_12 => absurd c_12 (by decide)) (fun c_12 => ?_)
      refine lv_iload_n hx hb dX12_canBe_43 rfl (lv_at hl 1 rfl) ?_
      refine lv_bipush (v := 10) hx hb dX12_canBe_44 (by decide) ?_
      refine lv_icmp_ne (tgt := 53) hx hb dX12_canBe_46 (by decide) (fun c_13 => ?_) (fun c_13 => ?_)
      · refine lv_iconst (v := 0) hx hb dX12_canBe_53 (by decide) ?_
        exact cr_iret hx hb hr hlk rfl 0 rfl (by exact Or.inr ((⟨rfl, (show sgB za = false ∧ ¬ za = 10 ∧ ¬ (zb = 0 ∧ za = 9 ∧ w 21369 = 9) from ⟨sgB_f (by omega), c_13, fun h9 => c_1 h9.2.1⟩)⟩))) dX12_canBe_54
      · refine lv_iconst (v := 1) hx hb dX12_canBe_49 (by decide) ?_
        refine lv_goto (tgt := 54) hx hb dX12_canBe_50 (by decide) ?_
        exact cr_iret hx hb hr hlk rfl 1 rfl (by exact Or.inl (⟨rfl, (show (za = 9 ∧ zb = 0 ∧ w 21369 = 9) ∨ sgB za = true ∨ za = 10 from (Or.inr (Or.inr c_13)))⟩)) dX12_canBe_54
  · refine lv_iload_n hx hb dX12_canBe_6 rfl (lv_at hl 2 rfl) ?_
    refine lv_if_ne (tgt := 27) hx hb dX12_canBe_7 (by decide) (fun c_14 => ?_) (fun c_14 => ?_)
    · refine lv_iconst (v := 0) hx hb dX12_canBe_27 (by decide) ?_
      exact cr_iret hx hb hr hlk rfl 0 rfl (by exact Or.inr ((⟨rfl, (show sgB za = false ∧ ¬ za = 10 ∧ ¬ (zb = 0 ∧ za = 9 ∧ w 21369 = 9) from ⟨by rw [c_1]; decide, by rw [c_1]; decide, (fun h9 => c_14 h9.1)⟩)⟩))) dX12_canBe_28
    · refine lv_aload_n hx hb dX12_canBe_10 rfl (lv_at hl 0 rfl) ?_
      refine va_get (D := D) (ci := 12) (v := .ref a0) (C := RX12) (T := TX12) (N := 30) hx hb hts inlX12 hown hK hP 0 rfl rfl 0 (by decide) (hts _ mw_187) (fun _ h9 => h9) rfl dX12_canBe_11 ?_
      refine lv_sipush (v := 21369) hx hb dX12_canBe_14 (by decide) ?_
      refine va_iald hx hb hK hP 1 0 rfl rfl (i := 21369) (vp_k (by decide)) dX12_canBe_17 ?_
      obtain ⟨x_15, ex_15⟩ : ∃ y9 : Int32, w 21369 = y9 := ⟨_, rfl⟩
      refine kv (v := .int x_15) (congrArg Value.int ex_15) ?_
      refine lv_bipush (v := 9) hx hb dX12_canBe_18 (by decide) ?_
      refine lv_icmp_ne (tgt := 27) hx hb dX12_canBe_20 (by decide) (fun c_16 => ?_) (fun c_16 => ?_)
      · refine lv_iconst (v := 0) hx hb dX12_canBe_27 (by decide) ?_
        exact cr_iret hx hb hr hlk rfl 0 rfl (by exact Or.inr ((⟨rfl, (show sgB za = false ∧ ¬ za = 10 ∧ ¬ (zb = 0 ∧ za = 9 ∧ w 21369 = 9) from ⟨by rw [c_1]; decide, by rw [c_1]; decide, (fun h9 => c_16 (ex_15.symm.trans h9.2.2))⟩)⟩))) dX12_canBe_28
      · refine lv_iconst (v := 1) hx hb dX12_canBe_23 (by decide) ?_
        refine lv_goto (tgt := 28) hx hb dX12_canBe_24 (by decide) ?_
        exact cr_iret hx hb hr hlk rfl 1 rfl (by exact Or.inl (⟨rfl, (show (za = 9 ∧ zb = 0 ∧ w 21369 = 9) ∨ sgB za = true ∨ za = 10 from (Or.inl ⟨c_1, c_14, ex_15.trans c_16⟩))⟩)) dX12_canBe_28
set_option maxHeartbeats 4000000 in
set_option maxRecDepth 100000 in
theorem f_X12_adds (l : Launch) (D : va_G) (κ : Nat → ClassId) (m0 : Nat) (a0 : Nat) (a1 : Nat) (a2 : Nat) (u3 : Nat) (f4 : Int32) (a5 : Nat) (u6 : Nat) (f7 : Int32) (f8 : Int32) (f9 : Int32) (f10 : Int32) (u11 : Nat) (u12 : Nat) (u13 : Nat) (a14 : Nat) (a15 : Nat) (a16 : Nat) (a17 : Nat) (f18 : Int32) (f19 : Int32) (a20 : Nat) (a21 : Nat) (u22 : Nat) (a23 : Nat) (a24 : Nat) (a25 : Nat) (u26 : Nat) (f27 : Int32) (a28 : Nat) (u29 : Nat) (fd : Nat → Int32) (zb : Int32) (a : Nat) (xs : List Int32) (h_a14 : Pfd fd) (ha : a < 9) (hfc : FC fd a xs) : Ct l yX12_adds (wl yX12_adds cX12_adds 4 (some .boolean)) { frames := 0, cells := 0, slots := 0, locals := 0 } D κ [.ref m0, .int (nI a), .int zb] [(m0, .inr (12, [.ref a0, .ref a1, .ref a2, .int (nI u3), .int f4, .ref a5, .int (nI u6), .int f7, .int f8, .int f9, .int f10, .int (nI u11), .int (nI u12), .int (nI u13), .ref a14, .ref a15, .ref a16, .ref a17, .int f18, .int f19, .ref a20, .ref a21, .int (nI u22), .ref a23, .ref a24, .ref a25, .int (nI u26), .int f27, .ref a28, .int (nI u29)])), (a14, .inl (κ 0, 189, .inl fd))] (fun _ => True) (fun u9 : Int32 × (Nat → Int32) => some (.int u9.1)) (fun u9 : Int32 × (Nat → Int32) => Pfd u9.2 ∧ ((u9.1 = 1 ∧ (xs.length < 20 ∧ FC u9.2 a (xs ++ [zb]) ∧ FO fd u9.2 a)) ∨ (u9.1 = 0 ∧ xs.length = 20 ∧ u9.2 = fd))) (fun u9 : Int32 × (Nat → Int32) => [(m0, .inr (12, [.ref a0, .ref a1, .ref a2, .int (nI u3), .int f4, .ref a5, .int (nI u6), .int f7, .int f8, .int f9, .int f10, .int (nI u11), .int (nI u12), .int (nI u13), .ref a14, .ref a15, .ref a16, .ref a17, .int f18, .int f19, .ref a20, .ref a21, .int (nI u22), .ref a23, .ref a24, .ref a25, .int (nI u26), .int f27, .ref a28, .int (nI u29)])), (a14, .inl (κ 0, 189, .inl u9.2))]) (fun _ _ => True) := by
  refine ct_of (by decide +kernel) (Nat.le_of_ble_eq_true rfl) ?_
  intro p e s m args below meth c A ls hx hb hr hml hts hown hlk hin hKK hK hA hP hD hS hI hl
  have hS : va_S A s.heap s.heap [] := hS
  have hFX : FX p s m args c cX12_adds 4 RX12 := ⟨hx, hb, hml, hown, hts⟩
  have hl : lv_has ls 4 [(0, .ref m0), (1, .int (nI a)), (2, .int zb)] := hl
  obtain ⟨hfc1, hfc2, hfc3⟩ := id hfc
  refine lv_bipush (v := 21) hx hb dX12_adds_0 (by decide) ?_
  refine lv_iload_n hx hb dX12_adds_2 rfl (lv_at hl 1 rfl) ?_
  refine lv_imul hx hb dX12_adds_3 ?_
  refine ki (v := (nI (21 * a))) (pk_mul 21 a) ?_
  refine lv_istore_n (lv' := [(3, .int (nI (21 * a))), (0, .ref m0), (1, .int (nI a)), (2, .int zb)]) hx hb dX12_adds_4 rfl hl (by decide) rfl (fun ls hl => ?_)
  refine lv_aload_n hx hb dX12_adds_5 rfl (lv_at hl 1 rfl) ?_
  refine va_get (D := D) (ci := 12) (v := .ref a14) (C := RX12) (T := TX12) (N := 30) hx hb hts inlX12 hown hK hP 0 rfl rfl 14 (by decide) (hts _ mw_194) (fun _ h9 => h9) rfl dX12_adds_6 ?_
  refine lv_iload_n hx hb dX12_adds_9 rfl (lv_at hl 0 rfl) ?_
  refine va_iald hx hb hK hP 1 0 rfl rfl (i := nI (21 * a)) (vp_in_nI (n := (21 * a)) (by omega) (by omega)) dX12_adds_10 ?_
  refine kv (v := .int (fd (21 * a))) (by rw [nI_clamp (by omega)]) ?_
  refine kv (v := .int (nI xs.length)) (congrArg Value.int hfc1) ?_
  refine lv_bipush (v := 20) hx hb dX12_adds_11 (by decide) ?_
  refine lv_icmp_ne (tgt := 18) hx hb dX12_adds_13 (by decide) (fun c_1 => ?_) (fun c_1 => ?_)
  · have nc_1 := cv_ne (a := xs.length) (b := 20) (by omega) (by omega) c_1
    refine lv_aload_n hx hb dX12_adds_18 rfl (lv_at hl 1 rfl) ?_
    refine va_get (D := D) (ci := 12) (v := .ref a14) (C := RX12) (T := TX12) (N := 30) hx hb hts inlX12 hown hK hP 0 rfl rfl 14 (by decide) (hts _ mw_194) (fun _ h9 => h9) rfl dX12_adds_19 ?_
    refine lv_iload_n hx hb dX12_adds_22 rfl (lv_at hl 0 rfl) ?_
    refine lv_iconst (v := 1) hx hb dX12_adds_23 (by decide) ?_
    refine lv_iadd hx hb dX12_adds_24 ?_
    refine ki (v := (nI (21 * a + 1))) (nI_add (21 * a) 1) ?_
    refine lv_aload_n hx hb dX12_adds_25 rfl (lv_at hl 1 rfl) ?_
    refine va_get (D := D) (ci := 12) (v := .ref a14) (C := RX12) (T := TX12) (N := 30) hx hb hts inlX12 hown hK hP 0 rfl rfl 14 (by decide) (hts _ mw_194) (fun _ h9 => h9) rfl dX12_adds_26 ?_
    refine lv_iload_n hx hb dX12_adds_29 rfl (lv_at hl 0 rfl) ?_
    refine va_iald hx hb hK hP 1 0 rfl rfl (i := nI (21 * a)) (vp_in_nI (n := (21 * a)) (by omega) (by omega)) dX12_adds_30 ?_
    refine kv (v := .int (nI xs.length)) (by rw [nI_clamp (by omega), show fd (21 * a) = (nI xs.length) from hfc1]) ?_
    refine lv_iadd hx hb dX12_adds_31 ?_
    refine ki (v := (nI (21 * a + 1 + xs.length))) (nI_add (21 * a + 1) xs.length) ?_
    refine lv_iload_n hx hb dX12_adds_32 rfl (lv_at hl 3 rfl) ?_
    refine va_iast hx hb hK hP hD hS 1 0 rfl rfl (i := nI (21 * a + 1 + xs.length)) (x := zb) (vp_in_nI (n := (21 * a + 1 + xs.length)) (by omega) (by omega)) dX12_adds_33 (fun H locs hP hD hS => ?_)
    rw [nI_clamp (by omega)] at hP hD
    have hP : va_P D vwCl [(m0, .inr (12, [.ref a0, .ref a1, .ref a2, .int (nI u3), .int f4, .ref a5, .int (nI u6), .int f7, .int f8, .int f9, .int f10, .int (nI u11), .int (nI u12), .int (nI u13), .ref a14, .ref a15, .ref a16, .ref a17, .int f18, .int f19, .ref a20, .ref a21, .int (nI u22), .ref a23, .ref a24, .ref a25, .int (nI u26), .int f27, .ref a28, .int (nI u29)])), (a14, .inl (κ 0, 189, .inl (upd fd (21 * a + 1 + xs.length) zb)))] H := hP
    have hD : va_D A [(m0, .inr (12, [.ref a0, .ref a1, .ref a2, .int (nI u3), .int f4, .ref a5, .int (nI u6), .int f7, .int f8, .int f9, .int f10, .int (nI u11), .int (nI u12), .int (nI u13), .ref a14, .ref a15, .ref a16, .ref a17, .int f18, .int f19, .ref a20, .ref a21, .int (nI u22), .ref a23, .ref a24, .ref a25, .int (nI u26), .int f27, .ref a28, .int (nI u29)])), (a14, .inl (κ 0, 189, .inl (upd fd (21 * a + 1 + xs.length) zb)))] := hD
    have hf_3 : Pfd (upd fd (21 * a + 1 + xs.length) zb) := (Pfd_free h_a14 (by intro c9 hc9; omega))
    have hq : (upd fd (21 * a + 1 + xs.length) zb) (21 * a) = nI xs.length := ((pk_un (by omega)).trans hfc1)
    generalize hge_g_2 : upd fd (21 * a + 1 + xs.length) zb = g_2 at hP hD hf_3 hq
    refine lv_aload_n hx hb dX12_adds_34 rfl (lv_at hl 1 rfl) ?_
    refine va_get (D := D) (ci := 12) (v := .ref a14) (C := RX12) (T := TX12) (N := 30) hx hb hts inlX12 hown hK hP 0 rfl rfl 14 (by decide) (hts _ mw_194) (fun _ h9 => h9) rfl dX12_adds_35 ?_
    refine lv_iload_n hx hb dX12_adds_38 rfl (lv_at hl 0 rfl) ?_
    refine lv_dup2_11 hx hb dX12_adds_39 rfl rfl ?_
    refine va_iald hx hb hK hP 1 0 rfl rfl (i := nI (21 * a)) (vp_in_nI (n := (21 * a)) (by omega) (by omega)) dX12_adds_40 ?_
    refine kv (v := .int (g_2 (21 * a))) (by rw [nI_clamp (by omega)]) ?_
    refine kv (v := .int (nI xs.length)) (congrArg Value.int hq) ?_
    refine lv_iconst (v := 1) hx hb dX12_adds_41 (by decide) ?_
    refine lv_iadd hx hb dX12_adds_42 ?_
    refine ki (v := (nI (xs.length + 1))) (nI_add xs.length 1) ?_
    refine va_iast hx hb hK hP hD hS 1 0 rfl rfl (i := nI (21 * a)) (x := nI (xs.length + 1)) (vp_in_nI (n := (21 * a)) (by omega) (by omega)) dX12_adds_43 (fun H locs hP hD hS => ?_)
    rw [nI_clamp (by omega)] at hP hD
    have hP : va_P D vwCl [(m0, .inr (12, [.ref a0, .ref a1, .ref a2, .int (nI u3), .int f4, .ref a5, .int (nI u6), .int f7, .int f8, .int f9, .int f10, .int (nI u11), .int (nI u12), .int (nI u13), .ref a14, .ref a15, .ref a16, .ref a17, .int f18, .int f19, .ref a20, .ref a21, .int (nI u22), .ref a23, .ref a24, .ref a25, .int (nI u26), .int f27, .ref a28, .int (nI u29)])), (a14, .inl (κ 0, 189, .inl (upd g_2 (21 * a) (nI (xs.length + 1)))))] H := hP
    have hD : va_D A [(m0, .inr (12, [.ref a0, .ref a1, .ref a2, .int (nI u3), .int f4, .ref a5, .int (nI u6), .int f7, .int f8, .int f9, .int f10, .int (nI u11), .int (nI u12), .int (nI u13), .ref a14, .ref a15, .ref a16, .ref a17, .int f18, .int f19, .ref a20, .ref a21, .int (nI u22), .ref a23, .ref a24, .ref a25, .int (nI u26), .int f27, .ref a28, .int (nI u29)])), (a14, .inl (κ 0, 189, .inl (upd g_2 (21 * a) (nI (xs.length + 1)))))] := hD
    have hf_5 : Pfd (upd g_2 (21 * a) (nI (xs.length + 1))) := (Pfd_upd hf_3 (c := a) (by omega) ⟨xs.length + 1, by omega, rfl⟩)
    generalize hge_g_4 : upd g_2 (21 * a) (nI (xs.length + 1)) = g_4 at hP hD hf_5
    refine lv_iconst (v := 1) hx hb dX12_adds_44 (by decide) ?_
    exact ct_iret hx hb hr hlk rfl hS hP hD (1, g_4) rfl ⟨(show Pfd g_4 from (by first | assumption | omega | rfl | exact Or.inl (by assumption) | exact Or.inr (by assumption))), (by exact Or.inl (⟨rfl, (show xs.length < 20 ∧ FC g_4 a (xs ++ [zb]) ∧ FO fd g_4 a from (by rw [← hge_g_4, ← hge_g_2]; exact ⟨by omega, FC_add hfc (by omega), FC_out (by omega)⟩))⟩))⟩ [0, 1] rfl (by decide) trivial (Nat.le_of_ble_eq_true rfl) (Nat.le_of_ble_eq_true rfl) dX12_adds_45
  · have nc_1 := cv_eq (a := xs.length) (b := 20) (by omega) (by omega) c_1
    refine lv_iconst (v := 0) hx hb dX12_adds_16 (by decide) ?_
    exact ct_iret hx hb hr hlk rfl hS hP hD (0, fd) rfl ⟨(show Pfd fd from (by first | assumption | omega | rfl | exact Or.inl (by assumption) | exact Or.inr (by assumption))), (by exact Or.inr ((⟨rfl, (show xs.length = 20 from (by first | assumption | omega | rfl | exact Or.inl (by assumption) | exact Or.inr (by assumption))), (show fd = fd from (by first | assumption | omega | rfl | exact Or.inl (by assumption) | exact Or.inr (by assumption)))⟩)))⟩ [0, 1] rfl (by decide) trivial (Nat.le_of_ble_eq_true rfl) (Nat.le_of_ble_eq_true rfl) dX12_adds_17
set_option maxHeartbeats 4000000 in
set_option maxRecDepth 100000 in
theorem f_X12_plain (l : Launch) (D : va_G) (κ : Nat → ClassId) (m0 : Nat) (a0 : Nat) (a1 : Nat) (a2 : Nat) (u3 : Nat) (f4 : Int32) (a5 : Nat) (u6 : Nat) (f7 : Int32) (f8 : Int32) (f9 : Int32) (f10 : Int32) (u11 : Nat) (u12 : Nat) (u13 : Nat) (a14 : Nat) (a15 : Nat) (a16 : Nat) (a17 : Nat) (f18 : Int32) (f19 : Int32) (a20 : Nat) (a21 : Nat) (u22 : Nat) (a23 : Nat) (a24 : Nat) (a25 : Nat) (u26 : Nat) (f27 : Int32) (a28 : Nat) (u29 : Nat) (w : Nat → Int32) (tp : Nat → Int32) (fd : Nat → Int32) (a : Nat) (h6 : u6 ≤ 800) (h8 : PF f8) (h_a0 : Pw w) (h_a14 : Pfd fd) (h11 : u11 ≤ u6) (ha : a < 9) (hfc : FC fd a []) : Ct l yX12_plain (wl yX12_plain cX12_plain 4 (some .boolean)) { frames := 2, cells := 0, slots := 0, locals := 47 } D κ [.ref m0, .int (nI a)] [(m0, .inr (12, [.ref a0, .ref a1, .ref a2, .int (nI u3), .int f4, .ref a5, .int (nI u6), .int f7, .int f8, .int f9, .int f10, .int (nI u11), .int (nI u12), .int (nI u13), .ref a14, .ref a15, .ref a16, .ref a17, .int f18, .int f19, .ref a20, .ref a21, .int (nI u22), .ref a23, .ref a24, .ref a25, .int (nI u26), .int f27, .ref a28, .int (nI u29)])), (a0, .inl (κ 0, 21375, .inl w)), (a5, .inl (κ 0, 800, .inl tp)), (a14, .inl (κ 0, 189, .inl fd))] (fun _ => True) (fun u9 : Int32 × List Int32 × Int32 × Int32 × Int32 × Nat × (Nat → Int32) => some (.int u9.1)) (fun u9 : Int32 × List Int32 × Int32 × Int32 × Int32 × Nat × (Nat → Int32) => PF u9.2.2.2.1 ∧ Pfd u9.2.2.2.2.2.2 ∧ u11 ≤ u9.2.2.2.2.2.1 ∧ u9.2.2.2.2.2.1 ≤ u6 ∧ ((u9.1 = 1 ∧ ((plF tp (dW w) (u6 - u11) u11 0 [] = some (u9.2.2.2.2.2.1, u9.2.1) ∧ FC u9.2.2.2.2.2.2 a u9.2.1) ∧ FO fd u9.2.2.2.2.2.2 a)) ∨ (u9.1 = 0 ∧ (plF tp (dW w) (u6 - u11) u11 0 [] = none ∧ FO fd u9.2.2.2.2.2.2 a)))) (fun u9 : Int32 × List Int32 × Int32 × Int32 × Int32 × Nat × (Nat → Int32) => [(m0, .inr (12, [.ref a0, .ref a1, .ref a2, .int (nI u3), .int f4, .ref a5, .int (nI u6), .int u9.2.2.1, .int u9.2.2.2.1, .int u9.2.2.2.2.1, .int f10, .int (nI u9.2.2.2.2.2.1), .int (nI u12), .int (nI u13), .ref a14, .ref a15, .ref a16, .ref a17, .int f18, .int f19, .ref a20, .ref a21, .int (nI u22), .ref a23, .ref a24, .ref a25, .int (nI u26), .int f27, .ref a28, .int (nI u29)])), (a0, .inl (κ 0, 21375, .inl w)), (a5, .inl (κ 0, 800, .inl tp)), (a14, .inl (κ 0, 189, .inl u9.2.2.2.2.2.2))]) (fun _ _ => True) := by
  refine ct_of (by decide +kernel) (Nat.le_of_ble_eq_true rfl) ?_
  intro p e s m args below meth c A ls hx hb hr hml hts hown hlk hin hKK hK hA hP hD hS hI hl
  have hS : va_S A s.heap s.heap [] := hS
  have hFX : FX p s m args c cX12_plain 4 RX12 := ⟨hx, hb, hml, hown, hts⟩
  have hl : lv_has ls 4 [(0, .ref m0), (1, .int (nI a))] := hl
  refine lv_iconst (v := 0) hx hb dX12_plain_0 (by decide) ?_
  refine lv_istore_n (lv' := [(2, .int 0), (0, .ref m0), (1, .int (nI a))]) hx hb dX12_plain_1 rfl hl (by decide) rfl (fun ls hl => ?_)
  refine loop_dn (fun k9 H locs ls => ∃ (k2_2 : Nat), ∃ (v11_2 : Nat), ∃ (ga14_2 : Nat → Int32), ∃ (Gxs_2 : List Int32), (u11 ≤ v11_2) ∧ (v11_2 ≤ u6) ∧ (k2_2 ≤ v11_2) ∧ (plF tp (dW w) (u6 - v11_2) v11_2 k2_2 Gxs_2 = plF tp (dW w) (u6 - u11) u11 0 []) ∧ (FC ga14_2 a Gxs_2) ∧ (FO fd ga14_2 a) ∧ Pfd ga14_2 ∧ u6 - v11_2 = k9 ∧ va_P D vwCl [(m0, .inr (12, [.ref a0, .ref a1, .ref a2, .int (nI u3), .int f4, .ref a5, .int (nI u6), .int f7, .int f8, .int f9, .int f10, .int (nI v11_2), .int (nI u12), .int (nI u13), .ref a14, .ref a15, .ref a16, .ref a17, .int f18, .int f19, .ref a20, .ref a21, .int (nI u22), .ref a23, .ref a24, .ref a25, .int (nI u26), .int f27, .ref a28, .int (nI u29)])), (a0, .inl (κ 0, 21375, .inl w)), (a5, .inl (κ 0, 800, .inl tp)), (a14, .inl (κ 0, 189, .inl ga14_2))] H ∧ va_D A [(m0, .inr (12, [.ref a0, .ref a1, .ref a2, .int (nI u3), .int f4, .ref a5, .int (nI u6), .int f7, .int f8, .int f9, .int f10, .int (nI v11_2), .int (nI u12), .int (nI u13), .ref a14, .ref a15, .ref a16, .ref a17, .int f18, .int f19, .ref a20, .ref a21, .int (nI u22), .ref a23, .ref a24, .ref a25, .int (nI u26), .int f27, .ref a28, .int (nI u29)])), (a0, .inl (κ 0, 21375, .inl w)), (a5, .inl (κ 0, 800, .inl tp)), (a14, .inl (κ 0, 189, .inl ga14_2))] ∧ va_S A s.heap H locs ∧ lv_has ls 4 [(2, .int (nI k2_2)), (0, .ref m0), (1, .int (nI a))]) (fun k9 H locs ls hI2 ih2 => ?_) (u6 - u11) _ _ _ ⟨0, u11, fd, ([]), (by omega), (by omega), (by omega), rfl, hfc, FO_rf, h_a14, rfl, hP, hD, hS, lv_sub hl [0, 1, 2] rfl⟩
  obtain ⟨k2_2, v11_2, ga14_2, Gxs_2, hl2_0, hl2_1, hl2_2, hl2_3, hl2_4, hl2_5, hg2_0, hm2, hP, hD, hS, hl⟩ := hI2
  refine lv_aload_n hx hb dX12_plain_2 rfl (lv_at hl 1 rfl) ?_
  refine cr_V (As := []) (rest := []) hFX hKK (f_X12_isOver l D κ m0 a0 a1 a2 u3 f4 a5 u6 f7 f8 f9 f10 v11_2 u12 u13 a14 a15 a16 a17 f18 f19 a20 a21 u22 a23 a24 a25 u26 f27 a28 u29 w tp (by omega) h_a0 (by omega)) 0 gV_X12_220 hdV_X12_isOver rfl rfl ⟨Nat.le_of_ble_eq_true rfl, Nat.le_of_ble_eq_true rfl⟩ rfl rfl (Nat.le_of_ble_eq_true rfl) dX12_plain_3 ⟨Nat.le_of_ble_eq_true rfl, Nat.le_of_ble_eq_true rfl⟩ hl.1 hP 0 12 rfl rfl rfl (hP.sub [0, 1, 2] rfl) (fun r__1 hp_2 => ?_)
  replace hp_2 : ((r__1 = 1 ∧ (v11_2 = u6 ∨ tp v11_2 = 10 ∨ tp v11_2 = w 21369)) ∨ (r__1 = 0 ∧ v11_2 < u6 ∧ (¬ tp v11_2 = 10 ∧ ¬ tp v11_2 = w 21369))) := hp_2
  have ha_3 := hp_2
  clear hp_2
  rcases ha_3 with ⟨rfl, a_4⟩ | ⟨rfl, a_5, a_6⟩
  · refine W.eq (g2 := F0 m 6 ls [.int 1]) rfl ?_
    refine lv_if_ne (tgt := 150) hx hb dX12_plain_6 (by decide) (fun c_7 => ?_) (fun c_7 => absurd c_7 (by decide))
    refine lv_iconst (v := 1) hx hb dX12_plain_150 (by decide) ?_
    exact ct_iret hx hb hr hlk rfl hS hP hD (1, Gxs_2, f7, f8, f9, v11_2, ga14_2) rfl ⟨(show PF f8 from (by assumption)), (show Pfd ga14_2 from (by first | assumption | omega | rfl | exact Or.inl (by assumption) | exact Or.inr (by assumption))), (show u11 ≤ v11_2 from (by first | assumption | omega | rfl | exact Or.inl (by assumption) | exact Or.inr (by assumption))), (show v11_2 ≤ u6 from (by first | assumption | omega | rfl | exact Or.inl (by assumption) | exact Or.inr (by assumption))), (by exact Or.inl (⟨rfl, (show (plF tp (dW w) (u6 - u11) u11 0 [] = some (v11_2, Gxs_2) ∧ FC ga14_2 a Gxs_2) ∧ FO fd ga14_2 a from ⟨⟨hl2_3.symm.trans (pl_ov (t := tp) (d := (dW w)) (by omega) a_4), hl2_4⟩, hl2_5⟩)⟩))⟩ [0, 1, 2, 3] rfl (by decide) trivial (Nat.le_of_ble_eq_true rfl) (Nat.le_of_ble_eq_true rfl) dX12_plain_151
  · refine W.eq (g2 := F0 m 6 ls [.int 0]) rfl ?_
    refine lv_if_ne (tgt := 150) hx hb dX12_plain_6 (by decide) (fun c_8 => absurd c_8 (by decide)) (fun c_8 => ?_)
    refine lv_aload_n hx hb dX12_plain_9 rfl (lv_at hl 1 rfl) ?_
    refine va_get (D := D) (ci := 12) (v := .ref a5) (C := RX12) (T := TX12) (N := 30) hx hb hts inlX12 hown hK hP 0 rfl rfl 5 (by decide) (hts _ mw_191) (fun _ h9 => h9) rfl dX12_plain_10 ?_
    refine lv_aload_n hx hb dX12_plain_13 rfl (lv_at hl 1 rfl) ?_
    refine va_get (D := D) (ci := 12) (v := .int (nI v11_2)) (C := RX12) (T := TX12) (N := 30) hx hb hts inlX12 hown hK hP 0 rfl rfl 11 (by decide) (hts _ mw_423) (fun _ h9 => h9) rfl dX12_plain_14 ?_
    refine va_iald hx hb hK hP 2 0 rfl rfl (i := nI v11_2) (vp_in_nI (n := v11_2) (by omega) (by omega)) dX12_plain_17 ?_
    refine kv (v := .int (tp v11_2)) (by rw [nI_clamp (by omega)]) ?_
    obtain ⟨x_9, ex_9⟩ : ∃ y9 : Int32, tp v11_2 = y9 := ⟨_, rfl⟩
    refine kv (v := .int x_9) (congrArg Value.int ex_9) ?_
    refine lv_istore_n (lv' := [(3, .int x_9), (2, .int (nI k2_2)), (0, .ref m0), (1, .int (nI a))]) hx hb dX12_plain_18 rfl hl (by decide) rfl (fun ls hl => ?_)
    refine lv_aload_n hx hb dX12_plain_19 rfl (lv_at hl 2 rfl) ?_
    refine lv_iload_n hx hb dX12_plain_20 rfl (lv_at hl 0 rfl) ?_
    refine lv_iconst (v := 0) hx hb dX12_plain_21 (by decide) ?_
    refine cr_V (As := [.int x_9, .int 0]) (rest := []) hFX hKK (f_X12_canBe l D κ m0 a0 a1 a2 u3 f4 a5 u6 f7 f8 f9 f10 v11_2 u12 u13 a14 a15 a16 a17 f18 f19 a20 a21 u22 a23 a24 a25 u26 f27 a28 u29 w x_9 0 h_a0) 2 gV_X12_206 hdV_X12_canBe rfl rfl ⟨Nat.le_of_ble_eq_true rfl, Nat.le_of_ble_eq_true rfl⟩ rfl rfl (Nat.le_of_ble_eq_true rfl) dX12_plain_22 ⟨Nat.le_of_ble_eq_true rfl, Nat.le_of_ble_eq_true rfl⟩ hl.1 hP 0 12 rfl rfl rfl (hP.sub [0, 1] rfl) (fun r__10 hp_11 => ?_)
    replace hp_11 : ((r__10 = 1 ∧ ((x_9 = 9 ∧ (0 : Int32) = 0 ∧ w 21369 = 9) ∨ sgB x_9 = true ∨ x_9 = 10)) ∨ (r__10 = 0 ∧ (sgB x_9 = false ∧ ¬ x_9 = 10 ∧ ¬ ((0 : Int32) = 0 ∧ x_9 = 9 ∧ w 21369 = 9)))) := hp_11
    have ha_12 := hp_11
    clear hp_11
    rcases ha_12 with ⟨rfl, a_13⟩ | ⟨rfl, a_14⟩
    · refine W.eq (g2 := F0 m 25 ls [.int 1]) rfl ?_
      refine lv_if_ne (tgt := 39) hx hb dX12_plain_25 (by decide) (fun c_15 => ?_) (fun c_15 => absurd c_15 (by decide))
      refine lv_iload_n hx hb dX12_plain_39 rfl (lv_at hl 0 rfl) ?_
      refine lv_aload_n hx hb dX12_plain_40 rfl (lv_at hl 2 rfl) ?_
      refine va_get (D := D) (ci := 12) (v := .ref a0) (C := RX12) (T := TX12) (N := 30) hx hb hts inlX12 hown hK hP 0 rfl rfl 0 (by decide) (hts _ mw_187) (fun _ h9 => h9) rfl dX12_plain_41 ?_
      refine lv_sipush (v := 21370) hx hb dX12_plain_44 (by decide) ?_
      refine va_iald hx hb hK hP 1 0 rfl rfl (i := 21370) (vp_k (by decide)) dX12_plain_47 ?_
      obtain ⟨x_16, ex_16⟩ : ∃ y9 : Int32, w 21370 = y9 := ⟨_, rfl⟩
      refine kv (v := .int x_16) (congrArg Value.int ex_16) ?_
      refine lv_icmp_ne (tgt := 62) hx hb dX12_plain_48 (by decide) (fun c_17 => ?_) (fun c_17 => ?_)
      · refine lv_aload_n hx hb dX12_plain_62 rfl (lv_at hl 2 rfl) ?_
        refine va_get (D := D) (ci := 12) (v := .ref a0) (C := RX12) (T := TX12) (N := 30) hx hb hts inlX12 hown hK hP 0 rfl rfl 0 (by decide) (hts _ mw_187) (fun _ h9 => h9) rfl dX12_plain_63 ?_
        refine lv_sipush (v := 21372) hx hb dX12_plain_66 (by decide) ?_
        refine va_iald hx hb hK hP 1 0 rfl rfl (i := 21372) (vp_k (by decide)) dX12_plain_69 ?_
        obtain ⟨x_18, ex_18⟩ : ∃ y9 : Int32, w 21372 = y9 := ⟨_, rfl⟩
        refine kv (v := .int x_18) (congrArg Value.int ex_18) ?_
        refine lv_iconst (v := 1) hx hb dX12_plain_70 (by decide) ?_
        refine lv_icmp_ne (tgt := 86) hx hb dX12_plain_71 (by decide) (fun c_19 => ?_) (fun c_19 => ?_)
        · refine loop_dn (fun k9 H locs ls => ∃ (k2_86 : Nat), ∃ (ga14_86 : Nat → Int32), ∃ (Gxs_86 : List Int32), (k2_86 ≤ v11_2) ∧ (Gxs_86.length + k2_86 = Gxs_2.length + k2_2) ∧ (Gxs_86 ++ List.replicate k2_86 32 = Gxs_2 ++ List.replicate k2_2 32) ∧ (0 = 0) ∧ (FC ga14_86 a Gxs_86) ∧ (FO fd ga14_86 a) ∧ Pfd ga14_86 ∧ k2_86 = k9 ∧ va_P D vwCl [(m0, .inr (12, [.ref a0, .ref a1, .ref a2, .int (nI u3), .int f4, .ref a5, .int (nI u6), .int f7, .int f8, .int f9, .int f10, .int (nI v11_2), .int (nI u12), .int (nI u13), .ref a14, .ref a15, .ref a16, .ref a17, .int f18, .int f19, .ref a20, .ref a21, .int (nI u22), .ref a23, .ref a24, .ref a25, .int (nI u26), .int f27, .ref a28, .int (nI u29)])), (a0, .inl (κ 0, 21375, .inl w)), (a5, .inl (κ 0, 800, .inl tp)), (a14, .inl (κ 0, 189, .inl ga14_86))] H ∧ va_D A [(m0, .inr (12, [.ref a0, .ref a1, .ref a2, .int (nI u3), .int f4, .ref a5, .int (nI u6), .int f7, .int f8, .int f9, .int f10, .int (nI v11_2), .int (nI u12), .int (nI u13), .ref a14, .ref a15, .ref a16, .ref a17, .int f18, .int f19, .ref a20, .ref a21, .int (nI u22), .ref a23, .ref a24, .ref a25, .int (nI u26), .int f27, .ref a28, .int (nI u29)])), (a0, .inl (κ 0, 21375, .inl w)), (a5, .inl (κ 0, 800, .inl tp)), (a14, .inl (κ 0, 189, .inl ga14_86))] ∧ va_S A s.heap H locs ∧ lv_has ls 4 [(3, .int x_9), (2, .int (nI k2_86)), (0, .ref m0), (1, .int (nI a))]) (fun k9 H locs ls hI86 ih86 => ?_) (k2_2) _ _ _ ⟨k2_2, ga14_2, Gxs_2, (by omega), (by first | rfl | (rw [List.length_append]; simp only [List.length_cons, List.length_nil]; omega)), rfl, rfl, hl2_4, hl2_5, hg2_0, rfl, hP, hD, hS, lv_sub hl [0, 1, 2, 3] rfl⟩
          obtain ⟨k2_86, ga14_86, Gxs_86, hl86_0, hl86_1, hl86_2, hl86_3, hl86_4, hl86_5, hg86_0, hm86, hP, hD, hS, hl⟩ := hI86
          refine lv_iload_n hx hb dX12_plain_86 rfl (lv_at hl 1 rfl) ?_
          refine lv_if_le (tgt := 117) hx hb dX12_plain_87 (by decide) (fun c_20 => ?_) (fun c_20 => ?_)
          · have nc_20 := cv_le (a := k2_86) (b := 0) (by omega) (by omega) c_20
            refine lv_aload_n hx hb dX12_plain_117 rfl (lv_at hl 2 rfl) ?_
            refine lv_iload_n hx hb dX12_plain_118 rfl (lv_at hl 3 rfl) ?_
            refine lv_iload_n hx hb dX12_plain_119 rfl (lv_at hl 0 rfl) ?_
            refine ct_V (wr := [(a0, .inl (κ 0, 21375, .inl w)), (a5, .inl (κ 0, 800, .inl tp))]) (As := [.int (nI a), .int x_9]) (rest := []) hFX hKK hP hD hS hA (f_X12_adds l D κ m0 a0 a1 a2 u3 f4 a5 u6 f7 f8 f9 f10 v11_2 u12 u13 a14 a15 a16 a17 f18 f19 a20 a21 u22 a23 a24 a25 u26 f27 a28 u29 ga14_86 x_9 a Gxs_86 hg86_0 (by omega) hl86_4) 2 gV_X12_214 hdV_X12_adds ⟨Nat.le_of_ble_eq_true rfl, Nat.le_of_ble_eq_true rfl⟩ rfl rfl (Nat.le_of_ble_eq_true rfl) dX12_plain_120 ⟨Nat.le_of_ble_eq_true rfl, Nat.le_of_ble_eq_true rfl⟩ hl.1 [0, 3] [1, 2] rfl rfl (by decide) (by decide) (by decide) 0 12 rfl rfl rfl trivial (fun u_23 H locs hp_24 _ hP hD hS hz_ hk_ => ?_)
            obtain ⟨r__21, g_a14__22⟩ := u_23
            replace hP : va_P D vwCl [(m0, .inr (12, [.ref a0, .ref a1, .ref a2, .int (nI u3), .int f4, .ref a5, .int (nI u6), .int f7, .int f8, .int f9, .int f10, .int (nI v11_2), .int (nI u12), .int (nI u13), .ref a14, .ref a15, .ref a16, .ref a17, .int f18, .int f19, .ref a20, .ref a21, .int (nI u22), .ref a23, .ref a24, .ref a25, .int (nI u26), .int f27, .ref a28, .int (nI u29)])), (a0, .inl (κ 0, 21375, .inl w)), (a5, .inl (κ 0, 800, .inl tp)), (a14, .inl (κ 0, 189, .inl g_a14__22))] H := hP.sub [2, 0, 1, 3] rfl
            replace hD : va_D A [(m0, .inr (12, [.ref a0, .ref a1, .ref a2, .int (nI u3), .int f4, .ref a5, .int (nI u6), .int f7, .int f8, .int f9, .int f10, .int (nI v11_2), .int (nI u12), .int (nI u13), .ref a14, .ref a15, .ref a16, .ref a17, .int f18, .int f19, .ref a20, .ref a21, .int (nI u22), .ref a23, .ref a24, .ref a25, .int (nI u26), .int f27, .ref a28, .int (nI u29)])), (a0, .inl (κ 0, 21375, .inl w)), (a5, .inl (κ 0, 800, .inl tp)), (a14, .inl (κ 0, 189, .inl g_a14__22))] := hD.sub [2, 0, 1, 3] (by decide) rfl
            replace hp_24 : Pfd g_a14__22 ∧ ((r__21 = 1 ∧ (Gxs_86.length < 20 ∧ FC g_a14__22 a (Gxs_86 ++ [x_9]) ∧ FO ga14_86 g_a14__22 a)) ∨ (r__21 = 0 ∧ Gxs_86.length = 20 ∧ g_a14__22 = ga14_86)) := hp_24
            obtain ⟨h_25, ha_26⟩ := hp_24
            rcases ha_26 with ⟨rfl, a_27⟩ | ⟨rfl, a_28, a_29⟩
            · refine W.eq (g2 := F0 m 123 ls [.int 1]) rfl ?_
              obtain ⟨had_301, had_302, had_303⟩ := a_27
              have hfo_31 := FO_tr hl86_5 had_303
              refine lv_if_ne (tgt := 137) hx hb dX12_plain_123 (by decide) (fun c_32 => ?_) (fun c_32 => absurd c_32 (by decide))
              refine lv_aload_n hx hb dX12_plain_137 rfl (lv_at hl 2 rfl) ?_
              refine lv_dup hx hb dX12_plain_138 rfl ?_
              refine va_get (D := D) (ci := 12) (v := .int (nI v11_2)) (C := RX12) (T := TX12) (N := 30) hx hb hts inlX12 hown hK hP 0 rfl rfl 11 (by decide) (hts _ mw_423) (fun _ h9 => h9) rfl dX12_plain_139 ?_
              refine lv_iconst (v := 1) hx hb dX12_plain_142 (by decide) ?_
              refine lv_iadd hx hb dX12_plain_143 ?_
              refine ki (v := (nI (v11_2 + 1))) (nI_add v11_2 1) ?_
              refine va_put (D := D) (ci := 12) (v := .int (nI (v11_2 + 1))) (ty := tyX12 11) (C := RX12) (T := TX12) (N := 30) hx hb hts inlX12 tyX12 tyX12_ok nmX12 hown hK hP hD hS 0 rfl rfl 11 (by decide) (hts _ mw_423) (fun _ h9 => h9) rfl (tyX12_ok 11 (by decide)) rfl rfl (Nat.le_of_ble_eq_true rfl) dX12_plain_144 (fun H locs hP hD hS => ?_)
              have hP : va_P D vwCl [(m0, .inr (12, [.ref a0, .ref a1, .ref a2, .int (nI u3), .int f4, .ref a5, .int (nI u6), .int f7, .int f8, .int f9, .int f10, .int (nI (v11_2 + 1)), .int (nI u12), .int (nI u13), .ref a14, .ref a15, .ref a16, .ref a17, .int f18, .int f19, .ref a20, .ref a21, .int (nI u22), .ref a23, .ref a24, .ref a25, .int (nI u26), .int f27, .ref a28, .int (nI u29)])), (a0, .inl (κ 0, 21375, .inl w)), (a5, .inl (κ 0, 800, .inl tp)), (a14, .inl (κ 0, 189, .inl g_a14__22))] H := hP
              have hD : va_D A [(m0, .inr (12, [.ref a0, .ref a1, .ref a2, .int (nI u3), .int f4, .ref a5, .int (nI u6), .int f7, .int f8, .int f9, .int f10, .int (nI (v11_2 + 1)), .int (nI u12), .int (nI u13), .ref a14, .ref a15, .ref a16, .ref a17, .int f18, .int f19, .ref a20, .ref a21, .int (nI u22), .ref a23, .ref a24, .ref a25, .int (nI u26), .int f27, .ref a28, .int (nI u29)])), (a0, .inl (κ 0, 21375, .inl w)), (a5, .inl (κ 0, 800, .inl tp)), (a14, .inl (κ 0, 189, .inl g_a14__22))] := hD
              refine lv_goto (tgt := 2) hx hb dX12_plain_147 (by decide) ?_
              exact ih2 _ _ _ _ (by omega) ⟨k2_86, (v11_2 + 1), g_a14__22, (Gxs_86 ++ [x_9]), (by omega), (by omega), (by omega), (by rw [show k2_86 = 0 by omega, pl_bk (k' := k2_86) (by omega) hl86_2]; exact (pl_kp (t := tp) (d := (dW w)) (by omega) ex_9 rfl (fun h9 => a_6.2 (ex_9.trans h9)) (fun h9 => a_6.1 (ex_9.trans h9)) (cb_sg a_13 (fun h9 => a_6.1 (ex_9.trans h9)) (fun h9 => a_6.2 (ex_9.trans h9))) ex_16 c_17 (fun h9 => c_19 (ex_18.symm.trans h9.2)) (by have q9 := had_301; have q8 := hl86_1; omega)).symm.trans hl2_3), had_302, hfo_31, h_25, rfl, hP, hD, hS, lv_sub hl [1, 2, 3] rfl⟩
            · refine W.eq (g2 := F0 m 123 ls [.int 0]) rfl ?_
              refine lv_if_ne (tgt := 137) hx hb dX12_plain_123 (by decide) (fun c_33 => absurd c_33 (by decide)) (fun c_33 => ?_)
              refine lv_aload_n hx hb dX12_plain_126 rfl (lv_at hl 2 rfl) ?_
              refine lv_iconst (v := 5) hx hb dX12_plain_127 (by decide) ?_
              refine lv_aload_n hx hb dX12_plain_128 rfl (lv_at hl 2 rfl) ?_
              refine va_get (D := D) (ci := 12) (v := .int (nI v11_2)) (C := RX12) (T := TX12) (N := 30) hx hb hts inlX12 hown hK hP 0 rfl rfl 11 (by decide) (hts _ mw_423) (fun _ h9 => h9) rfl dX12_plain_129 ?_
              refine lv_iload_n hx hb dX12_plain_132 rfl (lv_at hl 3 rfl) ?_
              refine ct_V (wr := [(a0, .inl (κ 0, 21375, .inl w)), (a5, .inl (κ 0, 800, .inl tp)), (a14, .inl (κ 0, 189, .inl g_a14__22))]) (As := [.int 5, .int (nI v11_2), .int (nI a)]) (rest := []) hFX hKK hP hD hS hA (s_X12_wrong l D κ m0 a0 a1 a2 u3 f4 a5 u6 f7 f8 f9 f10 v11_2 u12 u13 a14 a15 a16 a17 f18 f19 a20 a21 u22 a23 a24 a25 u26 f27 a28 u29 5 (nI v11_2) (nI a)) 3 gV_X12_210 hdV_X12_wrong ⟨Nat.le_of_ble_eq_true rfl, Nat.le_of_ble_eq_true rfl⟩ rfl rfl (Nat.le_of_ble_eq_true rfl) dX12_plain_133 ⟨Nat.le_of_ble_eq_true rfl, Nat.le_of_ble_eq_true rfl⟩ hl.1 [0] [1, 2, 3] rfl rfl (by decide) (by decide) (by decide) 0 12 rfl rfl rfl trivial (fun _ H locs hp_34 _ hP hD hS hz_ hk_ => ?_)
              replace hP : va_P D vwCl [(m0, .inr (12, [.ref a0, .ref a1, .ref a2, .int (nI u3), .int f4, .ref a5, .int (nI u6), .int 5, .int (nI v11_2), .int (nI a), .int f10, .int (nI v11_2), .int (nI u12), .int (nI u13), .ref a14, .ref a15, .ref a16, .ref a17, .int f18, .int f19, .ref a20, .ref a21, .int (nI u22), .ref a23, .ref a24, .ref a25, .int (nI u26), .int f27, .ref a28, .int (nI u29)])), (a0, .inl (κ 0, 21375, .inl w)), (a5, .inl (κ 0, 800, .inl tp)), (a14, .inl (κ 0, 189, .inl g_a14__22))] H := hP.sub [3, 0, 1, 2] rfl
              replace hD : va_D A [(m0, .inr (12, [.ref a0, .ref a1, .ref a2, .int (nI u3), .int f4, .ref a5, .int (nI u6), .int 5, .int (nI v11_2), .int (nI a), .int f10, .int (nI v11_2), .int (nI u12), .int (nI u13), .ref a14, .ref a15, .ref a16, .ref a17, .int f18, .int f19, .ref a20, .ref a21, .int (nI u22), .ref a23, .ref a24, .ref a25, .int (nI u26), .int f27, .ref a28, .int (nI u29)])), (a0, .inl (κ 0, 21375, .inl w)), (a5, .inl (κ 0, 800, .inl tp)), (a14, .inl (κ 0, 189, .inl g_a14__22))] := hD.sub [3, 0, 1, 2] (by decide) rfl
              refine W.eq (g2 := F0 m 136 ls [.int 0]) rfl ?_
              exact ct_iret hx hb hr hlk rfl hS hP hD (0, [], 5, nI v11_2, nI a, v11_2, g_a14__22) rfl ⟨(show PF (nI v11_2) from (PF_n (by omega))), (show Pfd g_a14__22 from (by first | assumption | omega | rfl | exact Or.inl (by assumption) | exact Or.inr (by assumption))), (show u11 ≤ v11_2 from (by first | assumption | omega | rfl | exact Or.inl (by assumption) | exact Or.inr (by assumption))), (show v11_2 ≤ u6 from (by first | assumption | omega | rfl | exact Or.inl (by assumption) | exact Or.inr (by assumption))), (by exact Or.inr ((⟨rfl, (show plF tp (dW w) (u6 - u11) u11 0 [] = none ∧ FO fd g_a14__22 a from ⟨hl2_3.symm.trans (pl_full (t := tp) (d := (dW w)) (by omega) ex_9 rfl (fun h9 => a_6.2 (ex_9.trans h9)) (fun h9 => a_6.1 (ex_9.trans h9)) (cb_sg a_13 (fun h9 => a_6.1 (ex_9.trans h9)) (fun h9 => a_6.2 (ex_9.trans h9))) ex_16 c_17 (fun h9 => c_19 (ex_18.symm.trans h9.2)) (by have q9 := a_28; have q8 := hl86_1; omega)), by rw [a_29]; exact hl86_5⟩)⟩)))⟩ [0, 1, 2, 3] rfl (by decide) trivial (Nat.le_of_ble_eq_true rfl) (Nat.le_of_ble_eq_true rfl) dX12_plain_136
          · have nc_20 := cv_nle (a := k2_86) (b := 0) (by omega) (by omega) c_20
            refine lv_aload_n hx hb dX12_plain_90 rfl (lv_at hl 2 rfl) ?_
            refine lv_iload_n hx hb dX12_plain_91 rfl (lv_at hl 3 rfl) ?_
            refine lv_bipush (v := 32) hx hb dX12_plain_92 (by decide) ?_
            refine ct_V (wr := [(a0, .inl (κ 0, 21375, .inl w)), (a5, .inl (κ 0, 800, .inl tp))]) (As := [.int (nI a), .int 32]) (rest := []) hFX hKK hP hD hS hA (f_X12_adds l D κ m0 a0 a1 a2 u3 f4 a5 u6 f7 f8 f9 f10 v11_2 u12 u13 a14 a15 a16 a17 f18 f19 a20 a21 u22 a23 a24 a25 u26 f27 a28 u29 ga14_86 32 a Gxs_86 hg86_0 (by omega) hl86_4) 2 gV_X12_214 hdV_X12_adds ⟨Nat.le_of_ble_eq_true rfl, Nat.le_of_ble_eq_true rfl⟩ rfl rfl (Nat.le_of_ble_eq_true rfl) dX12_plain_94 ⟨Nat.le_of_ble_eq_true rfl, Nat.le_of_ble_eq_true rfl⟩ hl.1 [0, 3] [1, 2] rfl rfl (by decide) (by decide) (by decide) 0 12 rfl rfl rfl trivial (fun u_37 H locs hp_38 _ hP hD hS hz_ hk_ => ?_)
            obtain ⟨r__35, g_a14__36⟩ := u_37
            replace hP : va_P D vwCl [(m0, .inr (12, [.ref a0, .ref a1, .ref a2, .int (nI u3), .int f4, .ref a5, .int (nI u6), .int f7, .int f8, .int f9, .int f10, .int (nI v11_2), .int (nI u12), .int (nI u13), .ref a14, .ref a15, .ref a16, .ref a17, .int f18, .int f19, .ref a20, .ref a21, .int (nI u22), .ref a23, .ref a24, .ref a25, .int (nI u26), .int f27, .ref a28, .int (nI u29)])), (a0, .inl (κ 0, 21375, .inl w)), (a5, .inl (κ 0, 800, .inl tp)), (a14, .inl (κ 0, 189, .inl g_a14__36))] H := hP.sub [2, 0, 1, 3] rfl
            replace hD : va_D A [(m0, .inr (12, [.ref a0, .ref a1, .ref a2, .int (nI u3), .int f4, .ref a5, .int (nI u6), .int f7, .int f8, .int f9, .int f10, .int (nI v11_2), .int (nI u12), .int (nI u13), .ref a14, .ref a15, .ref a16, .ref a17, .int f18, .int f19, .ref a20, .ref a21, .int (nI u22), .ref a23, .ref a24, .ref a25, .int (nI u26), .int f27, .ref a28, .int (nI u29)])), (a0, .inl (κ 0, 21375, .inl w)), (a5, .inl (κ 0, 800, .inl tp)), (a14, .inl (κ 0, 189, .inl g_a14__36))] := hD.sub [2, 0, 1, 3] (by decide) rfl
            replace hp_38 : Pfd g_a14__36 ∧ ((r__35 = 1 ∧ (Gxs_86.length < 20 ∧ FC g_a14__36 a (Gxs_86 ++ [(32 : Int32)]) ∧ FO ga14_86 g_a14__36 a)) ∨ (r__35 = 0 ∧ Gxs_86.length = 20 ∧ g_a14__36 = ga14_86)) := hp_38
            obtain ⟨h_39, ha_40⟩ := hp_38
            rcases ha_40 with ⟨rfl, a_41⟩ | ⟨rfl, a_42, a_43⟩
            · refine W.eq (g2 := F0 m 97 ls [.int 1]) rfl ?_
              obtain ⟨had_441, had_442, had_443⟩ := a_41
              have hfo_45 := FO_tr hl86_5 had_443
              refine lv_if_ne (tgt := 111) hx hb dX12_plain_97 (by decide) (fun c_46 => ?_) (fun c_46 => absurd c_46 (by decide))
              refine lv_iinc (v := (nI (k2_86 - 1))) (lv' := [(2, .int (nI (k2_86 - 1))), (3, .int x_9), (0, .ref m0), (1, .int (nI a))]) hx hb dX12_plain_111 hl (k := 1) rfl (nI_d (by omega)) (by decide) rfl (fun ls hl => ?_)
              refine lv_goto (tgt := 86) hx hb dX12_plain_114 (by decide) ?_
              exact ih86 _ _ _ _ (by omega) ⟨(k2_86 - 1), g_a14__36, (Gxs_86 ++ [32]), (by omega), (by first | rfl | (rw [List.length_append]; simp only [List.length_cons, List.length_nil]; omega)), (rp_bk (by omega) hl86_2), rfl, had_442, hfo_45, h_39, rfl, hP, hD, hS, lv_sub hl [1, 0, 2, 3] rfl⟩
            · refine W.eq (g2 := F0 m 97 ls [.int 0]) rfl ?_
              refine lv_if_ne (tgt := 111) hx hb dX12_plain_97 (by decide) (fun c_47 => absurd c_47 (by decide)) (fun c_47 => ?_)
              refine lv_aload_n hx hb dX12_plain_100 rfl (lv_at hl 2 rfl) ?_
              refine lv_iconst (v := 5) hx hb dX12_plain_101 (by decide) ?_
              refine lv_aload_n hx hb dX12_plain_102 rfl (lv_at hl 2 rfl) ?_
              refine va_get (D := D) (ci := 12) (v := .int (nI v11_2)) (C := RX12) (T := TX12) (N := 30) hx hb hts inlX12 hown hK hP 0 rfl rfl 11 (by decide) (hts _ mw_423) (fun _ h9 => h9) rfl dX12_plain_103 ?_
              refine lv_iload_n hx hb dX12_plain_106 rfl (lv_at hl 3 rfl) ?_
              refine ct_V (wr := [(a0, .inl (κ 0, 21375, .inl w)), (a5, .inl (κ 0, 800, .inl tp)), (a14, .inl (κ 0, 189, .inl g_a14__36))]) (As := [.int 5, .int (nI v11_2), .int (nI a)]) (rest := []) hFX hKK hP hD hS hA (s_X12_wrong l D κ m0 a0 a1 a2 u3 f4 a5 u6 f7 f8 f9 f10 v11_2 u12 u13 a14 a15 a16 a17 f18 f19 a20 a21 u22 a23 a24 a25 u26 f27 a28 u29 5 (nI v11_2) (nI a)) 3 gV_X12_210 hdV_X12_wrong ⟨Nat.le_of_ble_eq_true rfl, Nat.le_of_ble_eq_true rfl⟩ rfl rfl (Nat.le_of_ble_eq_true rfl) dX12_plain_107 ⟨Nat.le_of_ble_eq_true rfl, Nat.le_of_ble_eq_true rfl⟩ hl.1 [0] [1, 2, 3] rfl rfl (by decide) (by decide) (by decide) 0 12 rfl rfl rfl trivial (fun _ H locs hp_48 _ hP hD hS hz_ hk_ => ?_)
              replace hP : va_P D vwCl [(m0, .inr (12, [.ref a0, .ref a1, .ref a2, .int (nI u3), .int f4, .ref a5, .int (nI u6), .int 5, .int (nI v11_2), .int (nI a), .int f10, .int (nI v11_2), .int (nI u12), .int (nI u13), .ref a14, .ref a15, .ref a16, .ref a17, .int f18, .int f19, .ref a20, .ref a21, .int (nI u22), .ref a23, .ref a24, .ref a25, .int (nI u26), .int f27, .ref a28, .int (nI u29)])), (a0, .inl (κ 0, 21375, .inl w)), (a5, .inl (κ 0, 800, .inl tp)), (a14, .inl (κ 0, 189, .inl g_a14__36))] H := hP.sub [3, 0, 1, 2] rfl
              replace hD : va_D A [(m0, .inr (12, [.ref a0, .ref a1, .ref a2, .int (nI u3), .int f4, .ref a5, .int (nI u6), .int 5, .int (nI v11_2), .int (nI a), .int f10, .int (nI v11_2), .int (nI u12), .int (nI u13), .ref a14, .ref a15, .ref a16, .ref a17, .int f18, .int f19, .ref a20, .ref a21, .int (nI u22), .ref a23, .ref a24, .ref a25, .int (nI u26), .int f27, .ref a28, .int (nI u29)])), (a0, .inl (κ 0, 21375, .inl w)), (a5, .inl (κ 0, 800, .inl tp)), (a14, .inl (κ 0, 189, .inl g_a14__36))] := hD.sub [3, 0, 1, 2] (by decide) rfl
              refine W.eq (g2 := F0 m 110 ls [.int 0]) rfl ?_
              exact ct_iret hx hb hr hlk rfl hS hP hD (0, [], 5, nI v11_2, nI a, v11_2, g_a14__36) rfl ⟨(show PF (nI v11_2) from (PF_n (by omega))), (show Pfd g_a14__36 from (by first | assumption | omega | rfl | exact Or.inl (by assumption) | exact Or.inr (by assumption))), (show u11 ≤ v11_2 from (by first | assumption | omega | rfl | exact Or.inl (by assumption) | exact Or.inr (by assumption))), (show v11_2 ≤ u6 from (by first | assumption | omega | rfl | exact Or.inl (by assumption) | exact Or.inr (by assumption))), (by exact Or.inr ((⟨rfl, (show plF tp (dW w) (u6 - u11) u11 0 [] = none ∧ FO fd g_a14__36 a from ⟨hl2_3.symm.trans (pl_full (t := tp) (d := (dW w)) (by omega) ex_9 rfl (fun h9 => a_6.2 (ex_9.trans h9)) (fun h9 => a_6.1 (ex_9.trans h9)) (cb_sg a_13 (fun h9 => a_6.1 (ex_9.trans h9)) (fun h9 => a_6.2 (ex_9.trans h9))) ex_16 c_17 (fun h9 => c_19 (ex_18.symm.trans h9.2)) (by have q9 := a_42; have q8 := hl86_1; omega)), by rw [a_43]; exact hl86_5⟩)⟩)))⟩ [0, 1, 2, 3] rfl (by decide) trivial (Nat.le_of_ble_eq_true rfl) (Nat.le_of_ble_eq_true rfl) dX12_plain_110
        · refine lv_iload_n hx hb dX12_plain_74 rfl (lv_at hl 0 rfl) ?_
          refine lv_bipush (v := 32) hx hb dX12_plain_75 (by decide) ?_
          refine lv_icmp_ne (tgt := 86) hx hb dX12_plain_77 (by decide) (fun c_49 => ?_) (fun c_49 => ?_)
          · refine loop_dn (fun k9 H locs ls => ∃ (k2_86 : Nat), ∃ (ga14_86 : Nat → Int32), ∃ (Gxs_86 : List Int32), (k2_86 ≤ v11_2) ∧ (Gxs_86.length + k2_86 = Gxs_2.length + k2_2) ∧ (Gxs_86 ++ List.replicate k2_86 32 = Gxs_2 ++ List.replicate k2_2 32) ∧ (0 = 0) ∧ (FC ga14_86 a Gxs_86) ∧ (FO fd ga14_86 a) ∧ Pfd ga14_86 ∧ k2_86 = k9 ∧ va_P D vwCl [(m0, .inr (12, [.ref a0, .ref a1, .ref a2, .int (nI u3), .int f4, .ref a5, .int (nI u6), .int f7, .int f8, .int f9, .int f10, .int (nI v11_2), .int (nI u12), .int (nI u13), .ref a14, .ref a15, .ref a16, .ref a17, .int f18, .int f19, .ref a20, .ref a21, .int (nI u22), .ref a23, .ref a24, .ref a25, .int (nI u26), .int f27, .ref a28, .int (nI u29)])), (a0, .inl (κ 0, 21375, .inl w)), (a5, .inl (κ 0, 800, .inl tp)), (a14, .inl (κ 0, 189, .inl ga14_86))] H ∧ va_D A [(m0, .inr (12, [.ref a0, .ref a1, .ref a2, .int (nI u3), .int f4, .ref a5, .int (nI u6), .int f7, .int f8, .int f9, .int f10, .int (nI v11_2), .int (nI u12), .int (nI u13), .ref a14, .ref a15, .ref a16, .ref a17, .int f18, .int f19, .ref a20, .ref a21, .int (nI u22), .ref a23, .ref a24, .ref a25, .int (nI u26), .int f27, .ref a28, .int (nI u29)])), (a0, .inl (κ 0, 21375, .inl w)), (a5, .inl (κ 0, 800, .inl tp)), (a14, .inl (κ 0, 189, .inl ga14_86))] ∧ va_S A s.heap H locs ∧ lv_has ls 4 [(3, .int x_9), (2, .int (nI k2_86)), (0, .ref m0), (1, .int (nI a))]) (fun k9 H locs ls hI86 ih86 => ?_) (k2_2) _ _ _ ⟨k2_2, ga14_2, Gxs_2, (by omega), (by first | rfl | (rw [List.length_append]; simp only [List.length_cons, List.length_nil]; omega)), rfl, rfl, hl2_4, hl2_5, hg2_0, rfl, hP, hD, hS, lv_sub hl [0, 1, 2, 3] rfl⟩
            obtain ⟨k2_86, ga14_86, Gxs_86, hl86_0, hl86_1, hl86_2, hl86_3, hl86_4, hl86_5, hg86_0, hm86, hP, hD, hS, hl⟩ := hI86
            refine lv_iload_n hx hb dX12_plain_86 rfl (lv_at hl 1 rfl) ?_
            refine lv_if_le (tgt := 117) hx hb dX12_plain_87 (by decide) (fun c_50 => ?_) (fun c_50 => ?_)
            · have nc_50 := cv_le (a := k2_86) (b := 0) (by omega) (by omega) c_50
              refine lv_aload_n hx hb dX12_plain_117 rfl (lv_at hl 2 rfl) ?_
              refine lv_iload_n hx hb dX12_plain_118 rfl (lv_at hl 3 rfl) ?_
              refine lv_iload_n hx hb dX12_plain_119 rfl (lv_at hl 0 rfl) ?_
              refine ct_V (wr := [(a0, .inl (κ 0, 21375, .inl w)), (a5, .inl (κ 0, 800, .inl tp))]) (As := [.int (nI a), .int x_9]) (rest := []) hFX hKK hP hD hS hA (f_X12_adds l D κ m0 a0 a1 a2 u3 f4 a5 u6 f7 f8 f9 f10 v11_2 u12 u13 a14 a15 a16 a17 f18 f19 a20 a21 u22 a23 a24 a25 u26 f27 a28 u29 ga14_86 x_9 a Gxs_86 hg86_0 (by omega) hl86_4) 2 gV_X12_214 hdV_X12_adds ⟨Nat.le_of_ble_eq_true rfl, Nat.le_of_ble_eq_true rfl⟩ rfl rfl (Nat.le_of_ble_eq_true rfl) dX12_plain_120 ⟨Nat.le_of_ble_eq_true rfl, Nat.le_of_ble_eq_true rfl⟩ hl.1 [0, 3] [1, 2] rfl rfl (by decide) (by decide) (by decide) 0 12 rfl rfl rfl trivial (fun u_53 H locs hp_54 _ hP hD hS hz_ hk_ => ?_)
              obtain ⟨r__51, g_a14__52⟩ := u_53
              replace hP : va_P D vwCl [(m0, .inr (12, [.ref a0, .ref a1, .ref a2, .int (nI u3), .int f4, .ref a5, .int (nI u6), .int f7, .int f8, .int f9, .int f10, .int (nI v11_2), .int (nI u12), .int (nI u13), .ref a14, .ref a15, .ref a16, .ref a17, .int f18, .int f19, .ref a20, .ref a21, .int (nI u22), .ref a23, .ref a24, .ref a25, .int (nI u26), .int f27, .ref a28, .int (nI u29)])), (a0, .inl (κ 0, 21375, .inl w)), (a5, .inl (κ 0, 800, .inl tp)), (a14, .inl (κ 0, 189, .inl g_a14__52))] H := hP.sub [2, 0, 1, 3] rfl
              replace hD : va_D A [(m0, .inr (12, [.ref a0, .ref a1, .ref a2, .int (nI u3), .int f4, .ref a5, .int (nI u6), .int f7, .int f8, .int f9, .int f10, .int (nI v11_2), .int (nI u12), .int (nI u13), .ref a14, .ref a15, .ref a16, .ref a17, .int f18, .int f19, .ref a20, .ref a21, .int (nI u22), .ref a23, .ref a24, .ref a25, .int (nI u26), .int f27, .ref a28, .int (nI u29)])), (a0, .inl (κ 0, 21375, .inl w)), (a5, .inl (κ 0, 800, .inl tp)), (a14, .inl (κ 0, 189, .inl g_a14__52))] := hD.sub [2, 0, 1, 3] (by decide) rfl
              replace hp_54 : Pfd g_a14__52 ∧ ((r__51 = 1 ∧ (Gxs_86.length < 20 ∧ FC g_a14__52 a (Gxs_86 ++ [x_9]) ∧ FO ga14_86 g_a14__52 a)) ∨ (r__51 = 0 ∧ Gxs_86.length = 20 ∧ g_a14__52 = ga14_86)) := hp_54
              obtain ⟨h_55, ha_56⟩ := hp_54
              rcases ha_56 with ⟨rfl, a_57⟩ | ⟨rfl, a_58, a_59⟩
              · refine W.eq (g2 := F0 m 123 ls [.int 1]) rfl ?_
                obtain ⟨had_601, had_602, had_603⟩ := a_57
                have hfo_61 := FO_tr hl86_5 had_603
                refine lv_if_ne (tgt := 137) hx hb dX12_plain_123 (by decide) (fun c_62 => ?_) (fun c_62 => absurd c_62 (by decide))
                refine lv_aload_n hx hb dX12_plain_137 rfl (lv_at hl 2 rfl) ?_
                refine lv_dup hx hb dX12_plain_138 rfl ?_
                refine va_get (D := D) (ci := 12) (v := .int (nI v11_2)) (C := RX12) (T := TX12) (N := 30) hx hb hts inlX12 hown hK hP 0 rfl rfl 11 (by decide) (hts _ mw_423) (fun _ h9 => h9) rfl dX12_plain_139 ?_
                refine lv_iconst (v := 1) hx hb dX12_plain_142 (by decide) ?_
                refine lv_iadd hx hb dX12_plain_143 ?_
                refine ki (v := (nI (v11_2 + 1))) (nI_add v11_2 1) ?_
                refine va_put (D := D) (ci := 12) (v := .int (nI (v11_2 + 1))) (ty := tyX12 11) (C := RX12) (T := TX12) (N := 30) hx hb hts inlX12 tyX12 tyX12_ok nmX12 hown hK hP hD hS 0 rfl rfl 11 (by decide) (hts _ mw_423) (fun _ h9 => h9) rfl (tyX12_ok 11 (by decide)) rfl rfl (Nat.le_of_ble_eq_true rfl) dX12_plain_144 (fun H locs hP hD hS => ?_)
                have hP : va_P D vwCl [(m0, .inr (12, [.ref a0, .ref a1, .ref a2, .int (nI u3), .int f4, .ref a5, .int (nI u6), .int f7, .int f8, .int f9, .int f10, .int (nI (v11_2 + 1)), .int (nI u12), .int (nI u13), .ref a14, .ref a15, .ref a16, .ref a17, .int f18, .int f19, .ref a20, .ref a21, .int (nI u22), .ref a23, .ref a24, .ref a25, .int (nI u26), .int f27, .ref a28, .int (nI u29)])), (a0, .inl (κ 0, 21375, .inl w)), (a5, .inl (κ 0, 800, .inl tp)), (a14, .inl (κ 0, 189, .inl g_a14__52))] H := hP
                have hD : va_D A [(m0, .inr (12, [.ref a0, .ref a1, .ref a2, .int (nI u3), .int f4, .ref a5, .int (nI u6), .int f7, .int f8, .int f9, .int f10, .int (nI (v11_2 + 1)), .int (nI u12), .int (nI u13), .ref a14, .ref a15, .ref a16, .ref a17, .int f18, .int f19, .ref a20, .ref a21, .int (nI u22), .ref a23, .ref a24, .ref a25, .int (nI u26), .int f27, .ref a28, .int (nI u29)])), (a0, .inl (κ 0, 21375, .inl w)), (a5, .inl (κ 0, 800, .inl tp)), (a14, .inl (κ 0, 189, .inl g_a14__52))] := hD
                refine lv_goto (tgt := 2) hx hb dX12_plain_147 (by decide) ?_
                exact ih2 _ _ _ _ (by omega) ⟨k2_86, (v11_2 + 1), g_a14__52, (Gxs_86 ++ [x_9]), (by omega), (by omega), (by omega), (by rw [show k2_86 = 0 by omega, pl_bk (k' := k2_86) (by omega) hl86_2]; exact (pl_kp (t := tp) (d := (dW w)) (by omega) ex_9 rfl (fun h9 => a_6.2 (ex_9.trans h9)) (fun h9 => a_6.1 (ex_9.trans h9)) (cb_sg a_13 (fun h9 => a_6.1 (ex_9.trans h9)) (fun h9 => a_6.2 (ex_9.trans h9))) ex_16 c_17 (fun h9 => c_49 (ex_9.symm.trans h9.1)) (by have q9 := had_601; have q8 := hl86_1; omega)).symm.trans hl2_3), had_602, hfo_61, h_55, rfl, hP, hD, hS, lv_sub hl [1, 2, 3] rfl⟩
              · refine W.eq (g2 := F0 m 123 ls [.int 0]) rfl ?_
                refine lv_if_ne (tgt := 137) hx hb dX12_plain_123 (by decide) (fun c_63 => absurd c_63 (by decide)) (fun c_63 => ?_)
                refine lv_aload_n hx hb dX12_plain_126 rfl (lv_at hl 2 rfl) ?_
                refine lv_iconst (v := 5) hx hb dX12_plain_127 (by decide) ?_
                refine lv_aload_n hx hb dX12_plain_128 rfl (lv_at hl 2 rfl) ?_
                refine va_get (D := D) (ci := 12) (v := .int (nI v11_2)) (C := RX12) (T := TX12) (N := 30) hx hb hts inlX12 hown hK hP 0 rfl rfl 11 (by decide) (hts _ mw_423) (fun _ h9 => h9) rfl dX12_plain_129 ?_
                refine lv_iload_n hx hb dX12_plain_132 rfl (lv_at hl 3 rfl) ?_
                refine ct_V (wr := [(a0, .inl (κ 0, 21375, .inl w)), (a5, .inl (κ 0, 800, .inl tp)), (a14, .inl (κ 0, 189, .inl g_a14__52))]) (As := [.int 5, .int (nI v11_2), .int (nI a)]) (rest := []) hFX hKK hP hD hS hA (s_X12_wrong l D κ m0 a0 a1 a2 u3 f4 a5 u6 f7 f8 f9 f10 v11_2 u12 u13 a14 a15 a16 a17 f18 f19 a20 a21 u22 a23 a24 a25 u26 f27 a28 u29 5 (nI v11_2) (nI a)) 3 gV_X12_210 hdV_X12_wrong ⟨Nat.le_of_ble_eq_true rfl, Nat.le_of_ble_eq_true rfl⟩ rfl rfl (Nat.le_of_ble_eq_true rfl) dX12_plain_133 ⟨Nat.le_of_ble_eq_true rfl, Nat.le_of_ble_eq_true rfl⟩ hl.1 [0] [1, 2, 3] rfl rfl (by decide) (by decide) (by decide) 0 12 rfl rfl rfl trivial (fun _ H locs hp_64 _ hP hD hS hz_ hk_ => ?_)
                replace hP : va_P D vwCl [(m0, .inr (12, [.ref a0, .ref a1, .ref a2, .int (nI u3), .int f4, .ref a5, .int (nI u6), .int 5, .int (nI v11_2), .int (nI a), .int f10, .int (nI v11_2), .int (nI u12), .int (nI u13), .ref a14, .ref a15, .ref a16, .ref a17, .int f18, .int f19, .ref a20, .ref a21, .int (nI u22), .ref a23, .ref a24, .ref a25, .int (nI u26), .int f27, .ref a28, .int (nI u29)])), (a0, .inl (κ 0, 21375, .inl w)), (a5, .inl (κ 0, 800, .inl tp)), (a14, .inl (κ 0, 189, .inl g_a14__52))] H := hP.sub [3, 0, 1, 2] rfl
                replace hD : va_D A [(m0, .inr (12, [.ref a0, .ref a1, .ref a2, .int (nI u3), .int f4, .ref a5, .int (nI u6), .int 5, .int (nI v11_2), .int (nI a), .int f10, .int (nI v11_2), .int (nI u12), .int (nI u13), .ref a14, .ref a15, .ref a16, .ref a17, .int f18, .int f19, .ref a20, .ref a21, .int (nI u22), .ref a23, .ref a24, .ref a25, .int (nI u26), .int f27, .ref a28, .int (nI u29)])), (a0, .inl (κ 0, 21375, .inl w)), (a5, .inl (κ 0, 800, .inl tp)), (a14, .inl (κ 0, 189, .inl g_a14__52))] := hD.sub [3, 0, 1, 2] (by decide) rfl
                refine W.eq (g2 := F0 m 136 ls [.int 0]) rfl ?_
                exact ct_iret hx hb hr hlk rfl hS hP hD (0, [], 5, nI v11_2, nI a, v11_2, g_a14__52) rfl ⟨(show PF (nI v11_2) from (PF_n (by omega))), (show Pfd g_a14__52 from (by first | assumption | omega | rfl | exact Or.inl (by assumption) | exact Or.inr (by assumption))), (show u11 ≤ v11_2 from (by first | assumption | omega | rfl | exact Or.inl (by assumption) | exact Or.inr (by assumption))), (show v11_2 ≤ u6 from (by first | assumption | omega | rfl | exact Or.inl (by assumption) | exact Or.inr (by assumption))), (by exact Or.inr ((⟨rfl, (show plF tp (dW w) (u6 - u11) u11 0 [] = none ∧ FO fd g_a14__52 a from ⟨hl2_3.symm.trans (pl_full (t := tp) (d := (dW w)) (by omega) ex_9 rfl (fun h9 => a_6.2 (ex_9.trans h9)) (fun h9 => a_6.1 (ex_9.trans h9)) (cb_sg a_13 (fun h9 => a_6.1 (ex_9.trans h9)) (fun h9 => a_6.2 (ex_9.trans h9))) ex_16 c_17 (fun h9 => c_49 (ex_9.symm.trans h9.1)) (by have q9 := a_58; have q8 := hl86_1; omega)), by rw [a_59]; exact hl86_5⟩)⟩)))⟩ [0, 1, 2, 3] rfl (by decide) trivial (Nat.le_of_ble_eq_true rfl) (Nat.le_of_ble_eq_true rfl) dX12_plain_136
            · have nc_50 := cv_nle (a := k2_86) (b := 0) (by omega) (by omega) c_50
              refine lv_aload_n hx hb dX12_plain_90 rfl (lv_at hl 2 rfl) ?_
              refine lv_iload_n hx hb dX12_plain_91 rfl (lv_at hl 3 rfl) ?_
              refine lv_bipush (v := 32) hx hb dX12_plain_92 (by decide) ?_
              refine ct_V (wr := [(a0, .inl (κ 0, 21375, .inl w)), (a5, .inl (κ 0, 800, .inl tp))]) (As := [.int (nI a), .int 32]) (rest := []) hFX hKK hP hD hS hA (f_X12_adds l D κ m0 a0 a1 a2 u3 f4 a5 u6 f7 f8 f9 f10 v11_2 u12 u13 a14 a15 a16 a17 f18 f19 a20 a21 u22 a23 a24 a25 u26 f27 a28 u29 ga14_86 32 a Gxs_86 hg86_0 (by omega) hl86_4) 2 gV_X12_214 hdV_X12_adds ⟨Nat.le_of_ble_eq_true rfl, Nat.le_of_ble_eq_true rfl⟩ rfl rfl (Nat.le_of_ble_eq_true rfl) dX12_plain_94 ⟨Nat.le_of_ble_eq_true rfl, Nat.le_of_ble_eq_true rfl⟩ hl.1 [0, 3] [1, 2] rfl rfl (by decide) (by decide) (by decide) 0 12 rfl rfl rfl trivial (fun u_67 H locs hp_68 _ hP hD hS hz_ hk_ => ?_)
              obtain ⟨r__65, g_a14__66⟩ := u_67
              replace hP : va_P D vwCl [(m0, .inr (12, [.ref a0, .ref a1, .ref a2, .int (nI u3), .int f4, .ref a5, .int (nI u6), .int f7, .int f8, .int f9, .int f10, .int (nI v11_2), .int (nI u12), .int (nI u13), .ref a14, .ref a15, .ref a16, .ref a17, .int f18, .int f19, .ref a20, .ref a21, .int (nI u22), .ref a23, .ref a24, .ref a25, .int (nI u26), .int f27, .ref a28, .int (nI u29)])), (a0, .inl (κ 0, 21375, .inl w)), (a5, .inl (κ 0, 800, .inl tp)), (a14, .inl (κ 0, 189, .inl g_a14__66))] H := hP.sub [2, 0, 1, 3] rfl
              replace hD : va_D A [(m0, .inr (12, [.ref a0, .ref a1, .ref a2, .int (nI u3), .int f4, .ref a5, .int (nI u6), .int f7, .int f8, .int f9, .int f10, .int (nI v11_2), .int (nI u12), .int (nI u13), .ref a14, .ref a15, .ref a16, .ref a17, .int f18, .int f19, .ref a20, .ref a21, .int (nI u22), .ref a23, .ref a24, .ref a25, .int (nI u26), .int f27, .ref a28, .int (nI u29)])), (a0, .inl (κ 0, 21375, .inl w)), (a5, .inl (κ 0, 800, .inl tp)), (a14, .inl (κ 0, 189, .inl g_a14__66))] := hD.sub [2, 0, 1, 3] (by decide) rfl
              replace hp_68 : Pfd g_a14__66 ∧ ((r__65 = 1 ∧ (Gxs_86.length < 20 ∧ FC g_a14__66 a (Gxs_86 ++ [(32 : Int32)]) ∧ FO ga14_86 g_a14__66 a)) ∨ (r__65 = 0 ∧ Gxs_86.length = 20 ∧ g_a14__66 = ga14_86)) := hp_68
              obtain ⟨h_69, ha_70⟩ := hp_68
              rcases ha_70 with ⟨rfl, a_71⟩ | ⟨rfl, a_72, a_73⟩
              · refine W.eq (g2 := F0 m 97 ls [.int 1]) rfl ?_
                obtain ⟨had_741, had_742, had_743⟩ := a_71
                have hfo_75 := FO_tr hl86_5 had_743
                refine lv_if_ne (tgt := 111) hx hb dX12_plain_97 (by decide) (fun c_76 => ?_) (fun c_76 => absurd c_76 (by decide))
                refine lv_iinc (v := (nI (k2_86 - 1))) (lv' := [(2, .int (nI (k2_86 - 1))), (3, .int x_9), (0, .ref m0), (1, .int (nI a))]) hx hb dX12_plain_111 hl (k := 1) rfl (nI_d (by omega)) (by decide) rfl (fun ls hl => ?_)
                refine lv_goto (tgt := 86) hx hb dX12_plain_114 (by decide) ?_
                exact ih86 _ _ _ _ (by omega) ⟨(k2_86 - 1), g_a14__66, (Gxs_86 ++ [32]), (by omega), (by first | rfl | (rw [List.length_append]; simp only [List.length_cons, List.length_nil]; omega)), (rp_bk (by omega) hl86_2), rfl, had_742, hfo_75, h_69, rfl, hP, hD, hS, lv_sub hl [1, 0, 2, 3] rfl⟩
              · refine W.eq (g2 := F0 m 97 ls [.int 0]) rfl ?_
                refine lv_if_ne (tgt := 111) hx hb dX12_plain_97 (by decide) (fun c_77 => absurd c_77 (by decide)) (fun c_77 => ?_)
                refine lv_aload_n hx hb dX12_plain_100 rfl (lv_at hl 2 rfl) ?_
                refine lv_iconst (v := 5) hx hb dX12_plain_101 (by decide) ?_
                refine lv_aload_n hx hb dX12_plain_102 rfl (lv_at hl 2 rfl) ?_
                refine va_get (D := D) (ci := 12) (v := .int (nI v11_2)) (C := RX12) (T := TX12) (N := 30) hx hb hts inlX12 hown hK hP 0 rfl rfl 11 (by decide) (hts _ mw_423) (fun _ h9 => h9) rfl dX12_plain_103 ?_
                refine lv_iload_n hx hb dX12_plain_106 rfl (lv_at hl 3 rfl) ?_
                refine ct_V (wr := [(a0, .inl (κ 0, 21375, .inl w)), (a5, .inl (κ 0, 800, .inl tp)), (a14, .inl (κ 0, 189, .inl g_a14__66))]) (As := [.int 5, .int (nI v11_2), .int (nI a)]) (rest := []) hFX hKK hP hD hS hA (s_X12_wrong l D κ m0 a0 a1 a2 u3 f4 a5 u6 f7 f8 f9 f10 v11_2 u12 u13 a14 a15 a16 a17 f18 f19 a20 a21 u22 a23 a24 a25 u26 f27 a28 u29 5 (nI v11_2) (nI a)) 3 gV_X12_210 hdV_X12_wrong ⟨Nat.le_of_ble_eq_true rfl, Nat.le_of_ble_eq_true rfl⟩ rfl rfl (Nat.le_of_ble_eq_true rfl) dX12_plain_107 ⟨Nat.le_of_ble_eq_true rfl, Nat.le_of_ble_eq_true rfl⟩ hl.1 [0] [1, 2, 3] rfl rfl (by decide) (by decide) (by decide) 0 12 rfl rfl rfl trivial (fun _ H locs hp_78 _ hP hD hS hz_ hk_ => ?_)
                replace hP : va_P D vwCl [(m0, .inr (12, [.ref a0, .ref a1, .ref a2, .int (nI u3), .int f4, .ref a5, .int (nI u6), .int 5, .int (nI v11_2), .int (nI a), .int f10, .int (nI v11_2), .int (nI u12), .int (nI u13), .ref a14, .ref a15, .ref a16, .ref a17, .int f18, .int f19, .ref a20, .ref a21, .int (nI u22), .ref a23, .ref a24, .ref a25, .int (nI u26), .int f27, .ref a28, .int (nI u29)])), (a0, .inl (κ 0, 21375, .inl w)), (a5, .inl (κ 0, 800, .inl tp)), (a14, .inl (κ 0, 189, .inl g_a14__66))] H := hP.sub [3, 0, 1, 2] rfl
                replace hD : va_D A [(m0, .inr (12, [.ref a0, .ref a1, .ref a2, .int (nI u3), .int f4, .ref a5, .int (nI u6), .int 5, .int (nI v11_2), .int (nI a), .int f10, .int (nI v11_2), .int (nI u12), .int (nI u13), .ref a14, .ref a15, .ref a16, .ref a17, .int f18, .int f19, .ref a20, .ref a21, .int (nI u22), .ref a23, .ref a24, .ref a25, .int (nI u26), .int f27, .ref a28, .int (nI u29)])), (a0, .inl (κ 0, 21375, .inl w)), (a5, .inl (κ 0, 800, .inl tp)), (a14, .inl (κ 0, 189, .inl g_a14__66))] := hD.sub [3, 0, 1, 2] (by decide) rfl
                refine W.eq (g2 := F0 m 110 ls [.int 0]) rfl ?_
                exact ct_iret hx hb hr hlk rfl hS hP hD (0, [], 5, nI v11_2, nI a, v11_2, g_a14__66) rfl ⟨(show PF (nI v11_2) from (PF_n (by omega))), (show Pfd g_a14__66 from (by first | assumption | omega | rfl | exact Or.inl (by assumption) | exact Or.inr (by assumption))), (show u11 ≤ v11_2 from (by first | assumption | omega | rfl | exact Or.inl (by assumption) | exact Or.inr (by assumption))), (show v11_2 ≤ u6 from (by first | assumption | omega | rfl | exact Or.inl (by assumption) | exact Or.inr (by assumption))), (by exact Or.inr ((⟨rfl, (show plF tp (dW w) (u6 - u11) u11 0 [] = none ∧ FO fd g_a14__66 a from ⟨hl2_3.symm.trans (pl_full (t := tp) (d := (dW w)) (by omega) ex_9 rfl (fun h9 => a_6.2 (ex_9.trans h9)) (fun h9 => a_6.1 (ex_9.trans h9)) (cb_sg a_13 (fun h9 => a_6.1 (ex_9.trans h9)) (fun h9 => a_6.2 (ex_9.trans h9))) ex_16 c_17 (fun h9 => c_49 (ex_9.symm.trans h9.1)) (by have q9 := a_72; have q8 := hl86_1; omega)), by rw [a_73]; exact hl86_5⟩)⟩)))⟩ [0, 1, 2, 3] rfl (by decide) trivial (Nat.le_of_ble_eq_true rfl) (Nat.le_of_ble_eq_true rfl) dX12_plain_110
          · refine lv_iinc (v := (nI (k2_2 + 1))) (lv' := [(2, .int (nI (k2_2 + 1))), (3, .int x_9), (0, .ref m0), (1, .int (nI a))]) hx hb dX12_plain_80 hl (k := 1) rfl (nI_i k2_2) (by decide) rfl (fun ls hl => ?_)
            refine lv_goto (tgt := 137) hx hb dX12_plain_83 (by decide) ?_
            refine lv_aload_n hx hb dX12_plain_137 rfl (lv_at hl 2 rfl) ?_
            refine lv_dup hx hb dX12_plain_138 rfl ?_
            refine va_get (D := D) (ci := 12) (v := .int (nI v11_2)) (C := RX12) (T := TX12) (N := 30) hx hb hts inlX12 hown hK hP 0 rfl rfl 11 (by decide) (hts _ mw_423) (fun _ h9 => h9) rfl dX12_plain_139 ?_
            refine lv_iconst (v := 1) hx hb dX12_plain_142 (by decide) ?_
            refine lv_iadd hx hb dX12_plain_143 ?_
            refine ki (v := (nI (v11_2 + 1))) (nI_add v11_2 1) ?_
            refine va_put (D := D) (ci := 12) (v := .int (nI (v11_2 + 1))) (ty := tyX12 11) (C := RX12) (T := TX12) (N := 30) hx hb hts inlX12 tyX12 tyX12_ok nmX12 hown hK hP hD hS 0 rfl rfl 11 (by decide) (hts _ mw_423) (fun _ h9 => h9) rfl (tyX12_ok 11 (by decide)) rfl rfl (Nat.le_of_ble_eq_true rfl) dX12_plain_144 (fun H locs hP hD hS => ?_)
            have hP : va_P D vwCl [(m0, .inr (12, [.ref a0, .ref a1, .ref a2, .int (nI u3), .int f4, .ref a5, .int (nI u6), .int f7, .int f8, .int f9, .int f10, .int (nI (v11_2 + 1)), .int (nI u12), .int (nI u13), .ref a14, .ref a15, .ref a16, .ref a17, .int f18, .int f19, .ref a20, .ref a21, .int (nI u22), .ref a23, .ref a24, .ref a25, .int (nI u26), .int f27, .ref a28, .int (nI u29)])), (a0, .inl (κ 0, 21375, .inl w)), (a5, .inl (κ 0, 800, .inl tp)), (a14, .inl (κ 0, 189, .inl ga14_2))] H := hP
            have hD : va_D A [(m0, .inr (12, [.ref a0, .ref a1, .ref a2, .int (nI u3), .int f4, .ref a5, .int (nI u6), .int f7, .int f8, .int f9, .int f10, .int (nI (v11_2 + 1)), .int (nI u12), .int (nI u13), .ref a14, .ref a15, .ref a16, .ref a17, .int f18, .int f19, .ref a20, .ref a21, .int (nI u22), .ref a23, .ref a24, .ref a25, .int (nI u26), .int f27, .ref a28, .int (nI u29)])), (a0, .inl (κ 0, 21375, .inl w)), (a5, .inl (κ 0, 800, .inl tp)), (a14, .inl (κ 0, 189, .inl ga14_2))] := hD
            refine lv_goto (tgt := 2) hx hb dX12_plain_147 (by decide) ?_
            exact ih2 _ _ _ _ (by omega) ⟨(k2_2 + 1), (v11_2 + 1), ga14_2, Gxs_2, (by omega), (by omega), (by omega), ((pl_bl (t := tp) (d := (dW w)) (by omega) ex_9 rfl (fun h9 => a_6.2 (ex_9.trans h9)) (fun h9 => a_6.1 (ex_9.trans h9)) (cb_sg a_13 (fun h9 => a_6.1 (ex_9.trans h9)) (fun h9 => a_6.2 (ex_9.trans h9))) ex_16 c_17 c_49 ex_18 c_19).symm.trans hl2_3), hl2_4, hl2_5, hg2_0, rfl, hP, hD, hS, lv_sub hl [0, 2, 3] rfl⟩
      · refine lv_aload_n hx hb dX12_plain_51 rfl (lv_at hl 2 rfl) ?_
        refine lv_iconst (v := 2) hx hb dX12_plain_52 (by decide) ?_
        refine lv_aload_n hx hb dX12_plain_53 rfl (lv_at hl 2 rfl) ?_
        refine va_get (D := D) (ci := 12) (v := .int (nI v11_2)) (C := RX12) (T := TX12) (N := 30) hx hb hts inlX12 hown hK hP 0 rfl rfl 11 (by decide) (hts _ mw_423) (fun _ h9 => h9) rfl dX12_plain_54 ?_
        refine lv_iload_n hx hb dX12_plain_57 rfl (lv_at hl 3 rfl) ?_
        refine ct_V (wr := [(a0, .inl (κ 0, 21375, .inl w)), (a5, .inl (κ 0, 800, .inl tp)), (a14, .inl (κ 0, 189, .inl ga14_2))]) (As := [.int 2, .int (nI v11_2), .int (nI a)]) (rest := []) hFX hKK hP hD hS hA (s_X12_wrong l D κ m0 a0 a1 a2 u3 f4 a5 u6 f7 f8 f9 f10 v11_2 u12 u13 a14 a15 a16 a17 f18 f19 a20 a21 u22 a23 a24 a25 u26 f27 a28 u29 2 (nI v11_2) (nI a)) 3 gV_X12_210 hdV_X12_wrong ⟨Nat.le_of_ble_eq_true rfl, Nat.le_of_ble_eq_true rfl⟩ rfl rfl (Nat.le_of_ble_eq_true rfl) dX12_plain_58 ⟨Nat.le_of_ble_eq_true rfl, Nat.le_of_ble_eq_true rfl⟩ hl.1 [0] [1, 2, 3] rfl rfl (by decide) (by decide) (by decide) 0 12 rfl rfl rfl trivial (fun _ H locs hp_79 _ hP hD hS hz_ hk_ => ?_)
        replace hP : va_P D vwCl [(m0, .inr (12, [.ref a0, .ref a1, .ref a2, .int (nI u3), .int f4, .ref a5, .int (nI u6), .int 2, .int (nI v11_2), .int (nI a), .int f10, .int (nI v11_2), .int (nI u12), .int (nI u13), .ref a14, .ref a15, .ref a16, .ref a17, .int f18, .int f19, .ref a20, .ref a21, .int (nI u22), .ref a23, .ref a24, .ref a25, .int (nI u26), .int f27, .ref a28, .int (nI u29)])), (a0, .inl (κ 0, 21375, .inl w)), (a5, .inl (κ 0, 800, .inl tp)), (a14, .inl (κ 0, 189, .inl ga14_2))] H := hP.sub [3, 0, 1, 2] rfl
        replace hD : va_D A [(m0, .inr (12, [.ref a0, .ref a1, .ref a2, .int (nI u3), .int f4, .ref a5, .int (nI u6), .int 2, .int (nI v11_2), .int (nI a), .int f10, .int (nI v11_2), .int (nI u12), .int (nI u13), .ref a14, .ref a15, .ref a16, .ref a17, .int f18, .int f19, .ref a20, .ref a21, .int (nI u22), .ref a23, .ref a24, .ref a25, .int (nI u26), .int f27, .ref a28, .int (nI u29)])), (a0, .inl (κ 0, 21375, .inl w)), (a5, .inl (κ 0, 800, .inl tp)), (a14, .inl (κ 0, 189, .inl ga14_2))] := hD.sub [3, 0, 1, 2] (by decide) rfl
        refine W.eq (g2 := F0 m 61 ls [.int 0]) rfl ?_
        exact ct_iret hx hb hr hlk rfl hS hP hD (0, [], 2, nI v11_2, nI a, v11_2, ga14_2) rfl ⟨(show PF (nI v11_2) from (PF_n (by omega))), (show Pfd ga14_2 from (by first | assumption | omega | rfl | exact Or.inl (by assumption) | exact Or.inr (by assumption))), (show u11 ≤ v11_2 from (by first | assumption | omega | rfl | exact Or.inl (by assumption) | exact Or.inr (by assumption))), (show v11_2 ≤ u6 from (by first | assumption | omega | rfl | exact Or.inl (by assumption) | exact Or.inr (by assumption))), (by exact Or.inr ((⟨rfl, (show plF tp (dW w) (u6 - u11) u11 0 [] = none ∧ FO fd ga14_2 a from ⟨hl2_3.symm.trans (pl_q (t := tp) (d := (dW w)) (by omega) ex_9 rfl (fun h9 => a_6.2 (ex_9.trans h9)) (fun h9 => a_6.1 (ex_9.trans h9)) ex_16 c_17), hl2_5⟩)⟩)))⟩ [0, 1, 2, 3] rfl (by decide) trivial (Nat.le_of_ble_eq_true rfl) (Nat.le_of_ble_eq_true rfl) dX12_plain_61
    · refine W.eq (g2 := F0 m 25 ls [.int 0]) rfl ?_
      refine lv_if_ne (tgt := 39) hx hb dX12_plain_25 (by decide) (fun c_80 => absurd c_80 (by decide)) (fun c_80 => ?_)
      refine lv_aload_n hx hb dX12_plain_28 rfl (lv_at hl 2 rfl) ?_
      refine lv_iconst (v := 1) hx hb dX12_plain_29 (by decide) ?_
      refine lv_aload_n hx hb dX12_plain_30 rfl (lv_at hl 2 rfl) ?_
      refine va_get (D := D) (ci := 12) (v := .int (nI v11_2)) (C := RX12) (T := TX12) (N := 30) hx hb hts inlX12 hown hK hP 0 rfl rfl 11 (by decide) (hts _ mw_423) (fun _ h9 => h9) rfl dX12_plain_31 ?_
      refine lv_iload_n hx hb dX12_plain_34 rfl (lv_at hl 3 rfl) ?_
      refine ct_V (wr := [(a0, .inl (κ 0, 21375, .inl w)), (a5, .inl (κ 0, 800, .inl tp)), (a14, .inl (κ 0, 189, .inl ga14_2))]) (As := [.int 1, .int (nI v11_2), .int (nI a)]) (rest := []) hFX hKK hP hD hS hA (s_X12_wrong l D κ m0 a0 a1 a2 u3 f4 a5 u6 f7 f8 f9 f10 v11_2 u12 u13 a14 a15 a16 a17 f18 f19 a20 a21 u22 a23 a24 a25 u26 f27 a28 u29 1 (nI v11_2) (nI a)) 3 gV_X12_210 hdV_X12_wrong ⟨Nat.le_of_ble_eq_true rfl, Nat.le_of_ble_eq_true rfl⟩ rfl rfl (Nat.le_of_ble_eq_true rfl) dX12_plain_35 ⟨Nat.le_of_ble_eq_true rfl, Nat.le_of_ble_eq_true rfl⟩ hl.1 [0] [1, 2, 3] rfl rfl (by decide) (by decide) (by decide) 0 12 rfl rfl rfl trivial (fun _ H locs hp_81 _ hP hD hS hz_ hk_ => ?_)
      replace hP : va_P D vwCl [(m0, .inr (12, [.ref a0, .ref a1, .ref a2, .int (nI u3), .int f4, .ref a5, .int (nI u6), .int 1, .int (nI v11_2), .int (nI a), .int f10, .int (nI v11_2), .int (nI u12), .int (nI u13), .ref a14, .ref a15, .ref a16, .ref a17, .int f18, .int f19, .ref a20, .ref a21, .int (nI u22), .ref a23, .ref a24, .ref a25, .int (nI u26), .int f27, .ref a28, .int (nI u29)])), (a0, .inl (κ 0, 21375, .inl w)), (a5, .inl (κ 0, 800, .inl tp)), (a14, .inl (κ 0, 189, .inl ga14_2))] H := hP.sub [3, 0, 1, 2] rfl
      replace hD : va_D A [(m0, .inr (12, [.ref a0, .ref a1, .ref a2, .int (nI u3), .int f4, .ref a5, .int (nI u6), .int 1, .int (nI v11_2), .int (nI a), .int f10, .int (nI v11_2), .int (nI u12), .int (nI u13), .ref a14, .ref a15, .ref a16, .ref a17, .int f18, .int f19, .ref a20, .ref a21, .int (nI u22), .ref a23, .ref a24, .ref a25, .int (nI u26), .int f27, .ref a28, .int (nI u29)])), (a0, .inl (κ 0, 21375, .inl w)), (a5, .inl (κ 0, 800, .inl tp)), (a14, .inl (κ 0, 189, .inl ga14_2))] := hD.sub [3, 0, 1, 2] (by decide) rfl
      refine W.eq (g2 := F0 m 38 ls [.int 0]) rfl ?_
      exact ct_iret hx hb hr hlk rfl hS hP hD (0, [], 1, nI v11_2, nI a, v11_2, ga14_2) rfl ⟨(show PF (nI v11_2) from (PF_n (by omega))), (show Pfd ga14_2 from (by first | assumption | omega | rfl | exact Or.inl (by assumption) | exact Or.inr (by assumption))), (show u11 ≤ v11_2 from (by first | assumption | omega | rfl | exact Or.inl (by assumption) | exact Or.inr (by assumption))), (show v11_2 ≤ u6 from (by first | assumption | omega | rfl | exact Or.inl (by assumption) | exact Or.inr (by assumption))), (by exact Or.inr ((⟨rfl, (show plF tp (dW w) (u6 - u11) u11 0 [] = none ∧ FO fd ga14_2 a from ⟨hl2_3.symm.trans (pl_sg (t := tp) (d := (dW w)) (by omega) ex_9 rfl (fun h9 => a_6.2 (ex_9.trans h9)) (fun h9 => a_6.1 (ex_9.trans h9)) (cb_no a_14)), hl2_5⟩)⟩)))⟩ [0, 1, 2, 3] rfl (by decide) trivial (Nat.le_of_ble_eq_true rfl) (Nat.le_of_ble_eq_true rfl) dX12_plain_38
set_option maxHeartbeats 4000000 in
set_option maxRecDepth 100000 in
theorem f_X12_quoted (l : Launch) (D : va_G) (κ : Nat → ClassId) (m0 : Nat) (a0 : Nat) (a1 : Nat) (a2 : Nat) (u3 : Nat) (f4 : Int32) (a5 : Nat) (u6 : Nat) (f7 : Int32) (f8 : Int32) (f9 : Int32) (f10 : Int32) (u11 : Nat) (u12 : Nat) (u13 : Nat) (a14 : Nat) (a15 : Nat) (a16 : Nat) (a17 : Nat) (f18 : Int32) (f19 : Int32) (a20 : Nat) (a21 : Nat) (u22 : Nat) (a23 : Nat) (a24 : Nat) (a25 : Nat) (u26 : Nat) (f27 : Int32) (a28 : Nat) (u29 : Nat) (w : Nat → Int32) (tp : Nat → Int32) (fd : Nat → Int32) (a : Nat) (h6 : u6 ≤ 800) (h8 : PF f8) (h_a0 : Pw w) (h_a14 : Pfd fd) (h11 : u11 < u6) (ha : a < 9) (hfc : FC fd a []) (hsq : sgB (w 21370) = true) : Ct l yX12_quoted (wl yX12_quoted cX12_quoted 3 (some .boolean)) { frames := 2, cells := 0, slots := 0, locals := 47 } D κ [.ref m0, .int (nI a)] [(m0, .inr (12, [.ref a0, .ref a1, .ref a2, .int (nI u3), .int f4, .ref a5, .int (nI u6), .int f7, .int f8, .int f9, .int f10, .int (nI u11), .int (nI u12), .int (nI u13), .ref a14, .ref a15, .ref a16, .ref a17, .int f18, .int f19, .ref a20, .ref a21, .int (nI u22), .ref a23, .ref a24, .ref a25, .int (nI u26), .int f27, .ref a28, .int (nI u29)])), (a0, .inl (κ 0, 21375, .inl w)), (a5, .inl (κ 0, 800, .inl tp)), (a14, .inl (κ 0, 189, .inl fd))] (fun _ => True) (fun u9 : Int32 × List Int32 × Int32 × Int32 × Int32 × Nat × (Nat → Int32) => some (.int u9.1)) (fun u9 : Int32 × List Int32 × Int32 × Int32 × Int32 × Nat × (Nat → Int32) => PF u9.2.2.2.1 ∧ Pfd u9.2.2.2.2.2.2 ∧ u11 ≤ u9.2.2.2.2.2.1 ∧ u9.2.2.2.2.2.1 ≤ u6 ∧ ((u9.1 = 1 ∧ ((qbF tp (dW w) u6 (u11 + 1) = some (u9.2.2.2.2.2.1, u9.2.1) ∧ FC u9.2.2.2.2.2.2 a u9.2.1) ∧ FO fd u9.2.2.2.2.2.2 a)) ∨ (u9.1 = 0 ∧ (qbF tp (dW w) u6 (u11 + 1) = none ∧ FO fd u9.2.2.2.2.2.2 a)))) (fun u9 : Int32 × List Int32 × Int32 × Int32 × Int32 × Nat × (Nat → Int32) => [(m0, .inr (12, [.ref a0, .ref a1, .ref a2, .int (nI u3), .int f4, .ref a5, .int (nI u6), .int u9.2.2.1, .int u9.2.2.2.1, .int u9.2.2.2.2.1, .int f10, .int (nI u9.2.2.2.2.2.1), .int (nI u12), .int (nI u13), .ref a14, .ref a15, .ref a16, .ref a17, .int f18, .int f19, .ref a20, .ref a21, .int (nI u22), .ref a23, .ref a24, .ref a25, .int (nI u26), .int f27, .ref a28, .int (nI u29)])), (a0, .inl (κ 0, 21375, .inl w)), (a5, .inl (κ 0, 800, .inl tp)), (a14, .inl (κ 0, 189, .inl u9.2.2.2.2.2.2))]) (fun _ _ => True) := by
  refine ct_of (by decide +kernel) (Nat.le_of_ble_eq_true rfl) ?_
  intro p e s m args below meth c A ls hx hb hr hml hts hown hlk hin hKK hK hA hP hD hS hI hl
  have hS : va_S A s.heap s.heap [] := hS
  have hFX : FX p s m args c cX12_quoted 3 RX12 := ⟨hx, hb, hml, hown, hts⟩
  have hl : lv_has ls 3 [(0, .ref m0), (1, .int (nI a))] := hl
  refine lv_aload_n hx hb dX12_quoted_0 rfl (lv_at hl 0 rfl) ?_
  refine lv_dup hx hb dX12_quoted_1 rfl ?_
  refine va_get (D := D) (ci := 12) (v := .int (nI u11)) (C := RX12) (T := TX12) (N := 30) hx hb hts inlX12 hown hK hP 0 rfl rfl 11 (by decide) (hts _ mw_423) (fun _ h9 => h9) rfl dX12_quoted_2 ?_
  refine lv_iconst (v := 1) hx hb dX12_quoted_5 (by decide) ?_
  refine lv_iadd hx hb dX12_quoted_6 ?_
  refine ki (v := (nI (u11 + 1))) (nI_add u11 1) ?_
  refine va_put (D := D) (ci := 12) (v := .int (nI (u11 + 1))) (ty := tyX12 11) (C := RX12) (T := TX12) (N := 30) hx hb hts inlX12 tyX12 tyX12_ok nmX12 hown hK hP hD hS 0 rfl rfl 11 (by decide) (hts _ mw_423) (fun _ h9 => h9) rfl (tyX12_ok 11 (by decide)) rfl rfl (Nat.le_of_ble_eq_true rfl) dX12_quoted_7 (fun H locs hP hD hS => ?_)
  have hP : va_P D vwCl [(m0, .inr (12, [.ref a0, .ref a1, .ref a2, .int (nI u3), .int f4, .ref a5, .int (nI u6), .int f7, .int f8, .int f9, .int f10, .int (nI (u11 + 1)), .int (nI u12), .int (nI u13), .ref a14, .ref a15, .ref a16, .ref a17, .int f18, .int f19, .ref a20, .ref a21, .int (nI u22), .ref a23, .ref a24, .ref a25, .int (nI u26), .int f27, .ref a28, .int (nI u29)])), (a0, .inl (κ 0, 21375, .inl w)), (a5, .inl (κ 0, 800, .inl tp)), (a14, .inl (κ 0, 189, .inl fd))] H := hP
  have hD : va_D A [(m0, .inr (12, [.ref a0, .ref a1, .ref a2, .int (nI u3), .int f4, .ref a5, .int (nI u6), .int f7, .int f8, .int f9, .int f10, .int (nI (u11 + 1)), .int (nI u12), .int (nI u13), .ref a14, .ref a15, .ref a16, .ref a17, .int f18, .int f19, .ref a20, .ref a21, .int (nI u22), .ref a23, .ref a24, .ref a25, .int (nI u26), .int f27, .ref a28, .int (nI u29)])), (a0, .inl (κ 0, 21375, .inl w)), (a5, .inl (κ 0, 800, .inl tp)), (a14, .inl (κ 0, 189, .inl fd))] := hD
  refine loop_dn (fun k9 H locs ls => ∃ (v11_10 : Nat), ∃ (ga14_10 : Nat → Int32), ∃ (Gxs_10 : List Int32), (u11 ≤ v11_10) ∧ (v11_10 ≤ u6) ∧ (quF tp (dW w) (u6 - v11_10) v11_10 Gxs_10 = quF tp (dW w) (u6 - (u11 + 1)) (u11 + 1) []) ∧ (FC ga14_10 a Gxs_10) ∧ (FO fd ga14_10 a) ∧ Pfd ga14_10 ∧ u6 - v11_10 = k9 ∧ va_P D vwCl [(m0, .inr (12, [.ref a0, .ref a1, .ref a2, .int (nI u3), .int f4, .ref a5, .int (nI u6), .int f7, .int f8, .int f9, .int f10, .int (nI v11_10), .int (nI u12), .int (nI u13), .ref a14, .ref a15, .ref a16, .ref a17, .int f18, .int f19, .ref a20, .ref a21, .int (nI u22), .ref a23, .ref a24, .ref a25, .int (nI u26), .int f27, .ref a28, .int (nI u29)])), (a0, .inl (κ 0, 21375, .inl w)), (a5, .inl (κ 0, 800, .inl tp)), (a14, .inl (κ 0, 189, .inl ga14_10))] H ∧ va_D A [(m0, .inr (12, [.ref a0, .ref a1, .ref a2, .int (nI u3), .int f4, .ref a5, .int (nI u6), .int f7, .int f8, .int f9, .int f10, .int (nI v11_10), .int (nI u12), .int (nI u13), .ref a14, .ref a15, .ref a16, .ref a17, .int f18, .int f19, .ref a20, .ref a21, .int (nI u22), .ref a23, .ref a24, .ref a25, .int (nI u26), .int f27, .ref a28, .int (nI u29)])), (a0, .inl (κ 0, 21375, .inl w)), (a5, .inl (κ 0, 800, .inl tp)), (a14, .inl (κ 0, 189, .inl ga14_10))] ∧ va_S A s.heap H locs ∧ lv_has ls 3 [(0, .ref m0), (1, .int (nI a))]) (fun k9 H locs ls hI10 ih10 => ?_) (u6 - (u11 + 1)) _ _ _ ⟨(u11 + 1), fd, ([]), (by omega), (by omega), rfl, hfc, FO_rf, h_a14, rfl, hP, hD, hS, lv_sub hl [0, 1] rfl⟩
  obtain ⟨v11_10, ga14_10, Gxs_10, hl10_0, hl10_1, hl10_2, hl10_3, hl10_4, hg10_0, hm10, hP, hD, hS, hl⟩ := hI10
  refine lv_aload_n hx hb dX12_quoted_10 rfl (lv_at hl 0 rfl) ?_
  refine va_get (D := D) (ci := 12) (v := .int (nI v11_10)) (C := RX12) (T := TX12) (N := 30) hx hb hts inlX12 hown hK hP 0 rfl rfl 11 (by decide) (hts _ mw_423) (fun _ h9 => h9) rfl dX12_quoted_11 ?_
  refine lv_aload_n hx hb dX12_quoted_14 rfl (lv_at hl 0 rfl) ?_
  refine va_get (D := D) (ci := 12) (v := .int (nI u6)) (C := RX12) (T := TX12) (N := 30) hx hb hts inlX12 hown hK hP 0 rfl rfl 6 (by decide) (hts _ mw_236) (fun _ h9 => h9) rfl dX12_quoted_15 ?_
  refine lv_icmp_ge (tgt := 144) hx hb dX12_quoted_18 (by decide) (fun c_1 => ?_) (fun c_1 => ?_)
  · have nc_1 := cv_le (a := u6) (b := v11_10) (by omega) (by omega) c_1
    refine lv_aload_n hx hb dX12_quoted_144 rfl (lv_at hl 0 rfl) ?_
    refine va_get (D := D) (ci := 12) (v := .int (nI v11_10)) (C := RX12) (T := TX12) (N := 30) hx hb hts inlX12 hown hK hP 0 rfl rfl 11 (by decide) (hts _ mw_423) (fun _ h9 => h9) rfl dX12_quoted_145 ?_
    refine lv_aload_n hx hb dX12_quoted_148 rfl (lv_at hl 0 rfl) ?_
    refine va_get (D := D) (ci := 12) (v := .int (nI u6)) (C := RX12) (T := TX12) (N := 30) hx hb hts inlX12 hown hK hP 0 rfl rfl 6 (by decide) (hts _ mw_236) (fun _ h9 => h9) rfl dX12_quoted_149 ?_
    refine lv_icmp_ne (tgt := 166) hx hb dX12_quoted_152 (by decide) (fun c_2 => ?_) (fun c_2 => ?_)
    · have nc_2 := cv_ne (a := v11_10) (b := u6) (by omega) (by omega) c_2
      omega
    · have nc_2 := cv_eq (a := v11_10) (b := u6) (by omega) (by omega) c_2
      refine lv_aload_n hx hb dX12_quoted_155 rfl (lv_at hl 0 rfl) ?_
      refine lv_iconst (v := 4) hx hb dX12_quoted_156 (by decide) ?_
      refine lv_aload_n hx hb dX12_quoted_157 rfl (lv_at hl 0 rfl) ?_
      refine va_get (D := D) (ci := 12) (v := .int (nI v11_10)) (C := RX12) (T := TX12) (N := 30) hx hb hts inlX12 hown hK hP 0 rfl rfl 11 (by decide) (hts _ mw_423) (fun _ h9 => h9) rfl dX12_quoted_158 ?_
      refine lv_iload_n hx hb dX12_quoted_161 rfl (lv_at hl 1 rfl) ?_
      refine ct_V (wr := [(a0, .inl (κ 0, 21375, .inl w)), (a5, .inl (κ 0, 800, .inl tp)), (a14, .inl (κ 0, 189, .inl ga14_10))]) (As := [.int 4, .int (nI v11_10), .int (nI a)]) (rest := []) hFX hKK hP hD hS hA (s_X12_wrong l D κ m0 a0 a1 a2 u3 f4 a5 u6 f7 f8 f9 f10 v11_10 u12 u13 a14 a15 a16 a17 f18 f19 a20 a21 u22 a23 a24 a25 u26 f27 a28 u29 4 (nI v11_10) (nI a)) 3 gV_X12_210 hdV_X12_wrong ⟨Nat.le_of_ble_eq_true rfl, Nat.le_of_ble_eq_true rfl⟩ rfl rfl (Nat.le_of_ble_eq_true rfl) dX12_quoted_162 ⟨Nat.le_of_ble_eq_true rfl, Nat.le_of_ble_eq_true rfl⟩ hl.1 [0] [1, 2, 3] rfl rfl (by decide) (by decide) (by decide) 0 12 rfl rfl rfl trivial (fun _ H locs hp_3 _ hP hD hS hz_ hk_ => ?_)
      replace hP : va_P D vwCl [(m0, .inr (12, [.ref a0, .ref a1, .ref a2, .int (nI u3), .int f4, .ref a5, .int (nI u6), .int 4, .int (nI v11_10), .int (nI a), .int f10, .int (nI v11_10), .int (nI u12), .int (nI u13), .ref a14, .ref a15, .ref a16, .ref a17, .int f18, .int f19, .ref a20, .ref a21, .int (nI u22), .ref a23, .ref a24, .ref a25, .int (nI u26), .int f27, .ref a28, .int (nI u29)])), (a0, .inl (κ 0, 21375, .inl w)), (a5, .inl (κ 0, 800, .inl tp)), (a14, .inl (κ 0, 189, .inl ga14_10))] H := hP.sub [3, 0, 1, 2] rfl
      replace hD : va_D A [(m0, .inr (12, [.ref a0, .ref a1, .ref a2, .int (nI u3), .int f4, .ref a5, .int (nI u6), .int 4, .int (nI v11_10), .int (nI a), .int f10, .int (nI v11_10), .int (nI u12), .int (nI u13), .ref a14, .ref a15, .ref a16, .ref a17, .int f18, .int f19, .ref a20, .ref a21, .int (nI u22), .ref a23, .ref a24, .ref a25, .int (nI u26), .int f27, .ref a28, .int (nI u29)])), (a0, .inl (κ 0, 21375, .inl w)), (a5, .inl (κ 0, 800, .inl tp)), (a14, .inl (κ 0, 189, .inl ga14_10))] := hD.sub [3, 0, 1, 2] (by decide) rfl
      refine W.eq (g2 := F0 m 165 ls [.int 0]) rfl ?_
      exact ct_iret hx hb hr hlk rfl hS hP hD (0, [], 4, nI v11_10, nI a, v11_10, ga14_10) rfl ⟨(show PF (nI v11_10) from (PF_n (by omega))), (show Pfd ga14_10 from (by first | assumption | omega | rfl | exact Or.inl (by assumption) | exact Or.inr (by assumption))), (show u11 ≤ v11_10 from (by first | assumption | omega | rfl | exact Or.inl (by assumption) | exact Or.inr (by assumption))), (show v11_10 ≤ u6 from (by first | assumption | omega | rfl | exact Or.inl (by assumption) | exact Or.inr (by assumption))), (by exact Or.inr ((⟨rfl, (show qbF tp (dW w) u6 (u11 + 1) = none ∧ FO fd ga14_10 a from ⟨qb_n (hl10_2.symm.trans (qu_end (t := tp) (d := (dW w)) (by omega))), hl10_4⟩)⟩)))⟩ [0, 1, 2, 3] rfl (by decide) trivial (Nat.le_of_ble_eq_true rfl) (Nat.le_of_ble_eq_true rfl) dX12_quoted_165
  · have nc_1 := cv_nle (a := u6) (b := v11_10) (by omega) (by omega) c_1
    refine lv_aload_n hx hb dX12_quoted_21 rfl (lv_at hl 0 rfl) ?_
    refine va_get (D := D) (ci := 12) (v := .ref a5) (C := RX12) (T := TX12) (N := 30) hx hb hts inlX12 hown hK hP 0 rfl rfl 5 (by decide) (hts _ mw_191) (fun _ h9 => h9) rfl dX12_quoted_22 ?_
    refine lv_aload_n hx hb dX12_quoted_25 rfl (lv_at hl 0 rfl) ?_
    refine va_get (D := D) (ci := 12) (v := .int (nI v11_10)) (C := RX12) (T := TX12) (N := 30) hx hb hts inlX12 hown hK hP 0 rfl rfl 11 (by decide) (hts _ mw_423) (fun _ h9 => h9) rfl dX12_quoted_26 ?_
    refine va_iald hx hb hK hP 2 0 rfl rfl (i := nI v11_10) (vp_in_nI (n := v11_10) (by omega) (by omega)) dX12_quoted_29 ?_
    refine kv (v := .int (tp v11_10)) (by rw [nI_clamp (by omega)]) ?_
    obtain ⟨x_4, ex_4⟩ : ∃ y9 : Int32, tp v11_10 = y9 := ⟨_, rfl⟩
    refine kv (v := .int x_4) (congrArg Value.int ex_4) ?_
    refine lv_istore_n (lv' := [(2, .int x_4), (0, .ref m0), (1, .int (nI a))]) hx hb dX12_quoted_30 rfl hl (by decide) rfl (fun ls hl => ?_)
    refine lv_iload_n hx hb dX12_quoted_31 rfl (lv_at hl 0 rfl) ?_
    refine lv_aload_n hx hb dX12_quoted_32 rfl (lv_at hl 1 rfl) ?_
    refine va_get (D := D) (ci := 12) (v := .ref a0) (C := RX12) (T := TX12) (N := 30) hx hb hts inlX12 hown hK hP 0 rfl rfl 0 (by decide) (hts _ mw_187) (fun _ h9 => h9) rfl dX12_quoted_33 ?_
    refine lv_sipush (v := 21370) hx hb dX12_quoted_36 (by decide) ?_
    refine va_iald hx hb hK hP 1 0 rfl rfl (i := 21370) (vp_k (by decide)) dX12_quoted_39 ?_
    obtain ⟨x_5, ex_5⟩ : ∃ y9 : Int32, w 21370 = y9 := ⟨_, rfl⟩
    refine kv (v := .int x_5) (congrArg Value.int ex_5) ?_
    refine lv_icmp_ne (tgt := 91) hx hb dX12_quoted_40 (by decide) (fun c_6 => ?_) (fun c_6 => ?_)
    · refine lv_aload_n hx hb dX12_quoted_91 rfl (lv_at hl 1 rfl) ?_
      refine lv_iload_n hx hb dX12_quoted_92 rfl (lv_at hl 0 rfl) ?_
      refine lv_iconst (v := 1) hx hb dX12_quoted_93 (by decide) ?_
      refine cr_V (As := [.int x_4, .int 1]) (rest := []) hFX hKK (f_X12_canBe l D κ m0 a0 a1 a2 u3 f4 a5 u6 f7 f8 f9 f10 v11_10 u12 u13 a14 a15 a16 a17 f18 f19 a20 a21 u22 a23 a24 a25 u26 f27 a28 u29 w x_4 1 h_a0) 2 gV_X12_206 hdV_X12_canBe rfl rfl ⟨Nat.le_of_ble_eq_true rfl, Nat.le_of_ble_eq_true rfl⟩ rfl rfl (Nat.le_of_ble_eq_true rfl) dX12_quoted_94 ⟨Nat.le_of_ble_eq_true rfl, Nat.le_of_ble_eq_true rfl⟩ hl.1 hP 0 12 rfl rfl rfl (hP.sub [0, 1] rfl) (fun r__7 hp_8 => ?_)
      replace hp_8 : ((r__7 = 1 ∧ ((x_4 = 9 ∧ (1 : Int32) = 0 ∧ w 21369 = 9) ∨ sgB x_4 = true ∨ x_4 = 10)) ∨ (r__7 = 0 ∧ (sgB x_4 = false ∧ ¬ x_4 = 10 ∧ ¬ ((1 : Int32) = 0 ∧ x_4 = 9 ∧ w 21369 = 9)))) := hp_8
      have ha_9 := hp_8
      clear hp_8
      rcases ha_9 with ⟨rfl, a_10⟩ | ⟨rfl, a_11⟩
      · refine W.eq (g2 := F0 m 97 ls [.int 1]) rfl ?_
        refine lv_if_ne (tgt := 111) hx hb dX12_quoted_97 (by decide) (fun c_12 => ?_) (fun c_12 => absurd c_12 (by decide))
        refine lv_aload_n hx hb dX12_quoted_111 rfl (lv_at hl 1 rfl) ?_
        refine lv_iload_n hx hb dX12_quoted_112 rfl (lv_at hl 2 rfl) ?_
        refine lv_iload_n hx hb dX12_quoted_113 rfl (lv_at hl 0 rfl) ?_
        refine ct_V (wr := [(a0, .inl (κ 0, 21375, .inl w)), (a5, .inl (κ 0, 800, .inl tp))]) (As := [.int (nI a), .int x_4]) (rest := []) hFX hKK hP hD hS hA (f_X12_adds l D κ m0 a0 a1 a2 u3 f4 a5 u6 f7 f8 f9 f10 v11_10 u12 u13 a14 a15 a16 a17 f18 f19 a20 a21 u22 a23 a24 a25 u26 f27 a28 u29 ga14_10 x_4 a Gxs_10 hg10_0 (by omega) hl10_3) 2 gV_X12_214 hdV_X12_adds ⟨Nat.le_of_ble_eq_true rfl, Nat.le_of_ble_eq_true rfl⟩ rfl rfl (Nat.le_of_ble_eq_true rfl) dX12_quoted_114 ⟨Nat.le_of_ble_eq_true rfl, Nat.le_of_ble_eq_true rfl⟩ hl.1 [0, 3] [1, 2] rfl rfl (by decide) (by decide) (by decide) 0 12 rfl rfl rfl trivial (fun u_15 H locs hp_16 _ hP hD hS hz_ hk_ => ?_)
        obtain ⟨r__13, g_a14__14⟩ := u_15
        replace hP : va_P D vwCl [(m0, .inr (12, [.ref a0, .ref a1, .ref a2, .int (nI u3), .int f4, .ref a5, .int (nI u6), .int f7, .int f8, .int f9, .int f10, .int (nI v11_10), .int (nI u12), .int (nI u13), .ref a14, .ref a15, .ref a16, .ref a17, .int f18, .int f19, .ref a20, .ref a21, .int (nI u22), .ref a23, .ref a24, .ref a25, .int (nI u26), .int f27, .ref a28, .int (nI u29)])), (a0, .inl (κ 0, 21375, .inl w)), (a5, .inl (κ 0, 800, .inl tp)), (a14, .inl (κ 0, 189, .inl g_a14__14))] H := hP.sub [2, 0, 1, 3] rfl
        replace hD : va_D A [(m0, .inr (12, [.ref a0, .ref a1, .ref a2, .int (nI u3), .int f4, .ref a5, .int (nI u6), .int f7, .int f8, .int f9, .int f10, .int (nI v11_10), .int (nI u12), .int (nI u13), .ref a14, .ref a15, .ref a16, .ref a17, .int f18, .int f19, .ref a20, .ref a21, .int (nI u22), .ref a23, .ref a24, .ref a25, .int (nI u26), .int f27, .ref a28, .int (nI u29)])), (a0, .inl (κ 0, 21375, .inl w)), (a5, .inl (κ 0, 800, .inl tp)), (a14, .inl (κ 0, 189, .inl g_a14__14))] := hD.sub [2, 0, 1, 3] (by decide) rfl
        replace hp_16 : Pfd g_a14__14 ∧ ((r__13 = 1 ∧ (Gxs_10.length < 20 ∧ FC g_a14__14 a (Gxs_10 ++ [x_4]) ∧ FO ga14_10 g_a14__14 a)) ∨ (r__13 = 0 ∧ Gxs_10.length = 20 ∧ g_a14__14 = ga14_10)) := hp_16
        obtain ⟨h_17, ha_18⟩ := hp_16
        rcases ha_18 with ⟨rfl, a_19⟩ | ⟨rfl, a_20, a_21⟩
        · refine W.eq (g2 := F0 m 117 ls [.int 1]) rfl ?_
          obtain ⟨had_221, had_222, had_223⟩ := a_19
          have hfo_23 := FO_tr hl10_4 had_223
          refine lv_if_ne (tgt := 131) hx hb dX12_quoted_117 (by decide) (fun c_24 => ?_) (fun c_24 => absurd c_24 (by decide))
          refine lv_aload_n hx hb dX12_quoted_131 rfl (lv_at hl 1 rfl) ?_
          refine lv_dup hx hb dX12_quoted_132 rfl ?_
          refine va_get (D := D) (ci := 12) (v := .int (nI v11_10)) (C := RX12) (T := TX12) (N := 30) hx hb hts inlX12 hown hK hP 0 rfl rfl 11 (by decide) (hts _ mw_423) (fun _ h9 => h9) rfl dX12_quoted_133 ?_
          refine lv_iconst (v := 1) hx hb dX12_quoted_136 (by decide) ?_
          refine lv_iadd hx hb dX12_quoted_137 ?_
          refine ki (v := (nI (v11_10 + 1))) (nI_add v11_10 1) ?_
          refine va_put (D := D) (ci := 12) (v := .int (nI (v11_10 + 1))) (ty := tyX12 11) (C := RX12) (T := TX12) (N := 30) hx hb hts inlX12 tyX12 tyX12_ok nmX12 hown hK hP hD hS 0 rfl rfl 11 (by decide) (hts _ mw_423) (fun _ h9 => h9) rfl (tyX12_ok 11 (by decide)) rfl rfl (Nat.le_of_ble_eq_true rfl) dX12_quoted_138 (fun H locs hP hD hS => ?_)
          have hP : va_P D vwCl [(m0, .inr (12, [.ref a0, .ref a1, .ref a2, .int (nI u3), .int f4, .ref a5, .int (nI u6), .int f7, .int f8, .int f9, .int f10, .int (nI (v11_10 + 1)), .int (nI u12), .int (nI u13), .ref a14, .ref a15, .ref a16, .ref a17, .int f18, .int f19, .ref a20, .ref a21, .int (nI u22), .ref a23, .ref a24, .ref a25, .int (nI u26), .int f27, .ref a28, .int (nI u29)])), (a0, .inl (κ 0, 21375, .inl w)), (a5, .inl (κ 0, 800, .inl tp)), (a14, .inl (κ 0, 189, .inl g_a14__14))] H := hP
          have hD : va_D A [(m0, .inr (12, [.ref a0, .ref a1, .ref a2, .int (nI u3), .int f4, .ref a5, .int (nI u6), .int f7, .int f8, .int f9, .int f10, .int (nI (v11_10 + 1)), .int (nI u12), .int (nI u13), .ref a14, .ref a15, .ref a16, .ref a17, .int f18, .int f19, .ref a20, .ref a21, .int (nI u22), .ref a23, .ref a24, .ref a25, .int (nI u26), .int f27, .ref a28, .int (nI u29)])), (a0, .inl (κ 0, 21375, .inl w)), (a5, .inl (κ 0, 800, .inl tp)), (a14, .inl (κ 0, 189, .inl g_a14__14))] := hD
          refine lv_goto (tgt := 10) hx hb dX12_quoted_141 (by decide) ?_
          exact ih10 _ _ _ _ (by omega) ⟨(v11_10 + 1), g_a14__14, (Gxs_10 ++ [x_4]), (by omega), (by omega), ((qu_k (t := tp) (d := (dW w)) (by omega) ex_4 (cb_q a_10 (by decide)) ex_5 c_6 (by have q9 := had_221; omega)).symm.trans hl10_2), had_222, hfo_23, h_17, rfl, hP, hD, hS, lv_sub hl [1, 2] rfl⟩
        · refine W.eq (g2 := F0 m 117 ls [.int 0]) rfl ?_
          refine lv_if_ne (tgt := 131) hx hb dX12_quoted_117 (by decide) (fun c_25 => absurd c_25 (by decide)) (fun c_25 => ?_)
          refine lv_aload_n hx hb dX12_quoted_120 rfl (lv_at hl 1 rfl) ?_
          refine lv_iconst (v := 5) hx hb dX12_quoted_121 (by decide) ?_
          refine lv_aload_n hx hb dX12_quoted_122 rfl (lv_at hl 1 rfl) ?_
          refine va_get (D := D) (ci := 12) (v := .int (nI v11_10)) (C := RX12) (T := TX12) (N := 30) hx hb hts inlX12 hown hK hP 0 rfl rfl 11 (by decide) (hts _ mw_423) (fun _ h9 => h9) rfl dX12_quoted_123 ?_
          refine lv_iload_n hx hb dX12_quoted_126 rfl (lv_at hl 2 rfl) ?_
          refine ct_V (wr := [(a0, .inl (κ 0, 21375, .inl w)), (a5, .inl (κ 0, 800, .inl tp)), (a14, .inl (κ 0, 189, .inl g_a14__14))]) (As := [.int 5, .int (nI v11_10), .int (nI a)]) (rest := []) hFX hKK hP hD hS hA (s_X12_wrong l D κ m0 a0 a1 a2 u3 f4 a5 u6 f7 f8 f9 f10 v11_10 u12 u13 a14 a15 a16 a17 f18 f19 a20 a21 u22 a23 a24 a25 u26 f27 a28 u29 5 (nI v11_10) (nI a)) 3 gV_X12_210 hdV_X12_wrong ⟨Nat.le_of_ble_eq_true rfl, Nat.le_of_ble_eq_true rfl⟩ rfl rfl (Nat.le_of_ble_eq_true rfl) dX12_quoted_127 ⟨Nat.le_of_ble_eq_true rfl, Nat.le_of_ble_eq_true rfl⟩ hl.1 [0] [1, 2, 3] rfl rfl (by decide) (by decide) (by decide) 0 12 rfl rfl rfl trivial (fun _ H locs hp_26 _ hP hD hS hz_ hk_ => ?_)
          replace hP : va_P D vwCl [(m0, .inr (12, [.ref a0, .ref a1, .ref a2, .int (nI u3), .int f4, .ref a5, .int (nI u6), .int 5, .int (nI v11_10), .int (nI a), .int f10, .int (nI v11_10), .int (nI u12), .int (nI u13), .ref a14, .ref a15, .ref a16, .ref a17, .int f18, .int f19, .ref a20, .ref a21, .int (nI u22), .ref a23, .ref a24, .ref a25, .int (nI u26), .int f27, .ref a28, .int (nI u29)])), (a0, .inl (κ 0, 21375, .inl w)), (a5, .inl (κ 0, 800, .inl tp)), (a14, .inl (κ 0, 189, .inl g_a14__14))] H := hP.sub [3, 0, 1, 2] rfl
          replace hD : va_D A [(m0, .inr (12, [.ref a0, .ref a1, .ref a2, .int (nI u3), .int f4, .ref a5, .int (nI u6), .int 5, .int (nI v11_10), .int (nI a), .int f10, .int (nI v11_10), .int (nI u12), .int (nI u13), .ref a14, .ref a15, .ref a16, .ref a17, .int f18, .int f19, .ref a20, .ref a21, .int (nI u22), .ref a23, .ref a24, .ref a25, .int (nI u26), .int f27, .ref a28, .int (nI u29)])), (a0, .inl (κ 0, 21375, .inl w)), (a5, .inl (κ 0, 800, .inl tp)), (a14, .inl (κ 0, 189, .inl g_a14__14))] := hD.sub [3, 0, 1, 2] (by decide) rfl
          refine W.eq (g2 := F0 m 130 ls [.int 0]) rfl ?_
          exact ct_iret hx hb hr hlk rfl hS hP hD (0, [], 5, nI v11_10, nI a, v11_10, g_a14__14) rfl ⟨(show PF (nI v11_10) from (PF_n (by omega))), (show Pfd g_a14__14 from (by first | assumption | omega | rfl | exact Or.inl (by assumption) | exact Or.inr (by assumption))), (show u11 ≤ v11_10 from (by first | assumption | omega | rfl | exact Or.inl (by assumption) | exact Or.inr (by assumption))), (show v11_10 ≤ u6 from (by first | assumption | omega | rfl | exact Or.inl (by assumption) | exact Or.inr (by assumption))), (by exact Or.inr ((⟨rfl, (show qbF tp (dW w) u6 (u11 + 1) = none ∧ FO fd g_a14__14 a from ⟨qb_n (hl10_2.symm.trans (qu_f (t := tp) (d := (dW w)) (by omega) ex_4 (cb_q a_10 (by decide)) ex_5 c_6 (by have q9 := a_20; omega))), by rw [a_21]; exact hl10_4⟩)⟩)))⟩ [0, 1, 2, 3] rfl (by decide) trivial (Nat.le_of_ble_eq_true rfl) (Nat.le_of_ble_eq_true rfl) dX12_quoted_130
      · refine W.eq (g2 := F0 m 97 ls [.int 0]) rfl ?_
        refine lv_if_ne (tgt := 111) hx hb dX12_quoted_97 (by decide) (fun c_27 => absurd c_27 (by decide)) (fun c_27 => ?_)
        refine lv_aload_n hx hb dX12_quoted_100 rfl (lv_at hl 1 rfl) ?_
        refine lv_iconst (v := 1) hx hb dX12_quoted_101 (by decide) ?_
        refine lv_aload_n hx hb dX12_quoted_102 rfl (lv_at hl 1 rfl) ?_
        refine va_get (D := D) (ci := 12) (v := .int (nI v11_10)) (C := RX12) (T := TX12) (N := 30) hx hb hts inlX12 hown hK hP 0 rfl rfl 11 (by decide) (hts _ mw_423) (fun _ h9 => h9) rfl dX12_quoted_103 ?_
        refine lv_iload_n hx hb dX12_quoted_106 rfl (lv_at hl 2 rfl) ?_
        refine ct_V (wr := [(a0, .inl (κ 0, 21375, .inl w)), (a5, .inl (κ 0, 800, .inl tp)), (a14, .inl (κ 0, 189, .inl ga14_10))]) (As := [.int 1, .int (nI v11_10), .int (nI a)]) (rest := []) hFX hKK hP hD hS hA (s_X12_wrong l D κ m0 a0 a1 a2 u3 f4 a5 u6 f7 f8 f9 f10 v11_10 u12 u13 a14 a15 a16 a17 f18 f19 a20 a21 u22 a23 a24 a25 u26 f27 a28 u29 1 (nI v11_10) (nI a)) 3 gV_X12_210 hdV_X12_wrong ⟨Nat.le_of_ble_eq_true rfl, Nat.le_of_ble_eq_true rfl⟩ rfl rfl (Nat.le_of_ble_eq_true rfl) dX12_quoted_107 ⟨Nat.le_of_ble_eq_true rfl, Nat.le_of_ble_eq_true rfl⟩ hl.1 [0] [1, 2, 3] rfl rfl (by decide) (by decide) (by decide) 0 12 rfl rfl rfl trivial (fun _ H locs hp_28 _ hP hD hS hz_ hk_ => ?_)
        replace hP : va_P D vwCl [(m0, .inr (12, [.ref a0, .ref a1, .ref a2, .int (nI u3), .int f4, .ref a5, .int (nI u6), .int 1, .int (nI v11_10), .int (nI a), .int f10, .int (nI v11_10), .int (nI u12), .int (nI u13), .ref a14, .ref a15, .ref a16, .ref a17, .int f18, .int f19, .ref a20, .ref a21, .int (nI u22), .ref a23, .ref a24, .ref a25, .int (nI u26), .int f27, .ref a28, .int (nI u29)])), (a0, .inl (κ 0, 21375, .inl w)), (a5, .inl (κ 0, 800, .inl tp)), (a14, .inl (κ 0, 189, .inl ga14_10))] H := hP.sub [3, 0, 1, 2] rfl
        replace hD : va_D A [(m0, .inr (12, [.ref a0, .ref a1, .ref a2, .int (nI u3), .int f4, .ref a5, .int (nI u6), .int 1, .int (nI v11_10), .int (nI a), .int f10, .int (nI v11_10), .int (nI u12), .int (nI u13), .ref a14, .ref a15, .ref a16, .ref a17, .int f18, .int f19, .ref a20, .ref a21, .int (nI u22), .ref a23, .ref a24, .ref a25, .int (nI u26), .int f27, .ref a28, .int (nI u29)])), (a0, .inl (κ 0, 21375, .inl w)), (a5, .inl (κ 0, 800, .inl tp)), (a14, .inl (κ 0, 189, .inl ga14_10))] := hD.sub [3, 0, 1, 2] (by decide) rfl
        refine W.eq (g2 := F0 m 110 ls [.int 0]) rfl ?_
        exact ct_iret hx hb hr hlk rfl hS hP hD (0, [], 1, nI v11_10, nI a, v11_10, ga14_10) rfl ⟨(show PF (nI v11_10) from (PF_n (by omega))), (show Pfd ga14_10 from (by first | assumption | omega | rfl | exact Or.inl (by assumption) | exact Or.inr (by assumption))), (show u11 ≤ v11_10 from (by first | assumption | omega | rfl | exact Or.inl (by assumption) | exact Or.inr (by assumption))), (show v11_10 ≤ u6 from (by first | assumption | omega | rfl | exact Or.inl (by assumption) | exact Or.inr (by assumption))), (by exact Or.inr ((⟨rfl, (show qbF tp (dW w) u6 (u11 + 1) = none ∧ FO fd ga14_10 a from ⟨qb_n (hl10_2.symm.trans (qu_sg (t := tp) (d := (dW w)) (by omega) ex_4 a_11.1 a_11.2.1)), hl10_4⟩)⟩)))⟩ [0, 1, 2, 3] rfl (by decide) trivial (Nat.le_of_ble_eq_true rfl) (Nat.le_of_ble_eq_true rfl) dX12_quoted_110
    · refine lv_aload_n hx hb dX12_quoted_43 rfl (lv_at hl 1 rfl) ?_
      refine va_get (D := D) (ci := 12) (v := .int (nI v11_10)) (C := RX12) (T := TX12) (N := 30) hx hb hts inlX12 hown hK hP 0 rfl rfl 11 (by decide) (hts _ mw_423) (fun _ h9 => h9) rfl dX12_quoted_44 ?_
      refine lv_iconst (v := 1) hx hb dX12_quoted_47 (by decide) ?_
      refine lv_iadd hx hb dX12_quoted_48 ?_
      refine ki (v := (nI (v11_10 + 1))) (nI_add v11_10 1) ?_
      refine lv_aload_n hx hb dX12_quoted_49 rfl (lv_at hl 1 rfl) ?_
      refine va_get (D := D) (ci := 12) (v := .int (nI u6)) (C := RX12) (T := TX12) (N := 30) hx hb hts inlX12 hown hK hP 0 rfl rfl 6 (by decide) (hts _ mw_236) (fun _ h9 => h9) rfl dX12_quoted_50 ?_
      refine lv_icmp_eq (tgt := 144) hx hb dX12_quoted_53 (by decide) (fun c_29 => ?_) (fun c_29 => ?_)
      · have nc_29 := cv_eq (a := (v11_10 + 1)) (b := u6) (by omega) (by omega) c_29
        refine lv_aload_n hx hb dX12_quoted_144 rfl (lv_at hl 1 rfl) ?_
        refine va_get (D := D) (ci := 12) (v := .int (nI v11_10)) (C := RX12) (T := TX12) (N := 30) hx hb hts inlX12 hown hK hP 0 rfl rfl 11 (by decide) (hts _ mw_423) (fun _ h9 => h9) rfl dX12_quoted_145 ?_
        refine lv_aload_n hx hb dX12_quoted_148 rfl (lv_at hl 1 rfl) ?_
        refine va_get (D := D) (ci := 12) (v := .int (nI u6)) (C := RX12) (T := TX12) (N := 30) hx hb hts inlX12 hown hK hP 0 rfl rfl 6 (by decide) (hts _ mw_236) (fun _ h9 => h9) rfl dX12_quoted_149 ?_
        refine lv_icmp_ne (tgt := 166) hx hb dX12_quoted_152 (by decide) (fun c_30 => ?_) (fun c_30 => ?_)
        · have nc_30 := cv_ne (a := v11_10) (b := u6) (by omega) (by omega) c_30
          refine lv_aload_n hx hb dX12_quoted_166 rfl (lv_at hl 1 rfl) ?_
          refine lv_dup hx hb dX12_quoted_167 rfl ?_
          refine va_get (D := D) (ci := 12) (v := .int (nI v11_10)) (C := RX12) (T := TX12) (N := 30) hx hb hts inlX12 hown hK hP 0 rfl rfl 11 (by decide) (hts _ mw_423) (fun _ h9 => h9) rfl dX12_quoted_168 ?_
          refine lv_iconst (v := 1) hx hb dX12_quoted_171 (by decide) ?_
          refine lv_iadd hx hb dX12_quoted_172 ?_
          refine ki (v := (nI (v11_10 + 1))) (nI_add v11_10 1) ?_
          refine va_put (D := D) (ci := 12) (v := .int (nI (v11_10 + 1))) (ty := tyX12 11) (C := RX12) (T := TX12) (N := 30) hx hb hts inlX12 tyX12 tyX12_ok nmX12 hown hK hP hD hS 0 rfl rfl 11 (by decide) (hts _ mw_423) (fun _ h9 => h9) rfl (tyX12_ok 11 (by decide)) rfl rfl (Nat.le_of_ble_eq_true rfl) dX12_quoted_173 (fun H locs hP hD hS => ?_)
          have hP : va_P D vwCl [(m0, .inr (12, [.ref a0, .ref a1, .ref a2, .int (nI u3), .int f4, .ref a5, .int (nI u6), .int f7, .int f8, .int f9, .int f10, .int (nI (v11_10 + 1)), .int (nI u12), .int (nI u13), .ref a14, .ref a15, .ref a16, .ref a17, .int f18, .int f19, .ref a20, .ref a21, .int (nI u22), .ref a23, .ref a24, .ref a25, .int (nI u26), .int f27, .ref a28, .int (nI u29)])), (a0, .inl (κ 0, 21375, .inl w)), (a5, .inl (κ 0, 800, .inl tp)), (a14, .inl (κ 0, 189, .inl ga14_10))] H := hP
          have hD : va_D A [(m0, .inr (12, [.ref a0, .ref a1, .ref a2, .int (nI u3), .int f4, .ref a5, .int (nI u6), .int f7, .int f8, .int f9, .int f10, .int (nI (v11_10 + 1)), .int (nI u12), .int (nI u13), .ref a14, .ref a15, .ref a16, .ref a17, .int f18, .int f19, .ref a20, .ref a21, .int (nI u22), .ref a23, .ref a24, .ref a25, .int (nI u26), .int f27, .ref a28, .int (nI u29)])), (a0, .inl (κ 0, 21375, .inl w)), (a5, .inl (κ 0, 800, .inl tp)), (a14, .inl (κ 0, 189, .inl ga14_10))] := hD
          refine lv_aload_n hx hb dX12_quoted_176 rfl (lv_at hl 1 rfl) ?_
          refine ct_V (wr := [(a14, .inl (κ 0, 189, .inl ga14_10))]) (As := []) (rest := []) hFX hKK hP hD hS hA (f_X12_blanks l D κ m0 a0 a1 a2 u3 f4 a5 u6 f7 f8 f9 f10 (v11_10 + 1) u12 u13 a14 a15 a16 a17 f18 f19 a20 a21 u22 a23 a24 a25 u26 f27 a28 u29 w tp (by omega) h_a0 (by omega)) 0 gV_X12_217 hdV_X12_blanks ⟨Nat.le_of_ble_eq_true rfl, Nat.le_of_ble_eq_true rfl⟩ rfl rfl (Nat.le_of_ble_eq_true rfl) dX12_quoted_177 ⟨Nat.le_of_ble_eq_true rfl, Nat.le_of_ble_eq_true rfl⟩ hl.1 [0, 1, 2] [3] rfl rfl (by decide) (by decide) (by decide) 0 12 rfl rfl rfl trivial (fun y11__31 H locs hp_32 _ hP hD hS hz_ hk_ => ?_)
          replace hP : va_P D vwCl [(m0, .inr (12, [.ref a0, .ref a1, .ref a2, .int (nI u3), .int f4, .ref a5, .int (nI u6), .int f7, .int f8, .int f9, .int f10, .int (nI y11__31), .int (nI u12), .int (nI u13), .ref a14, .ref a15, .ref a16, .ref a17, .int f18, .int f19, .ref a20, .ref a21, .int (nI u22), .ref a23, .ref a24, .ref a25, .int (nI u26), .int f27, .ref a28, .int (nI u29)])), (a0, .inl (κ 0, 21375, .inl w)), (a5, .inl (κ 0, 800, .inl tp)), (a14, .inl (κ 0, 189, .inl ga14_10))] H := hP.sub [1, 2, 3, 0] rfl
          replace hD : va_D A [(m0, .inr (12, [.ref a0, .ref a1, .ref a2, .int (nI u3), .int f4, .ref a5, .int (nI u6), .int f7, .int f8, .int f9, .int f10, .int (nI y11__31), .int (nI u12), .int (nI u13), .ref a14, .ref a15, .ref a16, .ref a17, .int f18, .int f19, .ref a20, .ref a21, .int (nI u22), .ref a23, .ref a24, .ref a25, .int (nI u26), .int f27, .ref a28, .int (nI u29)])), (a0, .inl (κ 0, 21375, .inl w)), (a5, .inl (κ 0, 800, .inl tp)), (a14, .inl (κ 0, 189, .inl ga14_10))] := hD.sub [1, 2, 3, 0] (by decide) rfl
          replace hp_32 : (v11_10 + 1) ≤ y11__31 ∧ y11__31 ≤ u6 ∧ y11__31 = skF tp (dW w) (u6 - (v11_10 + 1)) (v11_10 + 1) := hp_32
          obtain ⟨h_33, h_34, h_35⟩ := hp_32
          refine W.eq (g2 := F0 m 180 ls []) rfl ?_
          refine lv_aload_n hx hb dX12_quoted_180 rfl (lv_at hl 1 rfl) ?_
          refine cr_V (As := []) (rest := []) hFX hKK (f_X12_isOver l D κ m0 a0 a1 a2 u3 f4 a5 u6 f7 f8 f9 f10 y11__31 u12 u13 a14 a15 a16 a17 f18 f19 a20 a21 u22 a23 a24 a25 u26 f27 a28 u29 w tp (by omega) h_a0 (by omega)) 0 gV_X12_220 hdV_X12_isOver rfl rfl ⟨Nat.le_of_ble_eq_true rfl, Nat.le_of_ble_eq_true rfl⟩ rfl rfl (Nat.le_of_ble_eq_true rfl) dX12_quoted_181 ⟨Nat.le_of_ble_eq_true rfl, Nat.le_of_ble_eq_true rfl⟩ hl.1 hP 0 12 rfl rfl rfl (hP.sub [0, 1, 2] rfl) (fun r__36 hp_37 => ?_)
          replace hp_37 : ((r__36 = 1 ∧ (y11__31 = u6 ∨ tp y11__31 = 10 ∨ tp y11__31 = w 21369)) ∨ (r__36 = 0 ∧ y11__31 < u6 ∧ (¬ tp y11__31 = 10 ∧ ¬ tp y11__31 = w 21369))) := hp_37
          have ha_38 := hp_37
          clear hp_37
          rcases ha_38 with ⟨rfl, a_39⟩ | ⟨rfl, a_40, a_41⟩
          · refine W.eq (g2 := F0 m 184 ls [.int 1]) rfl ?_
            refine lv_if_eq (tgt := 189) hx hb dX12_quoted_184 (by decide) (fun c_42 => absurd c_42 (by decide)) (fun c_42 => ?_)
            refine lv_iconst (v := 1) hx hb dX12_quoted_187 (by decide) ?_
            exact ct_iret hx hb hr hlk rfl hS hP hD (1, Gxs_10, f7, f8, f9, y11__31, ga14_10) rfl ⟨(show PF f8 from (by assumption)), (show Pfd ga14_10 from (by first | assumption | omega | rfl | exact Or.inl (by assumption) | exact Or.inr (by assumption))), (show u11 ≤ y11__31 from (by first | assumption | omega | rfl | exact Or.inl (by assumption) | exact Or.inr (by assumption))), (show y11__31 ≤ u6 from (by first | assumption | omega | rfl | exact Or.inl (by assumption) | exact Or.inr (by assumption))), (by exact Or.inl (⟨rfl, (show (qbF tp (dW w) u6 (u11 + 1) = some (y11__31, Gxs_10) ∧ FC ga14_10 a Gxs_10) ∧ FO fd ga14_10 a from ⟨⟨qb_y (hl10_2.symm.trans (qu_q1 (t := tp) (d := (dW w)) (by omega) ex_4 (Or.inl (by rw [c_6, ← ex_5]; exact hsq)) ex_5 c_6 (by omega))) (bh_o h_35 (by omega) a_39), hl10_3⟩, hl10_4⟩)⟩))⟩ [0, 1, 2, 3] rfl (by decide) trivial (Nat.le_of_ble_eq_true rfl) (Nat.le_of_ble_eq_true rfl) dX12_quoted_188
          · refine W.eq (g2 := F0 m 184 ls [.int 0]) rfl ?_
            refine lv_if_eq (tgt := 189) hx hb dX12_quoted_184 (by decide) (fun c_43 => ?_) (fun c_43 => absurd (by decide) c_43)
            refine lv_aload_n hx hb dX12_quoted_189 rfl (lv_at hl 1 rfl) ?_
            refine lv_aload_n hx hb dX12_quoted_190 rfl (lv_at hl 1 rfl) ?_
            refine lv_aload_n hx hb dX12_quoted_191 rfl (lv_at hl 1 rfl) ?_
            refine va_get (D := D) (ci := 12) (v := .ref a5) (C := RX12) (T := TX12) (N := 30) hx hb hts inlX12 hown hK hP 0 rfl rfl 5 (by decide) (hts _ mw_191) (fun _ h9 => h9) rfl dX12_quoted_192 ?_
            refine lv_aload_n hx hb dX12_quoted_195 rfl (lv_at hl 1 rfl) ?_
            refine va_get (D := D) (ci := 12) (v := .int (nI y11__31)) (C := RX12) (T := TX12) (N := 30) hx hb hts inlX12 hown hK hP 0 rfl rfl 11 (by decide) (hts _ mw_423) (fun _ h9 => h9) rfl dX12_quoted_196 ?_
            refine va_iald hx hb hK hP 2 0 rfl rfl (i := nI y11__31) (vp_in_nI (n := y11__31) (by omega) (by omega)) dX12_quoted_199 ?_
            refine kv (v := .int (tp y11__31)) (by rw [nI_clamp (by omega)]) ?_
            obtain ⟨x_44, ex_44⟩ : ∃ y9 : Int32, tp y11__31 = y9 := ⟨_, rfl⟩
            refine kv (v := .int x_44) (congrArg Value.int ex_44) ?_
            refine lv_iconst (v := 0) hx hb dX12_quoted_200 (by decide) ?_
            refine cr_V (As := [.int x_44, .int 0]) (rest := [.ref m0]) hFX hKK (f_X12_canBe l D κ m0 a0 a1 a2 u3 f4 a5 u6 f7 f8 f9 f10 y11__31 u12 u13 a14 a15 a16 a17 f18 f19 a20 a21 u22 a23 a24 a25 u26 f27 a28 u29 w x_44 0 h_a0) 2 gV_X12_206 hdV_X12_canBe rfl rfl ⟨Nat.le_of_ble_eq_true rfl, Nat.le_of_ble_eq_true rfl⟩ rfl rfl (Nat.le_of_ble_eq_true rfl) dX12_quoted_201 ⟨Nat.le_of_ble_eq_true rfl, Nat.le_of_ble_eq_true rfl⟩ hl.1 hP 0 12 rfl rfl rfl (hP.sub [0, 1] rfl) (fun r__45 hp_46 => ?_)
            replace hp_46 : ((r__45 = 1 ∧ ((x_44 = 9 ∧ (0 : Int32) = 0 ∧ w 21369 = 9) ∨ sgB x_44 = true ∨ x_44 = 10)) ∨ (r__45 = 0 ∧ (sgB x_44 = false ∧ ¬ x_44 = 10 ∧ ¬ ((0 : Int32) = 0 ∧ x_44 = 9 ∧ w 21369 = 9)))) := hp_46
            have ha_47 := hp_46
            clear hp_46
            rcases ha_47 with ⟨rfl, a_48⟩ | ⟨rfl, a_49⟩
            · refine W.eq (g2 := F0 m 204 ls [.int 1, .ref m0]) rfl ?_
              refine lv_if_eq (tgt := 211) hx hb dX12_quoted_204 (by decide) (fun c_50 => absurd c_50 (by decide)) (fun c_50 => ?_)
              refine lv_iconst (v := 3) hx hb dX12_quoted_207 (by decide) ?_
              refine lv_goto (tgt := 212) hx hb dX12_quoted_208 (by decide) ?_
              refine lv_aload_n hx hb dX12_quoted_212 rfl (lv_at hl 1 rfl) ?_
              refine va_get (D := D) (ci := 12) (v := .int (nI y11__31)) (C := RX12) (T := TX12) (N := 30) hx hb hts inlX12 hown hK hP 0 rfl rfl 11 (by decide) (hts _ mw_423) (fun _ h9 => h9) rfl dX12_quoted_213 ?_
              refine lv_iload_n hx hb dX12_quoted_216 rfl (lv_at hl 2 rfl) ?_
              refine ct_V (wr := [(a0, .inl (κ 0, 21375, .inl w)), (a5, .inl (κ 0, 800, .inl tp)), (a14, .inl (κ 0, 189, .inl ga14_10))]) (As := [.int 3, .int (nI y11__31), .int (nI a)]) (rest := []) hFX hKK hP hD hS hA (s_X12_wrong l D κ m0 a0 a1 a2 u3 f4 a5 u6 f7 f8 f9 f10 y11__31 u12 u13 a14 a15 a16 a17 f18 f19 a20 a21 u22 a23 a24 a25 u26 f27 a28 u29 3 (nI y11__31) (nI a)) 3 gV_X12_210 hdV_X12_wrong ⟨Nat.le_of_ble_eq_true rfl, Nat.le_of_ble_eq_true rfl⟩ rfl rfl (Nat.le_of_ble_eq_true rfl) dX12_quoted_217 ⟨Nat.le_of_ble_eq_true rfl, Nat.le_of_ble_eq_true rfl⟩ hl.1 [0] [1, 2, 3] rfl rfl (by decide) (by decide) (by decide) 0 12 rfl rfl rfl trivial (fun _ H locs hp_51 _ hP hD hS hz_ hk_ => ?_)
              replace hP : va_P D vwCl [(m0, .inr (12, [.ref a0, .ref a1, .ref a2, .int (nI u3), .int f4, .ref a5, .int (nI u6), .int 3, .int (nI y11__31), .int (nI a), .int f10, .int (nI y11__31), .int (nI u12), .int (nI u13), .ref a14, .ref a15, .ref a16, .ref a17, .int f18, .int f19, .ref a20, .ref a21, .int (nI u22), .ref a23, .ref a24, .ref a25, .int (nI u26), .int f27, .ref a28, .int (nI u29)])), (a0, .inl (κ 0, 21375, .inl w)), (a5, .inl (κ 0, 800, .inl tp)), (a14, .inl (κ 0, 189, .inl ga14_10))] H := hP.sub [3, 0, 1, 2] rfl
              replace hD : va_D A [(m0, .inr (12, [.ref a0, .ref a1, .ref a2, .int (nI u3), .int f4, .ref a5, .int (nI u6), .int 3, .int (nI y11__31), .int (nI a), .int f10, .int (nI y11__31), .int (nI u12), .int (nI u13), .ref a14, .ref a15, .ref a16, .ref a17, .int f18, .int f19, .ref a20, .ref a21, .int (nI u22), .ref a23, .ref a24, .ref a25, .int (nI u26), .int f27, .ref a28, .int (nI u29)])), (a0, .inl (κ 0, 21375, .inl w)), (a5, .inl (κ 0, 800, .inl tp)), (a14, .inl (κ 0, 189, .inl ga14_10))] := hD.sub [3, 0, 1, 2] (by decide) rfl
              refine W.eq (g2 := F0 m 220 ls [.int 0]) rfl ?_
              exact ct_iret hx hb hr hlk rfl hS hP hD (0, [], 3, nI y11__31, nI a, y11__31, ga14_10) rfl ⟨(show PF (nI y11__31) from (PF_n (by omega))), (show Pfd ga14_10 from (by first | assumption | omega | rfl | exact Or.inl (by assumption) | exact Or.inr (by assumption))), (show u11 ≤ y11__31 from (by first | assumption | omega | rfl | exact Or.inl (by assumption) | exact Or.inr (by assumption))), (show y11__31 ≤ u6 from (by first | assumption | omega | rfl | exact Or.inl (by assumption) | exact Or.inr (by assumption))), (by exact Or.inr ((⟨rfl, (show qbF tp (dW w) u6 (u11 + 1) = none ∧ FO fd ga14_10 a from ⟨qb_b (hl10_2.symm.trans (qu_q1 (t := tp) (d := (dW w)) (by omega) ex_4 (Or.inl (by rw [c_6, ← ex_5]; exact hsq)) ex_5 c_6 (by omega))) (bh_4 h_35 (by omega) rfl rfl a_41.2 a_41.1), hl10_4⟩)⟩)))⟩ [0, 1, 2, 3] rfl (by decide) trivial (Nat.le_of_ble_eq_true rfl) (Nat.le_of_ble_eq_true rfl) dX12_quoted_220
            · refine W.eq (g2 := F0 m 204 ls [.int 0, .ref m0]) rfl ?_
              refine lv_if_eq (tgt := 211) hx hb dX12_quoted_204 (by decide) (fun c_52 => ?_) (fun c_52 => absurd (by decide) c_52)
              refine lv_iconst (v := 1) hx hb dX12_quoted_211 (by decide) ?_
              refine lv_aload_n hx hb dX12_quoted_212 rfl (lv_at hl 1 rfl) ?_
              refine va_get (D := D) (ci := 12) (v := .int (nI y11__31)) (C := RX12) (T := TX12) (N := 30) hx hb hts inlX12 hown hK hP 0 rfl rfl 11 (by decide) (hts _ mw_423) (fun _ h9 => h9) rfl dX12_quoted_213 ?_
              refine lv_iload_n hx hb dX12_quoted_216 rfl (lv_at hl 2 rfl) ?_
              refine ct_V (wr := [(a0, .inl (κ 0, 21375, .inl w)), (a5, .inl (κ 0, 800, .inl tp)), (a14, .inl (κ 0, 189, .inl ga14_10))]) (As := [.int 1, .int (nI y11__31), .int (nI a)]) (rest := []) hFX hKK hP hD hS hA (s_X12_wrong l D κ m0 a0 a1 a2 u3 f4 a5 u6 f7 f8 f9 f10 y11__31 u12 u13 a14 a15 a16 a17 f18 f19 a20 a21 u22 a23 a24 a25 u26 f27 a28 u29 1 (nI y11__31) (nI a)) 3 gV_X12_210 hdV_X12_wrong ⟨Nat.le_of_ble_eq_true rfl, Nat.le_of_ble_eq_true rfl⟩ rfl rfl (Nat.le_of_ble_eq_true rfl) dX12_quoted_217 ⟨Nat.le_of_ble_eq_true rfl, Nat.le_of_ble_eq_true rfl⟩ hl.1 [0] [1, 2, 3] rfl rfl (by decide) (by decide) (by decide) 0 12 rfl rfl rfl trivial (fun _ H locs hp_53 _ hP hD hS hz_ hk_ => ?_)
              replace hP : va_P D vwCl [(m0, .inr (12, [.ref a0, .ref a1, .ref a2, .int (nI u3), .int f4, .ref a5, .int (nI u6), .int 1, .int (nI y11__31), .int (nI a), .int f10, .int (nI y11__31), .int (nI u12), .int (nI u13), .ref a14, .ref a15, .ref a16, .ref a17, .int f18, .int f19, .ref a20, .ref a21, .int (nI u22), .ref a23, .ref a24, .ref a25, .int (nI u26), .int f27, .ref a28, .int (nI u29)])), (a0, .inl (κ 0, 21375, .inl w)), (a5, .inl (κ 0, 800, .inl tp)), (a14, .inl (κ 0, 189, .inl ga14_10))] H := hP.sub [3, 0, 1, 2] rfl
              replace hD : va_D A [(m0, .inr (12, [.ref a0, .ref a1, .ref a2, .int (nI u3), .int f4, .ref a5, .int (nI u6), .int 1, .int (nI y11__31), .int (nI a), .int f10, .int (nI y11__31), .int (nI u12), .int (nI u13), .ref a14, .ref a15, .ref a16, .ref a17, .int f18, .int f19, .ref a20, .ref a21, .int (nI u22), .ref a23, .ref a24, .ref a25, .int (nI u26), .int f27, .ref a28, .int (nI u29)])), (a0, .inl (κ 0, 21375, .inl w)), (a5, .inl (κ 0, 800, .inl tp)), (a14, .inl (κ 0, 189, .inl ga14_10))] := hD.sub [3, 0, 1, 2] (by decide) rfl
              refine W.eq (g2 := F0 m 220 ls [.int 0]) rfl ?_
              exact ct_iret hx hb hr hlk rfl hS hP hD (0, [], 1, nI y11__31, nI a, y11__31, ga14_10) rfl ⟨(show PF (nI y11__31) from (PF_n (by omega))), (show Pfd ga14_10 from (by first | assumption | omega | rfl | exact Or.inl (by assumption) | exact Or.inr (by assumption))), (show u11 ≤ y11__31 from (by first | assumption | omega | rfl | exact Or.inl (by assumption) | exact Or.inr (by assumption))), (show y11__31 ≤ u6 from (by first | assumption | omega | rfl | exact Or.inl (by assumption) | exact Or.inr (by assumption))), (by exact Or.inr ((⟨rfl, (show qbF tp (dW w) u6 (u11 + 1) = none ∧ FO fd ga14_10 a from ⟨qb_b (hl10_2.symm.trans (qu_q1 (t := tp) (d := (dW w)) (by omega) ex_4 (Or.inl (by rw [c_6, ← ex_5]; exact hsq)) ex_5 c_6 (by omega))) (bh_4 h_35 (by omega) rfl rfl a_41.2 a_41.1), hl10_4⟩)⟩)))⟩ [0, 1, 2, 3] rfl (by decide) trivial (Nat.le_of_ble_eq_true rfl) (Nat.le_of_ble_eq_true rfl) dX12_quoted_220
        · have nc_30 := cv_eq (a := v11_10) (b := u6) (by omega) (by omega) c_30
          omega
      · have nc_29 := cv_ne (a := (v11_10 + 1)) (b := u6) (by omega) (by omega) c_29
        refine lv_aload_n hx hb dX12_quoted_56 rfl (lv_at hl 1 rfl) ?_
        refine va_get (D := D) (ci := 12) (v := .ref a5) (C := RX12) (T := TX12) (N := 30) hx hb hts inlX12 hown hK hP 0 rfl rfl 5 (by decide) (hts _ mw_191) (fun _ h9 => h9) rfl dX12_quoted_57 ?_
        refine lv_aload_n hx hb dX12_quoted_60 rfl (lv_at hl 1 rfl) ?_
        refine va_get (D := D) (ci := 12) (v := .int (nI v11_10)) (C := RX12) (T := TX12) (N := 30) hx hb hts inlX12 hown hK hP 0 rfl rfl 11 (by decide) (hts _ mw_423) (fun _ h9 => h9) rfl dX12_quoted_61 ?_
        refine lv_iconst (v := 1) hx hb dX12_quoted_64 (by decide) ?_
        refine lv_iadd hx hb dX12_quoted_65 ?_
        refine ki (v := (nI (v11_10 + 1))) (nI_add v11_10 1) ?_
        refine va_iald hx hb hK hP 2 0 rfl rfl (i := nI (v11_10 + 1)) (vp_in_nI (n := (v11_10 + 1)) (by omega) (by omega)) dX12_quoted_66 ?_
        refine kv (v := .int (tp (v11_10 + 1))) (by rw [nI_clamp (by omega)]) ?_
        obtain ⟨x_54, ex_54⟩ : ∃ y9 : Int32, tp (v11_10 + 1) = y9 := ⟨_, rfl⟩
        refine kv (v := .int x_54) (congrArg Value.int ex_54) ?_
        refine lv_aload_n hx hb dX12_quoted_67 rfl (lv_at hl 1 rfl) ?_
        refine va_get (D := D) (ci := 12) (v := .ref a0) (C := RX12) (T := TX12) (N := 30) hx hb hts inlX12 hown hK hP 0 rfl rfl 0 (by decide) (hts _ mw_187) (fun _ h9 => h9) rfl dX12_quoted_68 ?_
        refine lv_sipush (v := 21370) hx hb dX12_quoted_71 (by decide) ?_
        refine va_iald hx hb hK hP 1 0 rfl rfl (i := 21370) (vp_k (by decide)) dX12_quoted_74 ?_
        refine kv (v := .int x_5) (congrArg Value.int (ex_5)) ?_
        refine lv_icmp_eq (tgt := 81) hx hb dX12_quoted_75 (by decide) (fun c_55 => ?_) (fun c_55 => ?_)
        · refine lv_aload_n hx hb dX12_quoted_81 rfl (lv_at hl 1 rfl) ?_
          refine lv_dup hx hb dX12_quoted_82 rfl ?_
          refine va_get (D := D) (ci := 12) (v := .int (nI v11_10)) (C := RX12) (T := TX12) (N := 30) hx hb hts inlX12 hown hK hP 0 rfl rfl 11 (by decide) (hts _ mw_423) (fun _ h9 => h9) rfl dX12_quoted_83 ?_
          refine lv_iconst (v := 1) hx hb dX12_quoted_86 (by decide) ?_
          refine lv_iadd hx hb dX12_quoted_87 ?_
          refine ki (v := (nI (v11_10 + 1))) (nI_add v11_10 1) ?_
          refine va_put (D := D) (ci := 12) (v := .int (nI (v11_10 + 1))) (ty := tyX12 11) (C := RX12) (T := TX12) (N := 30) hx hb hts inlX12 tyX12 tyX12_ok nmX12 hown hK hP hD hS 0 rfl rfl 11 (by decide) (hts _ mw_423) (fun _ h9 => h9) rfl (tyX12_ok 11 (by decide)) rfl rfl (Nat.le_of_ble_eq_true rfl) dX12_quoted_88 (fun H locs hP hD hS => ?_)
          have hP : va_P D vwCl [(m0, .inr (12, [.ref a0, .ref a1, .ref a2, .int (nI u3), .int f4, .ref a5, .int (nI u6), .int f7, .int f8, .int f9, .int f10, .int (nI (v11_10 + 1)), .int (nI u12), .int (nI u13), .ref a14, .ref a15, .ref a16, .ref a17, .int f18, .int f19, .ref a20, .ref a21, .int (nI u22), .ref a23, .ref a24, .ref a25, .int (nI u26), .int f27, .ref a28, .int (nI u29)])), (a0, .inl (κ 0, 21375, .inl w)), (a5, .inl (κ 0, 800, .inl tp)), (a14, .inl (κ 0, 189, .inl ga14_10))] H := hP
          have hD : va_D A [(m0, .inr (12, [.ref a0, .ref a1, .ref a2, .int (nI u3), .int f4, .ref a5, .int (nI u6), .int f7, .int f8, .int f9, .int f10, .int (nI (v11_10 + 1)), .int (nI u12), .int (nI u13), .ref a14, .ref a15, .ref a16, .ref a17, .int f18, .int f19, .ref a20, .ref a21, .int (nI u22), .ref a23, .ref a24, .ref a25, .int (nI u26), .int f27, .ref a28, .int (nI u29)])), (a0, .inl (κ 0, 21375, .inl w)), (a5, .inl (κ 0, 800, .inl tp)), (a14, .inl (κ 0, 189, .inl ga14_10))] := hD
          refine lv_aload_n hx hb dX12_quoted_91 rfl (lv_at hl 1 rfl) ?_
          refine lv_iload_n hx hb dX12_quoted_92 rfl (lv_at hl 0 rfl) ?_
          refine lv_iconst (v := 1) hx hb dX12_quoted_93 (by decide) ?_
          refine cr_V (As := [.int x_4, .int 1]) (rest := []) hFX hKK (f_X12_canBe l D κ m0 a0 a1 a2 u3 f4 a5 u6 f7 f8 f9 f10 (v11_10 + 1) u12 u13 a14 a15 a16 a17 f18 f19 a20 a21 u22 a23 a24 a25 u26 f27 a28 u29 w x_4 1 h_a0) 2 gV_X12_206 hdV_X12_canBe rfl rfl ⟨Nat.le_of_ble_eq_true rfl, Nat.le_of_ble_eq_true rfl⟩ rfl rfl (Nat.le_of_ble_eq_true rfl) dX12_quoted_94 ⟨Nat.le_of_ble_eq_true rfl, Nat.le_of_ble_eq_true rfl⟩ hl.1 hP 0 12 rfl rfl rfl (hP.sub [0, 1] rfl) (fun r__56 hp_57 => ?_)
          replace hp_57 : ((r__56 = 1 ∧ ((x_4 = 9 ∧ (1 : Int32) = 0 ∧ w 21369 = 9) ∨ sgB x_4 = true ∨ x_4 = 10)) ∨ (r__56 = 0 ∧ (sgB x_4 = false ∧ ¬ x_4 = 10 ∧ ¬ ((1 : Int32) = 0 ∧ x_4 = 9 ∧ w 21369 = 9)))) := hp_57
          have ha_58 := hp_57
          clear hp_57
          rcases ha_58 with ⟨rfl, a_59⟩ | ⟨rfl, a_60⟩
          · refine W.eq (g2 := F0 m 97 ls [.int 1]) rfl ?_
            refine lv_if_ne (tgt := 111) hx hb dX12_quoted_97 (by decide) (fun c_61 => ?_) (fun c_61 => absurd c_61 (by decide))
            refine lv_aload_n hx hb dX12_quoted_111 rfl (lv_at hl 1 rfl) ?_
            refine lv_iload_n hx hb dX12_quoted_112 rfl (lv_at hl 2 rfl) ?_
            refine lv_iload_n hx hb dX12_quoted_113 rfl (lv_at hl 0 rfl) ?_
            refine ct_V (wr := [(a0, .inl (κ 0, 21375, .inl w)), (a5, .inl (κ 0, 800, .inl tp))]) (As := [.int (nI a), .int x_4]) (rest := []) hFX hKK hP hD hS hA (f_X12_adds l D κ m0 a0 a1 a2 u3 f4 a5 u6 f7 f8 f9 f10 (v11_10 + 1) u12 u13 a14 a15 a16 a17 f18 f19 a20 a21 u22 a23 a24 a25 u26 f27 a28 u29 ga14_10 x_4 a Gxs_10 hg10_0 (by omega) hl10_3) 2 gV_X12_214 hdV_X12_adds ⟨Nat.le_of_ble_eq_true rfl, Nat.le_of_ble_eq_true rfl⟩ rfl rfl (Nat.le_of_ble_eq_true rfl) dX12_quoted_114 ⟨Nat.le_of_ble_eq_true rfl, Nat.le_of_ble_eq_true rfl⟩ hl.1 [0, 3] [1, 2] rfl rfl (by decide) (by decide) (by decide) 0 12 rfl rfl rfl trivial (fun u_64 H locs hp_65 _ hP hD hS hz_ hk_ => ?_)
            obtain ⟨r__62, g_a14__63⟩ := u_64
            replace hP : va_P D vwCl [(m0, .inr (12, [.ref a0, .ref a1, .ref a2, .int (nI u3), .int f4, .ref a5, .int (nI u6), .int f7, .int f8, .int f9, .int f10, .int (nI (v11_10 + 1)), .int (nI u12), .int (nI u13), .ref a14, .ref a15, .ref a16, .ref a17, .int f18, .int f19, .ref a20, .ref a21, .int (nI u22), .ref a23, .ref a24, .ref a25, .int (nI u26), .int f27, .ref a28, .int (nI u29)])), (a0, .inl (κ 0, 21375, .inl w)), (a5, .inl (κ 0, 800, .inl tp)), (a14, .inl (κ 0, 189, .inl g_a14__63))] H := hP.sub [2, 0, 1, 3] rfl
            replace hD : va_D A [(m0, .inr (12, [.ref a0, .ref a1, .ref a2, .int (nI u3), .int f4, .ref a5, .int (nI u6), .int f7, .int f8, .int f9, .int f10, .int (nI (v11_10 + 1)), .int (nI u12), .int (nI u13), .ref a14, .ref a15, .ref a16, .ref a17, .int f18, .int f19, .ref a20, .ref a21, .int (nI u22), .ref a23, .ref a24, .ref a25, .int (nI u26), .int f27, .ref a28, .int (nI u29)])), (a0, .inl (κ 0, 21375, .inl w)), (a5, .inl (κ 0, 800, .inl tp)), (a14, .inl (κ 0, 189, .inl g_a14__63))] := hD.sub [2, 0, 1, 3] (by decide) rfl
            replace hp_65 : Pfd g_a14__63 ∧ ((r__62 = 1 ∧ (Gxs_10.length < 20 ∧ FC g_a14__63 a (Gxs_10 ++ [x_4]) ∧ FO ga14_10 g_a14__63 a)) ∨ (r__62 = 0 ∧ Gxs_10.length = 20 ∧ g_a14__63 = ga14_10)) := hp_65
            obtain ⟨h_66, ha_67⟩ := hp_65
            rcases ha_67 with ⟨rfl, a_68⟩ | ⟨rfl, a_69, a_70⟩
            · refine W.eq (g2 := F0 m 117 ls [.int 1]) rfl ?_
              obtain ⟨had_711, had_712, had_713⟩ := a_68
              have hfo_72 := FO_tr hl10_4 had_713
              refine lv_if_ne (tgt := 131) hx hb dX12_quoted_117 (by decide) (fun c_73 => ?_) (fun c_73 => absurd c_73 (by decide))
              refine lv_aload_n hx hb dX12_quoted_131 rfl (lv_at hl 1 rfl) ?_
              refine lv_dup hx hb dX12_quoted_132 rfl ?_
              refine va_get (D := D) (ci := 12) (v := .int (nI (v11_10 + 1))) (C := RX12) (T := TX12) (N := 30) hx hb hts inlX12 hown hK hP 0 rfl rfl 11 (by decide) (hts _ mw_423) (fun _ h9 => h9) rfl dX12_quoted_133 ?_
              refine lv_iconst (v := 1) hx hb dX12_quoted_136 (by decide) ?_
              refine lv_iadd hx hb dX12_quoted_137 ?_
              refine ki (v := (nI (v11_10 + 1 + 1))) (nI_add (v11_10 + 1) 1) ?_
              refine va_put (D := D) (ci := 12) (v := .int (nI (v11_10 + 1 + 1))) (ty := tyX12 11) (C := RX12) (T := TX12) (N := 30) hx hb hts inlX12 tyX12 tyX12_ok nmX12 hown hK hP hD hS 0 rfl rfl 11 (by decide) (hts _ mw_423) (fun _ h9 => h9) rfl (tyX12_ok 11 (by decide)) rfl rfl (Nat.le_of_ble_eq_true rfl) dX12_quoted_138 (fun H locs hP hD hS => ?_)
              have hP : va_P D vwCl [(m0, .inr (12, [.ref a0, .ref a1, .ref a2, .int (nI u3), .int f4, .ref a5, .int (nI u6), .int f7, .int f8, .int f9, .int f10, .int (nI (v11_10 + 1 + 1)), .int (nI u12), .int (nI u13), .ref a14, .ref a15, .ref a16, .ref a17, .int f18, .int f19, .ref a20, .ref a21, .int (nI u22), .ref a23, .ref a24, .ref a25, .int (nI u26), .int f27, .ref a28, .int (nI u29)])), (a0, .inl (κ 0, 21375, .inl w)), (a5, .inl (κ 0, 800, .inl tp)), (a14, .inl (κ 0, 189, .inl g_a14__63))] H := hP
              have hD : va_D A [(m0, .inr (12, [.ref a0, .ref a1, .ref a2, .int (nI u3), .int f4, .ref a5, .int (nI u6), .int f7, .int f8, .int f9, .int f10, .int (nI (v11_10 + 1 + 1)), .int (nI u12), .int (nI u13), .ref a14, .ref a15, .ref a16, .ref a17, .int f18, .int f19, .ref a20, .ref a21, .int (nI u22), .ref a23, .ref a24, .ref a25, .int (nI u26), .int f27, .ref a28, .int (nI u29)])), (a0, .inl (κ 0, 21375, .inl w)), (a5, .inl (κ 0, 800, .inl tp)), (a14, .inl (κ 0, 189, .inl g_a14__63))] := hD
              refine lv_goto (tgt := 10) hx hb dX12_quoted_141 (by decide) ?_
              exact ih10 _ _ _ _ (by omega) ⟨(v11_10 + 1 + 1), g_a14__63, (Gxs_10 ++ [x_4]), (by omega), (by omega), ((qu_q4 (t := tp) (d := (dW w)) (by omega) ex_4 (cb_q a_59 (by decide)) ex_5 c_6 ex_54 (c_55.trans ((ex_5.symm.trans ex_5).trans c_6.symm)) (by have q9 := had_711; omega)).symm.trans hl10_2), had_712, hfo_72, h_66, rfl, hP, hD, hS, lv_sub hl [1, 2] rfl⟩
            · refine W.eq (g2 := F0 m 117 ls [.int 0]) rfl ?_
              refine lv_if_ne (tgt := 131) hx hb dX12_quoted_117 (by decide) (fun c_74 => absurd c_74 (by decide)) (fun c_74 => ?_)
              refine lv_aload_n hx hb dX12_quoted_120 rfl (lv_at hl 1 rfl) ?_
              refine lv_iconst (v := 5) hx hb dX12_quoted_121 (by decide) ?_
              refine lv_aload_n hx hb dX12_quoted_122 rfl (lv_at hl 1 rfl) ?_
              refine va_get (D := D) (ci := 12) (v := .int (nI (v11_10 + 1))) (C := RX12) (T := TX12) (N := 30) hx hb hts inlX12 hown hK hP 0 rfl rfl 11 (by decide) (hts _ mw_423) (fun _ h9 => h9) rfl dX12_quoted_123 ?_
              refine lv_iload_n hx hb dX12_quoted_126 rfl (lv_at hl 2 rfl) ?_
              refine ct_V (wr := [(a0, .inl (κ 0, 21375, .inl w)), (a5, .inl (κ 0, 800, .inl tp)), (a14, .inl (κ 0, 189, .inl g_a14__63))]) (As := [.int 5, .int (nI (v11_10 + 1)), .int (nI a)]) (rest := []) hFX hKK hP hD hS hA (s_X12_wrong l D κ m0 a0 a1 a2 u3 f4 a5 u6 f7 f8 f9 f10 (v11_10 + 1) u12 u13 a14 a15 a16 a17 f18 f19 a20 a21 u22 a23 a24 a25 u26 f27 a28 u29 5 (nI (v11_10 + 1)) (nI a)) 3 gV_X12_210 hdV_X12_wrong ⟨Nat.le_of_ble_eq_true rfl, Nat.le_of_ble_eq_true rfl⟩ rfl rfl (Nat.le_of_ble_eq_true rfl) dX12_quoted_127 ⟨Nat.le_of_ble_eq_true rfl, Nat.le_of_ble_eq_true rfl⟩ hl.1 [0] [1, 2, 3] rfl rfl (by decide) (by decide) (by decide) 0 12 rfl rfl rfl trivial (fun _ H locs hp_75 _ hP hD hS hz_ hk_ => ?_)
              replace hP : va_P D vwCl [(m0, .inr (12, [.ref a0, .ref a1, .ref a2, .int (nI u3), .int f4, .ref a5, .int (nI u6), .int 5, .int (nI (v11_10 + 1)), .int (nI a), .int f10, .int (nI (v11_10 + 1)), .int (nI u12), .int (nI u13), .ref a14, .ref a15, .ref a16, .ref a17, .int f18, .int f19, .ref a20, .ref a21, .int (nI u22), .ref a23, .ref a24, .ref a25, .int (nI u26), .int f27, .ref a28, .int (nI u29)])), (a0, .inl (κ 0, 21375, .inl w)), (a5, .inl (κ 0, 800, .inl tp)), (a14, .inl (κ 0, 189, .inl g_a14__63))] H := hP.sub [3, 0, 1, 2] rfl
              replace hD : va_D A [(m0, .inr (12, [.ref a0, .ref a1, .ref a2, .int (nI u3), .int f4, .ref a5, .int (nI u6), .int 5, .int (nI (v11_10 + 1)), .int (nI a), .int f10, .int (nI (v11_10 + 1)), .int (nI u12), .int (nI u13), .ref a14, .ref a15, .ref a16, .ref a17, .int f18, .int f19, .ref a20, .ref a21, .int (nI u22), .ref a23, .ref a24, .ref a25, .int (nI u26), .int f27, .ref a28, .int (nI u29)])), (a0, .inl (κ 0, 21375, .inl w)), (a5, .inl (κ 0, 800, .inl tp)), (a14, .inl (κ 0, 189, .inl g_a14__63))] := hD.sub [3, 0, 1, 2] (by decide) rfl
              refine W.eq (g2 := F0 m 130 ls [.int 0]) rfl ?_
              exact ct_iret hx hb hr hlk rfl hS hP hD (0, [], 5, nI (v11_10 + 1), nI a, v11_10 + 1, g_a14__63) rfl ⟨(show PF (nI (v11_10 + 1)) from (PF_n (by omega))), (show Pfd g_a14__63 from (by first | assumption | omega | rfl | exact Or.inl (by assumption) | exact Or.inr (by assumption))), (show u11 ≤ (v11_10 + 1) from (by first | assumption | omega | rfl | exact Or.inl (by assumption) | exact Or.inr (by assumption))), (show (v11_10 + 1) ≤ u6 from (by first | assumption | omega | rfl | exact Or.inl (by assumption) | exact Or.inr (by assumption))), (by exact Or.inr ((⟨rfl, (show qbF tp (dW w) u6 (u11 + 1) = none ∧ FO fd g_a14__63 a from ⟨qb_n (hl10_2.symm.trans (qu_q3 (t := tp) (d := (dW w)) (by omega) ex_4 (cb_q a_59 (by decide)) ex_5 c_6 ex_54 (c_55.trans ((ex_5.symm.trans ex_5).trans c_6.symm)) (by have q9 := a_69; omega))), by rw [a_70]; exact hl10_4⟩)⟩)))⟩ [0, 1, 2, 3] rfl (by decide) trivial (Nat.le_of_ble_eq_true rfl) (Nat.le_of_ble_eq_true rfl) dX12_quoted_130
          · refine W.eq (g2 := F0 m 97 ls [.int 0]) rfl ?_
            refine lv_if_ne (tgt := 111) hx hb dX12_quoted_97 (by decide) (fun c_76 => absurd c_76 (by decide)) (fun c_76 => ?_)
            refine lv_aload_n hx hb dX12_quoted_100 rfl (lv_at hl 1 rfl) ?_
            refine lv_iconst (v := 1) hx hb dX12_quoted_101 (by decide) ?_
            refine lv_aload_n hx hb dX12_quoted_102 rfl (lv_at hl 1 rfl) ?_
            refine va_get (D := D) (ci := 12) (v := .int (nI (v11_10 + 1))) (C := RX12) (T := TX12) (N := 30) hx hb hts inlX12 hown hK hP 0 rfl rfl 11 (by decide) (hts _ mw_423) (fun _ h9 => h9) rfl dX12_quoted_103 ?_
            refine lv_iload_n hx hb dX12_quoted_106 rfl (lv_at hl 2 rfl) ?_
            refine ct_V (wr := [(a0, .inl (κ 0, 21375, .inl w)), (a5, .inl (κ 0, 800, .inl tp)), (a14, .inl (κ 0, 189, .inl ga14_10))]) (As := [.int 1, .int (nI (v11_10 + 1)), .int (nI a)]) (rest := []) hFX hKK hP hD hS hA (s_X12_wrong l D κ m0 a0 a1 a2 u3 f4 a5 u6 f7 f8 f9 f10 (v11_10 + 1) u12 u13 a14 a15 a16 a17 f18 f19 a20 a21 u22 a23 a24 a25 u26 f27 a28 u29 1 (nI (v11_10 + 1)) (nI a)) 3 gV_X12_210 hdV_X12_wrong ⟨Nat.le_of_ble_eq_true rfl, Nat.le_of_ble_eq_true rfl⟩ rfl rfl (Nat.le_of_ble_eq_true rfl) dX12_quoted_107 ⟨Nat.le_of_ble_eq_true rfl, Nat.le_of_ble_eq_true rfl⟩ hl.1 [0] [1, 2, 3] rfl rfl (by decide) (by decide) (by decide) 0 12 rfl rfl rfl trivial (fun _ H locs hp_77 _ hP hD hS hz_ hk_ => ?_)
            replace hP : va_P D vwCl [(m0, .inr (12, [.ref a0, .ref a1, .ref a2, .int (nI u3), .int f4, .ref a5, .int (nI u6), .int 1, .int (nI (v11_10 + 1)), .int (nI a), .int f10, .int (nI (v11_10 + 1)), .int (nI u12), .int (nI u13), .ref a14, .ref a15, .ref a16, .ref a17, .int f18, .int f19, .ref a20, .ref a21, .int (nI u22), .ref a23, .ref a24, .ref a25, .int (nI u26), .int f27, .ref a28, .int (nI u29)])), (a0, .inl (κ 0, 21375, .inl w)), (a5, .inl (κ 0, 800, .inl tp)), (a14, .inl (κ 0, 189, .inl ga14_10))] H := hP.sub [3, 0, 1, 2] rfl
            replace hD : va_D A [(m0, .inr (12, [.ref a0, .ref a1, .ref a2, .int (nI u3), .int f4, .ref a5, .int (nI u6), .int 1, .int (nI (v11_10 + 1)), .int (nI a), .int f10, .int (nI (v11_10 + 1)), .int (nI u12), .int (nI u13), .ref a14, .ref a15, .ref a16, .ref a17, .int f18, .int f19, .ref a20, .ref a21, .int (nI u22), .ref a23, .ref a24, .ref a25, .int (nI u26), .int f27, .ref a28, .int (nI u29)])), (a0, .inl (κ 0, 21375, .inl w)), (a5, .inl (κ 0, 800, .inl tp)), (a14, .inl (κ 0, 189, .inl ga14_10))] := hD.sub [3, 0, 1, 2] (by decide) rfl
            refine W.eq (g2 := F0 m 110 ls [.int 0]) rfl ?_
            exact ct_iret hx hb hr hlk rfl hS hP hD (0, [], 1, nI (v11_10 + 1), nI a, v11_10 + 1, ga14_10) rfl ⟨(show PF (nI (v11_10 + 1)) from (PF_n (by omega))), (show Pfd ga14_10 from (by first | assumption | omega | rfl | exact Or.inl (by assumption) | exact Or.inr (by assumption))), (show u11 ≤ (v11_10 + 1) from (by first | assumption | omega | rfl | exact Or.inl (by assumption) | exact Or.inr (by assumption))), (show (v11_10 + 1) ≤ u6 from (by first | assumption | omega | rfl | exact Or.inl (by assumption) | exact Or.inr (by assumption))), (by exact Or.inr ((⟨rfl, (show qbF tp (dW w) u6 (u11 + 1) = none ∧ FO fd ga14_10 a from (absurd hsq (by rw [ex_5, ← c_6, a_60.1]; exact Bool.noConfusion)))⟩)))⟩ [0, 1, 2, 3] rfl (by decide) trivial (Nat.le_of_ble_eq_true rfl) (Nat.le_of_ble_eq_true rfl) dX12_quoted_110
        · refine lv_goto (tgt := 144) hx hb dX12_quoted_78 (by decide) ?_
          refine lv_aload_n hx hb dX12_quoted_144 rfl (lv_at hl 1 rfl) ?_
          refine va_get (D := D) (ci := 12) (v := .int (nI v11_10)) (C := RX12) (T := TX12) (N := 30) hx hb hts inlX12 hown hK hP 0 rfl rfl 11 (by decide) (hts _ mw_423) (fun _ h9 => h9) rfl dX12_quoted_145 ?_
          refine lv_aload_n hx hb dX12_quoted_148 rfl (lv_at hl 1 rfl) ?_
          refine va_get (D := D) (ci := 12) (v := .int (nI u6)) (C := RX12) (T := TX12) (N := 30) hx hb hts inlX12 hown hK hP 0 rfl rfl 6 (by decide) (hts _ mw_236) (fun _ h9 => h9) rfl dX12_quoted_149 ?_
          refine lv_icmp_ne (tgt := 166) hx hb dX12_quoted_152 (by decide) (fun c_78 => ?_) (fun c_78 => ?_)
          · have nc_78 := cv_ne (a := v11_10) (b := u6) (by omega) (by omega) c_78
            refine lv_aload_n hx hb dX12_quoted_166 rfl (lv_at hl 1 rfl) ?_
            refine lv_dup hx hb dX12_quoted_167 rfl ?_
            refine va_get (D := D) (ci := 12) (v := .int (nI v11_10)) (C := RX12) (T := TX12) (N := 30) hx hb hts inlX12 hown hK hP 0 rfl rfl 11 (by decide) (hts _ mw_423) (fun _ h9 => h9) rfl dX12_quoted_168 ?_
            refine lv_iconst (v := 1) hx hb dX12_quoted_171 (by decide) ?_
            refine lv_iadd hx hb dX12_quoted_172 ?_
            refine ki (v := (nI (v11_10 + 1))) (nI_add v11_10 1) ?_
            refine va_put (D := D) (ci := 12) (v := .int (nI (v11_10 + 1))) (ty := tyX12 11) (C := RX12) (T := TX12) (N := 30) hx hb hts inlX12 tyX12 tyX12_ok nmX12 hown hK hP hD hS 0 rfl rfl 11 (by decide) (hts _ mw_423) (fun _ h9 => h9) rfl (tyX12_ok 11 (by decide)) rfl rfl (Nat.le_of_ble_eq_true rfl) dX12_quoted_173 (fun H locs hP hD hS => ?_)
            have hP : va_P D vwCl [(m0, .inr (12, [.ref a0, .ref a1, .ref a2, .int (nI u3), .int f4, .ref a5, .int (nI u6), .int f7, .int f8, .int f9, .int f10, .int (nI (v11_10 + 1)), .int (nI u12), .int (nI u13), .ref a14, .ref a15, .ref a16, .ref a17, .int f18, .int f19, .ref a20, .ref a21, .int (nI u22), .ref a23, .ref a24, .ref a25, .int (nI u26), .int f27, .ref a28, .int (nI u29)])), (a0, .inl (κ 0, 21375, .inl w)), (a5, .inl (κ 0, 800, .inl tp)), (a14, .inl (κ 0, 189, .inl ga14_10))] H := hP
            have hD : va_D A [(m0, .inr (12, [.ref a0, .ref a1, .ref a2, .int (nI u3), .int f4, .ref a5, .int (nI u6), .int f7, .int f8, .int f9, .int f10, .int (nI (v11_10 + 1)), .int (nI u12), .int (nI u13), .ref a14, .ref a15, .ref a16, .ref a17, .int f18, .int f19, .ref a20, .ref a21, .int (nI u22), .ref a23, .ref a24, .ref a25, .int (nI u26), .int f27, .ref a28, .int (nI u29)])), (a0, .inl (κ 0, 21375, .inl w)), (a5, .inl (κ 0, 800, .inl tp)), (a14, .inl (κ 0, 189, .inl ga14_10))] := hD
            refine lv_aload_n hx hb dX12_quoted_176 rfl (lv_at hl 1 rfl) ?_
            refine ct_V (wr := [(a14, .inl (κ 0, 189, .inl ga14_10))]) (As := []) (rest := []) hFX hKK hP hD hS hA (f_X12_blanks l D κ m0 a0 a1 a2 u3 f4 a5 u6 f7 f8 f9 f10 (v11_10 + 1) u12 u13 a14 a15 a16 a17 f18 f19 a20 a21 u22 a23 a24 a25 u26 f27 a28 u29 w tp (by omega) h_a0 (by omega)) 0 gV_X12_217 hdV_X12_blanks ⟨Nat.le_of_ble_eq_true rfl, Nat.le_of_ble_eq_true rfl⟩ rfl rfl (Nat.le_of_ble_eq_true rfl) dX12_quoted_177 ⟨Nat.le_of_ble_eq_true rfl, Nat.le_of_ble_eq_true rfl⟩ hl.1 [0, 1, 2] [3] rfl rfl (by decide) (by decide) (by decide) 0 12 rfl rfl rfl trivial (fun y11__79 H locs hp_80 _ hP hD hS hz_ hk_ => ?_)
            replace hP : va_P D vwCl [(m0, .inr (12, [.ref a0, .ref a1, .ref a2, .int (nI u3), .int f4, .ref a5, .int (nI u6), .int f7, .int f8, .int f9, .int f10, .int (nI y11__79), .int (nI u12), .int (nI u13), .ref a14, .ref a15, .ref a16, .ref a17, .int f18, .int f19, .ref a20, .ref a21, .int (nI u22), .ref a23, .ref a24, .ref a25, .int (nI u26), .int f27, .ref a28, .int (nI u29)])), (a0, .inl (κ 0, 21375, .inl w)), (a5, .inl (κ 0, 800, .inl tp)), (a14, .inl (κ 0, 189, .inl ga14_10))] H := hP.sub [1, 2, 3, 0] rfl
            replace hD : va_D A [(m0, .inr (12, [.ref a0, .ref a1, .ref a2, .int (nI u3), .int f4, .ref a5, .int (nI u6), .int f7, .int f8, .int f9, .int f10, .int (nI y11__79), .int (nI u12), .int (nI u13), .ref a14, .ref a15, .ref a16, .ref a17, .int f18, .int f19, .ref a20, .ref a21, .int (nI u22), .ref a23, .ref a24, .ref a25, .int (nI u26), .int f27, .ref a28, .int (nI u29)])), (a0, .inl (κ 0, 21375, .inl w)), (a5, .inl (κ 0, 800, .inl tp)), (a14, .inl (κ 0, 189, .inl ga14_10))] := hD.sub [1, 2, 3, 0] (by decide) rfl
            replace hp_80 : (v11_10 + 1) ≤ y11__79 ∧ y11__79 ≤ u6 ∧ y11__79 = skF tp (dW w) (u6 - (v11_10 + 1)) (v11_10 + 1) := hp_80
            obtain ⟨h_81, h_82, h_83⟩ := hp_80
            refine W.eq (g2 := F0 m 180 ls []) rfl ?_
            refine lv_aload_n hx hb dX12_quoted_180 rfl (lv_at hl 1 rfl) ?_
            refine cr_V (As := []) (rest := []) hFX hKK (f_X12_isOver l D κ m0 a0 a1 a2 u3 f4 a5 u6 f7 f8 f9 f10 y11__79 u12 u13 a14 a15 a16 a17 f18 f19 a20 a21 u22 a23 a24 a25 u26 f27 a28 u29 w tp (by omega) h_a0 (by omega)) 0 gV_X12_220 hdV_X12_isOver rfl rfl ⟨Nat.le_of_ble_eq_true rfl, Nat.le_of_ble_eq_true rfl⟩ rfl rfl (Nat.le_of_ble_eq_true rfl) dX12_quoted_181 ⟨Nat.le_of_ble_eq_true rfl, Nat.le_of_ble_eq_true rfl⟩ hl.1 hP 0 12 rfl rfl rfl (hP.sub [0, 1, 2] rfl) (fun r__84 hp_85 => ?_)
            replace hp_85 : ((r__84 = 1 ∧ (y11__79 = u6 ∨ tp y11__79 = 10 ∨ tp y11__79 = w 21369)) ∨ (r__84 = 0 ∧ y11__79 < u6 ∧ (¬ tp y11__79 = 10 ∧ ¬ tp y11__79 = w 21369))) := hp_85
            have ha_86 := hp_85
            clear hp_85
            rcases ha_86 with ⟨rfl, a_87⟩ | ⟨rfl, a_88, a_89⟩
            · refine W.eq (g2 := F0 m 184 ls [.int 1]) rfl ?_
              refine lv_if_eq (tgt := 189) hx hb dX12_quoted_184 (by decide) (fun c_90 => absurd c_90 (by decide)) (fun c_90 => ?_)
              refine lv_iconst (v := 1) hx hb dX12_quoted_187 (by decide) ?_
              exact ct_iret hx hb hr hlk rfl hS hP hD (1, Gxs_10, f7, f8, f9, y11__79, ga14_10) rfl ⟨(show PF f8 from (by assumption)), (show Pfd ga14_10 from (by first | assumption | omega | rfl | exact Or.inl (by assumption) | exact Or.inr (by assumption))), (show u11 ≤ y11__79 from (by first | assumption | omega | rfl | exact Or.inl (by assumption) | exact Or.inr (by assumption))), (show y11__79 ≤ u6 from (by first | assumption | omega | rfl | exact Or.inl (by assumption) | exact Or.inr (by assumption))), (by exact Or.inl (⟨rfl, (show (qbF tp (dW w) u6 (u11 + 1) = some (y11__79, Gxs_10) ∧ FC ga14_10 a Gxs_10) ∧ FO fd ga14_10 a from ⟨⟨qb_y (hl10_2.symm.trans (qu_q2 (t := tp) (d := (dW w)) (by omega) ex_4 (Or.inl (by rw [c_6, ← ex_5]; exact hsq)) ex_5 c_6 ex_54 (fun h9 => c_55 (h9.trans (c_6.trans (ex_5.symm.trans ex_5)))))) (bh_o h_83 (by omega) a_87), hl10_3⟩, hl10_4⟩)⟩))⟩ [0, 1, 2, 3] rfl (by decide) trivial (Nat.le_of_ble_eq_true rfl) (Nat.le_of_ble_eq_true rfl) dX12_quoted_188
            · refine W.eq (g2 := F0 m 184 ls [.int 0]) rfl ?_
              refine lv_if_eq (tgt := 189) hx hb dX12_quoted_184 (by decide) (fun c_91 => ?_) (fun c_91 => absurd (by decide) c_91)
              refine lv_aload_n hx hb dX12_quoted_189 rfl (lv_at hl 1 rfl) ?_
              refine lv_aload_n hx hb dX12_quoted_190 rfl (lv_at hl 1 rfl) ?_
              refine lv_aload_n hx hb dX12_quoted_191 rfl (lv_at hl 1 rfl) ?_
              refine va_get (D := D) (ci := 12) (v := .ref a5) (C := RX12) (T := TX12) (N := 30) hx hb hts inlX12 hown hK hP 0 rfl rfl 5 (by decide) (hts _ mw_191) (fun _ h9 => h9) rfl dX12_quoted_192 ?_
              refine lv_aload_n hx hb dX12_quoted_195 rfl (lv_at hl 1 rfl) ?_
              refine va_get (D := D) (ci := 12) (v := .int (nI y11__79)) (C := RX12) (T := TX12) (N := 30) hx hb hts inlX12 hown hK hP 0 rfl rfl 11 (by decide) (hts _ mw_423) (fun _ h9 => h9) rfl dX12_quoted_196 ?_
              refine va_iald hx hb hK hP 2 0 rfl rfl (i := nI y11__79) (vp_in_nI (n := y11__79) (by omega) (by omega)) dX12_quoted_199 ?_
              refine kv (v := .int (tp y11__79)) (by rw [nI_clamp (by omega)]) ?_
              obtain ⟨x_92, ex_92⟩ : ∃ y9 : Int32, tp y11__79 = y9 := ⟨_, rfl⟩
              refine kv (v := .int x_92) (congrArg Value.int ex_92) ?_
              refine lv_iconst (v := 0) hx hb dX12_quoted_200 (by decide) ?_
              refine cr_V (As := [.int x_92, .int 0]) (rest := [.ref m0]) hFX hKK (f_X12_canBe l D κ m0 a0 a1 a2 u3 f4 a5 u6 f7 f8 f9 f10 y11__79 u12 u13 a14 a15 a16 a17 f18 f19 a20 a21 u22 a23 a24 a25 u26 f27 a28 u29 w x_92 0 h_a0) 2 gV_X12_206 hdV_X12_canBe rfl rfl ⟨Nat.le_of_ble_eq_true rfl, Nat.le_of_ble_eq_true rfl⟩ rfl rfl (Nat.le_of_ble_eq_true rfl) dX12_quoted_201 ⟨Nat.le_of_ble_eq_true rfl, Nat.le_of_ble_eq_true rfl⟩ hl.1 hP 0 12 rfl rfl rfl (hP.sub [0, 1] rfl) (fun r__93 hp_94 => ?_)
              replace hp_94 : ((r__93 = 1 ∧ ((x_92 = 9 ∧ (0 : Int32) = 0 ∧ w 21369 = 9) ∨ sgB x_92 = true ∨ x_92 = 10)) ∨ (r__93 = 0 ∧ (sgB x_92 = false ∧ ¬ x_92 = 10 ∧ ¬ ((0 : Int32) = 0 ∧ x_92 = 9 ∧ w 21369 = 9)))) := hp_94
              have ha_95 := hp_94
              clear hp_94
              rcases ha_95 with ⟨rfl, a_96⟩ | ⟨rfl, a_97⟩
              · refine W.eq (g2 := F0 m 204 ls [.int 1, .ref m0]) rfl ?_
                refine lv_if_eq (tgt := 211) hx hb dX12_quoted_204 (by decide) (fun c_98 => absurd c_98 (by decide)) (fun c_98 => ?_)
                refine lv_iconst (v := 3) hx hb dX12_quoted_207 (by decide) ?_
                refine lv_goto (tgt := 212) hx hb dX12_quoted_208 (by decide) ?_
                refine lv_aload_n hx hb dX12_quoted_212 rfl (lv_at hl 1 rfl) ?_
                refine va_get (D := D) (ci := 12) (v := .int (nI y11__79)) (C := RX12) (T := TX12) (N := 30) hx hb hts inlX12 hown hK hP 0 rfl rfl 11 (by decide) (hts _ mw_423) (fun _ h9 => h9) rfl dX12_quoted_213 ?_
                refine lv_iload_n hx hb dX12_quoted_216 rfl (lv_at hl 2 rfl) ?_
                refine ct_V (wr := [(a0, .inl (κ 0, 21375, .inl w)), (a5, .inl (κ 0, 800, .inl tp)), (a14, .inl (κ 0, 189, .inl ga14_10))]) (As := [.int 3, .int (nI y11__79), .int (nI a)]) (rest := []) hFX hKK hP hD hS hA (s_X12_wrong l D κ m0 a0 a1 a2 u3 f4 a5 u6 f7 f8 f9 f10 y11__79 u12 u13 a14 a15 a16 a17 f18 f19 a20 a21 u22 a23 a24 a25 u26 f27 a28 u29 3 (nI y11__79) (nI a)) 3 gV_X12_210 hdV_X12_wrong ⟨Nat.le_of_ble_eq_true rfl, Nat.le_of_ble_eq_true rfl⟩ rfl rfl (Nat.le_of_ble_eq_true rfl) dX12_quoted_217 ⟨Nat.le_of_ble_eq_true rfl, Nat.le_of_ble_eq_true rfl⟩ hl.1 [0] [1, 2, 3] rfl rfl (by decide) (by decide) (by decide) 0 12 rfl rfl rfl trivial (fun _ H locs hp_99 _ hP hD hS hz_ hk_ => ?_)
                replace hP : va_P D vwCl [(m0, .inr (12, [.ref a0, .ref a1, .ref a2, .int (nI u3), .int f4, .ref a5, .int (nI u6), .int 3, .int (nI y11__79), .int (nI a), .int f10, .int (nI y11__79), .int (nI u12), .int (nI u13), .ref a14, .ref a15, .ref a16, .ref a17, .int f18, .int f19, .ref a20, .ref a21, .int (nI u22), .ref a23, .ref a24, .ref a25, .int (nI u26), .int f27, .ref a28, .int (nI u29)])), (a0, .inl (κ 0, 21375, .inl w)), (a5, .inl (κ 0, 800, .inl tp)), (a14, .inl (κ 0, 189, .inl ga14_10))] H := hP.sub [3, 0, 1, 2] rfl
                replace hD : va_D A [(m0, .inr (12, [.ref a0, .ref a1, .ref a2, .int (nI u3), .int f4, .ref a5, .int (nI u6), .int 3, .int (nI y11__79), .int (nI a), .int f10, .int (nI y11__79), .int (nI u12), .int (nI u13), .ref a14, .ref a15, .ref a16, .ref a17, .int f18, .int f19, .ref a20, .ref a21, .int (nI u22), .ref a23, .ref a24, .ref a25, .int (nI u26), .int f27, .ref a28, .int (nI u29)])), (a0, .inl (κ 0, 21375, .inl w)), (a5, .inl (κ 0, 800, .inl tp)), (a14, .inl (κ 0, 189, .inl ga14_10))] := hD.sub [3, 0, 1, 2] (by decide) rfl
                refine W.eq (g2 := F0 m 220 ls [.int 0]) rfl ?_
                exact ct_iret hx hb hr hlk rfl hS hP hD (0, [], 3, nI y11__79, nI a, y11__79, ga14_10) rfl ⟨(show PF (nI y11__79) from (PF_n (by omega))), (show Pfd ga14_10 from (by first | assumption | omega | rfl | exact Or.inl (by assumption) | exact Or.inr (by assumption))), (show u11 ≤ y11__79 from (by first | assumption | omega | rfl | exact Or.inl (by assumption) | exact Or.inr (by assumption))), (show y11__79 ≤ u6 from (by first | assumption | omega | rfl | exact Or.inl (by assumption) | exact Or.inr (by assumption))), (by exact Or.inr ((⟨rfl, (show qbF tp (dW w) u6 (u11 + 1) = none ∧ FO fd ga14_10 a from ⟨qb_b (hl10_2.symm.trans (qu_q2 (t := tp) (d := (dW w)) (by omega) ex_4 (Or.inl (by rw [c_6, ← ex_5]; exact hsq)) ex_5 c_6 ex_54 (fun h9 => c_55 (h9.trans (c_6.trans (ex_5.symm.trans ex_5)))))) (bh_4 h_83 (by omega) rfl rfl a_89.2 a_89.1), hl10_4⟩)⟩)))⟩ [0, 1, 2, 3] rfl (by decide) trivial (Nat.le_of_ble_eq_true rfl) (Nat.le_of_ble_eq_true rfl) dX12_quoted_220
              · refine W.eq (g2 := F0 m 204 ls [.int 0, .ref m0]) rfl ?_
                refine lv_if_eq (tgt := 211) hx hb dX12_quoted_204 (by decide) (fun c_100 => ?_) (fun c_100 => absurd (by decide) c_100)
                refine lv_iconst (v := 1) hx hb dX12_quoted_211 (by decide) ?_
                refine lv_aload_n hx hb dX12_quoted_212 rfl (lv_at hl 1 rfl) ?_
                refine va_get (D := D) (ci := 12) (v := .int (nI y11__79)) (C := RX12) (T := TX12) (N := 30) hx hb hts inlX12 hown hK hP 0 rfl rfl 11 (by decide) (hts _ mw_423) (fun _ h9 => h9) rfl dX12_quoted_213 ?_
                refine lv_iload_n hx hb dX12_quoted_216 rfl (lv_at hl 2 rfl) ?_
                refine ct_V (wr := [(a0, .inl (κ 0, 21375, .inl w)), (a5, .inl (κ 0, 800, .inl tp)), (a14, .inl (κ 0, 189, .inl ga14_10))]) (As := [.int 1, .int (nI y11__79), .int (nI a)]) (rest := []) hFX hKK hP hD hS hA (s_X12_wrong l D κ m0 a0 a1 a2 u3 f4 a5 u6 f7 f8 f9 f10 y11__79 u12 u13 a14 a15 a16 a17 f18 f19 a20 a21 u22 a23 a24 a25 u26 f27 a28 u29 1 (nI y11__79) (nI a)) 3 gV_X12_210 hdV_X12_wrong ⟨Nat.le_of_ble_eq_true rfl, Nat.le_of_ble_eq_true rfl⟩ rfl rfl (Nat.le_of_ble_eq_true rfl) dX12_quoted_217 ⟨Nat.le_of_ble_eq_true rfl, Nat.le_of_ble_eq_true rfl⟩ hl.1 [0] [1, 2, 3] rfl rfl (by decide) (by decide) (by decide) 0 12 rfl rfl rfl trivial (fun _ H locs hp_101 _ hP hD hS hz_ hk_ => ?_)
                replace hP : va_P D vwCl [(m0, .inr (12, [.ref a0, .ref a1, .ref a2, .int (nI u3), .int f4, .ref a5, .int (nI u6), .int 1, .int (nI y11__79), .int (nI a), .int f10, .int (nI y11__79), .int (nI u12), .int (nI u13), .ref a14, .ref a15, .ref a16, .ref a17, .int f18, .int f19, .ref a20, .ref a21, .int (nI u22), .ref a23, .ref a24, .ref a25, .int (nI u26), .int f27, .ref a28, .int (nI u29)])), (a0, .inl (κ 0, 21375, .inl w)), (a5, .inl (κ 0, 800, .inl tp)), (a14, .inl (κ 0, 189, .inl ga14_10))] H := hP.sub [3, 0, 1, 2] rfl
                replace hD : va_D A [(m0, .inr (12, [.ref a0, .ref a1, .ref a2, .int (nI u3), .int f4, .ref a5, .int (nI u6), .int 1, .int (nI y11__79), .int (nI a), .int f10, .int (nI y11__79), .int (nI u12), .int (nI u13), .ref a14, .ref a15, .ref a16, .ref a17, .int f18, .int f19, .ref a20, .ref a21, .int (nI u22), .ref a23, .ref a24, .ref a25, .int (nI u26), .int f27, .ref a28, .int (nI u29)])), (a0, .inl (κ 0, 21375, .inl w)), (a5, .inl (κ 0, 800, .inl tp)), (a14, .inl (κ 0, 189, .inl ga14_10))] := hD.sub [3, 0, 1, 2] (by decide) rfl
                refine W.eq (g2 := F0 m 220 ls [.int 0]) rfl ?_
                exact ct_iret hx hb hr hlk rfl hS hP hD (0, [], 1, nI y11__79, nI a, y11__79, ga14_10) rfl ⟨(show PF (nI y11__79) from (PF_n (by omega))), (show Pfd ga14_10 from (by first | assumption | omega | rfl | exact Or.inl (by assumption) | exact Or.inr (by assumption))), (show u11 ≤ y11__79 from (by first | assumption | omega | rfl | exact Or.inl (by assumption) | exact Or.inr (by assumption))), (show y11__79 ≤ u6 from (by first | assumption | omega | rfl | exact Or.inl (by assumption) | exact Or.inr (by assumption))), (by exact Or.inr ((⟨rfl, (show qbF tp (dW w) u6 (u11 + 1) = none ∧ FO fd ga14_10 a from ⟨qb_b (hl10_2.symm.trans (qu_q2 (t := tp) (d := (dW w)) (by omega) ex_4 (Or.inl (by rw [c_6, ← ex_5]; exact hsq)) ex_5 c_6 ex_54 (fun h9 => c_55 (h9.trans (c_6.trans (ex_5.symm.trans ex_5)))))) (bh_4 h_83 (by omega) rfl rfl a_89.2 a_89.1), hl10_4⟩)⟩)))⟩ [0, 1, 2, 3] rfl (by decide) trivial (Nat.le_of_ble_eq_true rfl) (Nat.le_of_ble_eq_true rfl) dX12_quoted_220
          · have nc_78 := cv_eq (a := v11_10) (b := u6) (by omega) (by omega) c_78
            omega
set_option maxHeartbeats 4000000 in
set_option maxRecDepth 100000 in
theorem f_X12_reads (l : Launch) (D : va_G) (κ : Nat → ClassId) (m0 : Nat) (a0 : Nat) (a1 : Nat) (a2 : Nat) (u3 : Nat) (f4 : Int32) (a5 : Nat) (u6 : Nat) (f7 : Int32) (f8 : Int32) (f9 : Int32) (f10 : Int32) (u11 : Nat) (u12 : Nat) (u13 : Nat) (a14 : Nat) (a15 : Nat) (a16 : Nat) (a17 : Nat) (f18 : Int32) (f19 : Int32) (a20 : Nat) (a21 : Nat) (u22 : Nat) (a23 : Nat) (a24 : Nat) (a25 : Nat) (u26 : Nat) (f27 : Int32) (a28 : Nat) (u29 : Nat) (w : Nat → Int32) (tp : Nat → Int32) (fd : Nat → Int32) (fa : Nat → Int32) (a : Nat) (h6 : u6 ≤ 800) (h8 : PF f8) (h_a0 : Pw w) (h_a14 : Pfd fd) (h_a15 : Pb 9 800 fa) (h11 : u11 ≤ u6) (ha : a < 9) (hsq : sgB (w 21370) = true) : Ct l yX12_reads (wl yX12_reads cX12_reads 2 (some .boolean)) { frames := 3, cells := 0, slots := 0, locals := 70 } D κ [.ref m0, .int (nI a)] [(m0, .inr (12, [.ref a0, .ref a1, .ref a2, .int (nI u3), .int f4, .ref a5, .int (nI u6), .int f7, .int f8, .int f9, .int f10, .int (nI u11), .int (nI u12), .int (nI u13), .ref a14, .ref a15, .ref a16, .ref a17, .int f18, .int f19, .ref a20, .ref a21, .int (nI u22), .ref a23, .ref a24, .ref a25, .int (nI u26), .int f27, .ref a28, .int (nI u29)])), (a0, .inl (κ 0, 21375, .inl w)), (a5, .inl (κ 0, 800, .inl tp)), (a14, .inl (κ 0, 189, .inl fd)), (a15, .inl (κ 0, 9, .inl fa))] (fun _ => True) (fun u9 : Int32 × List Int32 × Int32 × Int32 × Int32 × Nat × (Nat → Int32) × (Nat → Int32) => some (.int u9.1)) (fun u9 : Int32 × List Int32 × Int32 × Int32 × Int32 × Nat × (Nat → Int32) × (Nat → Int32) => PF u9.2.2.2.1 ∧ Pfd u9.2.2.2.2.2.2.1 ∧ Pb 9 800 u9.2.2.2.2.2.2.2 ∧ u11 ≤ u9.2.2.2.2.2.1 ∧ u9.2.2.2.2.2.1 ≤ u6 ∧ ((u9.1 = 1 ∧ ((fdF tp (dW w) u6 u11 = some (u9.2.2.2.2.2.1, u9.2.1) ∧ FC u9.2.2.2.2.2.2.1 a u9.2.1) ∧ FO fd u9.2.2.2.2.2.2.1 a ∧ u9.2.2.2.2.2.2.2 a = nI u11 ∧ ∀ p : Nat, ¬ p = a → u9.2.2.2.2.2.2.2 p = fa p)) ∨ (u9.1 = 0 ∧ (fdF tp (dW w) u6 u11 = none ∧ FO fd u9.2.2.2.2.2.2.1 a)))) (fun u9 : Int32 × List Int32 × Int32 × Int32 × Int32 × Nat × (Nat → Int32) × (Nat → Int32) => [(m0, .inr (12, [.ref a0, .ref a1, .ref a2, .int (nI u3), .int f4, .ref a5, .int (nI u6), .int u9.2.2.1, .int u9.2.2.2.1, .int u9.2.2.2.2.1, .int f10, .int (nI u9.2.2.2.2.2.1), .int (nI u12), .int (nI u13), .ref a14, .ref a15, .ref a16, .ref a17, .int f18, .int f19, .ref a20, .ref a21, .int (nI u22), .ref a23, .ref a24, .ref a25, .int (nI u26), .int f27, .ref a28, .int (nI u29)])), (a0, .inl (κ 0, 21375, .inl w)), (a5, .inl (κ 0, 800, .inl tp)), (a14, .inl (κ 0, 189, .inl u9.2.2.2.2.2.2.1)), (a15, .inl (κ 0, 9, .inl u9.2.2.2.2.2.2.2))]) (fun _ _ => True) := by
  refine ct_of (by decide +kernel) (Nat.le_of_ble_eq_true rfl) ?_
  intro p e s m args below meth c A ls hx hb hr hml hts hown hlk hin hKK hK hA hP hD hS hI hl
  have hS : va_S A s.heap s.heap [] := hS
  have hFX : FX p s m args c cX12_reads 2 RX12 := ⟨hx, hb, hml, hown, hts⟩
  have hl : lv_has ls 2 [(0, .ref m0), (1, .int (nI a))] := hl
  refine lv_aload_n hx hb dX12_reads_0 rfl (lv_at hl 0 rfl) ?_
  refine va_get (D := D) (ci := 12) (v := .ref a15) (C := RX12) (T := TX12) (N := 30) hx hb hts inlX12 hown hK hP 0 rfl rfl 15 (by decide) (hts _ mw_195) (fun _ h9 => h9) rfl dX12_reads_1 ?_
  refine lv_iload_n hx hb dX12_reads_4 rfl (lv_at hl 1 rfl) ?_
  refine lv_aload_n hx hb dX12_reads_5 rfl (lv_at hl 0 rfl) ?_
  refine va_get (D := D) (ci := 12) (v := .int (nI u11)) (C := RX12) (T := TX12) (N := 30) hx hb hts inlX12 hown hK hP 0 rfl rfl 11 (by decide) (hts _ mw_423) (fun _ h9 => h9) rfl dX12_reads_6 ?_
  refine va_iast hx hb hK hP hD hS 4 0 rfl rfl (i := nI a) (x := nI u11) (vp_in_nI (n := a) (by omega) (by omega)) dX12_reads_9 (fun H locs hP hD hS => ?_)
  rw [nI_clamp (by omega)] at hP hD
  have hP : va_P D vwCl [(m0, .inr (12, [.ref a0, .ref a1, .ref a2, .int (nI u3), .int f4, .ref a5, .int (nI u6), .int f7, .int f8, .int f9, .int f10, .int (nI u11), .int (nI u12), .int (nI u13), .ref a14, .ref a15, .ref a16, .ref a17, .int f18, .int f19, .ref a20, .ref a21, .int (nI u22), .ref a23, .ref a24, .ref a25, .int (nI u26), .int f27, .ref a28, .int (nI u29)])), (a0, .inl (κ 0, 21375, .inl w)), (a5, .inl (κ 0, 800, .inl tp)), (a14, .inl (κ 0, 189, .inl fd)), (a15, .inl (κ 0, 9, .inl (upd fa a (nI u11))))] H := hP
  have hD : va_D A [(m0, .inr (12, [.ref a0, .ref a1, .ref a2, .int (nI u3), .int f4, .ref a5, .int (nI u6), .int f7, .int f8, .int f9, .int f10, .int (nI u11), .int (nI u12), .int (nI u13), .ref a14, .ref a15, .ref a16, .ref a17, .int f18, .int f19, .ref a20, .ref a21, .int (nI u22), .ref a23, .ref a24, .ref a25, .int (nI u26), .int f27, .ref a28, .int (nI u29)])), (a0, .inl (κ 0, 21375, .inl w)), (a5, .inl (κ 0, 800, .inl tp)), (a14, .inl (κ 0, 189, .inl fd)), (a15, .inl (κ 0, 9, .inl (upd fa a (nI u11))))] := hD
  have hf_2 : Pb 9 800 (upd fa a (nI u11)) := (Pb_upd h_a15 (fun _ => ⟨u11, by omega, rfl⟩))
  generalize hge_g_1 : upd fa a (nI u11) = g_1 at hP hD hf_2
  refine lv_aload_n hx hb dX12_reads_10 rfl (lv_at hl 0 rfl) ?_
  refine va_get (D := D) (ci := 12) (v := .ref a14) (C := RX12) (T := TX12) (N := 30) hx hb hts inlX12 hown hK hP 0 rfl rfl 14 (by decide) (hts _ mw_194) (fun _ h9 => h9) rfl dX12_reads_11 ?_
  refine lv_bipush (v := 21) hx hb dX12_reads_14 (by decide) ?_
  refine lv_iload_n hx hb dX12_reads_16 rfl (lv_at hl 1 rfl) ?_
  refine lv_imul hx hb dX12_reads_17 ?_
  refine ki (v := (nI (21 * a))) (pk_mul 21 a) ?_
  refine lv_iconst (v := 0) hx hb dX12_reads_18 (by decide) ?_
  refine va_iast hx hb hK hP hD hS 3 0 rfl rfl (i := nI (21 * a)) (x := 0) (vp_in_nI (n := (21 * a)) (by omega) (by omega)) dX12_reads_19 (fun H locs hP hD hS => ?_)
  rw [nI_clamp (by omega)] at hP hD
  have hP : va_P D vwCl [(m0, .inr (12, [.ref a0, .ref a1, .ref a2, .int (nI u3), .int f4, .ref a5, .int (nI u6), .int f7, .int f8, .int f9, .int f10, .int (nI u11), .int (nI u12), .int (nI u13), .ref a14, .ref a15, .ref a16, .ref a17, .int f18, .int f19, .ref a20, .ref a21, .int (nI u22), .ref a23, .ref a24, .ref a25, .int (nI u26), .int f27, .ref a28, .int (nI u29)])), (a0, .inl (κ 0, 21375, .inl w)), (a5, .inl (κ 0, 800, .inl tp)), (a14, .inl (κ 0, 189, .inl (upd fd (21 * a) 0))), (a15, .inl (κ 0, 9, .inl g_1))] H := hP
  have hD : va_D A [(m0, .inr (12, [.ref a0, .ref a1, .ref a2, .int (nI u3), .int f4, .ref a5, .int (nI u6), .int f7, .int f8, .int f9, .int f10, .int (nI u11), .int (nI u12), .int (nI u13), .ref a14, .ref a15, .ref a16, .ref a17, .int f18, .int f19, .ref a20, .ref a21, .int (nI u22), .ref a23, .ref a24, .ref a25, .int (nI u26), .int f27, .ref a28, .int (nI u29)])), (a0, .inl (κ 0, 21375, .inl w)), (a5, .inl (κ 0, 800, .inl tp)), (a14, .inl (κ 0, 189, .inl (upd fd (21 * a) 0))), (a15, .inl (κ 0, 9, .inl g_1))] := hD
  have hf_4 : Pfd (upd fd (21 * a) 0) := (Pfd_upd h_a14 (c := a) (by omega) ⟨0, by omega, rfl⟩)
  generalize hge_g_3 : upd fd (21 * a) 0 = g_3 at hP hD hf_4
  have hfc0 : FC g_3 a [] := by rw [← hge_g_3]; exact FC_0
  have hfo0 : FO fd g_3 a := by rw [← hge_g_3]; exact FO_0
  have hat0 : g_1 a = nI u11 ∧ ∀ p : Nat, ¬ p = a → g_1 p = fa p := by rw [← hge_g_1]; exact ⟨by simp [upd], fun p hp => by simp [upd, hp]⟩
  refine lv_aload_n hx hb dX12_reads_20 rfl (lv_at hl 0 rfl) ?_
  refine ct_V (wr := [(a14, .inl (κ 0, 189, .inl g_3)), (a15, .inl (κ 0, 9, .inl g_1))]) (As := []) (rest := []) hFX hKK hP hD hS hA (f_X12_blanks l D κ m0 a0 a1 a2 u3 f4 a5 u6 f7 f8 f9 f10 u11 u12 u13 a14 a15 a16 a17 f18 f19 a20 a21 u22 a23 a24 a25 u26 f27 a28 u29 w tp (by omega) h_a0 (by omega)) 0 gV_X12_217 hdV_X12_blanks ⟨Nat.le_of_ble_eq_true rfl, Nat.le_of_ble_eq_true rfl⟩ rfl rfl (Nat.le_of_ble_eq_true rfl) dX12_reads_21 ⟨Nat.le_of_ble_eq_true rfl, Nat.le_of_ble_eq_true rfl⟩ hl.1 [0, 1, 2] [3, 4] rfl rfl (by decide) (by decide) (by decide) 0 12 rfl rfl rfl trivial (fun y11__5 H locs hp_6 _ hP hD hS hz_ hk_ => ?_)
  replace hP : va_P D vwCl [(m0, .inr (12, [.ref a0, .ref a1, .ref a2, .int (nI u3), .int f4, .ref a5, .int (nI u6), .int f7, .int f8, .int f9, .int f10, .int (nI y11__5), .int (nI u12), .int (nI u13), .ref a14, .ref a15, .ref a16, .ref a17, .int f18, .int f19, .ref a20, .ref a21, .int (nI u22), .ref a23, .ref a24, .ref a25, .int (nI u26), .int f27, .ref a28, .int (nI u29)])), (a0, .inl (κ 0, 21375, .inl w)), (a5, .inl (κ 0, 800, .inl tp)), (a14, .inl (κ 0, 189, .inl g_3)), (a15, .inl (κ 0, 9, .inl g_1))] H := hP.sub [2, 3, 4, 0, 1] rfl
  replace hD : va_D A [(m0, .inr (12, [.ref a0, .ref a1, .ref a2, .int (nI u3), .int f4, .ref a5, .int (nI u6), .int f7, .int f8, .int f9, .int f10, .int (nI y11__5), .int (nI u12), .int (nI u13), .ref a14, .ref a15, .ref a16, .ref a17, .int f18, .int f19, .ref a20, .ref a21, .int (nI u22), .ref a23, .ref a24, .ref a25, .int (nI u26), .int f27, .ref a28, .int (nI u29)])), (a0, .inl (κ 0, 21375, .inl w)), (a5, .inl (κ 0, 800, .inl tp)), (a14, .inl (κ 0, 189, .inl g_3)), (a15, .inl (κ 0, 9, .inl g_1))] := hD.sub [2, 3, 4, 0, 1] (by decide) rfl
  replace hp_6 : u11 ≤ y11__5 ∧ y11__5 ≤ u6 ∧ y11__5 = skF tp (dW w) (u6 - u11) u11 := hp_6
  obtain ⟨h_7, h_8, h_9⟩ := hp_6
  refine W.eq (g2 := F0 m 24 ls []) rfl ?_
  refine lv_aload_n hx hb dX12_reads_24 rfl (lv_at hl 0 rfl) ?_
  refine va_get (D := D) (ci := 12) (v := .int (nI y11__5)) (C := RX12) (T := TX12) (N := 30) hx hb hts inlX12 hown hK hP 0 rfl rfl 11 (by decide) (hts _ mw_423) (fun _ h9 => h9) rfl dX12_reads_25 ?_
  refine lv_aload_n hx hb dX12_reads_28 rfl (lv_at hl 0 rfl) ?_
  refine va_get (D := D) (ci := 12) (v := .int (nI u6)) (C := RX12) (T := TX12) (N := 30) hx hb hts inlX12 hown hK hP 0 rfl rfl 6 (by decide) (hts _ mw_236) (fun _ h9 => h9) rfl dX12_reads_29 ?_
  refine lv_icmp_ge (tgt := 63) hx hb dX12_reads_32 (by decide) (fun c_10 => ?_) (fun c_10 => ?_)
  · have nc_10 := cv_le (a := u6) (b := y11__5) (by omega) (by omega) c_10
    refine lv_aload_n hx hb dX12_reads_63 rfl (lv_at hl 0 rfl) ?_
    refine lv_iload_n hx hb dX12_reads_64 rfl (lv_at hl 1 rfl) ?_
    refine ct_V (wr := [(a15, .inl (κ 0, 9, .inl g_1))]) (As := [.int (nI a)]) (rest := []) hFX hKK hP hD hS hA (f_X12_plain l D κ m0 a0 a1 a2 u3 f4 a5 u6 f7 f8 f9 f10 y11__5 u12 u13 a14 a15 a16 a17 f18 f19 a20 a21 u22 a23 a24 a25 u26 f27 a28 u29 w tp g_3 a (by omega) (by assumption) h_a0 hf_4 (by omega) (by omega) hfc0) 1 gV_X12_226 hdV_X12_plain ⟨Nat.le_of_ble_eq_true rfl, Nat.le_of_ble_eq_true rfl⟩ rfl rfl (Nat.le_of_ble_eq_true rfl) dX12_reads_65 ⟨Nat.le_of_ble_eq_true rfl, Nat.le_of_ble_eq_true rfl⟩ hl.1 [0, 1, 2, 3] [4] rfl rfl (by decide) (by decide) (by decide) 0 12 rfl rfl rfl trivial (fun u_18 H locs hp_19 _ hP hD hS hz_ hk_ => ?_)
    obtain ⟨r__11, xs9__12, y7__13, y8__14, y9__15, y11__16, g_a14__17⟩ := u_18
    replace hP : va_P D vwCl [(m0, .inr (12, [.ref a0, .ref a1, .ref a2, .int (nI u3), .int f4, .ref a5, .int (nI u6), .int y7__13, .int y8__14, .int y9__15, .int f10, .int (nI y11__16), .int (nI u12), .int (nI u13), .ref a14, .ref a15, .ref a16, .ref a17, .int f18, .int f19, .ref a20, .ref a21, .int (nI u22), .ref a23, .ref a24, .ref a25, .int (nI u26), .int f27, .ref a28, .int (nI u29)])), (a0, .inl (κ 0, 21375, .inl w)), (a5, .inl (κ 0, 800, .inl tp)), (a14, .inl (κ 0, 189, .inl g_a14__17)), (a15, .inl (κ 0, 9, .inl g_1))] H := hP.sub [1, 2, 3, 4, 0] rfl
    replace hD : va_D A [(m0, .inr (12, [.ref a0, .ref a1, .ref a2, .int (nI u3), .int f4, .ref a5, .int (nI u6), .int y7__13, .int y8__14, .int y9__15, .int f10, .int (nI y11__16), .int (nI u12), .int (nI u13), .ref a14, .ref a15, .ref a16, .ref a17, .int f18, .int f19, .ref a20, .ref a21, .int (nI u22), .ref a23, .ref a24, .ref a25, .int (nI u26), .int f27, .ref a28, .int (nI u29)])), (a0, .inl (κ 0, 21375, .inl w)), (a5, .inl (κ 0, 800, .inl tp)), (a14, .inl (κ 0, 189, .inl g_a14__17)), (a15, .inl (κ 0, 9, .inl g_1))] := hD.sub [1, 2, 3, 4, 0] (by decide) rfl
    replace hp_19 : PF y8__14 ∧ Pfd g_a14__17 ∧ y11__5 ≤ y11__16 ∧ y11__16 ≤ u6 ∧ ((r__11 = 1 ∧ ((plF tp (dW w) (u6 - y11__5) y11__5 0 [] = some (y11__16, xs9__12) ∧ FC g_a14__17 a xs9__12) ∧ FO g_3 g_a14__17 a)) ∨ (r__11 = 0 ∧ (plF tp (dW w) (u6 - y11__5) y11__5 0 [] = none ∧ FO g_3 g_a14__17 a))) := hp_19
    obtain ⟨h_20, h_21, h_22, h_23, ha_24⟩ := hp_19
    rcases ha_24 with ⟨rfl, a_25⟩ | ⟨rfl, a_26⟩
    · refine W.eq (g2 := F0 m 68 ls [.int 1]) rfl ?_
      exact ct_iret hx hb hr hlk rfl hS hP hD (1, xs9__12, y7__13, y8__14, y9__15, y11__16, g_a14__17, g_1) rfl ⟨(show PF y8__14 from (by assumption)), (show Pfd g_a14__17 from (by first | assumption | omega | rfl | exact Or.inl (by assumption) | exact Or.inr (by assumption))), (show Pb 9 800 g_1 from (by first | assumption | omega | rfl | exact Or.inl (by assumption) | exact Or.inr (by assumption))), (show u11 ≤ y11__16 from (by first | assumption | omega | rfl | exact Or.inl (by assumption) | exact Or.inr (by assumption))), (show y11__16 ≤ u6 from (by first | assumption | omega | rfl | exact Or.inl (by assumption) | exact Or.inr (by assumption))), (by exact Or.inl (⟨rfl, (show (fdF tp (dW w) u6 u11 = some (y11__16, xs9__12) ∧ FC g_a14__17 a xs9__12) ∧ FO fd g_a14__17 a ∧ g_1 a = nI u11 ∧ ∀ p : Nat, ¬ p = a → g_1 p = fa p from ⟨⟨(fd_p h_9 (Or.inl (by omega))).trans a_25.1.1, a_25.1.2⟩, FO_tr hfo0 a_25.2, hat0⟩)⟩))⟩ [0, 1, 2, 3, 4] rfl (by decide) trivial (Nat.le_of_ble_eq_true rfl) (Nat.le_of_ble_eq_true rfl) dX12_reads_68
    · refine W.eq (g2 := F0 m 68 ls [.int 0]) rfl ?_
      exact ct_iret hx hb hr hlk rfl hS hP hD (0, xs9__12, y7__13, y8__14, y9__15, y11__16, g_a14__17, g_1) rfl ⟨(show PF y8__14 from (by assumption)), (show Pfd g_a14__17 from (by first | assumption | omega | rfl | exact Or.inl (by assumption) | exact Or.inr (by assumption))), (show Pb 9 800 g_1 from (by first | assumption | omega | rfl | exact Or.inl (by assumption) | exact Or.inr (by assumption))), (show u11 ≤ y11__16 from (by first | assumption | omega | rfl | exact Or.inl (by assumption) | exact Or.inr (by assumption))), (show y11__16 ≤ u6 from (by first | assumption | omega | rfl | exact Or.inl (by assumption) | exact Or.inr (by assumption))), (by exact Or.inr ((⟨rfl, (show fdF tp (dW w) u6 u11 = none ∧ FO fd g_a14__17 a from ⟨(fd_p h_9 (Or.inl (by omega))).trans a_26.1, FO_tr hfo0 a_26.2⟩)⟩)))⟩ [0, 1, 2, 3, 4] rfl (by decide) trivial (Nat.le_of_ble_eq_true rfl) (Nat.le_of_ble_eq_true rfl) dX12_reads_68
  · have nc_10 := cv_nle (a := u6) (b := y11__5) (by omega) (by omega) c_10
    refine lv_aload_n hx hb dX12_reads_35 rfl (lv_at hl 0 rfl) ?_
    refine va_get (D := D) (ci := 12) (v := .ref a5) (C := RX12) (T := TX12) (N := 30) hx hb hts inlX12 hown hK hP 0 rfl rfl 5 (by decide) (hts _ mw_191) (fun _ h9 => h9) rfl dX12_reads_36 ?_
    refine lv_aload_n hx hb dX12_reads_39 rfl (lv_at hl 0 rfl) ?_
    refine va_get (D := D) (ci := 12) (v := .int (nI y11__5)) (C := RX12) (T := TX12) (N := 30) hx hb hts inlX12 hown hK hP 0 rfl rfl 11 (by decide) (hts _ mw_423) (fun _ h9 => h9) rfl dX12_reads_40 ?_
    refine va_iald hx hb hK hP 2 0 rfl rfl (i := nI y11__5) (vp_in_nI (n := y11__5) (by omega) (by omega)) dX12_reads_43 ?_
    refine kv (v := .int (tp y11__5)) (by rw [nI_clamp (by omega)]) ?_
    obtain ⟨x_27, ex_27⟩ : ∃ y9 : Int32, tp y11__5 = y9 := ⟨_, rfl⟩
    refine kv (v := .int x_27) (congrArg Value.int ex_27) ?_
    refine lv_aload_n hx hb dX12_reads_44 rfl (lv_at hl 0 rfl) ?_
    refine va_get (D := D) (ci := 12) (v := .ref a0) (C := RX12) (T := TX12) (N := 30) hx hb hts inlX12 hown hK hP 0 rfl rfl 0 (by decide) (hts _ mw_187) (fun _ h9 => h9) rfl dX12_reads_45 ?_
    refine lv_sipush (v := 21370) hx hb dX12_reads_48 (by decide) ?_
    refine va_iald hx hb hK hP 1 0 rfl rfl (i := 21370) (vp_k (by decide)) dX12_reads_51 ?_
    obtain ⟨x_28, ex_28⟩ : ∃ y9 : Int32, w 21370 = y9 := ⟨_, rfl⟩
    refine kv (v := .int x_28) (congrArg Value.int ex_28) ?_
    refine lv_icmp_ne (tgt := 63) hx hb dX12_reads_52 (by decide) (fun c_29 => ?_) (fun c_29 => ?_)
    · refine lv_aload_n hx hb dX12_reads_63 rfl (lv_at hl 0 rfl) ?_
      refine lv_iload_n hx hb dX12_reads_64 rfl (lv_at hl 1 rfl) ?_
      refine ct_V (wr := [(a15, .inl (κ 0, 9, .inl g_1))]) (As := [.int (nI a)]) (rest := []) hFX hKK hP hD hS hA (f_X12_plain l D κ m0 a0 a1 a2 u3 f4 a5 u6 f7 f8 f9 f10 y11__5 u12 u13 a14 a15 a16 a17 f18 f19 a20 a21 u22 a23 a24 a25 u26 f27 a28 u29 w tp g_3 a (by omega) (by assumption) h_a0 hf_4 (by omega) (by omega) hfc0) 1 gV_X12_226 hdV_X12_plain ⟨Nat.le_of_ble_eq_true rfl, Nat.le_of_ble_eq_true rfl⟩ rfl rfl (Nat.le_of_ble_eq_true rfl) dX12_reads_65 ⟨Nat.le_of_ble_eq_true rfl, Nat.le_of_ble_eq_true rfl⟩ hl.1 [0, 1, 2, 3] [4] rfl rfl (by decide) (by decide) (by decide) 0 12 rfl rfl rfl trivial (fun u_37 H locs hp_38 _ hP hD hS hz_ hk_ => ?_)
      obtain ⟨r__30, xs9__31, y7__32, y8__33, y9__34, y11__35, g_a14__36⟩ := u_37
      replace hP : va_P D vwCl [(m0, .inr (12, [.ref a0, .ref a1, .ref a2, .int (nI u3), .int f4, .ref a5, .int (nI u6), .int y7__32, .int y8__33, .int y9__34, .int f10, .int (nI y11__35), .int (nI u12), .int (nI u13), .ref a14, .ref a15, .ref a16, .ref a17, .int f18, .int f19, .ref a20, .ref a21, .int (nI u22), .ref a23, .ref a24, .ref a25, .int (nI u26), .int f27, .ref a28, .int (nI u29)])), (a0, .inl (κ 0, 21375, .inl w)), (a5, .inl (κ 0, 800, .inl tp)), (a14, .inl (κ 0, 189, .inl g_a14__36)), (a15, .inl (κ 0, 9, .inl g_1))] H := hP.sub [1, 2, 3, 4, 0] rfl
      replace hD : va_D A [(m0, .inr (12, [.ref a0, .ref a1, .ref a2, .int (nI u3), .int f4, .ref a5, .int (nI u6), .int y7__32, .int y8__33, .int y9__34, .int f10, .int (nI y11__35), .int (nI u12), .int (nI u13), .ref a14, .ref a15, .ref a16, .ref a17, .int f18, .int f19, .ref a20, .ref a21, .int (nI u22), .ref a23, .ref a24, .ref a25, .int (nI u26), .int f27, .ref a28, .int (nI u29)])), (a0, .inl (κ 0, 21375, .inl w)), (a5, .inl (κ 0, 800, .inl tp)), (a14, .inl (κ 0, 189, .inl g_a14__36)), (a15, .inl (κ 0, 9, .inl g_1))] := hD.sub [1, 2, 3, 4, 0] (by decide) rfl
      replace hp_38 : PF y8__33 ∧ Pfd g_a14__36 ∧ y11__5 ≤ y11__35 ∧ y11__35 ≤ u6 ∧ ((r__30 = 1 ∧ ((plF tp (dW w) (u6 - y11__5) y11__5 0 [] = some (y11__35, xs9__31) ∧ FC g_a14__36 a xs9__31) ∧ FO g_3 g_a14__36 a)) ∨ (r__30 = 0 ∧ (plF tp (dW w) (u6 - y11__5) y11__5 0 [] = none ∧ FO g_3 g_a14__36 a))) := hp_38
      obtain ⟨h_39, h_40, h_41, h_42, ha_43⟩ := hp_38
      rcases ha_43 with ⟨rfl, a_44⟩ | ⟨rfl, a_45⟩
      · refine W.eq (g2 := F0 m 68 ls [.int 1]) rfl ?_
        exact ct_iret hx hb hr hlk rfl hS hP hD (1, xs9__31, y7__32, y8__33, y9__34, y11__35, g_a14__36, g_1) rfl ⟨(show PF y8__33 from (by assumption)), (show Pfd g_a14__36 from (by first | assumption | omega | rfl | exact Or.inl (by assumption) | exact Or.inr (by assumption))), (show Pb 9 800 g_1 from (by first | assumption | omega | rfl | exact Or.inl (by assumption) | exact Or.inr (by assumption))), (show u11 ≤ y11__35 from (by first | assumption | omega | rfl | exact Or.inl (by assumption) | exact Or.inr (by assumption))), (show y11__35 ≤ u6 from (by first | assumption | omega | rfl | exact Or.inl (by assumption) | exact Or.inr (by assumption))), (by exact Or.inl (⟨rfl, (show (fdF tp (dW w) u6 u11 = some (y11__35, xs9__31) ∧ FC g_a14__36 a xs9__31) ∧ FO fd g_a14__36 a ∧ g_1 a = nI u11 ∧ ∀ p : Nat, ¬ p = a → g_1 p = fa p from ⟨⟨(fd_p h_9 (Or.inr (fun h9 => c_29 ((ex_27.symm.trans h9).trans ex_28)))).trans a_44.1.1, a_44.1.2⟩, FO_tr hfo0 a_44.2, hat0⟩)⟩))⟩ [0, 1, 2, 3, 4] rfl (by decide) trivial (Nat.le_of_ble_eq_true rfl) (Nat.le_of_ble_eq_true rfl) dX12_reads_68
      · refine W.eq (g2 := F0 m 68 ls [.int 0]) rfl ?_
        exact ct_iret hx hb hr hlk rfl hS hP hD (0, xs9__31, y7__32, y8__33, y9__34, y11__35, g_a14__36, g_1) rfl ⟨(show PF y8__33 from (by assumption)), (show Pfd g_a14__36 from (by first | assumption | omega | rfl | exact Or.inl (by assumption) | exact Or.inr (by assumption))), (show Pb 9 800 g_1 from (by first | assumption | omega | rfl | exact Or.inl (by assumption) | exact Or.inr (by assumption))), (show u11 ≤ y11__35 from (by first | assumption | omega | rfl | exact Or.inl (by assumption) | exact Or.inr (by assumption))), (show y11__35 ≤ u6 from (by first | assumption | omega | rfl | exact Or.inl (by assumption) | exact Or.inr (by assumption))), (by exact Or.inr ((⟨rfl, (show fdF tp (dW w) u6 u11 = none ∧ FO fd g_a14__36 a from ⟨(fd_p h_9 (Or.inr (fun h9 => c_29 ((ex_27.symm.trans h9).trans ex_28)))).trans a_45.1, FO_tr hfo0 a_45.2⟩)⟩)))⟩ [0, 1, 2, 3, 4] rfl (by decide) trivial (Nat.le_of_ble_eq_true rfl) (Nat.le_of_ble_eq_true rfl) dX12_reads_68
    · refine lv_aload_n hx hb dX12_reads_55 rfl (lv_at hl 0 rfl) ?_
      refine lv_iload_n hx hb dX12_reads_56 rfl (lv_at hl 1 rfl) ?_
      refine ct_V (wr := [(a15, .inl (κ 0, 9, .inl g_1))]) (As := [.int (nI a)]) (rest := []) hFX hKK hP hD hS hA (f_X12_quoted l D κ m0 a0 a1 a2 u3 f4 a5 u6 f7 f8 f9 f10 y11__5 u12 u13 a14 a15 a16 a17 f18 f19 a20 a21 u22 a23 a24 a25 u26 f27 a28 u29 w tp g_3 a (by omega) (by assumption) h_a0 hf_4 (by omega) (by omega) hfc0 (by assumption)) 1 gV_X12_223 hdV_X12_quoted ⟨Nat.le_of_ble_eq_true rfl, Nat.le_of_ble_eq_true rfl⟩ rfl rfl (Nat.le_of_ble_eq_true rfl) dX12_reads_57 ⟨Nat.le_of_ble_eq_true rfl, Nat.le_of_ble_eq_true rfl⟩ hl.1 [0, 1, 2, 3] [4] rfl rfl (by decide) (by decide) (by decide) 0 12 rfl rfl rfl trivial (fun u_53 H locs hp_54 _ hP hD hS hz_ hk_ => ?_)
      obtain ⟨r__46, xs9__47, y7__48, y8__49, y9__50, y11__51, g_a14__52⟩ := u_53
      replace hP : va_P D vwCl [(m0, .inr (12, [.ref a0, .ref a1, .ref a2, .int (nI u3), .int f4, .ref a5, .int (nI u6), .int y7__48, .int y8__49, .int y9__50, .int f10, .int (nI y11__51), .int (nI u12), .int (nI u13), .ref a14, .ref a15, .ref a16, .ref a17, .int f18, .int f19, .ref a20, .ref a21, .int (nI u22), .ref a23, .ref a24, .ref a25, .int (nI u26), .int f27, .ref a28, .int (nI u29)])), (a0, .inl (κ 0, 21375, .inl w)), (a5, .inl (κ 0, 800, .inl tp)), (a14, .inl (κ 0, 189, .inl g_a14__52)), (a15, .inl (κ 0, 9, .inl g_1))] H := hP.sub [1, 2, 3, 4, 0] rfl
      replace hD : va_D A [(m0, .inr (12, [.ref a0, .ref a1, .ref a2, .int (nI u3), .int f4, .ref a5, .int (nI u6), .int y7__48, .int y8__49, .int y9__50, .int f10, .int (nI y11__51), .int (nI u12), .int (nI u13), .ref a14, .ref a15, .ref a16, .ref a17, .int f18, .int f19, .ref a20, .ref a21, .int (nI u22), .ref a23, .ref a24, .ref a25, .int (nI u26), .int f27, .ref a28, .int (nI u29)])), (a0, .inl (κ 0, 21375, .inl w)), (a5, .inl (κ 0, 800, .inl tp)), (a14, .inl (κ 0, 189, .inl g_a14__52)), (a15, .inl (κ 0, 9, .inl g_1))] := hD.sub [1, 2, 3, 4, 0] (by decide) rfl
      replace hp_54 : PF y8__49 ∧ Pfd g_a14__52 ∧ y11__5 ≤ y11__51 ∧ y11__51 ≤ u6 ∧ ((r__46 = 1 ∧ ((qbF tp (dW w) u6 (y11__5 + 1) = some (y11__51, xs9__47) ∧ FC g_a14__52 a xs9__47) ∧ FO g_3 g_a14__52 a)) ∨ (r__46 = 0 ∧ (qbF tp (dW w) u6 (y11__5 + 1) = none ∧ FO g_3 g_a14__52 a))) := hp_54
      obtain ⟨h_55, h_56, h_57, h_58, ha_59⟩ := hp_54
      rcases ha_59 with ⟨rfl, a_60⟩ | ⟨rfl, a_61⟩
      · refine W.eq (g2 := F0 m 60 ls [.int 1]) rfl ?_
        refine lv_goto (tgt := 68) hx hb dX12_reads_60 (by decide) ?_
        exact ct_iret hx hb hr hlk rfl hS hP hD (1, xs9__47, y7__48, y8__49, y9__50, y11__51, g_a14__52, g_1) rfl ⟨(show PF y8__49 from (by assumption)), (show Pfd g_a14__52 from (by first | assumption | omega | rfl | exact Or.inl (by assumption) | exact Or.inr (by assumption))), (show Pb 9 800 g_1 from (by first | assumption | omega | rfl | exact Or.inl (by assumption) | exact Or.inr (by assumption))), (show u11 ≤ y11__51 from (by first | assumption | omega | rfl | exact Or.inl (by assumption) | exact Or.inr (by assumption))), (show y11__51 ≤ u6 from (by first | assumption | omega | rfl | exact Or.inl (by assumption) | exact Or.inr (by assumption))), (by exact Or.inl (⟨rfl, (show (fdF tp (dW w) u6 u11 = some (y11__51, xs9__47) ∧ FC g_a14__52 a xs9__47) ∧ FO fd g_a14__52 a ∧ g_1 a = nI u11 ∧ ∀ p : Nat, ¬ p = a → g_1 p = fa p from ⟨⟨(fd_qb h_9 (by omega) (ex_27.trans (c_29.trans ex_28.symm))).trans a_60.1.1, a_60.1.2⟩, FO_tr hfo0 a_60.2, hat0⟩)⟩))⟩ [0, 1, 2, 3, 4] rfl (by decide) trivial (Nat.le_of_ble_eq_true rfl) (Nat.le_of_ble_eq_true rfl) dX12_reads_68
      · refine W.eq (g2 := F0 m 60 ls [.int 0]) rfl ?_
        refine lv_goto (tgt := 68) hx hb dX12_reads_60 (by decide) ?_
        exact ct_iret hx hb hr hlk rfl hS hP hD (0, xs9__47, y7__48, y8__49, y9__50, y11__51, g_a14__52, g_1) rfl ⟨(show PF y8__49 from (by assumption)), (show Pfd g_a14__52 from (by first | assumption | omega | rfl | exact Or.inl (by assumption) | exact Or.inr (by assumption))), (show Pb 9 800 g_1 from (by first | assumption | omega | rfl | exact Or.inl (by assumption) | exact Or.inr (by assumption))), (show u11 ≤ y11__51 from (by first | assumption | omega | rfl | exact Or.inl (by assumption) | exact Or.inr (by assumption))), (show y11__51 ≤ u6 from (by first | assumption | omega | rfl | exact Or.inl (by assumption) | exact Or.inr (by assumption))), (by exact Or.inr ((⟨rfl, (show fdF tp (dW w) u6 u11 = none ∧ FO fd g_a14__52 a from ⟨(fd_qb h_9 (by omega) (ex_27.trans (c_29.trans ex_28.symm))).trans a_61.1, FO_tr hfo0 a_61.2⟩)⟩)))⟩ [0, 1, 2, 3, 4] rfl (by decide) trivial (Nat.le_of_ble_eq_true rfl) (Nat.le_of_ble_eq_true rfl) dX12_reads_68
set_option maxHeartbeats 4000000 in
set_option maxRecDepth 100000 in
theorem f_X12_readsLine (l : Launch) (D : va_G) (κ : Nat → ClassId) (m0 : Nat) (a0 : Nat) (a1 : Nat) (a2 : Nat) (u3 : Nat) (f4 : Int32) (a5 : Nat) (u6 : Nat) (f7 : Int32) (f8 : Int32) (f9 : Int32) (f10 : Int32) (u11 : Nat) (u12 : Nat) (u13 : Nat) (a14 : Nat) (a15 : Nat) (a16 : Nat) (a17 : Nat) (f18 : Int32) (f19 : Int32) (a20 : Nat) (a21 : Nat) (u22 : Nat) (a23 : Nat) (a24 : Nat) (a25 : Nat) (u26 : Nat) (f27 : Int32) (a28 : Nat) (u29 : Nat) (w : Nat → Int32) (tp : Nat → Int32) (fd : Nat → Int32) (fa : Nat → Int32) (pt : Nat → Int32) (h6 : u6 ≤ 800) (h8 : PF f8) (h13 : u13 ≤ 800) (h_a0 : Pw w) (h_a14 : Pfd fd) (h_a15 : Pb 9 800 fa) (h_a16 : Pb 9 800 pt) (h11 : u11 ≤ u6) (hsq : sgB (w 21370) = true) : Ct l yX12_readsLine (wl yX12_readsLine cX12_readsLine 1 (some .boolean)) { frames := 4, cells := 0, slots := 0, locals := 91 } D κ [.ref m0] [(m0, .inr (12, [.ref a0, .ref a1, .ref a2, .int (nI u3), .int f4, .ref a5, .int (nI u6), .int f7, .int f8, .int f9, .int f10, .int (nI u11), .int (nI u12), .int (nI u13), .ref a14, .ref a15, .ref a16, .ref a17, .int f18, .int f19, .ref a20, .ref a21, .int (nI u22), .ref a23, .ref a24, .ref a25, .int (nI u26), .int f27, .ref a28, .int (nI u29)])), (a0, .inl (κ 0, 21375, .inl w)), (a5, .inl (κ 0, 800, .inl tp)), (a14, .inl (κ 0, 189, .inl fd)), (a15, .inl (κ 0, 9, .inl fa)), (a16, .inl (κ 0, 9, .inl pt))] (fun _ => True) (fun u9 : Int32 × List (List Int32) × Int32 × Int32 × Int32 × Nat × Nat × Nat × (Nat → Int32) × (Nat → Int32) × (Nat → Int32) => some (.int u9.1)) (fun u9 : Int32 × List (List Int32) × Int32 × Int32 × Int32 × Nat × Nat × Nat × (Nat → Int32) × (Nat → Int32) × (Nat → Int32) => PF u9.2.2.2.1 ∧ u9.2.2.2.2.2.2.1 ≤ 8 ∧ u9.2.2.2.2.2.2.2.1 ≤ 800 ∧ Pfd u9.2.2.2.2.2.2.2.2.1 ∧ Pb 9 800 u9.2.2.2.2.2.2.2.2.2.1 ∧ Pb 9 800 u9.2.2.2.2.2.2.2.2.2.2 ∧ u11 ≤ u9.2.2.2.2.2.1 ∧ u9.2.2.2.2.2.1 ≤ u6 ∧ ((u9.1 = 1 ∧ 1 ≤ u9.2.2.2.2.2.2.1 ∧ (lnF tp (dW w) u6 8 u11 [] = some (u9.2.2.2.2.2.1, u9.2.1) ∧ FL u9.2.2.2.2.2.2.2.2.1 u9.2.2.2.2.2.2.1 u9.2.1)) ∨ (u9.1 = 0 ∧ lnF tp (dW w) u6 8 u11 [] = none))) (fun u9 : Int32 × List (List Int32) × Int32 × Int32 × Int32 × Nat × Nat × Nat × (Nat → Int32) × (Nat → Int32) × (Nat → Int32) => [(m0, .inr (12, [.ref a0, .ref a1, .ref a2, .int (nI u3), .int f4, .ref a5, .int (nI u6), .int u9.2.2.1, .int u9.2.2.2.1, .int u9.2.2.2.2.1, .int f10, .int (nI u9.2.2.2.2.2.1), .int (nI u9.2.2.2.2.2.2.1), .int (nI u9.2.2.2.2.2.2.2.1), .ref a14, .ref a15, .ref a16, .ref a17, .int f18, .int f19, .ref a20, .ref a21, .int (nI u22), .ref a23, .ref a24, .ref a25, .int (nI u26), .int f27, .ref a28, .int (nI u29)])), (a0, .inl (κ 0, 21375, .inl w)), (a5, .inl (κ 0, 800, .inl tp)), (a14, .inl (κ 0, 189, .inl u9.2.2.2.2.2.2.2.2.1)), (a15, .inl (κ 0, 9, .inl u9.2.2.2.2.2.2.2.2.2.1)), (a16, .inl (κ 0, 9, .inl u9.2.2.2.2.2.2.2.2.2.2))]) (fun _ _ => True) := by
  refine ct_of (by decide +kernel) (Nat.le_of_ble_eq_true rfl) ?_
  intro p e s m args below meth c A ls hx hb hr hml hts hown hlk hin hKK hK hA hP hD hS hI hl
  have hS : va_S A s.heap s.heap [] := hS
  have hFX : FX p s m args c cX12_readsLine 1 RX12 := ⟨hx, hb, hml, hown, hts⟩
  have hl : lv_has ls 1 [(0, .ref m0)] := hl
  refine lv_aload_n hx hb dX12_readsLine_0 rfl (lv_at hl 0 rfl) ?_
  refine lv_iconst (v := 0) hx hb dX12_readsLine_1 (by decide) ?_
  refine va_put (D := D) (ci := 12) (v := .int 0) (ty := tyX12 12) (C := RX12) (T := TX12) (N := 30) hx hb hts inlX12 tyX12 tyX12_ok nmX12 hown hK hP hD hS 0 rfl rfl 12 (by decide) (hts _ mw_446) (fun _ h9 => h9) rfl (tyX12_ok 12 (by decide)) rfl rfl (Nat.le_of_ble_eq_true rfl) dX12_readsLine_2 (fun H locs hP hD hS => ?_)
  have hP : va_P D vwCl [(m0, .inr (12, [.ref a0, .ref a1, .ref a2, .int (nI u3), .int f4, .ref a5, .int (nI u6), .int f7, .int f8, .int f9, .int f10, .int (nI u11), .int 0, .int (nI u13), .ref a14, .ref a15, .ref a16, .ref a17, .int f18, .int f19, .ref a20, .ref a21, .int (nI u22), .ref a23, .ref a24, .ref a25, .int (nI u26), .int f27, .ref a28, .int (nI u29)])), (a0, .inl (κ 0, 21375, .inl w)), (a5, .inl (κ 0, 800, .inl tp)), (a14, .inl (κ 0, 189, .inl fd)), (a15, .inl (κ 0, 9, .inl fa)), (a16, .inl (κ 0, 9, .inl pt))] H := hP
  have hD : va_D A [(m0, .inr (12, [.ref a0, .ref a1, .ref a2, .int (nI u3), .int f4, .ref a5, .int (nI u6), .int f7, .int f8, .int f9, .int f10, .int (nI u11), .int 0, .int (nI u13), .ref a14, .ref a15, .ref a16, .ref a17, .int f18, .int f19, .ref a20, .ref a21, .int (nI u22), .ref a23, .ref a24, .ref a25, .int (nI u26), .int f27, .ref a28, .int (nI u29)])), (a0, .inl (κ 0, 21375, .inl w)), (a5, .inl (κ 0, 800, .inl tp)), (a14, .inl (κ 0, 189, .inl fd)), (a15, .inl (κ 0, 9, .inl fa)), (a16, .inl (κ 0, 9, .inl pt))] := hD
  refine loop_dn (fun k9 H locs ls => ∃ (v7_5 : Int32), ∃ (v8_5 : Int32), ∃ (v9_5 : Int32), ∃ (v11_5 : Nat), ∃ (v12_5 : Nat), ∃ (ga14_5 : Nat → Int32), ∃ (ga15_5 : Nat → Int32), ∃ (ga16_5 : Nat → Int32), ∃ (Gfs_5 : List (List Int32)), (u11 ≤ v11_5) ∧ (v11_5 ≤ u6) ∧ (v12_5 ≤ 7) ∧ (lnF tp (dW w) u6 (8 - v12_5) v11_5 Gfs_5 = lnF tp (dW w) u6 8 u11 []) ∧ (FL ga14_5 v12_5 Gfs_5) ∧ (PF v8_5) ∧ Pfd ga14_5 ∧ Pb 9 800 ga15_5 ∧ Pb 9 800 ga16_5 ∧ u6 - v11_5 = k9 ∧ va_P D vwCl [(m0, .inr (12, [.ref a0, .ref a1, .ref a2, .int (nI u3), .int f4, .ref a5, .int (nI u6), .int v7_5, .int v8_5, .int v9_5, .int f10, .int (nI v11_5), .int (nI v12_5), .int (nI u13), .ref a14, .ref a15, .ref a16, .ref a17, .int f18, .int f19, .ref a20, .ref a21, .int (nI u22), .ref a23, .ref a24, .ref a25, .int (nI u26), .int f27, .ref a28, .int (nI u29)])), (a0, .inl (κ 0, 21375, .inl w)), (a5, .inl (κ 0, 800, .inl tp)), (a14, .inl (κ 0, 189, .inl ga14_5)), (a15, .inl (κ 0, 9, .inl ga15_5)), (a16, .inl (κ 0, 9, .inl ga16_5))] H ∧ va_D A [(m0, .inr (12, [.ref a0, .ref a1, .ref a2, .int (nI u3), .int f4, .ref a5, .int (nI u6), .int v7_5, .int v8_5, .int v9_5, .int f10, .int (nI v11_5), .int (nI v12_5), .int (nI u13), .ref a14, .ref a15, .ref a16, .ref a17, .int f18, .int f19, .ref a20, .ref a21, .int (nI u22), .ref a23, .ref a24, .ref a25, .int (nI u26), .int f27, .ref a28, .int (nI u29)])), (a0, .inl (κ 0, 21375, .inl w)), (a5, .inl (κ 0, 800, .inl tp)), (a14, .inl (κ 0, 189, .inl ga14_5)), (a15, .inl (κ 0, 9, .inl ga15_5)), (a16, .inl (κ 0, 9, .inl ga16_5))] ∧ va_S A s.heap H locs ∧ lv_has ls 1 [(0, .ref m0)]) (fun k9 H locs ls hI5 ih5 => ?_) (u6 - u11) _ _ _ ⟨f7, f8, f9, u11, 0, fd, fa, pt, ([]), (by omega), (by omega), (by omega), rfl, FL_0, (by assumption), h_a14, h_a15, h_a16, rfl, hP, hD, hS, lv_sub hl [0] rfl⟩
  obtain ⟨v7_5, v8_5, v9_5, v11_5, v12_5, ga14_5, ga15_5, ga16_5, Gfs_5, hl5_0, hl5_1, hl5_2, hl5_3, hl5_4, hl5_5, hg5_0, hg5_1, hg5_2, hm5, hP, hD, hS, hl⟩ := hI5
  refine lv_aload_n hx hb dX12_readsLine_5 rfl (lv_at hl 0 rfl) ?_
  refine lv_aload_n hx hb dX12_readsLine_6 rfl (lv_at hl 0 rfl) ?_
  refine va_get (D := D) (ci := 12) (v := .int (nI v12_5)) (C := RX12) (T := TX12) (N := 30) hx hb hts inlX12 hown hK hP 0 rfl rfl 12 (by decide) (hts _ mw_446) (fun _ h9 => h9) rfl dX12_readsLine_7 ?_
  refine ct_V (wr := [(a16, .inl (κ 0, 9, .inl ga16_5))]) (As := [.int (nI v12_5)]) (rest := []) hFX hKK hP hD hS hA (f_X12_reads l D κ m0 a0 a1 a2 u3 f4 a5 u6 v7_5 v8_5 v9_5 f10 v11_5 v12_5 u13 a14 a15 a16 a17 f18 f19 a20 a21 u22 a23 a24 a25 u26 f27 a28 u29 w tp ga14_5 ga15_5 v12_5 (by omega) (by assumption) h_a0 hg5_0 hg5_1 (by omega) (by omega) (by assumption)) 1 gV_X12_232 hdV_X12_reads ⟨Nat.le_of_ble_eq_true rfl, Nat.le_of_ble_eq_true rfl⟩ rfl rfl (Nat.le_of_ble_eq_true rfl) dX12_readsLine_10 ⟨Nat.le_of_ble_eq_true rfl, Nat.le_of_ble_eq_true rfl⟩ hl.1 [0, 1, 2, 3, 4] [5] rfl rfl (by decide) (by decide) (by decide) 0 12 rfl rfl rfl trivial (fun u_9 H locs hp_10 _ hP hD hS hz_ hk_ => ?_)
  obtain ⟨r__1, xs9__2, y7__3, y8__4, y9__5, y11__6, g_a14__7, g_a15__8⟩ := u_9
  replace hP : va_P D vwCl [(m0, .inr (12, [.ref a0, .ref a1, .ref a2, .int (nI u3), .int f4, .ref a5, .int (nI u6), .int y7__3, .int y8__4, .int y9__5, .int f10, .int (nI y11__6), .int (nI v12_5), .int (nI u13), .ref a14, .ref a15, .ref a16, .ref a17, .int f18, .int f19, .ref a20, .ref a21, .int (nI u22), .ref a23, .ref a24, .ref a25, .int (nI u26), .int f27, .ref a28, .int (nI u29)])), (a0, .inl (κ 0, 21375, .inl w)), (a5, .inl (κ 0, 800, .inl tp)), (a14, .inl (κ 0, 189, .inl g_a14__7)), (a15, .inl (κ 0, 9, .inl g_a15__8)), (a16, .inl (κ 0, 9, .inl ga16_5))] H := hP.sub [1, 2, 3, 4, 5, 0] rfl
  replace hD : va_D A [(m0, .inr (12, [.ref a0, .ref a1, .ref a2, .int (nI u3), .int f4, .ref a5, .int (nI u6), .int y7__3, .int y8__4, .int y9__5, .int f10, .int (nI y11__6), .int (nI v12_5), .int (nI u13), .ref a14, .ref a15, .ref a16, .ref a17, .int f18, .int f19, .ref a20, .ref a21, .int (nI u22), .ref a23, .ref a24, .ref a25, .int (nI u26), .int f27, .ref a28, .int (nI u29)])), (a0, .inl (κ 0, 21375, .inl w)), (a5, .inl (κ 0, 800, .inl tp)), (a14, .inl (κ 0, 189, .inl g_a14__7)), (a15, .inl (κ 0, 9, .inl g_a15__8)), (a16, .inl (κ 0, 9, .inl ga16_5))] := hD.sub [1, 2, 3, 4, 5, 0] (by decide) rfl
  replace hp_10 : PF y8__4 ∧ Pfd g_a14__7 ∧ Pb 9 800 g_a15__8 ∧ v11_5 ≤ y11__6 ∧ y11__6 ≤ u6 ∧ ((r__1 = 1 ∧ ((fdF tp (dW w) u6 v11_5 = some (y11__6, xs9__2) ∧ FC g_a14__7 v12_5 xs9__2) ∧ FO ga14_5 g_a14__7 v12_5 ∧ g_a15__8 v12_5 = nI v11_5 ∧ ∀ p : Nat, ¬ p = v12_5 → g_a15__8 p = ga15_5 p)) ∨ (r__1 = 0 ∧ (fdF tp (dW w) u6 v11_5 = none ∧ FO ga14_5 g_a14__7 v12_5))) := hp_10
  obtain ⟨h_11, h_12, h_13, h_14, h_15, ha_16⟩ := hp_10
  rcases ha_16 with ⟨rfl, a_17⟩ | ⟨rfl, a_18⟩
  · refine W.eq (g2 := F0 m 13 ls [.int 1]) rfl ?_
    refine lv_if_ne (tgt := 18) hx hb dX12_readsLine_13 (by decide) (fun c_19 => ?_) (fun c_19 => absurd c_19 (by decide))
    have hfl_20 := FL_add hl5_4 a_17.2.1 a_17.1.2
    refine lv_aload_n hx hb dX12_readsLine_18 rfl (lv_at hl 0 rfl) ?_
    refine lv_dup hx hb dX12_readsLine_19 rfl ?_
    refine va_get (D := D) (ci := 12) (v := .int (nI v12_5)) (C := RX12) (T := TX12) (N := 30) hx hb hts inlX12 hown hK hP 0 rfl rfl 12 (by decide) (hts _ mw_446) (fun _ h9 => h9) rfl dX12_readsLine_20 ?_
    refine lv_iconst (v := 1) hx hb dX12_readsLine_23 (by decide) ?_
    refine lv_iadd hx hb dX12_readsLine_24 ?_
    refine ki (v := (nI (v12_5 + 1))) (nI_add v12_5 1) ?_
    refine va_put (D := D) (ci := 12) (v := .int (nI (v12_5 + 1))) (ty := tyX12 12) (C := RX12) (T := TX12) (N := 30) hx hb hts inlX12 tyX12 tyX12_ok nmX12 hown hK hP hD hS 0 rfl rfl 12 (by decide) (hts _ mw_446) (fun _ h9 => h9) rfl (tyX12_ok 12 (by decide)) rfl rfl (Nat.le_of_ble_eq_true rfl) dX12_readsLine_25 (fun H locs hP hD hS => ?_)
    have hP : va_P D vwCl [(m0, .inr (12, [.ref a0, .ref a1, .ref a2, .int (nI u3), .int f4, .ref a5, .int (nI u6), .int y7__3, .int y8__4, .int y9__5, .int f10, .int (nI y11__6), .int (nI (v12_5 + 1)), .int (nI u13), .ref a14, .ref a15, .ref a16, .ref a17, .int f18, .int f19, .ref a20, .ref a21, .int (nI u22), .ref a23, .ref a24, .ref a25, .int (nI u26), .int f27, .ref a28, .int (nI u29)])), (a0, .inl (κ 0, 21375, .inl w)), (a5, .inl (κ 0, 800, .inl tp)), (a14, .inl (κ 0, 189, .inl g_a14__7)), (a15, .inl (κ 0, 9, .inl g_a15__8)), (a16, .inl (κ 0, 9, .inl ga16_5))] H := hP
    have hD : va_D A [(m0, .inr (12, [.ref a0, .ref a1, .ref a2, .int (nI u3), .int f4, .ref a5, .int (nI u6), .int y7__3, .int y8__4, .int y9__5, .int f10, .int (nI y11__6), .int (nI (v12_5 + 1)), .int (nI u13), .ref a14, .ref a15, .ref a16, .ref a17, .int f18, .int f19, .ref a20, .ref a21, .int (nI u22), .ref a23, .ref a24, .ref a25, .int (nI u26), .int f27, .ref a28, .int (nI u29)])), (a0, .inl (κ 0, 21375, .inl w)), (a5, .inl (κ 0, 800, .inl tp)), (a14, .inl (κ 0, 189, .inl g_a14__7)), (a15, .inl (κ 0, 9, .inl g_a15__8)), (a16, .inl (κ 0, 9, .inl ga16_5))] := hD
    refine lv_aload_n hx hb dX12_readsLine_28 rfl (lv_at hl 0 rfl) ?_
    refine cr_V (As := []) (rest := []) hFX hKK (f_X12_isEnd l D κ m0 a0 a1 a2 u3 f4 a5 u6 y7__3 y8__4 y9__5 f10 y11__6 (v12_5 + 1) u13 a14 a15 a16 a17 f18 f19 a20 a21 u22 a23 a24 a25 u26 f27 a28 u29 tp (by omega) (by omega)) 0 gV_X12_198 hdV_X12_isEnd rfl rfl ⟨Nat.le_of_ble_eq_true rfl, Nat.le_of_ble_eq_true rfl⟩ rfl rfl (Nat.le_of_ble_eq_true rfl) dX12_readsLine_29 ⟨Nat.le_of_ble_eq_true rfl, Nat.le_of_ble_eq_true rfl⟩ hl.1 hP 0 12 rfl rfl rfl (hP.sub [0, 2] rfl) (fun r__21 hp_22 => ?_)
    replace hp_22 : ((r__21 = 1 ∧ (y11__6 = u6 ∨ tp y11__6 = 10)) ∨ (r__21 = 0 ∧ y11__6 < u6 ∧ ¬ tp y11__6 = 10)) := hp_22
    have ha_23 := hp_22
    clear hp_22
    rcases ha_23 with ⟨rfl, a_24⟩ | ⟨rfl, a_25, a_26⟩
    · refine W.eq (g2 := F0 m 32 ls [.int 1]) rfl ?_
      refine lv_if_eq (tgt := 38) hx hb dX12_readsLine_32 (by decide) (fun c_27 => absurd c_27 (by decide)) (fun c_27 => ?_)
      refine lv_goto (tgt := 85) hx hb dX12_readsLine_35 (by decide) ?_
      refine lv_aload_n hx hb dX12_readsLine_85 rfl (lv_at hl 0 rfl) ?_
      refine lv_aload_n hx hb dX12_readsLine_86 rfl (lv_at hl 0 rfl) ?_
      refine va_get (D := D) (ci := 12) (v := .int (nI y11__6)) (C := RX12) (T := TX12) (N := 30) hx hb hts inlX12 hown hK hP 0 rfl rfl 11 (by decide) (hts _ mw_423) (fun _ h9 => h9) rfl dX12_readsLine_87 ?_
      refine va_put (D := D) (ci := 12) (v := .int (nI y11__6)) (ty := tyX12 13) (C := RX12) (T := TX12) (N := 30) hx hb hts inlX12 tyX12 tyX12_ok nmX12 hown hK hP hD hS 0 rfl rfl 13 (by decide) (hts _ mw_447) (fun _ h9 => h9) rfl (tyX12_ok 13 (by decide)) rfl rfl (Nat.le_of_ble_eq_true rfl) dX12_readsLine_90 (fun H locs hP hD hS => ?_)
      have hP : va_P D vwCl [(m0, .inr (12, [.ref a0, .ref a1, .ref a2, .int (nI u3), .int f4, .ref a5, .int (nI u6), .int y7__3, .int y8__4, .int y9__5, .int f10, .int (nI y11__6), .int (nI (v12_5 + 1)), .int (nI y11__6), .ref a14, .ref a15, .ref a16, .ref a17, .int f18, .int f19, .ref a20, .ref a21, .int (nI u22), .ref a23, .ref a24, .ref a25, .int (nI u26), .int f27, .ref a28, .int (nI u29)])), (a0, .inl (κ 0, 21375, .inl w)), (a5, .inl (κ 0, 800, .inl tp)), (a14, .inl (κ 0, 189, .inl g_a14__7)), (a15, .inl (κ 0, 9, .inl g_a15__8)), (a16, .inl (κ 0, 9, .inl ga16_5))] H := hP
      have hD : va_D A [(m0, .inr (12, [.ref a0, .ref a1, .ref a2, .int (nI u3), .int f4, .ref a5, .int (nI u6), .int y7__3, .int y8__4, .int y9__5, .int f10, .int (nI y11__6), .int (nI (v12_5 + 1)), .int (nI y11__6), .ref a14, .ref a15, .ref a16, .ref a17, .int f18, .int f19, .ref a20, .ref a21, .int (nI u22), .ref a23, .ref a24, .ref a25, .int (nI u26), .int f27, .ref a28, .int (nI u29)])), (a0, .inl (κ 0, 21375, .inl w)), (a5, .inl (κ 0, 800, .inl tp)), (a14, .inl (κ 0, 189, .inl g_a14__7)), (a15, .inl (κ 0, 9, .inl g_a15__8)), (a16, .inl (κ 0, 9, .inl ga16_5))] := hD
      refine lv_iconst (v := 1) hx hb dX12_readsLine_93 (by decide) ?_
      exact ct_iret hx hb hr hlk rfl hS hP hD (1, Gfs_5 ++ [xs9__2], y7__3, y8__4, y9__5, y11__6, v12_5 + 1, y11__6, g_a14__7, g_a15__8, ga16_5) rfl ⟨(show PF y8__4 from (by assumption)), (show (v12_5 + 1) ≤ 8 from (by first | assumption | omega | rfl | exact Or.inl (by assumption) | exact Or.inr (by assumption))), (show y11__6 ≤ 800 from (by first | assumption | omega | rfl | exact Or.inl (by assumption) | exact Or.inr (by assumption))), (show Pfd g_a14__7 from (by first | assumption | omega | rfl | exact Or.inl (by assumption) | exact Or.inr (by assumption))), (show Pb 9 800 g_a15__8 from (by first | assumption | omega | rfl | exact Or.inl (by assumption) | exact Or.inr (by assumption))), (show Pb 9 800 ga16_5 from (by first | assumption | omega | rfl | exact Or.inl (by assumption) | exact Or.inr (by assumption))), (show u11 ≤ y11__6 from (by first | assumption | omega | rfl | exact Or.inl (by assumption) | exact Or.inr (by assumption))), (show y11__6 ≤ u6 from (by first | assumption | omega | rfl | exact Or.inl (by assumption) | exact Or.inr (by assumption))), (by exact Or.inl (⟨rfl, (show 1 ≤ (v12_5 + 1) from (by first | assumption | omega | rfl | exact Or.inl (by assumption) | exact Or.inr (by assumption))), (show lnF tp (dW w) u6 8 u11 [] = some (y11__6, (Gfs_5 ++ [xs9__2])) ∧ FL g_a14__7 (v12_5 + 1) (Gfs_5 ++ [xs9__2]) from ⟨hl5_3.symm.trans (ln_end (t := tp) (d := (dW w)) (by omega) a_17.1.1 (a_24.imp (fun h9 => by omega) id)), hfl_20⟩)⟩))⟩ [0, 1, 2, 3, 4, 5] rfl (by decide) trivial (Nat.le_of_ble_eq_true rfl) (Nat.le_of_ble_eq_true rfl) dX12_readsLine_94
    · refine W.eq (g2 := F0 m 32 ls [.int 0]) rfl ?_
      refine lv_if_eq (tgt := 38) hx hb dX12_readsLine_32 (by decide) (fun c_28 => ?_) (fun c_28 => absurd (by decide) c_28)
      refine lv_aload_n hx hb dX12_readsLine_38 rfl (lv_at hl 0 rfl) ?_
      refine va_get (D := D) (ci := 12) (v := .int (nI (v12_5 + 1))) (C := RX12) (T := TX12) (N := 30) hx hb hts inlX12 hown hK hP 0 rfl rfl 12 (by decide) (hts _ mw_446) (fun _ h9 => h9) rfl dX12_readsLine_39 ?_
      refine lv_bipush (v := 8) hx hb dX12_readsLine_42 (by decide) ?_
      refine lv_icmp_ne (tgt := 59) hx hb dX12_readsLine_44 (by decide) (fun c_29 => ?_) (fun c_29 => ?_)
      · have nc_29 := cv_ne (a := (v12_5 + 1)) (b := 8) (by omega) (by omega) c_29
        refine lv_aload_n hx hb dX12_readsLine_59 rfl (lv_at hl 0 rfl) ?_
        refine va_get (D := D) (ci := 12) (v := .ref a16) (C := RX12) (T := TX12) (N := 30) hx hb hts inlX12 hown hK hP 0 rfl rfl 16 (by decide) (hts _ mw_196) (fun _ h9 => h9) rfl dX12_readsLine_60 ?_
        refine lv_aload_n hx hb dX12_readsLine_63 rfl (lv_at hl 0 rfl) ?_
        refine va_get (D := D) (ci := 12) (v := .int (nI (v12_5 + 1))) (C := RX12) (T := TX12) (N := 30) hx hb hts inlX12 hown hK hP 0 rfl rfl 12 (by decide) (hts _ mw_446) (fun _ h9 => h9) rfl dX12_readsLine_64 ?_
        refine lv_aload_n hx hb dX12_readsLine_67 rfl (lv_at hl 0 rfl) ?_
        refine va_get (D := D) (ci := 12) (v := .int (nI y11__6)) (C := RX12) (T := TX12) (N := 30) hx hb hts inlX12 hown hK hP 0 rfl rfl 11 (by decide) (hts _ mw_423) (fun _ h9 => h9) rfl dX12_readsLine_68 ?_
        refine va_iast hx hb hK hP hD hS 5 0 rfl rfl (i := nI (v12_5 + 1)) (x := nI y11__6) (vp_in_nI (n := (v12_5 + 1)) (by omega) (by omega)) dX12_readsLine_71 (fun H locs hP hD hS => ?_)
        rw [nI_clamp (by omega)] at hP hD
        have hP : va_P D vwCl [(m0, .inr (12, [.ref a0, .ref a1, .ref a2, .int (nI u3), .int f4, .ref a5, .int (nI u6), .int y7__3, .int y8__4, .int y9__5, .int f10, .int (nI y11__6), .int (nI (v12_5 + 1)), .int (nI u13), .ref a14, .ref a15, .ref a16, .ref a17, .int f18, .int f19, .ref a20, .ref a21, .int (nI u22), .ref a23, .ref a24, .ref a25, .int (nI u26), .int f27, .ref a28, .int (nI u29)])), (a0, .inl (κ 0, 21375, .inl w)), (a5, .inl (κ 0, 800, .inl tp)), (a14, .inl (κ 0, 189, .inl g_a14__7)), (a15, .inl (κ 0, 9, .inl g_a15__8)), (a16, .inl (κ 0, 9, .inl (upd ga16_5 (v12_5 + 1) (nI y11__6))))] H := hP
        have hD : va_D A [(m0, .inr (12, [.ref a0, .ref a1, .ref a2, .int (nI u3), .int f4, .ref a5, .int (nI u6), .int y7__3, .int y8__4, .int y9__5, .int f10, .int (nI y11__6), .int (nI (v12_5 + 1)), .int (nI u13), .ref a14, .ref a15, .ref a16, .ref a17, .int f18, .int f19, .ref a20, .ref a21, .int (nI u22), .ref a23, .ref a24, .ref a25, .int (nI u26), .int f27, .ref a28, .int (nI u29)])), (a0, .inl (κ 0, 21375, .inl w)), (a5, .inl (κ 0, 800, .inl tp)), (a14, .inl (κ 0, 189, .inl g_a14__7)), (a15, .inl (κ 0, 9, .inl g_a15__8)), (a16, .inl (κ 0, 9, .inl (upd ga16_5 (v12_5 + 1) (nI y11__6))))] := hD
        have hf_31 : Pb 9 800 (upd ga16_5 (v12_5 + 1) (nI y11__6)) := (Pb_upd hg5_2 (fun _ => ⟨y11__6, by omega, rfl⟩))
        generalize upd ga16_5 (v12_5 + 1) (nI y11__6) = g_30 at hP hD hf_31
        refine lv_aload_n hx hb dX12_readsLine_72 rfl (lv_at hl 0 rfl) ?_
        refine lv_dup hx hb dX12_readsLine_73 rfl ?_
        refine va_get (D := D) (ci := 12) (v := .int (nI y11__6)) (C := RX12) (T := TX12) (N := 30) hx hb hts inlX12 hown hK hP 0 rfl rfl 11 (by decide) (hts _ mw_423) (fun _ h9 => h9) rfl dX12_readsLine_74 ?_
        refine lv_iconst (v := 1) hx hb dX12_readsLine_77 (by decide) ?_
        refine lv_iadd hx hb dX12_readsLine_78 ?_
        refine ki (v := (nI (y11__6 + 1))) (nI_add y11__6 1) ?_
        refine va_put (D := D) (ci := 12) (v := .int (nI (y11__6 + 1))) (ty := tyX12 11) (C := RX12) (T := TX12) (N := 30) hx hb hts inlX12 tyX12 tyX12_ok nmX12 hown hK hP hD hS 0 rfl rfl 11 (by decide) (hts _ mw_423) (fun _ h9 => h9) rfl (tyX12_ok 11 (by decide)) rfl rfl (Nat.le_of_ble_eq_true rfl) dX12_readsLine_79 (fun H locs hP hD hS => ?_)
        have hP : va_P D vwCl [(m0, .inr (12, [.ref a0, .ref a1, .ref a2, .int (nI u3), .int f4, .ref a5, .int (nI u6), .int y7__3, .int y8__4, .int y9__5, .int f10, .int (nI (y11__6 + 1)), .int (nI (v12_5 + 1)), .int (nI u13), .ref a14, .ref a15, .ref a16, .ref a17, .int f18, .int f19, .ref a20, .ref a21, .int (nI u22), .ref a23, .ref a24, .ref a25, .int (nI u26), .int f27, .ref a28, .int (nI u29)])), (a0, .inl (κ 0, 21375, .inl w)), (a5, .inl (κ 0, 800, .inl tp)), (a14, .inl (κ 0, 189, .inl g_a14__7)), (a15, .inl (κ 0, 9, .inl g_a15__8)), (a16, .inl (κ 0, 9, .inl g_30))] H := hP
        have hD : va_D A [(m0, .inr (12, [.ref a0, .ref a1, .ref a2, .int (nI u3), .int f4, .ref a5, .int (nI u6), .int y7__3, .int y8__4, .int y9__5, .int f10, .int (nI (y11__6 + 1)), .int (nI (v12_5 + 1)), .int (nI u13), .ref a14, .ref a15, .ref a16, .ref a17, .int f18, .int f19, .ref a20, .ref a21, .int (nI u22), .ref a23, .ref a24, .ref a25, .int (nI u26), .int f27, .ref a28, .int (nI u29)])), (a0, .inl (κ 0, 21375, .inl w)), (a5, .inl (κ 0, 800, .inl tp)), (a14, .inl (κ 0, 189, .inl g_a14__7)), (a15, .inl (κ 0, 9, .inl g_a15__8)), (a16, .inl (κ 0, 9, .inl g_30))] := hD
        refine lv_goto (tgt := 5) hx hb dX12_readsLine_82 (by decide) ?_
        exact ih5 _ _ _ _ (by omega) ⟨y7__3, y8__4, y9__5, (y11__6 + 1), (v12_5 + 1), g_a14__7, g_a15__8, g_30, (Gfs_5 ++ [xs9__2]), (by omega), (by omega), (by omega), ((ln_go (t := tp) (d := (dW w)) (by omega) a_17.1.1 (fun h9 => h9.elim (fun h8 => absurd h8 (by omega)) a_26) (Or.inl rfl)).symm.trans hl5_3), hfl_20, (by assumption), h_12, h_13, hf_31, rfl, hP, hD, hS, lv_sub hl [0] rfl⟩
      · have nc_29 := cv_eq (a := (v12_5 + 1)) (b := 8) (by omega) (by omega) c_29
        refine lv_aload_n hx hb dX12_readsLine_47 rfl (lv_at hl 0 rfl) ?_
        refine lv_bipush (v := 6) hx hb dX12_readsLine_48 (by decide) ?_
        refine lv_aload_n hx hb dX12_readsLine_50 rfl (lv_at hl 0 rfl) ?_
        refine va_get (D := D) (ci := 12) (v := .int (nI y11__6)) (C := RX12) (T := TX12) (N := 30) hx hb hts inlX12 hown hK hP 0 rfl rfl 11 (by decide) (hts _ mw_423) (fun _ h9 => h9) rfl dX12_readsLine_51 ?_
        refine lv_iconst (v := (-1)) hx hb dX12_readsLine_54 (by decide) ?_
        refine ct_V (wr := [(a0, .inl (κ 0, 21375, .inl w)), (a5, .inl (κ 0, 800, .inl tp)), (a14, .inl (κ 0, 189, .inl g_a14__7)), (a15, .inl (κ 0, 9, .inl g_a15__8)), (a16, .inl (κ 0, 9, .inl ga16_5))]) (As := [.int 6, .int (nI y11__6), .int (-1)]) (rest := []) hFX hKK hP hD hS hA (s_X12_wrong l D κ m0 a0 a1 a2 u3 f4 a5 u6 y7__3 y8__4 y9__5 f10 y11__6 (v12_5 + 1) u13 a14 a15 a16 a17 f18 f19 a20 a21 u22 a23 a24 a25 u26 f27 a28 u29 6 (nI y11__6) (-1)) 3 gV_X12_210 hdV_X12_wrong ⟨Nat.le_of_ble_eq_true rfl, Nat.le_of_ble_eq_true rfl⟩ rfl rfl (Nat.le_of_ble_eq_true rfl) dX12_readsLine_55 ⟨Nat.le_of_ble_eq_true rfl, Nat.le_of_ble_eq_true rfl⟩ hl.1 [0] [1, 2, 3, 4, 5] rfl rfl (by decide) (by decide) (by decide) 0 12 rfl rfl rfl trivial (fun _ H locs hp_32 _ hP hD hS hz_ hk_ => ?_)
        replace hP : va_P D vwCl [(m0, .inr (12, [.ref a0, .ref a1, .ref a2, .int (nI u3), .int f4, .ref a5, .int (nI u6), .int 6, .int (nI y11__6), .int (-1), .int f10, .int (nI y11__6), .int (nI (v12_5 + 1)), .int (nI u13), .ref a14, .ref a15, .ref a16, .ref a17, .int f18, .int f19, .ref a20, .ref a21, .int (nI u22), .ref a23, .ref a24, .ref a25, .int (nI u26), .int f27, .ref a28, .int (nI u29)])), (a0, .inl (κ 0, 21375, .inl w)), (a5, .inl (κ 0, 800, .inl tp)), (a14, .inl (κ 0, 189, .inl g_a14__7)), (a15, .inl (κ 0, 9, .inl g_a15__8)), (a16, .inl (κ 0, 9, .inl ga16_5))] H := hP.sub [5, 0, 1, 2, 3, 4] rfl
        replace hD : va_D A [(m0, .inr (12, [.ref a0, .ref a1, .ref a2, .int (nI u3), .int f4, .ref a5, .int (nI u6), .int 6, .int (nI y11__6), .int (-1), .int f10, .int (nI y11__6), .int (nI (v12_5 + 1)), .int (nI u13), .ref a14, .ref a15, .ref a16, .ref a17, .int f18, .int f19, .ref a20, .ref a21, .int (nI u22), .ref a23, .ref a24, .ref a25, .int (nI u26), .int f27, .ref a28, .int (nI u29)])), (a0, .inl (κ 0, 21375, .inl w)), (a5, .inl (κ 0, 800, .inl tp)), (a14, .inl (κ 0, 189, .inl g_a14__7)), (a15, .inl (κ 0, 9, .inl g_a15__8)), (a16, .inl (κ 0, 9, .inl ga16_5))] := hD.sub [5, 0, 1, 2, 3, 4] (by decide) rfl
        refine W.eq (g2 := F0 m 58 ls [.int 0]) rfl ?_
        exact ct_iret hx hb hr hlk rfl hS hP hD (0, [], 6, nI y11__6, (-1), y11__6, v12_5 + 1, u13, g_a14__7, g_a15__8, ga16_5) rfl ⟨(show PF (nI y11__6) from (PF_n (by omega))), (show (v12_5 + 1) ≤ 8 from (by first | assumption | omega | rfl | exact Or.inl (by assumption) | exact Or.inr (by assumption))), (show u13 ≤ 800 from (by first | assumption | omega | rfl | exact Or.inl (by assumption) | exact Or.inr (by assumption))), (show Pfd g_a14__7 from (by first | assumption | omega | rfl | exact Or.inl (by assumption) | exact Or.inr (by assumption))), (show Pb 9 800 g_a15__8 from (by first | assumption | omega | rfl | exact Or.inl (by assumption) | exact Or.inr (by assumption))), (show Pb 9 800 ga16_5 from (by first | assumption | omega | rfl | exact Or.inl (by assumption) | exact Or.inr (by assumption))), (show u11 ≤ y11__6 from (by first | assumption | omega | rfl | exact Or.inl (by assumption) | exact Or.inr (by assumption))), (show y11__6 ≤ u6 from (by first | assumption | omega | rfl | exact Or.inl (by assumption) | exact Or.inr (by assumption))), (by exact Or.inr ((⟨rfl, (show lnF tp (dW w) u6 8 u11 [] = none from (hl5_3.symm.trans ((ln_go (t := tp) (d := (dW w)) (q' := 0) (by omega) a_17.1.1 (fun h9 => h9.elim (fun h8 => absurd h8 (by omega)) a_26) (Or.inr (by omega))).trans (ln_8 (t := tp) (d := (dW w)) (by omega)))))⟩)))⟩ [0, 1, 2, 3, 4, 5] rfl (by decide) trivial (Nat.le_of_ble_eq_true rfl) (Nat.le_of_ble_eq_true rfl) dX12_readsLine_58
  · refine W.eq (g2 := F0 m 13 ls [.int 0]) rfl ?_
    refine lv_if_ne (tgt := 18) hx hb dX12_readsLine_13 (by decide) (fun c_33 => absurd c_33 (by decide)) (fun c_33 => ?_)
    refine lv_iconst (v := 0) hx hb dX12_readsLine_16 (by decide) ?_
    exact ct_iret hx hb hr hlk rfl hS hP hD (0, [], y7__3, y8__4, y9__5, y11__6, v12_5, u13, g_a14__7, g_a15__8, ga16_5) rfl ⟨(show PF y8__4 from (by assumption)), (show v12_5 ≤ 8 from (by first | assumption | omega | rfl | exact Or.inl (by assumption) | exact Or.inr (by assumption))), (show u13 ≤ 800 from (by first | assumption | omega | rfl | exact Or.inl (by assumption) | exact Or.inr (by assumption))), (show Pfd g_a14__7 from (by first | assumption | omega | rfl | exact Or.inl (by assumption) | exact Or.inr (by assumption))), (show Pb 9 800 g_a15__8 from (by first | assumption | omega | rfl | exact Or.inl (by assumption) | exact Or.inr (by assumption))), (show Pb 9 800 ga16_5 from (by first | assumption | omega | rfl | exact Or.inl (by assumption) | exact Or.inr (by assumption))), (show u11 ≤ y11__6 from (by first | assumption | omega | rfl | exact Or.inl (by assumption) | exact Or.inr (by assumption))), (show y11__6 ≤ u6 from (by first | assumption | omega | rfl | exact Or.inl (by assumption) | exact Or.inr (by assumption))), (by exact Or.inr ((⟨rfl, (show lnF tp (dW w) u6 8 u11 [] = none from (hl5_3.symm.trans (ln_no (t := tp) (d := (dW w)) (by omega) a_18.1)))⟩)))⟩ [0, 1, 2, 3, 4, 5] rfl (by decide) trivial (Nat.le_of_ble_eq_true rfl) (Nat.le_of_ble_eq_true rfl) dX12_readsLine_17
set_option maxHeartbeats 4000000 in
set_option maxRecDepth 100000 in
theorem f_X12_passes (l : Launch) (D : va_G) (κ : Nat → ClassId) (m0 : Nat) (a0 : Nat) (a1 : Nat) (a2 : Nat) (u3 : Nat) (f4 : Int32) (a5 : Nat) (u6 : Nat) (f7 : Int32) (f8 : Int32) (f9 : Int32) (f10 : Int32) (u11 : Nat) (u12 : Nat) (u13 : Nat) (a14 : Nat) (a15 : Nat) (a16 : Nat) (a17 : Nat) (f18 : Int32) (f19 : Int32) (a20 : Nat) (a21 : Nat) (u22 : Nat) (a23 : Nat) (a24 : Nat) (a25 : Nat) (u26 : Nat) (f27 : Int32) (a28 : Nat) (u29 : Nat) (w : Nat → Int32) (tp : Nat → Int32) (h6 : u6 ≤ 800) (h_a0 : Pw w) (h11 : u11 ≤ u6) : Ct l yX12_passes (wl yX12_passes cX12_passes 2 (some .boolean)) { frames := 0, cells := 0, slots := 0, locals := 0 } D κ [.ref m0] [(m0, .inr (12, [.ref a0, .ref a1, .ref a2, .int (nI u3), .int f4, .ref a5, .int (nI u6), .int f7, .int f8, .int f9, .int f10, .int (nI u11), .int (nI u12), .int (nI u13), .ref a14, .ref a15, .ref a16, .ref a17, .int f18, .int f19, .ref a20, .ref a21, .int (nI u22), .ref a23, .ref a24, .ref a25, .int (nI u26), .int f27, .ref a28, .int (nI u29)])), (a0, .inl (κ 0, 21375, .inl w)), (a5, .inl (κ 0, 800, .inl tp))] (fun _ => True) (fun u9 : Int32 × Nat => some (.int u9.1)) (fun u9 : Int32 × Nat => u11 ≤ u9.2 ∧ u9.2 ≤ u6 ∧ u9.2 = paF tp (dW w) (u6 - u11) u11 false ∧ ((u9.1 = 1 ∧ u9.2 < u6 ∧ ¬ tp u9.2 = 10) ∨ (u9.1 = 0 ∧ u9.2 = u6))) (fun u9 : Int32 × Nat => [(m0, .inr (12, [.ref a0, .ref a1, .ref a2, .int (nI u3), .int f4, .ref a5, .int (nI u6), .int f7, .int f8, .int f9, .int f10, .int (nI u9.2), .int (nI u12), .int (nI u13), .ref a14, .ref a15, .ref a16, .ref a17, .int f18, .int f19, .ref a20, .ref a21, .int (nI u22), .ref a23, .ref a24, .ref a25, .int (nI u26), .int f27, .ref a28, .int (nI u29)])), (a0, .inl (κ 0, 21375, .inl w)), (a5, .inl (κ 0, 800, .inl tp))]) (fun _ _ => True) := by
  refine ct_of (by decide +kernel) (Nat.le_of_ble_eq_true rfl) ?_
  intro p e s m args below meth c A ls hx hb hr hml hts hown hlk hin hKK hK hA hP hD hS hI hl
  have hS : va_S A s.heap s.heap [] := hS
  have hFX : FX p s m args c cX12_passes 2 RX12 := ⟨hx, hb, hml, hown, hts⟩
  have hl : lv_has ls 2 [(0, .ref m0)] := hl
  refine loop_dn (fun k9 H locs ls => ∃ (v11_0 : Nat), (u11 ≤ v11_0) ∧ (v11_0 ≤ u6) ∧ (paF tp (dW w) (u6 - v11_0) v11_0 false = paF tp (dW w) (u6 - u11) u11 false) ∧ u6 - v11_0 = k9 ∧ va_P D vwCl [(m0, .inr (12, [.ref a0, .ref a1, .ref a2, .int (nI u3), .int f4, .ref a5, .int (nI u6), .int f7, .int f8, .int f9, .int f10, .int (nI v11_0), .int (nI u12), .int (nI u13), .ref a14, .ref a15, .ref a16, .ref a17, .int f18, .int f19, .ref a20, .ref a21, .int (nI u22), .ref a23, .ref a24, .ref a25, .int (nI u26), .int f27, .ref a28, .int (nI u29)])), (a0, .inl (κ 0, 21375, .inl w)), (a5, .inl (κ 0, 800, .inl tp))] H ∧ va_D A [(m0, .inr (12, [.ref a0, .ref a1, .ref a2, .int (nI u3), .int f4, .ref a5, .int (nI u6), .int f7, .int f8, .int f9, .int f10, .int (nI v11_0), .int (nI u12), .int (nI u13), .ref a14, .ref a15, .ref a16, .ref a17, .int f18, .int f19, .ref a20, .ref a21, .int (nI u22), .ref a23, .ref a24, .ref a25, .int (nI u26), .int f27, .ref a28, .int (nI u29)])), (a0, .inl (κ 0, 21375, .inl w)), (a5, .inl (κ 0, 800, .inl tp))] ∧ va_S A s.heap H locs ∧ lv_has ls 2 [(0, .ref m0)]) (fun k9 H locs ls hI0 ih0 => ?_) (u6 - u11) _ _ _ ⟨u11, (by omega), (by omega), rfl, rfl, hP, hD, hS, lv_sub hl [0] rfl⟩
  obtain ⟨v11_0, hl0_0, hl0_1, hl0_2, hm0, hP, hD, hS, hl⟩ := hI0
  refine lv_aload_n hx hb dX12_passes_0 rfl (lv_at hl 0 rfl) ?_
  refine va_get (D := D) (ci := 12) (v := .int (nI v11_0)) (C := RX12) (T := TX12) (N := 30) hx hb hts inlX12 hown hK hP 0 rfl rfl 11 (by decide) (hts _ mw_423) (fun _ h9 => h9) rfl dX12_passes_1 ?_
  refine lv_aload_n hx hb dX12_passes_4 rfl (lv_at hl 0 rfl) ?_
  refine va_get (D := D) (ci := 12) (v := .int (nI u6)) (C := RX12) (T := TX12) (N := 30) hx hb hts inlX12 hown hK hP 0 rfl rfl 6 (by decide) (hts _ mw_236) (fun _ h9 => h9) rfl dX12_passes_5 ?_
  refine lv_icmp_ge (tgt := 130) hx hb dX12_passes_8 (by decide) (fun c_1 => ?_) (fun c_1 => ?_)
  · have nc_1 := cv_le (a := u6) (b := v11_0) (by omega) (by omega) c_1
    refine lv_iconst (v := 0) hx hb dX12_passes_130 (by decide) ?_
    exact ct_iret hx hb hr hlk rfl hS hP hD (0, v11_0) rfl ⟨(show u11 ≤ v11_0 from (by first | assumption | omega | rfl | exact Or.inl (by assumption) | exact Or.inr (by assumption))), (show v11_0 ≤ u6 from (by first | assumption | omega | rfl | exact Or.inl (by assumption) | exact Or.inr (by assumption))), (show v11_0 = paF tp (dW w) (u6 - u11) u11 false from ((pa_end (t := tp) (d := (dW w)) (by omega)).symm.trans hl0_2)), (by exact Or.inr ((⟨rfl, (show v11_0 = u6 from (by first | assumption | omega | rfl | exact Or.inl (by assumption) | exact Or.inr (by assumption)))⟩)))⟩ [0, 1, 2] rfl (by decide) trivial (Nat.le_of_ble_eq_true rfl) (Nat.le_of_ble_eq_true rfl) dX12_passes_131
  · have nc_1 := cv_nle (a := u6) (b := v11_0) (by omega) (by omega) c_1
    refine lv_aload_n hx hb dX12_passes_11 rfl (lv_at hl 0 rfl) ?_
    refine va_get (D := D) (ci := 12) (v := .ref a5) (C := RX12) (T := TX12) (N := 30) hx hb hts inlX12 hown hK hP 0 rfl rfl 5 (by decide) (hts _ mw_191) (fun _ h9 => h9) rfl dX12_passes_12 ?_
    refine lv_aload_n hx hb dX12_passes_15 rfl (lv_at hl 0 rfl) ?_
    refine va_get (D := D) (ci := 12) (v := .int (nI v11_0)) (C := RX12) (T := TX12) (N := 30) hx hb hts inlX12 hown hK hP 0 rfl rfl 11 (by decide) (hts _ mw_423) (fun _ h9 => h9) rfl dX12_passes_16 ?_
    refine va_iald hx hb hK hP 2 0 rfl rfl (i := nI v11_0) (vp_in_nI (n := v11_0) (by omega) (by omega)) dX12_passes_19 ?_
    refine kv (v := .int (tp v11_0)) (by rw [nI_clamp (by omega)]) ?_
    obtain ⟨x_2, ex_2⟩ : ∃ y9 : Int32, tp v11_0 = y9 := ⟨_, rfl⟩
    refine kv (v := .int x_2) (congrArg Value.int ex_2) ?_
    refine lv_bipush (v := 10) hx hb dX12_passes_20 (by decide) ?_
    refine lv_icmp_eq (tgt := 56) hx hb dX12_passes_22 (by decide) (fun c_3 => ?_) (fun c_3 => ?_)
    · refine lv_iconst (v := 1) hx hb dX12_passes_56 (by decide) ?_
      refine lv_goto (tgt := 61) hx hb dX12_passes_57 (by decide) ?_
      refine lv_istore_n (lv' := [(1, .int 1), (0, .ref m0)]) hx hb dX12_passes_61 rfl hl (by decide) rfl (fun ls hl => ?_)
      refine lv_iload_n hx hb dX12_passes_62 rfl (lv_at hl 0 rfl) ?_
      refine lv_if_ne (tgt := 68) hx hb dX12_passes_63 (by decide) (fun c_4 => ?_) (fun c_4 => absurd c_4 (by decide))
      refine loop_dn (fun k9 H locs ls => ∃ (v11_68 : Nat), (v11_0 ≤ v11_68) ∧ (v11_68 ≤ u6) ∧ (paF tp (dW w) (u6 - v11_68) v11_68 true = paF tp (dW w) (u6 - u11) u11 false) ∧ u6 - v11_68 = k9 ∧ va_P D vwCl [(m0, .inr (12, [.ref a0, .ref a1, .ref a2, .int (nI u3), .int f4, .ref a5, .int (nI u6), .int f7, .int f8, .int f9, .int f10, .int (nI v11_68), .int (nI u12), .int (nI u13), .ref a14, .ref a15, .ref a16, .ref a17, .int f18, .int f19, .ref a20, .ref a21, .int (nI u22), .ref a23, .ref a24, .ref a25, .int (nI u26), .int f27, .ref a28, .int (nI u29)])), (a0, .inl (κ 0, 21375, .inl w)), (a5, .inl (κ 0, 800, .inl tp))] H ∧ va_D A [(m0, .inr (12, [.ref a0, .ref a1, .ref a2, .int (nI u3), .int f4, .ref a5, .int (nI u6), .int f7, .int f8, .int f9, .int f10, .int (nI v11_68), .int (nI u12), .int (nI u13), .ref a14, .ref a15, .ref a16, .ref a17, .int f18, .int f19, .ref a20, .ref a21, .int (nI u22), .ref a23, .ref a24, .ref a25, .int (nI u26), .int f27, .ref a28, .int (nI u29)])), (a0, .inl (κ 0, 21375, .inl w)), (a5, .inl (κ 0, 800, .inl tp))] ∧ va_S A s.heap H locs ∧ lv_has ls 2 [(1, .int 1), (0, .ref m0)]) (fun k9 H locs ls hI68 ih68 => ?_) (u6 - v11_0) _ _ _ ⟨v11_0, (by omega), (by omega), ((pa_sw (t := tp) (d := (dW w)) (Or.inl (ex_2.trans c_3))).trans hl0_2), rfl, hP, hD, hS, lv_sub hl [0, 1] rfl⟩
      obtain ⟨v11_68, hl68_0, hl68_1, hl68_2, hm68, hP, hD, hS, hl⟩ := hI68
      refine lv_aload_n hx hb dX12_passes_68 rfl (lv_at hl 1 rfl) ?_
      refine va_get (D := D) (ci := 12) (v := .int (nI v11_68)) (C := RX12) (T := TX12) (N := 30) hx hb hts inlX12 hown hK hP 0 rfl rfl 11 (by decide) (hts _ mw_423) (fun _ h9 => h9) rfl dX12_passes_69 ?_
      refine lv_aload_n hx hb dX12_passes_72 rfl (lv_at hl 1 rfl) ?_
      refine va_get (D := D) (ci := 12) (v := .int (nI u6)) (C := RX12) (T := TX12) (N := 30) hx hb hts inlX12 hown hK hP 0 rfl rfl 6 (by decide) (hts _ mw_236) (fun _ h9 => h9) rfl dX12_passes_73 ?_
      refine lv_icmp_ge (tgt := 106) hx hb dX12_passes_76 (by decide) (fun c_5 => ?_) (fun c_5 => ?_)
      · have nc_5 := cv_le (a := u6) (b := v11_68) (by omega) (by omega) c_5
        refine lv_aload_n hx hb dX12_passes_106 rfl (lv_at hl 1 rfl) ?_
        refine va_get (D := D) (ci := 12) (v := .int (nI v11_68)) (C := RX12) (T := TX12) (N := 30) hx hb hts inlX12 hown hK hP 0 rfl rfl 11 (by decide) (hts _ mw_423) (fun _ h9 => h9) rfl dX12_passes_107 ?_
        refine lv_aload_n hx hb dX12_passes_110 rfl (lv_at hl 1 rfl) ?_
        refine va_get (D := D) (ci := 12) (v := .int (nI u6)) (C := RX12) (T := TX12) (N := 30) hx hb hts inlX12 hown hK hP 0 rfl rfl 6 (by decide) (hts _ mw_236) (fun _ h9 => h9) rfl dX12_passes_111 ?_
        refine lv_icmp_ge (tgt := 127) hx hb dX12_passes_114 (by decide) (fun c_6 => ?_) (fun c_6 => absurd c_5 c_6)
        refine lv_goto (tgt := 0) hx hb dX12_passes_127 (by decide) ?_
        exact ih0 _ _ _ _ (by omega) ⟨v11_68, (by omega), (by omega), ((pa_sw (t := tp) (d := (dW w)) (Or.inr (by omega))).symm.trans hl68_2), rfl, hP, hD, hS, lv_sub hl [1] rfl⟩
      · have nc_5 := cv_nle (a := u6) (b := v11_68) (by omega) (by omega) c_5
        refine lv_aload_n hx hb dX12_passes_79 rfl (lv_at hl 1 rfl) ?_
        refine va_get (D := D) (ci := 12) (v := .ref a5) (C := RX12) (T := TX12) (N := 30) hx hb hts inlX12 hown hK hP 0 rfl rfl 5 (by decide) (hts _ mw_191) (fun _ h9 => h9) rfl dX12_passes_80 ?_
        refine lv_aload_n hx hb dX12_passes_83 rfl (lv_at hl 1 rfl) ?_
        refine va_get (D := D) (ci := 12) (v := .int (nI v11_68)) (C := RX12) (T := TX12) (N := 30) hx hb hts inlX12 hown hK hP 0 rfl rfl 11 (by decide) (hts _ mw_423) (fun _ h9 => h9) rfl dX12_passes_84 ?_
        refine va_iald hx hb hK hP 2 0 rfl rfl (i := nI v11_68) (vp_in_nI (n := v11_68) (by omega) (by omega)) dX12_passes_87 ?_
        refine kv (v := .int (tp v11_68)) (by rw [nI_clamp (by omega)]) ?_
        obtain ⟨x_7, ex_7⟩ : ∃ y9 : Int32, tp v11_68 = y9 := ⟨_, rfl⟩
        refine kv (v := .int x_7) (congrArg Value.int ex_7) ?_
        refine lv_bipush (v := 10) hx hb dX12_passes_88 (by decide) ?_
        refine lv_icmp_eq (tgt := 106) hx hb dX12_passes_90 (by decide) (fun c_8 => ?_) (fun c_8 => ?_)
        · refine lv_aload_n hx hb dX12_passes_106 rfl (lv_at hl 1 rfl) ?_
          refine va_get (D := D) (ci := 12) (v := .int (nI v11_68)) (C := RX12) (T := TX12) (N := 30) hx hb hts inlX12 hown hK hP 0 rfl rfl 11 (by decide) (hts _ mw_423) (fun _ h9 => h9) rfl dX12_passes_107 ?_
          refine lv_aload_n hx hb dX12_passes_110 rfl (lv_at hl 1 rfl) ?_
          refine va_get (D := D) (ci := 12) (v := .int (nI u6)) (C := RX12) (T := TX12) (N := 30) hx hb hts inlX12 hown hK hP 0 rfl rfl 6 (by decide) (hts _ mw_236) (fun _ h9 => h9) rfl dX12_passes_111 ?_
          refine lv_icmp_ge (tgt := 127) hx hb dX12_passes_114 (by decide) (fun c_9 => absurd c_9 c_5) (fun c_9 => ?_)
          refine lv_aload_n hx hb dX12_passes_117 rfl (lv_at hl 1 rfl) ?_
          refine lv_dup hx hb dX12_passes_118 rfl ?_
          refine va_get (D := D) (ci := 12) (v := .int (nI v11_68)) (C := RX12) (T := TX12) (N := 30) hx hb hts inlX12 hown hK hP 0 rfl rfl 11 (by decide) (hts _ mw_423) (fun _ h9 => h9) rfl dX12_passes_119 ?_
          refine lv_iconst (v := 1) hx hb dX12_passes_122 (by decide) ?_
          refine lv_iadd hx hb dX12_passes_123 ?_
          refine ki (v := (nI (v11_68 + 1))) (nI_add v11_68 1) ?_
          refine va_put (D := D) (ci := 12) (v := .int (nI (v11_68 + 1))) (ty := tyX12 11) (C := RX12) (T := TX12) (N := 30) hx hb hts inlX12 tyX12 tyX12_ok nmX12 hown hK hP hD hS 0 rfl rfl 11 (by decide) (hts _ mw_423) (fun _ h9 => h9) rfl (tyX12_ok 11 (by decide)) rfl rfl (Nat.le_of_ble_eq_true rfl) dX12_passes_124 (fun H locs hP hD hS => ?_)
          have hP : va_P D vwCl [(m0, .inr (12, [.ref a0, .ref a1, .ref a2, .int (nI u3), .int f4, .ref a5, .int (nI u6), .int f7, .int f8, .int f9, .int f10, .int (nI (v11_68 + 1)), .int (nI u12), .int (nI u13), .ref a14, .ref a15, .ref a16, .ref a17, .int f18, .int f19, .ref a20, .ref a21, .int (nI u22), .ref a23, .ref a24, .ref a25, .int (nI u26), .int f27, .ref a28, .int (nI u29)])), (a0, .inl (κ 0, 21375, .inl w)), (a5, .inl (κ 0, 800, .inl tp))] H := hP
          have hD : va_D A [(m0, .inr (12, [.ref a0, .ref a1, .ref a2, .int (nI u3), .int f4, .ref a5, .int (nI u6), .int f7, .int f8, .int f9, .int f10, .int (nI (v11_68 + 1)), .int (nI u12), .int (nI u13), .ref a14, .ref a15, .ref a16, .ref a17, .int f18, .int f19, .ref a20, .ref a21, .int (nI u22), .ref a23, .ref a24, .ref a25, .int (nI u26), .int f27, .ref a28, .int (nI u29)])), (a0, .inl (κ 0, 21375, .inl w)), (a5, .inl (κ 0, 800, .inl tp))] := hD
          refine lv_goto (tgt := 0) hx hb dX12_passes_127 (by decide) ?_
          exact ih0 _ _ _ _ (by omega) ⟨(v11_68 + 1), (by omega), (by omega), ((pa_10 (t := tp) (d := (dW w)) (by omega) ex_7 c_8).symm.trans hl68_2), rfl, hP, hD, hS, lv_sub hl [1] rfl⟩
        · refine lv_aload_n hx hb dX12_passes_93 rfl (lv_at hl 1 rfl) ?_
          refine lv_dup hx hb dX12_passes_94 rfl ?_
          refine va_get (D := D) (ci := 12) (v := .int (nI v11_68)) (C := RX12) (T := TX12) (N := 30) hx hb hts inlX12 hown hK hP 0 rfl rfl 11 (by decide) (hts _ mw_423) (fun _ h9 => h9) rfl dX12_passes_95 ?_
          refine lv_iconst (v := 1) hx hb dX12_passes_98 (by decide) ?_
          refine lv_iadd hx hb dX12_passes_99 ?_
          refine ki (v := (nI (v11_68 + 1))) (nI_add v11_68 1) ?_
          refine va_put (D := D) (ci := 12) (v := .int (nI (v11_68 + 1))) (ty := tyX12 11) (C := RX12) (T := TX12) (N := 30) hx hb hts inlX12 tyX12 tyX12_ok nmX12 hown hK hP hD hS 0 rfl rfl 11 (by decide) (hts _ mw_423) (fun _ h9 => h9) rfl (tyX12_ok 11 (by decide)) rfl rfl (Nat.le_of_ble_eq_true rfl) dX12_passes_100 (fun H locs hP hD hS => ?_)
          have hP : va_P D vwCl [(m0, .inr (12, [.ref a0, .ref a1, .ref a2, .int (nI u3), .int f4, .ref a5, .int (nI u6), .int f7, .int f8, .int f9, .int f10, .int (nI (v11_68 + 1)), .int (nI u12), .int (nI u13), .ref a14, .ref a15, .ref a16, .ref a17, .int f18, .int f19, .ref a20, .ref a21, .int (nI u22), .ref a23, .ref a24, .ref a25, .int (nI u26), .int f27, .ref a28, .int (nI u29)])), (a0, .inl (κ 0, 21375, .inl w)), (a5, .inl (κ 0, 800, .inl tp))] H := hP
          have hD : va_D A [(m0, .inr (12, [.ref a0, .ref a1, .ref a2, .int (nI u3), .int f4, .ref a5, .int (nI u6), .int f7, .int f8, .int f9, .int f10, .int (nI (v11_68 + 1)), .int (nI u12), .int (nI u13), .ref a14, .ref a15, .ref a16, .ref a17, .int f18, .int f19, .ref a20, .ref a21, .int (nI u22), .ref a23, .ref a24, .ref a25, .int (nI u26), .int f27, .ref a28, .int (nI u29)])), (a0, .inl (κ 0, 21375, .inl w)), (a5, .inl (κ 0, 800, .inl tp))] := hD
          refine lv_goto (tgt := 68) hx hb dX12_passes_103 (by decide) ?_
          exact ih68 _ _ _ _ (by omega) ⟨(v11_68 + 1), (by omega), (by omega), ((pa_in (t := tp) (d := (dW w)) (by omega) ex_7 c_8).symm.trans hl68_2), rfl, hP, hD, hS, lv_sub hl [0, 1] rfl⟩
    · refine lv_aload_n hx hb dX12_passes_25 rfl (lv_at hl 0 rfl) ?_
      refine va_get (D := D) (ci := 12) (v := .ref a0) (C := RX12) (T := TX12) (N := 30) hx hb hts inlX12 hown hK hP 0 rfl rfl 0 (by decide) (hts _ mw_187) (fun _ h9 => h9) rfl dX12_passes_26 ?_
      refine lv_sipush (v := 21374) hx hb dX12_passes_29 (by decide) ?_
      refine va_iald hx hb hK hP 1 0 rfl rfl (i := 21374) (vp_k (by decide)) dX12_passes_32 ?_
      obtain ⟨x_10, ex_10⟩ : ∃ y9 : Int32, w 21374 = y9 := ⟨_, rfl⟩
      refine kv (v := .int x_10) (congrArg Value.int ex_10) ?_
      refine lv_if_eq (tgt := 60) hx hb dX12_passes_33 (by decide) (fun c_11 => ?_) (fun c_11 => ?_)
      · refine lv_iconst (v := 0) hx hb dX12_passes_60 (by decide) ?_
        refine lv_istore_n (lv' := [(1, .int 0), (0, .ref m0)]) hx hb dX12_passes_61 rfl hl (by decide) rfl (fun ls hl => ?_)
        refine lv_iload_n hx hb dX12_passes_62 rfl (lv_at hl 0 rfl) ?_
        refine lv_if_ne (tgt := 68) hx hb dX12_passes_63 (by decide) (fun c_12 => absurd c_12 (by decide)) (fun c_12 => ?_)
        refine lv_iconst (v := 1) hx hb dX12_passes_66 (by decide) ?_
        exact ct_iret hx hb hr hlk rfl hS hP hD (1, v11_0) rfl ⟨(show u11 ≤ v11_0 from (by first | assumption | omega | rfl | exact Or.inl (by assumption) | exact Or.inr (by assumption))), (show v11_0 ≤ u6 from (by first | assumption | omega | rfl | exact Or.inl (by assumption) | exact Or.inr (by assumption))), (show v11_0 = paF tp (dW w) (u6 - u11) u11 false from ((pa_no (t := tp) (d := (dW w)) (by omega) ex_2 c_3 ex_10 (Or.inl c_11)).symm.trans hl0_2)), (by exact Or.inl (⟨rfl, (show v11_0 < u6 from (by first | assumption | omega | rfl | exact Or.inl (by assumption) | exact Or.inr (by assumption))), (show ¬ tp v11_0 = 10 from (fun h9 => c_3 (ex_2.symm.trans h9)))⟩))⟩ [0, 1, 2] rfl (by decide) trivial (Nat.le_of_ble_eq_true rfl) (Nat.le_of_ble_eq_true rfl) dX12_passes_67
      · refine lv_aload_n hx hb dX12_passes_36 rfl (lv_at hl 0 rfl) ?_
        refine va_get (D := D) (ci := 12) (v := .ref a5) (C := RX12) (T := TX12) (N := 30) hx hb hts inlX12 hown hK hP 0 rfl rfl 5 (by decide) (hts _ mw_191) (fun _ h9 => h9) rfl dX12_passes_37 ?_
        refine lv_aload_n hx hb dX12_passes_40 rfl (lv_at hl 0 rfl) ?_
        refine va_get (D := D) (ci := 12) (v := .int (nI v11_0)) (C := RX12) (T := TX12) (N := 30) hx hb hts inlX12 hown hK hP 0 rfl rfl 11 (by decide) (hts _ mw_423) (fun _ h9 => h9) rfl dX12_passes_41 ?_
        refine va_iald hx hb hK hP 2 0 rfl rfl (i := nI v11_0) (vp_in_nI (n := v11_0) (by omega) (by omega)) dX12_passes_44 ?_
        refine kv (v := .int x_2) (by rw [nI_clamp (by omega), show tp v11_0 = x_2 from ex_2]) ?_
        refine lv_aload_n hx hb dX12_passes_45 rfl (lv_at hl 0 rfl) ?_
        refine va_get (D := D) (ci := 12) (v := .ref a0) (C := RX12) (T := TX12) (N := 30) hx hb hts inlX12 hown hK hP 0 rfl rfl 0 (by decide) (hts _ mw_187) (fun _ h9 => h9) rfl dX12_passes_46 ?_
        refine lv_sipush (v := 21374) hx hb dX12_passes_49 (by decide) ?_
        refine va_iald hx hb hK hP 1 0 rfl rfl (i := 21374) (vp_k (by decide)) dX12_passes_52 ?_
        refine kv (v := .int x_10) (congrArg Value.int (ex_10)) ?_
        refine lv_icmp_ne (tgt := 60) hx hb dX12_passes_53 (by decide) (fun c_13 => ?_) (fun c_13 => ?_)
        · refine lv_iconst (v := 0) hx hb dX12_passes_60 (by decide) ?_
          refine lv_istore_n (lv' := [(1, .int 0), (0, .ref m0)]) hx hb dX12_passes_61 rfl hl (by decide) rfl (fun ls hl => ?_)
          refine lv_iload_n hx hb dX12_passes_62 rfl (lv_at hl 0 rfl) ?_
          refine lv_if_ne (tgt := 68) hx hb dX12_passes_63 (by decide) (fun c_14 => absurd c_14 (by decide)) (fun c_14 => ?_)
          refine lv_iconst (v := 1) hx hb dX12_passes_66 (by decide) ?_
          exact ct_iret hx hb hr hlk rfl hS hP hD (1, v11_0) rfl ⟨(show u11 ≤ v11_0 from (by first | assumption | omega | rfl | exact Or.inl (by assumption) | exact Or.inr (by assumption))), (show v11_0 ≤ u6 from (by first | assumption | omega | rfl | exact Or.inl (by assumption) | exact Or.inr (by assumption))), (show v11_0 = paF tp (dW w) (u6 - u11) u11 false from ((pa_no (t := tp) (d := (dW w)) (by omega) ex_2 c_3 ex_10 (Or.inr c_13)).symm.trans hl0_2)), (by exact Or.inl (⟨rfl, (show v11_0 < u6 from (by first | assumption | omega | rfl | exact Or.inl (by assumption) | exact Or.inr (by assumption))), (show ¬ tp v11_0 = 10 from (fun h9 => c_3 (ex_2.symm.trans h9)))⟩))⟩ [0, 1, 2] rfl (by decide) trivial (Nat.le_of_ble_eq_true rfl) (Nat.le_of_ble_eq_true rfl) dX12_passes_67
        · refine lv_iconst (v := 1) hx hb dX12_passes_56 (by decide) ?_
          refine lv_goto (tgt := 61) hx hb dX12_passes_57 (by decide) ?_
          refine lv_istore_n (lv' := [(1, .int 1), (0, .ref m0)]) hx hb dX12_passes_61 rfl hl (by decide) rfl (fun ls hl => ?_)
          refine lv_iload_n hx hb dX12_passes_62 rfl (lv_at hl 0 rfl) ?_
          refine lv_if_ne (tgt := 68) hx hb dX12_passes_63 (by decide) (fun c_15 => ?_) (fun c_15 => absurd c_15 (by decide))
          refine loop_dn (fun k9 H locs ls => ∃ (v11_68 : Nat), (v11_0 ≤ v11_68) ∧ (v11_68 ≤ u6) ∧ (paF tp (dW w) (u6 - v11_68) v11_68 true = paF tp (dW w) (u6 - u11) u11 false) ∧ u6 - v11_68 = k9 ∧ va_P D vwCl [(m0, .inr (12, [.ref a0, .ref a1, .ref a2, .int (nI u3), .int f4, .ref a5, .int (nI u6), .int f7, .int f8, .int f9, .int f10, .int (nI v11_68), .int (nI u12), .int (nI u13), .ref a14, .ref a15, .ref a16, .ref a17, .int f18, .int f19, .ref a20, .ref a21, .int (nI u22), .ref a23, .ref a24, .ref a25, .int (nI u26), .int f27, .ref a28, .int (nI u29)])), (a0, .inl (κ 0, 21375, .inl w)), (a5, .inl (κ 0, 800, .inl tp))] H ∧ va_D A [(m0, .inr (12, [.ref a0, .ref a1, .ref a2, .int (nI u3), .int f4, .ref a5, .int (nI u6), .int f7, .int f8, .int f9, .int f10, .int (nI v11_68), .int (nI u12), .int (nI u13), .ref a14, .ref a15, .ref a16, .ref a17, .int f18, .int f19, .ref a20, .ref a21, .int (nI u22), .ref a23, .ref a24, .ref a25, .int (nI u26), .int f27, .ref a28, .int (nI u29)])), (a0, .inl (κ 0, 21375, .inl w)), (a5, .inl (κ 0, 800, .inl tp))] ∧ va_S A s.heap H locs ∧ lv_has ls 2 [(1, .int 1), (0, .ref m0)]) (fun k9 H locs ls hI68 ih68 => ?_) (u6 - v11_0) _ _ _ ⟨v11_0, (by omega), (by omega), ((pa_cm (t := tp) (d := (dW w)) (by omega) ex_2 c_3 ex_10 c_11 c_13).symm.trans hl0_2), rfl, hP, hD, hS, lv_sub hl [0, 1] rfl⟩
          obtain ⟨v11_68, hl68_0, hl68_1, hl68_2, hm68, hP, hD, hS, hl⟩ := hI68
          refine lv_aload_n hx hb dX12_passes_68 rfl (lv_at hl 1 rfl) ?_
          refine va_get (D := D) (ci := 12) (v := .int (nI v11_68)) (C := RX12) (T := TX12) (N := 30) hx hb hts inlX12 hown hK hP 0 rfl rfl 11 (by decide) (hts _ mw_423) (fun _ h9 => h9) rfl dX12_passes_69 ?_
          refine lv_aload_n hx hb dX12_passes_72 rfl (lv_at hl 1 rfl) ?_
          refine va_get (D := D) (ci := 12) (v := .int (nI u6)) (C := RX12) (T := TX12) (N := 30) hx hb hts inlX12 hown hK hP 0 rfl rfl 6 (by decide) (hts _ mw_236) (fun _ h9 => h9) rfl dX12_passes_73 ?_
          refine lv_icmp_ge (tgt := 106) hx hb dX12_passes_76 (by decide) (fun c_16 => ?_) (fun c_16 => ?_)
          · have nc_16 := cv_le (a := u6) (b := v11_68) (by omega) (by omega) c_16
            refine lv_aload_n hx hb dX12_passes_106 rfl (lv_at hl 1 rfl) ?_
            refine va_get (D := D) (ci := 12) (v := .int (nI v11_68)) (C := RX12) (T := TX12) (N := 30) hx hb hts inlX12 hown hK hP 0 rfl rfl 11 (by decide) (hts _ mw_423) (fun _ h9 => h9) rfl dX12_passes_107 ?_
            refine lv_aload_n hx hb dX12_passes_110 rfl (lv_at hl 1 rfl) ?_
            refine va_get (D := D) (ci := 12) (v := .int (nI u6)) (C := RX12) (T := TX12) (N := 30) hx hb hts inlX12 hown hK hP 0 rfl rfl 6 (by decide) (hts _ mw_236) (fun _ h9 => h9) rfl dX12_passes_111 ?_
            refine lv_icmp_ge (tgt := 127) hx hb dX12_passes_114 (by decide) (fun c_17 => ?_) (fun c_17 => absurd c_16 c_17)
            refine lv_goto (tgt := 0) hx hb dX12_passes_127 (by decide) ?_
            exact ih0 _ _ _ _ (by omega) ⟨v11_68, (by omega), (by omega), ((pa_sw (t := tp) (d := (dW w)) (Or.inr (by omega))).symm.trans hl68_2), rfl, hP, hD, hS, lv_sub hl [1] rfl⟩
          · have nc_16 := cv_nle (a := u6) (b := v11_68) (by omega) (by omega) c_16
            refine lv_aload_n hx hb dX12_passes_79 rfl (lv_at hl 1 rfl) ?_
            refine va_get (D := D) (ci := 12) (v := .ref a5) (C := RX12) (T := TX12) (N := 30) hx hb hts inlX12 hown hK hP 0 rfl rfl 5 (by decide) (hts _ mw_191) (fun _ h9 => h9) rfl dX12_passes_80 ?_
            refine lv_aload_n hx hb dX12_passes_83 rfl (lv_at hl 1 rfl) ?_
            refine va_get (D := D) (ci := 12) (v := .int (nI v11_68)) (C := RX12) (T := TX12) (N := 30) hx hb hts inlX12 hown hK hP 0 rfl rfl 11 (by decide) (hts _ mw_423) (fun _ h9 => h9) rfl dX12_passes_84 ?_
            refine va_iald hx hb hK hP 2 0 rfl rfl (i := nI v11_68) (vp_in_nI (n := v11_68) (by omega) (by omega)) dX12_passes_87 ?_
            refine kv (v := .int (tp v11_68)) (by rw [nI_clamp (by omega)]) ?_
            obtain ⟨x_18, ex_18⟩ : ∃ y9 : Int32, tp v11_68 = y9 := ⟨_, rfl⟩
            refine kv (v := .int x_18) (congrArg Value.int ex_18) ?_
            refine lv_bipush (v := 10) hx hb dX12_passes_88 (by decide) ?_
            refine lv_icmp_eq (tgt := 106) hx hb dX12_passes_90 (by decide) (fun c_19 => ?_) (fun c_19 => ?_)
            · refine lv_aload_n hx hb dX12_passes_106 rfl (lv_at hl 1 rfl) ?_
              refine va_get (D := D) (ci := 12) (v := .int (nI v11_68)) (C := RX12) (T := TX12) (N := 30) hx hb hts inlX12 hown hK hP 0 rfl rfl 11 (by decide) (hts _ mw_423) (fun _ h9 => h9) rfl dX12_passes_107 ?_
              refine lv_aload_n hx hb dX12_passes_110 rfl (lv_at hl 1 rfl) ?_
              refine va_get (D := D) (ci := 12) (v := .int (nI u6)) (C := RX12) (T := TX12) (N := 30) hx hb hts inlX12 hown hK hP 0 rfl rfl 6 (by decide) (hts _ mw_236) (fun _ h9 => h9) rfl dX12_passes_111 ?_
              refine lv_icmp_ge (tgt := 127) hx hb dX12_passes_114 (by decide) (fun c_20 => absurd c_20 c_16) (fun c_20 => ?_)
              refine lv_aload_n hx hb dX12_passes_117 rfl (lv_at hl 1 rfl) ?_
              refine lv_dup hx hb dX12_passes_118 rfl ?_
              refine va_get (D := D) (ci := 12) (v := .int (nI v11_68)) (C := RX12) (T := TX12) (N := 30) hx hb hts inlX12 hown hK hP 0 rfl rfl 11 (by decide) (hts _ mw_423) (fun _ h9 => h9) rfl dX12_passes_119 ?_
              refine lv_iconst (v := 1) hx hb dX12_passes_122 (by decide) ?_
              refine lv_iadd hx hb dX12_passes_123 ?_
              refine ki (v := (nI (v11_68 + 1))) (nI_add v11_68 1) ?_
              refine va_put (D := D) (ci := 12) (v := .int (nI (v11_68 + 1))) (ty := tyX12 11) (C := RX12) (T := TX12) (N := 30) hx hb hts inlX12 tyX12 tyX12_ok nmX12 hown hK hP hD hS 0 rfl rfl 11 (by decide) (hts _ mw_423) (fun _ h9 => h9) rfl (tyX12_ok 11 (by decide)) rfl rfl (Nat.le_of_ble_eq_true rfl) dX12_passes_124 (fun H locs hP hD hS => ?_)
              have hP : va_P D vwCl [(m0, .inr (12, [.ref a0, .ref a1, .ref a2, .int (nI u3), .int f4, .ref a5, .int (nI u6), .int f7, .int f8, .int f9, .int f10, .int (nI (v11_68 + 1)), .int (nI u12), .int (nI u13), .ref a14, .ref a15, .ref a16, .ref a17, .int f18, .int f19, .ref a20, .ref a21, .int (nI u22), .ref a23, .ref a24, .ref a25, .int (nI u26), .int f27, .ref a28, .int (nI u29)])), (a0, .inl (κ 0, 21375, .inl w)), (a5, .inl (κ 0, 800, .inl tp))] H := hP
              have hD : va_D A [(m0, .inr (12, [.ref a0, .ref a1, .ref a2, .int (nI u3), .int f4, .ref a5, .int (nI u6), .int f7, .int f8, .int f9, .int f10, .int (nI (v11_68 + 1)), .int (nI u12), .int (nI u13), .ref a14, .ref a15, .ref a16, .ref a17, .int f18, .int f19, .ref a20, .ref a21, .int (nI u22), .ref a23, .ref a24, .ref a25, .int (nI u26), .int f27, .ref a28, .int (nI u29)])), (a0, .inl (κ 0, 21375, .inl w)), (a5, .inl (κ 0, 800, .inl tp))] := hD
              refine lv_goto (tgt := 0) hx hb dX12_passes_127 (by decide) ?_
              exact ih0 _ _ _ _ (by omega) ⟨(v11_68 + 1), (by omega), (by omega), ((pa_10 (t := tp) (d := (dW w)) (by omega) ex_18 c_19).symm.trans hl68_2), rfl, hP, hD, hS, lv_sub hl [1] rfl⟩
            · refine lv_aload_n hx hb dX12_passes_93 rfl (lv_at hl 1 rfl) ?_
              refine lv_dup hx hb dX12_passes_94 rfl ?_
              refine va_get (D := D) (ci := 12) (v := .int (nI v11_68)) (C := RX12) (T := TX12) (N := 30) hx hb hts inlX12 hown hK hP 0 rfl rfl 11 (by decide) (hts _ mw_423) (fun _ h9 => h9) rfl dX12_passes_95 ?_
              refine lv_iconst (v := 1) hx hb dX12_passes_98 (by decide) ?_
              refine lv_iadd hx hb dX12_passes_99 ?_
              refine ki (v := (nI (v11_68 + 1))) (nI_add v11_68 1) ?_
              refine va_put (D := D) (ci := 12) (v := .int (nI (v11_68 + 1))) (ty := tyX12 11) (C := RX12) (T := TX12) (N := 30) hx hb hts inlX12 tyX12 tyX12_ok nmX12 hown hK hP hD hS 0 rfl rfl 11 (by decide) (hts _ mw_423) (fun _ h9 => h9) rfl (tyX12_ok 11 (by decide)) rfl rfl (Nat.le_of_ble_eq_true rfl) dX12_passes_100 (fun H locs hP hD hS => ?_)
              have hP : va_P D vwCl [(m0, .inr (12, [.ref a0, .ref a1, .ref a2, .int (nI u3), .int f4, .ref a5, .int (nI u6), .int f7, .int f8, .int f9, .int f10, .int (nI (v11_68 + 1)), .int (nI u12), .int (nI u13), .ref a14, .ref a15, .ref a16, .ref a17, .int f18, .int f19, .ref a20, .ref a21, .int (nI u22), .ref a23, .ref a24, .ref a25, .int (nI u26), .int f27, .ref a28, .int (nI u29)])), (a0, .inl (κ 0, 21375, .inl w)), (a5, .inl (κ 0, 800, .inl tp))] H := hP
              have hD : va_D A [(m0, .inr (12, [.ref a0, .ref a1, .ref a2, .int (nI u3), .int f4, .ref a5, .int (nI u6), .int f7, .int f8, .int f9, .int f10, .int (nI (v11_68 + 1)), .int (nI u12), .int (nI u13), .ref a14, .ref a15, .ref a16, .ref a17, .int f18, .int f19, .ref a20, .ref a21, .int (nI u22), .ref a23, .ref a24, .ref a25, .int (nI u26), .int f27, .ref a28, .int (nI u29)])), (a0, .inl (κ 0, 21375, .inl w)), (a5, .inl (κ 0, 800, .inl tp))] := hD
              refine lv_goto (tgt := 68) hx hb dX12_passes_103 (by decide) ?_
              exact ih68 _ _ _ _ (by omega) ⟨(v11_68 + 1), (by omega), (by omega), ((pa_in (t := tp) (d := (dW w)) (by omega) ex_18 c_19).symm.trans hl68_2), rfl, hP, hD, hS, lv_sub hl [0, 1] rfl⟩
set_option maxHeartbeats 4000000 in
set_option maxRecDepth 100000 in
theorem f_X12_isDigit (l : Launch) (D : va_G) (κ : Nat → ClassId) (za : Int32) : Cr l yX12_isDigit (wl yX12_isDigit cX12_isDigit 1 (some .boolean)) { frames := 1, cells := 0, slots := 0, locals := 25 } D κ [.int za] (va_P D vwCl []) (fun r : Int32 => some (.int r)) (fun r : Int32 => ((r = 1 ∧ 48 ≤ za.toInt ∧ za.toInt ≤ 57) ∨ (r = 0 ∧ (za.toInt < 48 ∨ 57 < za.toInt)))) := by
  refine cr_of (by decide +kernel) (Nat.le_of_ble_eq_true rfl) ?_
  intro p e s m args below meth c ls hx hb hr hml hts hown hlk hKK hK hI hl
  have hP : va_P D vwCl [] s.heap := hI
  have hFX : FX p s m args c cX12_isDigit 1 RX12 := ⟨hx, hb, hml, hown, hts⟩
  have hl : lv_has ls 1 [(0, .int za)] := hl
  refine lv_iload_n hx hb dX12_isDigit_0 rfl (lv_at hl 0 rfl) ?_
  refine lv_i2l (v := za.toInt64) hx hb dX12_isDigit_1 rfl ?_
  refine lv_ldc2 hx hb hown (hts _ mw_494) dX12_isDigit_2 ?_
  refine lv_ldc2 hx hb hown (hts _ mw_495) dX12_isDigit_5 ?_
  refine cr_S (As := [.long za.toInt64, .long 48, .long 57]) (rest := []) hFX hKK (s_X12_isIn l D κ za.toInt64 48 57) 3 gS_X12_62 hdS_X12_isIn rfl rfl ⟨Nat.le_of_ble_eq_true rfl, Nat.le_of_ble_eq_true rfl⟩ rfl rfl (Nat.le_of_ble_eq_true rfl) dX12_isDigit_8 ⟨Nat.le_of_ble_eq_true rfl, Nat.le_of_ble_eq_true rfl⟩ hl.1 (hP.sub [] rfl) (fun r__1 hp_2 => ?_)
  replace hp_2 : ((r__1 = 1 ∧ ¬ lg_cmp za.toInt64 (48 : Int64) < 0 ∧ ¬ 0 < lg_cmp za.toInt64 (57 : Int64)) ∨ (r__1 = 0 ∧ (lg_cmp za.toInt64 (48 : Int64) < 0 ∨ 0 < lg_cmp za.toInt64 (57 : Int64)))) := hp_2
  have ha_3 := hp_2
  clear hp_2
  rcases ha_3 with ⟨rfl, a_4, a_5⟩ | ⟨rfl, a_6⟩
  · refine W.eq (g2 := F0 m 11 ls [.int 1]) rfl ?_
    have hin_7 : (48 : Int) ≤ za.toInt ∧ za.toInt ≤ (57 : Int) := l_in (l_of rfl) (by decide) (by decide) a_4 a_5
    obtain ⟨j_8, hj_8, rfl⟩ : ∃ j9 : Nat, (j9 : Int) ≤ (57 : Int) ∧ za = nI j9 := i_nat (by omega) (by omega)
    exact cr_iret hx hb hr hlk rfl 1 rfl (by exact Or.inl (⟨rfl, (show 48 ≤ (nI j_8).toInt from (by first | assumption | omega | rfl | exact Or.inl (by assumption) | exact Or.inr (by assumption))), (show (nI j_8).toInt ≤ 57 from (by first | assumption | omega | rfl | exact Or.inl (by assumption) | exact Or.inr (by assumption)))⟩)) dX12_isDigit_11
  · refine W.eq (g2 := F0 m 11 ls [.int 0]) rfl ?_
    have hin_9 : za.toInt < (48 : Int) ∨ (57 : Int) < za.toInt := l_out (l_of rfl) (by decide) (by decide) a_6
    exact cr_iret hx hb hr hlk rfl 0 rfl (by exact Or.inr ((⟨rfl, (show za.toInt < 48 ∨ 57 < za.toInt from (by first | assumption | omega | rfl | exact Or.inl (by assumption) | exact Or.inr (by assumption)))⟩))) dX12_isDigit_11
set_option maxHeartbeats 4000000 in
set_option maxRecDepth 100000 in
theorem f_X12_isLetter (l : Launch) (D : va_G) (κ : Nat → ClassId) (za : Int32) : Cr l yX12_isLetter (wl yX12_isLetter cX12_isLetter 1 (some .boolean)) { frames := 2, cells := 0, slots := 0, locals := 45 } D κ [.int za] (va_P D vwCl []) (fun r : Int32 => some (.int r)) (fun r : Int32 => ((r = 1 ∧ ltB za = true) ∨ (r = 0 ∧ ltB za = false))) := by
  refine cr_of (by decide +kernel) (Nat.le_of_ble_eq_true rfl) ?_
  intro p e s m args below meth c ls hx hb hr hml hts hown hlk hKK hK hI hl
  have hP : va_P D vwCl [] s.heap := hI
  have hFX : FX p s m args c cX12_isLetter 1 RX12 := ⟨hx, hb, hml, hown, hts⟩
  have hl : lv_has ls 1 [(0, .int za)] := hl
  refine lv_iload_n hx hb dX12_isLetter_0 rfl (lv_at hl 0 rfl) ?_
  refine lv_i2l (v := za.toInt64) hx hb dX12_isLetter_1 rfl ?_
  refine lv_ldc2 hx hb hown (hts _ mw_487) dX12_isLetter_2 ?_
  refine lv_ldc2 hx hb hown (hts _ mw_488) dX12_isLetter_5 ?_
  refine cr_S (As := [.long za.toInt64, .long 97, .long 122]) (rest := []) hFX hKK (s_X12_isIn l D κ za.toInt64 97 122) 3 gS_X12_62 hdS_X12_isIn rfl rfl ⟨Nat.le_of_ble_eq_true rfl, Nat.le_of_ble_eq_true rfl⟩ rfl rfl (Nat.le_of_ble_eq_true rfl) dX12_isLetter_8 ⟨Nat.le_of_ble_eq_true rfl, Nat.le_of_ble_eq_true rfl⟩ hl.1 (hP.sub [] rfl) (fun r__1 hp_2 => ?_)
  replace hp_2 : ((r__1 = 1 ∧ ¬ lg_cmp za.toInt64 (97 : Int64) < 0 ∧ ¬ 0 < lg_cmp za.toInt64 (122 : Int64)) ∨ (r__1 = 0 ∧ (lg_cmp za.toInt64 (97 : Int64) < 0 ∨ 0 < lg_cmp za.toInt64 (122 : Int64)))) := hp_2
  have ha_3 := hp_2
  clear hp_2
  rcases ha_3 with ⟨rfl, a_4, a_5⟩ | ⟨rfl, a_6⟩
  · refine W.eq (g2 := F0 m 11 ls [.int 1]) rfl ?_
    have hin_7 : (97 : Int) ≤ za.toInt ∧ za.toInt ≤ (122 : Int) := l_in (l_of rfl) (by decide) (by decide) a_4 a_5
    obtain ⟨j_8, hj_8, rfl⟩ : ∃ j9 : Nat, (j9 : Int) ≤ (122 : Int) ∧ za = nI j9 := i_nat (by omega) (by omega)
    refine lv_if_ne (tgt := 41) hx hb dX12_isLetter_11 (by decide) (fun c_9 => ?_) (fun c_9 => absurd c_9 (by decide))
    refine lv_iconst (v := 1) hx hb dX12_isLetter_41 (by decide) ?_
    refine lv_goto (tgt := 46) hx hb dX12_isLetter_42 (by decide) ?_
    exact cr_iret hx hb hr hlk rfl 1 rfl (by exact Or.inl (⟨rfl, (show ltB (nI j_8) = true from (ltB_t (by first | exact Or.inl ⟨by omega, by omega⟩ | exact Or.inr (Or.inl ⟨by omega, by omega⟩) | exact Or.inr (Or.inr (Or.inl ⟨by omega, by omega⟩)) | exact Or.inr (Or.inr (Or.inr (by assumption))))))⟩)) dX12_isLetter_46
  · refine W.eq (g2 := F0 m 11 ls [.int 0]) rfl ?_
    have hin_10 : za.toInt < (97 : Int) ∨ (122 : Int) < za.toInt := l_out (l_of rfl) (by decide) (by decide) a_6
    refine lv_if_ne (tgt := 41) hx hb dX12_isLetter_11 (by decide) (fun c_11 => absurd c_11 (by decide)) (fun c_11 => ?_)
    refine lv_iload_n hx hb dX12_isLetter_14 rfl (lv_at hl 0 rfl) ?_
    refine lv_i2l (v := za.toInt64) hx hb dX12_isLetter_15 rfl ?_
    refine lv_ldc2 hx hb hown (hts _ mw_489) dX12_isLetter_16 ?_
    refine lv_ldc2 hx hb hown (hts _ mw_490) dX12_isLetter_19 ?_
    refine cr_S (As := [.long za.toInt64, .long 65, .long 90]) (rest := []) hFX hKK (s_X12_isIn l D κ za.toInt64 65 90) 3 gS_X12_62 hdS_X12_isIn rfl rfl ⟨Nat.le_of_ble_eq_true rfl, Nat.le_of_ble_eq_true rfl⟩ rfl rfl (Nat.le_of_ble_eq_true rfl) dX12_isLetter_22 ⟨Nat.le_of_ble_eq_true rfl, Nat.le_of_ble_eq_true rfl⟩ hl.1 (hP.sub [] rfl) (fun r__12 hp_13 => ?_)
    replace hp_13 : ((r__12 = 1 ∧ ¬ lg_cmp za.toInt64 (65 : Int64) < 0 ∧ ¬ 0 < lg_cmp za.toInt64 (90 : Int64)) ∨ (r__12 = 0 ∧ (lg_cmp za.toInt64 (65 : Int64) < 0 ∨ 0 < lg_cmp za.toInt64 (90 : Int64)))) := hp_13
    have ha_14 := hp_13
    clear hp_13
    rcases ha_14 with ⟨rfl, a_15, a_16⟩ | ⟨rfl, a_17⟩
    · refine W.eq (g2 := F0 m 25 ls [.int 1]) rfl ?_
      have hin_18 : (65 : Int) ≤ za.toInt ∧ za.toInt ≤ (90 : Int) := l_in (l_of rfl) (by decide) (by decide) a_15 a_16
      obtain ⟨j_19, hj_19, rfl⟩ : ∃ j9 : Nat, (j9 : Int) ≤ (90 : Int) ∧ za = nI j9 := i_nat (by omega) (by omega)
      refine lv_if_ne (tgt := 41) hx hb dX12_isLetter_25 (by decide) (fun c_20 => ?_) (fun c_20 => absurd c_20 (by decide))
      refine lv_iconst (v := 1) hx hb dX12_isLetter_41 (by decide) ?_
      refine lv_goto (tgt := 46) hx hb dX12_isLetter_42 (by decide) ?_
      exact cr_iret hx hb hr hlk rfl 1 rfl (by exact Or.inl (⟨rfl, (show ltB (nI j_19) = true from (ltB_t (by first | exact Or.inl ⟨by omega, by omega⟩ | exact Or.inr (Or.inl ⟨by omega, by omega⟩) | exact Or.inr (Or.inr (Or.inl ⟨by omega, by omega⟩)) | exact Or.inr (Or.inr (Or.inr (by assumption))))))⟩)) dX12_isLetter_46
    · refine W.eq (g2 := F0 m 25 ls [.int 0]) rfl ?_
      have hin_21 : za.toInt < (65 : Int) ∨ (90 : Int) < za.toInt := l_out (l_of rfl) (by decide) (by decide) a_17
      refine lv_if_ne (tgt := 41) hx hb dX12_isLetter_25 (by decide) (fun c_22 => absurd c_22 (by decide)) (fun c_22 => ?_)
      refine lv_iload_n hx hb dX12_isLetter_28 rfl (lv_at hl 0 rfl) ?_
      refine cr_S (As := [.int za]) (rest := []) hFX hKK (f_X12_isDigit l D κ za) 1 gS_X12_101 hdS_X12_isDigit rfl rfl ⟨Nat.le_of_ble_eq_true rfl, Nat.le_of_ble_eq_true rfl⟩ rfl rfl (Nat.le_of_ble_eq_true rfl) dX12_isLetter_29 ⟨Nat.le_of_ble_eq_true rfl, Nat.le_of_ble_eq_true rfl⟩ hl.1 (hP.sub [] rfl) (fun r__23 hp_24 => ?_)
      replace hp_24 : ((r__23 = 1 ∧ 48 ≤ za.toInt ∧ za.toInt ≤ 57) ∨ (r__23 = 0 ∧ (za.toInt < 48 ∨ 57 < za.toInt))) := hp_24
      have ha_25 := hp_24
      clear hp_24
      rcases ha_25 with ⟨rfl, a_26, a_27⟩ | ⟨rfl, a_28⟩
      · refine W.eq (g2 := F0 m 32 ls [.int 1]) rfl ?_
        refine lv_if_ne (tgt := 41) hx hb dX12_isLetter_32 (by decide) (fun c_29 => ?_) (fun c_29 => absurd c_29 (by decide))
        refine lv_iconst (v := 1) hx hb dX12_isLetter_41 (by decide) ?_
        refine lv_goto (tgt := 46) hx hb dX12_isLetter_42 (by decide) ?_
        exact cr_iret hx hb hr hlk rfl 1 rfl (by exact Or.inl (⟨rfl, (show ltB za = true from (ltB_t (by first | exact Or.inl ⟨by omega, by omega⟩ | exact Or.inr (Or.inl ⟨by omega, by omega⟩) | exact Or.inr (Or.inr (Or.inl ⟨by omega, by omega⟩)) | exact Or.inr (Or.inr (Or.inr (by assumption))))))⟩)) dX12_isLetter_46
      · refine W.eq (g2 := F0 m 32 ls [.int 0]) rfl ?_
        refine lv_if_ne (tgt := 41) hx hb dX12_isLetter_32 (by decide) (fun c_30 => absurd c_30 (by decide)) (fun c_30 => ?_)
        refine lv_iload_n hx hb dX12_isLetter_35 rfl (lv_at hl 0 rfl) ?_
        refine lv_bipush (v := 95) hx hb dX12_isLetter_36 (by decide) ?_
        refine lv_icmp_ne (tgt := 45) hx hb dX12_isLetter_38 (by decide) (fun c_31 => ?_) (fun c_31 => ?_)
        · refine lv_iconst (v := 0) hx hb dX12_isLetter_45 (by decide) ?_
          exact cr_iret hx hb hr hlk rfl 0 rfl (by exact Or.inr ((⟨rfl, (show ltB za = false from (ltB_f (by omega) (by omega) (by omega) (by assumption)))⟩))) dX12_isLetter_46
        · refine lv_iconst (v := 1) hx hb dX12_isLetter_41 (by decide) ?_
          refine lv_goto (tgt := 46) hx hb dX12_isLetter_42 (by decide) ?_
          exact cr_iret hx hb hr hlk rfl 1 rfl (by exact Or.inl (⟨rfl, (show ltB za = true from (ltB_t (by first | exact Or.inl ⟨by omega, by omega⟩ | exact Or.inr (Or.inl ⟨by omega, by omega⟩) | exact Or.inr (Or.inr (Or.inl ⟨by omega, by omega⟩)) | exact Or.inr (Or.inr (Or.inr (by assumption))))))⟩)) dX12_isLetter_46
set_option maxHeartbeats 4000000 in
set_option maxRecDepth 100000 in
theorem f_X12_isName (l : Launch) (D : va_G) (κ : Nat → ClassId) (q : Nat) (N : Nat) (f : Nat → Int32) (a : Nat) (xs : List Int32) (hN : N < 2147483648) (ha : a + 1 + xs.length ≤ N) (hfa : FA f a xs) : Cr l yX12_isName (wl yX12_isName cX12_isName 3 (some .boolean)) { frames := 3, cells := 0, slots := 0, locals := 65 } D κ [.ref q, .int (nI a)] (va_P D vwCl [(q, .inl (κ 0, N, .inl f))]) (fun r : Int32 => some (.int r)) (fun r : Int32 => ((r = 1 ∧ xs.length ≤ 12 ∧ nvB xs = true) ∨ (r = 0 ∧ nvB xs = false))) := by
  refine cr_of (by decide +kernel) (Nat.le_of_ble_eq_true rfl) ?_
  intro p e s m args below meth c ls hx hb hr hml hts hown hlk hKK hK hI hl
  have hP : va_P D vwCl [(q, .inl (κ 0, N, .inl f))] s.heap := hI
  have hFX : FX p s m args c cX12_isName 3 RX12 := ⟨hx, hb, hml, hown, hts⟩
  have hl : lv_has ls 3 [(0, .ref q), (1, .int (nI a))] := hl
  obtain ⟨hfa1, hfa2, hfa3⟩ := id hfa
  refine lv_aload_n hx hb dX12_isName_0 rfl (lv_at hl 0 rfl) ?_
  refine lv_iload_n hx hb dX12_isName_1 rfl (lv_at hl 1 rfl) ?_
  refine va_iald hx hb hK hP 0 0 rfl rfl (i := nI a) (vp_in_nI (n := a) (by omega) (by omega)) dX12_isName_2 ?_
  refine kv (v := .int (f a)) (by rw [nI_clamp (by omega)]) ?_
  refine kv (v := .int (nI xs.length)) (congrArg Value.int hfa1) ?_
  refine lv_i2l (v := (nI xs.length).toInt64) hx hb dX12_isName_3 rfl ?_
  refine lv_lconst (v := 1) hx hb dX12_isName_4 (by decide) ?_
  refine lv_ldc2 hx hb hown (hts _ mw_483) dX12_isName_5 ?_
  refine cr_S (As := [.long ((nI xs.length).toInt64), .long 1, .long 12]) (rest := []) hFX hKK (s_X12_isIn l D κ ((nI xs.length).toInt64) 1 12) 3 gS_X12_62 hdS_X12_isIn rfl rfl ⟨Nat.le_of_ble_eq_true rfl, Nat.le_of_ble_eq_true rfl⟩ rfl rfl (Nat.le_of_ble_eq_true rfl) dX12_isName_8 ⟨Nat.le_of_ble_eq_true rfl, Nat.le_of_ble_eq_true rfl⟩ hl.1 (hP.sub [] rfl) (fun r__1 hp_2 => ?_)
  replace hp_2 : ((r__1 = 1 ∧ ¬ lg_cmp ((nI xs.length).toInt64) (1 : Int64) < 0 ∧ ¬ 0 < lg_cmp ((nI xs.length).toInt64) (12 : Int64)) ∨ (r__1 = 0 ∧ (lg_cmp ((nI xs.length).toInt64) (1 : Int64) < 0 ∨ 0 < lg_cmp ((nI xs.length).toInt64) (12 : Int64)))) := hp_2
  have ha_3 := hp_2
  clear hp_2
  rcases ha_3 with ⟨rfl, a_4, a_5⟩ | ⟨rfl, a_6⟩
  · refine W.eq (g2 := F0 m 11 ls [.int 1]) rfl ?_
    have hin_7 : (1 : Int) ≤ ((xs.length : Nat) : Int) ∧ ((xs.length : Nat) : Int) ≤ (12 : Int) := l_in (l_of (nI_toInt (by omega))) (by decide) (by decide) a_4 a_5
    refine lv_if_ne (tgt := 16) hx hb dX12_isName_11 (by decide) (fun c_8 => ?_) (fun c_8 => absurd c_8 (by decide))
    refine lv_iconst (v := 0) hx hb dX12_isName_16 (by decide) ?_
    refine lv_istore_n (lv' := [(2, .int 0), (0, .ref q), (1, .int (nI a))]) hx hb dX12_isName_17 rfl hl (by decide) rfl (fun ls hl => ?_)
    refine loop_r (fun k9 ls => ∃ (k2_18 : Nat), (k2_18 ≤ xs.length) ∧ ((lsF (fun i => f (a + 1 + i)) k2_18).all ltB = true) ∧ xs.length - k2_18 = k9 ∧ lv_has ls 3 [(2, .int (nI k2_18)), (0, .ref q), (1, .int (nI a))]) (fun k9 ls hI18 ih18 => ?_) (xs.length - 0) _ ⟨0, (by omega), rfl, rfl, lv_sub hl [0, 1, 2] rfl⟩
    obtain ⟨k2_18, hl18_0, hl18_1, hm18, hl⟩ := hI18
    refine lv_iload_n hx hb dX12_isName_18 rfl (lv_at hl 0 rfl) ?_
    refine lv_aload_n hx hb dX12_isName_19 rfl (lv_at hl 1 rfl) ?_
    refine lv_iload_n hx hb dX12_isName_20 rfl (lv_at hl 2 rfl) ?_
    refine va_iald hx hb hK hP 0 0 rfl rfl (i := nI a) (vp_in_nI (n := a) (by omega) (by omega)) dX12_isName_21 ?_
    refine kv (v := .int (nI xs.length)) (by rw [nI_clamp (by omega), show f a = (nI xs.length) from hfa1]) ?_
    refine lv_icmp_ge (tgt := 46) hx hb dX12_isName_22 (by decide) (fun c_9 => ?_) (fun c_9 => ?_)
    · have nc_9 := cv_le (a := xs.length) (b := k2_18) (by omega) (by omega) c_9
      refine lv_iconst (v := 1) hx hb dX12_isName_46 (by decide) ?_
      exact cr_iret hx hb hr hlk rfl 1 rfl (by exact Or.inl (⟨rfl, (show xs.length ≤ 12 from (by first | assumption | omega | rfl | exact Or.inl (by assumption) | exact Or.inr (by assumption))), (show nvB xs = true from (by rw [← hfa3]; exact nv_t (by omega) (by omega) (by have q9 := hl18_1; rw [show k2_18 = xs.length by omega] at q9; exact q9)))⟩)) dX12_isName_47
    · have nc_9 := cv_nle (a := xs.length) (b := k2_18) (by omega) (by omega) c_9
      refine lv_aload_n hx hb dX12_isName_25 rfl (lv_at hl 1 rfl) ?_
      refine lv_iload_n hx hb dX12_isName_26 rfl (lv_at hl 2 rfl) ?_
      refine lv_iconst (v := 1) hx hb dX12_isName_27 (by decide) ?_
      refine lv_iadd hx hb dX12_isName_28 ?_
      refine ki (v := (nI (a + 1))) (nI_add a 1) ?_
      refine lv_iload_n hx hb dX12_isName_29 rfl (lv_at hl 0 rfl) ?_
      refine lv_iadd hx hb dX12_isName_30 ?_
      refine ki (v := (nI (a + 1 + k2_18))) (nI_add (a + 1) k2_18) ?_
      refine va_iald hx hb hK hP 0 0 rfl rfl (i := nI (a + 1 + k2_18)) (vp_in_nI (n := (a + 1 + k2_18)) (by omega) (by omega)) dX12_isName_31 ?_
      refine kv (v := .int (f (a + 1 + k2_18))) (by rw [nI_clamp (by omega)]) ?_
      obtain ⟨x_10, ex_10⟩ : ∃ y9 : Int32, f (a + 1 + k2_18) = y9 := ⟨_, rfl⟩
      refine kv (v := .int x_10) (congrArg Value.int ex_10) ?_
      refine cr_S (As := [.int x_10]) (rest := []) hFX hKK (f_X12_isLetter l D κ x_10) 1 gS_X12_238 hdS_X12_isLetter rfl rfl ⟨Nat.le_of_ble_eq_true rfl, Nat.le_of_ble_eq_true rfl⟩ rfl rfl (Nat.le_of_ble_eq_true rfl) dX12_isName_32 ⟨Nat.le_of_ble_eq_true rfl, Nat.le_of_ble_eq_true rfl⟩ hl.1 (hP.sub [] rfl) (fun r__11 hp_12 => ?_)
      replace hp_12 : ((r__11 = 1 ∧ ltB x_10 = true) ∨ (r__11 = 0 ∧ ltB x_10 = false)) := hp_12
      have ha_13 := hp_12
      clear hp_12
      rcases ha_13 with ⟨rfl, a_14⟩ | ⟨rfl, a_15⟩
      · refine W.eq (g2 := F0 m 35 ls [.int 1]) rfl ?_
        refine lv_if_ne (tgt := 40) hx hb dX12_isName_35 (by decide) (fun c_16 => ?_) (fun c_16 => absurd c_16 (by decide))
        refine lv_iinc (v := (nI (k2_18 + 1))) (lv' := [(2, .int (nI (k2_18 + 1))), (0, .ref q), (1, .int (nI a))]) hx hb dX12_isName_40 hl (k := 0) rfl (nI_i k2_18) (by decide) rfl (fun ls hl => ?_)
        refine lv_goto (tgt := 18) hx hb dX12_isName_43 (by decide) ?_
        exact ih18 _ _ (by omega) ⟨(k2_18 + 1), (by omega), (al_go hl18_1 ex_10 a_14), rfl, lv_sub hl [0, 1, 2] rfl⟩
      · refine W.eq (g2 := F0 m 35 ls [.int 0]) rfl ?_
        refine lv_if_ne (tgt := 40) hx hb dX12_isName_35 (by decide) (fun c_17 => absurd c_17 (by decide)) (fun c_17 => ?_)
        refine lv_iconst (v := 0) hx hb dX12_isName_38 (by decide) ?_
        exact cr_iret hx hb hr hlk rfl 0 rfl (by exact Or.inr ((⟨rfl, (show nvB xs = false from (by rw [← hfa3]; exact nv_f (f := (fun i => f (a + 1 + i))) ex_10 a_15 (by omega)))⟩))) dX12_isName_39
  · refine W.eq (g2 := F0 m 11 ls [.int 0]) rfl ?_
    have hin_18 : ((xs.length : Nat) : Int) < (1 : Int) ∨ (12 : Int) < ((xs.length : Nat) : Int) := l_out (l_of (nI_toInt (by omega))) (by decide) (by decide) a_6
    refine lv_if_ne (tgt := 16) hx hb dX12_isName_11 (by decide) (fun c_19 => absurd c_19 (by decide)) (fun c_19 => ?_)
    refine lv_iconst (v := 0) hx hb dX12_isName_14 (by decide) ?_
    exact cr_iret hx hb hr hlk rfl 0 rfl (by exact Or.inr ((⟨rfl, (show nvB xs = false from (by rw [← hfa3]; exact nv_l (by omega)))⟩))) dX12_isName_15
set_option maxHeartbeats 4000000 in
set_option maxRecDepth 100000 in
theorem f_X12_compareBytes (l : Launch) (D : va_G) (κ : Nat → ClassId) (q : Nat) (N : Nat) (f : Nat → Int32) (q2 : Nat) (N2 : Nat) (g : Nat → Int32) (a : Nat) (b : Nat) (xs : List Int32) (ys : List Int32) (hN : N < 2147483648) (hN2 : N2 < 2147483648) (ha : a + 1 + xs.length ≤ N) (hb : b + 1 + ys.length ≤ N2) (hfa : FA f a xs) (hga : FA g b ys) : Cr l yX12_compareBytes (wl yX12_compareBytes cX12_compareBytes 7 (some .int)) { frames := 0, cells := 0, slots := 0, locals := 0 } D κ [.ref q, .int (nI a), .ref q2, .int (nI b)] (va_P D vwCl [(q, .inl (κ 0, N, .inl f)), (q2, .inl (κ 0, N2, .inl g))]) (fun n : Nat => some (.int (nI n))) (fun n : Nat => n ≤ 2 ∧ ((n = 0 ∧ xs = ys) ∨ (1 ≤ n ∧ ¬ xs = ys))) := by
  refine cr_of (by decide +kernel) (Nat.le_of_ble_eq_true rfl) ?_
  intro p e s m args below meth c ls hx hb hr hml hts hown hlk hKK hK hI hl
  have hP : va_P D vwCl [(q, .inl (κ 0, N, .inl f)), (q2, .inl (κ 0, N2, .inl g))] s.heap := hI
  have hFX : FX p s m args c cX12_compareBytes 7 RX12 := ⟨hx, hb, hml, hown, hts⟩
  have hl : lv_has ls 7 [(0, .ref q), (1, .int (nI a)), (2, .ref q2), (3, .int (nI b))] := hl
  obtain ⟨hfa1, hfa2, hfa3⟩ := id hfa
  obtain ⟨hga1, hga2, hga3⟩ := id hga
  refine lv_iconst (v := 0) hx hb dX12_compareBytes_0 (by decide) ?_
  refine lv_istore (lv' := [(4, .int 0), (0, .ref q), (1, .int (nI a)), (2, .ref q2), (3, .int (nI b))]) hx hb dX12_compareBytes_1 hl (by decide) rfl (fun ls hl => ?_)
  refine loop_r (fun k9 ls => ∃ (k4_3 : Nat), (k4_3 ≤ xs.length) ∧ (k4_3 ≤ ys.length) ∧ (lsF (fun i => f (a + 1 + i)) k4_3 = lsF (fun i => g (b + 1 + i)) k4_3) ∧ xs.length - k4_3 = k9 ∧ lv_has ls 7 [(4, .int (nI k4_3)), (0, .ref q), (1, .int (nI a)), (2, .ref q2), (3, .int (nI b))]) (fun k9 ls hI3 ih3 => ?_) (xs.length - 0) _ ⟨0, (by omega), (by omega), rfl, rfl, lv_sub hl [0, 1, 2, 3, 4] rfl⟩
  obtain ⟨k4_3, hl3_0, hl3_1, hl3_2, hm3, hl⟩ := hI3
  refine lv_iload hx hb dX12_compareBytes_3 (lv_at hl 0 rfl) ?_
  refine lv_aload_n hx hb dX12_compareBytes_5 rfl (lv_at hl 1 rfl) ?_
  refine lv_iload_n hx hb dX12_compareBytes_6 rfl (lv_at hl 2 rfl) ?_
  refine va_iald hx hb hK hP 0 0 rfl rfl (i := nI a) (vp_in_nI (n := a) (by omega) (by omega)) dX12_compareBytes_7 ?_
  refine kv (v := .int (f a)) (by rw [nI_clamp (by omega)]) ?_
  refine kv (v := .int (nI xs.length)) (congrArg Value.int hfa1) ?_
  refine lv_icmp_ge (tgt := 44) hx hb dX12_compareBytes_8 (by decide) (fun c_1 => ?_) (fun c_1 => ?_)
  · have nc_1 := cv_le (a := xs.length) (b := k4_3) (by omega) (by omega) c_1
    refine lv_iload hx hb dX12_compareBytes_44 (lv_at hl 0 rfl) ?_
    refine lv_aload_n hx hb dX12_compareBytes_46 rfl (lv_at hl 1 rfl) ?_
    refine lv_iload_n hx hb dX12_compareBytes_47 rfl (lv_at hl 2 rfl) ?_
    refine va_iald hx hb hK hP 0 0 rfl rfl (i := nI a) (vp_in_nI (n := a) (by omega) (by omega)) dX12_compareBytes_48 ?_
    refine kv (v := .int (nI xs.length)) (by rw [nI_clamp (by omega), show f a = (nI xs.length) from hfa1]) ?_
    refine lv_icmp_ne (tgt := 56) hx hb dX12_compareBytes_49 (by decide) (fun c_2 => ?_) (fun c_2 => ?_)
    · have nc_2 := cv_ne (a := k4_3) (b := xs.length) (by omega) (by omega) c_2
      omega
    · have nc_2 := cv_eq (a := k4_3) (b := xs.length) (by omega) (by omega) c_2
      refine lv_iconst (v := 1) hx hb dX12_compareBytes_52 (by decide) ?_
      refine lv_goto (tgt := 57) hx hb dX12_compareBytes_53 (by decide) ?_
      refine lv_istore (lv' := [(5, .int 1), (4, .int (nI k4_3)), (0, .ref q), (1, .int (nI a)), (2, .ref q2), (3, .int (nI b))]) hx hb dX12_compareBytes_57 hl (by decide) rfl (fun ls hl => ?_)
      refine lv_iload hx hb dX12_compareBytes_59 (lv_at hl 1 rfl) ?_
      refine lv_aload_n hx hb dX12_compareBytes_61 rfl (lv_at hl 4 rfl) ?_
      refine lv_iload_n hx hb dX12_compareBytes_62 rfl (lv_at hl 5 rfl) ?_
      refine va_iald hx hb hK hP 1 0 rfl rfl (i := nI b) (vp_in_nI (n := b) (by omega) (by omega)) dX12_compareBytes_63 ?_
      refine kv (v := .int (g b)) (by rw [nI_clamp (by omega)]) ?_
      refine kv (v := .int (nI ys.length)) (congrArg Value.int hga1) ?_
      refine lv_icmp_ne (tgt := 71) hx hb dX12_compareBytes_64 (by decide) (fun c_3 => ?_) (fun c_3 => ?_)
      · have nc_3 := cv_ne (a := k4_3) (b := ys.length) (by omega) (by omega) c_3
        refine lv_iconst (v := 0) hx hb dX12_compareBytes_71 (by decide) ?_
        refine lv_istore (lv' := [(6, .int 0), (5, .int 1), (4, .int (nI k4_3)), (0, .ref q), (1, .int (nI a)), (2, .ref q2), (3, .int (nI b))]) hx hb dX12_compareBytes_72 hl (by decide) rfl (fun ls hl => ?_)
        refine lv_iload hx hb dX12_compareBytes_74 (lv_at hl 1 rfl) ?_
        refine lv_if_ne (tgt := 84) hx hb dX12_compareBytes_76 (by decide) (fun c_4 => ?_) (fun c_4 => absurd c_4 (by decide))
        refine lv_iload hx hb dX12_compareBytes_84 (lv_at hl 1 rfl) ?_
        refine lv_if_eq (tgt := 98) hx hb dX12_compareBytes_86 (by decide) (fun c_5 => absurd c_5 (by decide)) (fun c_5 => ?_)
        refine lv_iload hx hb dX12_compareBytes_89 (lv_at hl 0 rfl) ?_
        refine lv_if_eq (tgt := 98) hx hb dX12_compareBytes_91 (by decide) (fun c_6 => ?_) (fun c_6 => absurd (by decide) c_6)
        refine lv_iload hx hb dX12_compareBytes_98 (lv_at hl 1 rfl) ?_
        refine lv_if_eq (tgt := 107) hx hb dX12_compareBytes_100 (by decide) (fun c_7 => absurd c_7 (by decide)) (fun c_7 => ?_)
        refine lv_iconst (v := 2) hx hb dX12_compareBytes_103 (by decide) ?_
        refine lv_goto (tgt := 108) hx hb dX12_compareBytes_104 (by decide) ?_
        exact cr_iret hx hb hr hlk rfl 2 rfl ⟨(show 2 ≤ 2 from (by first | assumption | omega | rfl | exact Or.inl (by assumption) | exact Or.inr (by assumption))), (show (2 = 0 ∧ xs = ys) ∨ (1 ≤ 2 ∧ ¬ xs = ys) from (Or.inr ⟨by omega, by rw [← hfa3, ← hga3]; exact lsF_nl (by omega)⟩))⟩ dX12_compareBytes_108
      · have nc_3 := cv_eq (a := k4_3) (b := ys.length) (by omega) (by omega) c_3
        refine lv_iconst (v := 1) hx hb dX12_compareBytes_67 (by decide) ?_
        refine lv_goto (tgt := 72) hx hb dX12_compareBytes_68 (by decide) ?_
        refine lv_istore (lv' := [(6, .int 1), (5, .int 1), (4, .int (nI k4_3)), (0, .ref q), (1, .int (nI a)), (2, .ref q2), (3, .int (nI b))]) hx hb dX12_compareBytes_72 hl (by decide) rfl (fun ls hl => ?_)
        refine lv_iload hx hb dX12_compareBytes_74 (lv_at hl 1 rfl) ?_
        refine lv_if_ne (tgt := 84) hx hb dX12_compareBytes_76 (by decide) (fun c_8 => ?_) (fun c_8 => absurd c_8 (by decide))
        refine lv_iload hx hb dX12_compareBytes_84 (lv_at hl 1 rfl) ?_
        refine lv_if_eq (tgt := 98) hx hb dX12_compareBytes_86 (by decide) (fun c_9 => absurd c_9 (by decide)) (fun c_9 => ?_)
        refine lv_iload hx hb dX12_compareBytes_89 (lv_at hl 0 rfl) ?_
        refine lv_if_eq (tgt := 98) hx hb dX12_compareBytes_91 (by decide) (fun c_10 => absurd c_10 (by decide)) (fun c_10 => ?_)
        refine lv_iconst (v := 0) hx hb dX12_compareBytes_94 (by decide) ?_
        refine lv_goto (tgt := 108) hx hb dX12_compareBytes_95 (by decide) ?_
        exact cr_iret hx hb hr hlk rfl 0 rfl ⟨(show 0 ≤ 2 from (by first | assumption | omega | rfl | exact Or.inl (by assumption) | exact Or.inr (by assumption))), (show (0 = 0 ∧ xs = ys) ∨ (1 ≤ 0 ∧ ¬ xs = ys) from (Or.inl ⟨rfl, by rw [← hfa3, ← hga3, show ys.length = xs.length by omega]; have q9 := hl3_2; rw [show k4_3 = xs.length by omega] at q9; exact q9⟩))⟩ dX12_compareBytes_108
  · have nc_1 := cv_nle (a := xs.length) (b := k4_3) (by omega) (by omega) c_1
    refine lv_iload hx hb dX12_compareBytes_11 (lv_at hl 0 rfl) ?_
    refine lv_aload_n hx hb dX12_compareBytes_13 rfl (lv_at hl 3 rfl) ?_
    refine lv_iload_n hx hb dX12_compareBytes_14 rfl (lv_at hl 4 rfl) ?_
    refine va_iald hx hb hK hP 1 0 rfl rfl (i := nI b) (vp_in_nI (n := b) (by omega) (by omega)) dX12_compareBytes_15 ?_
    refine kv (v := .int (g b)) (by rw [nI_clamp (by omega)]) ?_
    refine kv (v := .int (nI ys.length)) (congrArg Value.int hga1) ?_
    refine lv_icmp_ge (tgt := 44) hx hb dX12_compareBytes_16 (by decide) (fun c_11 => ?_) (fun c_11 => ?_)
    · have nc_11 := cv_le (a := ys.length) (b := k4_3) (by omega) (by omega) c_11
      refine lv_iload hx hb dX12_compareBytes_44 (lv_at hl 0 rfl) ?_
      refine lv_aload_n hx hb dX12_compareBytes_46 rfl (lv_at hl 1 rfl) ?_
      refine lv_iload_n hx hb dX12_compareBytes_47 rfl (lv_at hl 2 rfl) ?_
      refine va_iald hx hb hK hP 0 0 rfl rfl (i := nI a) (vp_in_nI (n := a) (by omega) (by omega)) dX12_compareBytes_48 ?_
      refine kv (v := .int (nI xs.length)) (by rw [nI_clamp (by omega), show f a = (nI xs.length) from hfa1]) ?_
      refine lv_icmp_ne (tgt := 56) hx hb dX12_compareBytes_49 (by decide) (fun c_12 => ?_) (fun c_12 => ?_)
      · have nc_12 := cv_ne (a := k4_3) (b := xs.length) (by omega) (by omega) c_12
        refine lv_iconst (v := 0) hx hb dX12_compareBytes_56 (by decide) ?_
        refine lv_istore (lv' := [(5, .int 0), (4, .int (nI k4_3)), (0, .ref q), (1, .int (nI a)), (2, .ref q2), (3, .int (nI b))]) hx hb dX12_compareBytes_57 hl (by decide) rfl (fun ls hl => ?_)
        refine lv_iload hx hb dX12_compareBytes_59 (lv_at hl 1 rfl) ?_
        refine lv_aload_n hx hb dX12_compareBytes_61 rfl (lv_at hl 4 rfl) ?_
        refine lv_iload_n hx hb dX12_compareBytes_62 rfl (lv_at hl 5 rfl) ?_
        refine va_iald hx hb hK hP 1 0 rfl rfl (i := nI b) (vp_in_nI (n := b) (by omega) (by omega)) dX12_compareBytes_63 ?_
        refine kv (v := .int (nI ys.length)) (by rw [nI_clamp (by omega), show g b = (nI ys.length) from hga1]) ?_
        refine lv_icmp_ne (tgt := 71) hx hb dX12_compareBytes_64 (by decide) (fun c_13 => ?_) (fun c_13 => ?_)
        · have nc_13 := cv_ne (a := k4_3) (b := ys.length) (by omega) (by omega) c_13
          omega
        · have nc_13 := cv_eq (a := k4_3) (b := ys.length) (by omega) (by omega) c_13
          refine lv_iconst (v := 1) hx hb dX12_compareBytes_67 (by decide) ?_
          refine lv_goto (tgt := 72) hx hb dX12_compareBytes_68 (by decide) ?_
          refine lv_istore (lv' := [(6, .int 1), (5, .int 0), (4, .int (nI k4_3)), (0, .ref q), (1, .int (nI a)), (2, .ref q2), (3, .int (nI b))]) hx hb dX12_compareBytes_72 hl (by decide) rfl (fun ls hl => ?_)
          refine lv_iload hx hb dX12_compareBytes_74 (lv_at hl 1 rfl) ?_
          refine lv_if_ne (tgt := 84) hx hb dX12_compareBytes_76 (by decide) (fun c_14 => absurd c_14 (by decide)) (fun c_14 => ?_)
          refine lv_iload hx hb dX12_compareBytes_79 (lv_at hl 0 rfl) ?_
          refine lv_if_eq (tgt := 109) hx hb dX12_compareBytes_81 (by decide) (fun c_15 => absurd c_15 (by decide)) (fun c_15 => ?_)
          refine lv_iload hx hb dX12_compareBytes_84 (lv_at hl 1 rfl) ?_
          refine lv_if_eq (tgt := 98) hx hb dX12_compareBytes_86 (by decide) (fun c_16 => ?_) (fun c_16 => absurd (by decide) c_16)
          refine lv_iload hx hb dX12_compareBytes_98 (lv_at hl 1 rfl) ?_
          refine lv_if_eq (tgt := 107) hx hb dX12_compareBytes_100 (by decide) (fun c_17 => ?_) (fun c_17 => absurd (by decide) c_17)
          refine lv_iconst (v := 1) hx hb dX12_compareBytes_107 (by decide) ?_
          exact cr_iret hx hb hr hlk rfl 1 rfl ⟨(show 1 ≤ 2 from (by first | assumption | omega | rfl | exact Or.inl (by assumption) | exact Or.inr (by assumption))), (show (1 = 0 ∧ xs = ys) ∨ (1 ≤ 1 ∧ ¬ xs = ys) from (Or.inr ⟨by omega, by rw [← hfa3, ← hga3]; exact lsF_nl (by omega)⟩))⟩ dX12_compareBytes_108
      · have nc_12 := cv_eq (a := k4_3) (b := xs.length) (by omega) (by omega) c_12
        omega
    · have nc_11 := cv_nle (a := ys.length) (b := k4_3) (by omega) (by omega) c_11
      refine lv_aload_n hx hb dX12_compareBytes_19 rfl (lv_at hl 1 rfl) ?_
      refine lv_iload_n hx hb dX12_compareBytes_20 rfl (lv_at hl 2 rfl) ?_
      refine lv_iconst (v := 1) hx hb dX12_compareBytes_21 (by decide) ?_
      refine lv_iadd hx hb dX12_compareBytes_22 ?_
      refine ki (v := (nI (a + 1))) (nI_add a 1) ?_
      refine lv_iload hx hb dX12_compareBytes_23 (lv_at hl 0 rfl) ?_
      refine lv_iadd hx hb dX12_compareBytes_25 ?_
      refine ki (v := (nI (a + 1 + k4_3))) (nI_add (a + 1) k4_3) ?_
      refine va_iald hx hb hK hP 0 0 rfl rfl (i := nI (a + 1 + k4_3)) (vp_in_nI (n := (a + 1 + k4_3)) (by omega) (by omega)) dX12_compareBytes_26 ?_
      refine kv (v := .int (f (a + 1 + k4_3))) (by rw [nI_clamp (by omega)]) ?_
      obtain ⟨x_18, ex_18⟩ : ∃ y9 : Int32, f (a + 1 + k4_3) = y9 := ⟨_, rfl⟩
      refine kv (v := .int x_18) (congrArg Value.int ex_18) ?_
      refine lv_aload_n hx hb dX12_compareBytes_27 rfl (lv_at hl 3 rfl) ?_
      refine lv_iload_n hx hb dX12_compareBytes_28 rfl (lv_at hl 4 rfl) ?_
      refine lv_iconst (v := 1) hx hb dX12_compareBytes_29 (by decide) ?_
      refine lv_iadd hx hb dX12_compareBytes_30 ?_
      refine ki (v := (nI (b + 1))) (nI_add b 1) ?_
      refine lv_iload hx hb dX12_compareBytes_31 (lv_at hl 0 rfl) ?_
      refine lv_iadd hx hb dX12_compareBytes_33 ?_
      refine ki (v := (nI (b + 1 + k4_3))) (nI_add (b + 1) k4_3) ?_
      refine va_iald hx hb hK hP 1 0 rfl rfl (i := nI (b + 1 + k4_3)) (vp_in_nI (n := (b + 1 + k4_3)) (by omega) (by omega)) dX12_compareBytes_34 ?_
      refine kv (v := .int (g (b + 1 + k4_3))) (by rw [nI_clamp (by omega)]) ?_
      obtain ⟨x_19, ex_19⟩ : ∃ y9 : Int32, g (b + 1 + k4_3) = y9 := ⟨_, rfl⟩
      refine kv (v := .int x_19) (congrArg Value.int ex_19) ?_
      refine lv_icmp_ne (tgt := 44) hx hb dX12_compareBytes_35 (by decide) (fun c_20 => ?_) (fun c_20 => ?_)
      · refine lv_iload hx hb dX12_compareBytes_44 (lv_at hl 0 rfl) ?_
        refine lv_aload_n hx hb dX12_compareBytes_46 rfl (lv_at hl 1 rfl) ?_
        refine lv_iload_n hx hb dX12_compareBytes_47 rfl (lv_at hl 2 rfl) ?_
        refine va_iald hx hb hK hP 0 0 rfl rfl (i := nI a) (vp_in_nI (n := a) (by omega) (by omega)) dX12_compareBytes_48 ?_
        refine kv (v := .int (nI xs.length)) (by rw [nI_clamp (by omega), show f a = (nI xs.length) from hfa1]) ?_
        refine lv_icmp_ne (tgt := 56) hx hb dX12_compareBytes_49 (by decide) (fun c_21 => ?_) (fun c_21 => ?_)
        · have nc_21 := cv_ne (a := k4_3) (b := xs.length) (by omega) (by omega) c_21
          refine lv_iconst (v := 0) hx hb dX12_compareBytes_56 (by decide) ?_
          refine lv_istore (lv' := [(5, .int 0), (4, .int (nI k4_3)), (0, .ref q), (1, .int (nI a)), (2, .ref q2), (3, .int (nI b))]) hx hb dX12_compareBytes_57 hl (by decide) rfl (fun ls hl => ?_)
          refine lv_iload hx hb dX12_compareBytes_59 (lv_at hl 1 rfl) ?_
          refine lv_aload_n hx hb dX12_compareBytes_61 rfl (lv_at hl 4 rfl) ?_
          refine lv_iload_n hx hb dX12_compareBytes_62 rfl (lv_at hl 5 rfl) ?_
          refine va_iald hx hb hK hP 1 0 rfl rfl (i := nI b) (vp_in_nI (n := b) (by omega) (by omega)) dX12_compareBytes_63 ?_
          refine kv (v := .int (nI ys.length)) (by rw [nI_clamp (by omega), show g b = (nI ys.length) from hga1]) ?_
          refine lv_icmp_ne (tgt := 71) hx hb dX12_compareBytes_64 (by decide) (fun c_22 => ?_) (fun c_22 => ?_)
          · have nc_22 := cv_ne (a := k4_3) (b := ys.length) (by omega) (by omega) c_22
            refine lv_iconst (v := 0) hx hb dX12_compareBytes_71 (by decide) ?_
            refine lv_istore (lv' := [(6, .int 0), (5, .int 0), (4, .int (nI k4_3)), (0, .ref q), (1, .int (nI a)), (2, .ref q2), (3, .int (nI b))]) hx hb dX12_compareBytes_72 hl (by decide) rfl (fun ls hl => ?_)
            refine lv_iload hx hb dX12_compareBytes_74 (lv_at hl 1 rfl) ?_
            refine lv_if_ne (tgt := 84) hx hb dX12_compareBytes_76 (by decide) (fun c_23 => absurd c_23 (by decide)) (fun c_23 => ?_)
            refine lv_iload hx hb dX12_compareBytes_79 (lv_at hl 0 rfl) ?_
            refine lv_if_eq (tgt := 109) hx hb dX12_compareBytes_81 (by decide) (fun c_24 => ?_) (fun c_24 => absurd (by decide) c_24)
            refine lv_aload_n hx hb dX12_compareBytes_109 rfl (lv_at hl 3 rfl) ?_
            refine lv_iload_n hx hb dX12_compareBytes_110 rfl (lv_at hl 4 rfl) ?_
            refine lv_iconst (v := 1) hx hb dX12_compareBytes_111 (by decide) ?_
            refine lv_iadd hx hb dX12_compareBytes_112 ?_
            refine ki (v := (nI (a + 1))) (nI_add a 1) ?_
            refine lv_iload hx hb dX12_compareBytes_113 (lv_at hl 2 rfl) ?_
            refine lv_iadd hx hb dX12_compareBytes_115 ?_
            refine ki (v := (nI (a + 1 + k4_3))) (nI_add (a + 1) k4_3) ?_
            refine va_iald hx hb hK hP 0 0 rfl rfl (i := nI (a + 1 + k4_3)) (vp_in_nI (n := (a + 1 + k4_3)) (by omega) (by omega)) dX12_compareBytes_116 ?_
            refine kv (v := .int x_18) (by rw [nI_clamp (by omega), show f (a + 1 + k4_3) = x_18 from ex_18]) ?_
            refine lv_aload_n hx hb dX12_compareBytes_117 rfl (lv_at hl 5 rfl) ?_
            refine lv_iload_n hx hb dX12_compareBytes_118 rfl (lv_at hl 6 rfl) ?_
            refine lv_iconst (v := 1) hx hb dX12_compareBytes_119 (by decide) ?_
            refine lv_iadd hx hb dX12_compareBytes_120 ?_
            refine ki (v := (nI (b + 1))) (nI_add b 1) ?_
            refine lv_iload hx hb dX12_compareBytes_121 (lv_at hl 2 rfl) ?_
            refine lv_iadd hx hb dX12_compareBytes_123 ?_
            refine ki (v := (nI (b + 1 + k4_3))) (nI_add (b + 1) k4_3) ?_
            refine va_iald hx hb hK hP 1 0 rfl rfl (i := nI (b + 1 + k4_3)) (vp_in_nI (n := (b + 1 + k4_3)) (by omega) (by omega)) dX12_compareBytes_124 ?_
            refine kv (v := .int x_19) (by rw [nI_clamp (by omega), show g (b + 1 + k4_3) = x_19 from ex_19]) ?_
            refine lv_icmp_le (tgt := 132) hx hb dX12_compareBytes_125 (by decide) (fun c_25 => ?_) (fun c_25 => ?_)
            · refine lv_iconst (v := 2) hx hb dX12_compareBytes_132 (by decide) ?_
              exact cr_iret hx hb hr hlk rfl 2 rfl ⟨(show 2 ≤ 2 from (by first | assumption | omega | rfl | exact Or.inl (by assumption) | exact Or.inr (by assumption))), (show (2 = 0 ∧ xs = ys) ∨ (1 ≤ 2 ∧ ¬ xs = ys) from (Or.inr ⟨by omega, by rw [← hfa3, ← hga3]; exact fun h9 => (by have q9 : xs.length = ys.length := (by have q8 := congrArg List.length h9; rw [lsF_len, lsF_len] at q8; exact q8); rw [← q9] at h9; exact lsF_ne (f := (fun i => f (a + 1 + i))) (g := (fun i => g (b + 1 + i))) ex_18 ex_19 c_20 (by omega) h9)⟩))⟩ dX12_compareBytes_133
            · refine lv_iconst (v := 1) hx hb dX12_compareBytes_128 (by decide) ?_
              refine lv_goto (tgt := 133) hx hb dX12_compareBytes_129 (by decide) ?_
              exact cr_iret hx hb hr hlk rfl 1 rfl ⟨(show 1 ≤ 2 from (by first | assumption | omega | rfl | exact Or.inl (by assumption) | exact Or.inr (by assumption))), (show (1 = 0 ∧ xs = ys) ∨ (1 ≤ 1 ∧ ¬ xs = ys) from (Or.inr ⟨by omega, by rw [← hfa3, ← hga3]; exact fun h9 => (by have q9 : xs.length = ys.length := (by have q8 := congrArg List.length h9; rw [lsF_len, lsF_len] at q8; exact q8); rw [← q9] at h9; exact lsF_ne (f := (fun i => f (a + 1 + i))) (g := (fun i => g (b + 1 + i))) ex_18 ex_19 c_20 (by omega) h9)⟩))⟩ dX12_compareBytes_133
          · have nc_22 := cv_eq (a := k4_3) (b := ys.length) (by omega) (by omega) c_22
            omega
        · have nc_21 := cv_eq (a := k4_3) (b := xs.length) (by omega) (by omega) c_21
          omega
      · refine lv_iinc (v := (nI (k4_3 + 1))) (lv' := [(4, .int (nI (k4_3 + 1))), (0, .ref q), (1, .int (nI a)), (2, .ref q2), (3, .int (nI b))]) hx hb dX12_compareBytes_38 hl (k := 0) rfl (nI_i k4_3) (by decide) rfl (fun ls hl => ?_)
        refine lv_goto (tgt := 3) hx hb dX12_compareBytes_41 (by decide) ?_
        exact ih3 _ _ (by omega) ⟨(k4_3 + 1), (by omega), (by omega), (lsF_go (f := (fun i => f (a + 1 + i))) (g := (fun i => g (b + 1 + i))) hl3_2 ex_18 ex_19 c_20), rfl, lv_sub hl [0, 1, 2, 3, 4] rfl⟩
set_option maxHeartbeats 4000000 in
set_option maxRecDepth 100000 in
theorem f_X12_areSame (l : Launch) (D : va_G) (κ : Nat → ClassId) (q : Nat) (N : Nat) (f : Nat → Int32) (q2 : Nat) (N2 : Nat) (g : Nat → Int32) (a : Nat) (b : Nat) (xs : List Int32) (ys : List Int32) (hN : N < 2147483648) (hN2 : N2 < 2147483648) (ha : a + 1 + xs.length ≤ N) (hb : b + 1 + ys.length ≤ N2) (hfa : FA f a xs) (hga : FA g b ys) : Cr l yX12_areSame (wl yX12_areSame cX12_areSame 4 (some .boolean)) { frames := 1, cells := 0, slots := 0, locals := 26 } D κ [.ref q, .int (nI a), .ref q2, .int (nI b)] (va_P D vwCl [(q, .inl (κ 0, N, .inl f)), (q2, .inl (κ 0, N2, .inl g))]) (fun r : Int32 => some (.int r)) (fun r : Int32 => ((r = 1 ∧ xs = ys) ∨ (r = 0 ∧ ¬ xs = ys))) := by
  refine cr_of (by decide +kernel) (Nat.le_of_ble_eq_true rfl) ?_
  intro p e s m args below meth c ls hx hb hr hml hts hown hlk hKK hK hI hl
  have hP : va_P D vwCl [(q, .inl (κ 0, N, .inl f)), (q2, .inl (κ 0, N2, .inl g))] s.heap := hI
  have hFX : FX p s m args c cX12_areSame 4 RX12 := ⟨hx, hb, hml, hown, hts⟩
  have hl : lv_has ls 4 [(0, .ref q), (1, .int (nI a)), (2, .ref q2), (3, .int (nI b))] := hl
  refine lv_aload_n hx hb dX12_areSame_0 rfl (lv_at hl 0 rfl) ?_
  refine lv_iload_n hx hb dX12_areSame_1 rfl (lv_at hl 1 rfl) ?_
  refine lv_aload_n hx hb dX12_areSame_2 rfl (lv_at hl 2 rfl) ?_
  refine lv_iload_n hx hb dX12_areSame_3 rfl (lv_at hl 3 rfl) ?_
  refine cr_S (As := [.ref q, .int (nI a), .ref q2, .int (nI b)]) (rest := []) hFX hKK (f_X12_compareBytes l D κ q N f q2 N2 g a b xs ys (by first | assumption | omega) (by first | assumption | omega) (by omega) (by omega) (by assumption) (by assumption)) 4 gS_X12_160 hdS_X12_compareBytes rfl rfl ⟨Nat.le_of_ble_eq_true rfl, Nat.le_of_ble_eq_true rfl⟩ rfl rfl (Nat.le_of_ble_eq_true rfl) dX12_areSame_4 ⟨Nat.le_of_ble_eq_true rfl, Nat.le_of_ble_eq_true rfl⟩ hl.1 (hP.sub [0, 1] rfl) (fun n__1 hp_2 => ?_)
  replace hp_2 : n__1 ≤ 2 ∧ ((n__1 = 0 ∧ xs = ys) ∨ (1 ≤ n__1 ∧ ¬ xs = ys)) := hp_2
  obtain ⟨h_3, h_4⟩ := hp_2
  refine W.eq (g2 := F0 m 7 ls [.int (nI n__1)]) rfl ?_
  refine lv_if_ne (tgt := 14) hx hb dX12_areSame_7 (by decide) (fun c_5 => ?_) (fun c_5 => ?_)
  · have nc_5 := cv_ne (a := n__1) (b := 0) (by omega) (by omega) c_5
    refine lv_iconst (v := 0) hx hb dX12_areSame_14 (by decide) ?_
    exact cr_iret hx hb hr hlk rfl 0 rfl (by exact Or.inr ((⟨rfl, (show ¬ xs = ys from (cp_n h_4 (by omega)))⟩))) dX12_areSame_15
  · have nc_5 := cv_eq (a := n__1) (b := 0) (by omega) (by omega) c_5
    refine lv_iconst (v := 1) hx hb dX12_areSame_10 (by decide) ?_
    refine lv_goto (tgt := 15) hx hb dX12_areSame_11 (by decide) ?_
    exact cr_iret hx hb hr hlk rfl 1 rfl (by exact Or.inl (⟨rfl, (show xs = ys from (cp_y h_4 (by omega)))⟩)) dX12_areSame_15
set_option maxHeartbeats 4000000 in
set_option maxRecDepth 100000 in
theorem f_X12_fits (l : Launch) (D : va_G) (κ : Nat → ClassId) (m0 : Nat) (a0 : Nat) (a1 : Nat) (a2 : Nat) (u3 : Nat) (f4 : Int32) (a5 : Nat) (u6 : Nat) (f7 : Int32) (f8 : Int32) (f9 : Int32) (f10 : Int32) (u11 : Nat) (u12 : Nat) (u13 : Nat) (a14 : Nat) (a15 : Nat) (a16 : Nat) (a17 : Nat) (f18 : Int32) (f19 : Int32) (a20 : Nat) (a21 : Nat) (u22 : Nat) (a23 : Nat) (a24 : Nat) (a25 : Nat) (u26 : Nat) (f27 : Int32) (a28 : Nat) (u29 : Nat) (w : Nat → Int32) (fd : Nat → Int32) (pt : Nat → Int32) (a : Nat) (h8 : PF f8) (h12 : u12 ≤ 8) (h13 : u13 ≤ 800) (h_a0 : Pw w) (h_a14 : Pfd fd) (h_a16 : Pb 9 800 pt) (ha : a ≤ 8) : Ct l yX12_fits (wl yX12_fits cX12_fits 3 (some .boolean)) { frames := 1, cells := 0, slots := 0, locals := 23 } D κ [.ref m0, .int (nI a)] [(m0, .inr (12, [.ref a0, .ref a1, .ref a2, .int (nI u3), .int f4, .ref a5, .int (nI u6), .int f7, .int f8, .int f9, .int f10, .int (nI u11), .int (nI u12), .int (nI u13), .ref a14, .ref a15, .ref a16, .ref a17, .int f18, .int f19, .ref a20, .ref a21, .int (nI u22), .ref a23, .ref a24, .ref a25, .int (nI u26), .int f27, .ref a28, .int (nI u29)])), (a0, .inl (κ 0, 21375, .inl w)), (a14, .inl (κ 0, 189, .inl fd)), (a16, .inl (κ 0, 9, .inl pt))] (fun _ => True) (fun u9 : Int32 × Int32 × Int32 × Int32 × (Nat → Int32) => some (.int u9.1)) (fun u9 : Int32 × Int32 × Int32 × Int32 × (Nat → Int32) => PF u9.2.2.1 ∧ Pfd u9.2.2.2.2 ∧ ((u9.1 = 1 ∧ wdB (dW w 4) u12 a = true) ∨ (u9.1 = 0 ∧ wdB (dW w 4) u12 a = false))) (fun u9 : Int32 × Int32 × Int32 × Int32 × (Nat → Int32) => [(m0, .inr (12, [.ref a0, .ref a1, .ref a2, .int (nI u3), .int f4, .ref a5, .int (nI u6), .int u9.2.1, .int u9.2.2.1, .int u9.2.2.2.1, .int f10, .int (nI u11), .int (nI u12), .int (nI u13), .ref a14, .ref a15, .ref a16, .ref a17, .int f18, .int f19, .ref a20, .ref a21, .int (nI u22), .ref a23, .ref a24, .ref a25, .int (nI u26), .int f27, .ref a28, .int (nI u29)])), (a0, .inl (κ 0, 21375, .inl w)), (a14, .inl (κ 0, 189, .inl u9.2.2.2.2)), (a16, .inl (κ 0, 9, .inl pt))]) (fun _ _ => True) := by
  refine ct_of (by decide +kernel) (Nat.le_of_ble_eq_true rfl) ?_
  intro p e s m args below meth c A ls hx hb hr hml hts hown hlk hin hKK hK hA hP hD hS hI hl
  have hS : va_S A s.heap s.heap [] := hS
  have hFX : FX p s m args c cX12_fits 3 RX12 := ⟨hx, hb, hml, hown, hts⟩
  have hl : lv_has ls 3 [(0, .ref m0), (1, .int (nI a))] := hl
  refine lv_aload_n hx hb dX12_fits_0 rfl (lv_at hl 0 rfl) ?_
  refine va_get (D := D) (ci := 12) (v := .int (nI u12)) (C := RX12) (T := TX12) (N := 30) hx hb hts inlX12 hown hK hP 0 rfl rfl 12 (by decide) (hts _ mw_446) (fun _ h9 => h9) rfl dX12_fits_1 ?_
  refine lv_iload_n hx hb dX12_fits_4 rfl (lv_at hl 1 rfl) ?_
  refine lv_icmp_ge (tgt := 36) hx hb dX12_fits_5 (by decide) (fun c_1 => ?_) (fun c_1 => ?_)
  · have nc_1 := cv_le (a := a) (b := u12) (by omega) (by omega) c_1
    refine lv_aload_n hx hb dX12_fits_36 rfl (lv_at hl 0 rfl) ?_
    refine va_get (D := D) (ci := 12) (v := .int (nI u12)) (C := RX12) (T := TX12) (N := 30) hx hb hts inlX12 hown hK hP 0 rfl rfl 12 (by decide) (hts _ mw_446) (fun _ h9 => h9) rfl dX12_fits_37 ?_
    refine lv_iload_n hx hb dX12_fits_40 rfl (lv_at hl 1 rfl) ?_
    refine lv_icmp_le (tgt := 74) hx hb dX12_fits_41 (by decide) (fun c_2 => ?_) (fun c_2 => ?_)
    · have nc_2 := cv_le (a := u12) (b := a) (by omega) (by omega) c_2
      refine lv_aload_n hx hb dX12_fits_74 rfl (lv_at hl 0 rfl) ?_
      refine va_get (D := D) (ci := 12) (v := .int (nI u12)) (C := RX12) (T := TX12) (N := 30) hx hb hts inlX12 hown hK hP 0 rfl rfl 12 (by decide) (hts _ mw_446) (fun _ h9 => h9) rfl dX12_fits_75 ?_
      refine lv_istore_n (lv' := [(2, .int (nI u12)), (0, .ref m0), (1, .int (nI a))]) hx hb dX12_fits_78 rfl hl (by decide) rfl (fun ls hl => ?_)
      refine loop_dn (fun k9 H locs ls => ∃ (k2_79 : Nat), ∃ (ga14_79 : Nat → Int32), (k2_79 ≤ 8) ∧ Pfd ga14_79 ∧ 8 - k2_79 = k9 ∧ va_P D vwCl [(m0, .inr (12, [.ref a0, .ref a1, .ref a2, .int (nI u3), .int f4, .ref a5, .int (nI u6), .int f7, .int f8, .int f9, .int f10, .int (nI u11), .int (nI u12), .int (nI u13), .ref a14, .ref a15, .ref a16, .ref a17, .int f18, .int f19, .ref a20, .ref a21, .int (nI u22), .ref a23, .ref a24, .ref a25, .int (nI u26), .int f27, .ref a28, .int (nI u29)])), (a0, .inl (κ 0, 21375, .inl w)), (a14, .inl (κ 0, 189, .inl ga14_79)), (a16, .inl (κ 0, 9, .inl pt))] H ∧ va_D A [(m0, .inr (12, [.ref a0, .ref a1, .ref a2, .int (nI u3), .int f4, .ref a5, .int (nI u6), .int f7, .int f8, .int f9, .int f10, .int (nI u11), .int (nI u12), .int (nI u13), .ref a14, .ref a15, .ref a16, .ref a17, .int f18, .int f19, .ref a20, .ref a21, .int (nI u22), .ref a23, .ref a24, .ref a25, .int (nI u26), .int f27, .ref a28, .int (nI u29)])), (a0, .inl (κ 0, 21375, .inl w)), (a14, .inl (κ 0, 189, .inl ga14_79)), (a16, .inl (κ 0, 9, .inl pt))] ∧ va_S A s.heap H locs ∧ lv_has ls 3 [(2, .int (nI k2_79)), (0, .ref m0), (1, .int (nI a))]) (fun k9 H locs ls hI79 ih79 => ?_) (8 - u12) _ _ _ ⟨u12, fd, (by omega), h_a14, rfl, hP, hD, hS, lv_sub hl [0, 1, 2] rfl⟩
      obtain ⟨k2_79, ga14_79, hl79_0, hg79_0, hm79, hP, hD, hS, hl⟩ := hI79
      refine lv_iload_n hx hb dX12_fits_79 rfl (lv_at hl 0 rfl) ?_
      refine lv_iload_n hx hb dX12_fits_80 rfl (lv_at hl 2 rfl) ?_
      refine lv_icmp_ge (tgt := 100) hx hb dX12_fits_81 (by decide) (fun c_3 => ?_) (fun c_3 => ?_)
      · have nc_3 := cv_le (a := a) (b := k2_79) (by omega) (by omega) c_3
        refine lv_iconst (v := 1) hx hb dX12_fits_100 (by decide) ?_
        exact ct_iret hx hb hr hlk rfl hS hP hD (1, f7, f8, f9, ga14_79) rfl ⟨(show PF f8 from (by assumption)), (show Pfd ga14_79 from (by first | assumption | omega | rfl | exact Or.inl (by assumption) | exact Or.inr (by assumption))), (by exact Or.inl (⟨rfl, (show wdB (dW w 4) u12 a = true from (wd_t (z := 0) (Or.inl (by omega)) (Or.inl (by omega))))⟩))⟩ [0, 1, 2, 3] rfl (by decide) trivial (Nat.le_of_ble_eq_true rfl) (Nat.le_of_ble_eq_true rfl) dX12_fits_101
      · have nc_3 := cv_nle (a := a) (b := k2_79) (by omega) (by omega) c_3
        refine lv_aload_n hx hb dX12_fits_84 rfl (lv_at hl 1 rfl) ?_
        refine va_get (D := D) (ci := 12) (v := .ref a14) (C := RX12) (T := TX12) (N := 30) hx hb hts inlX12 hown hK hP 0 rfl rfl 14 (by decide) (hts _ mw_194) (fun _ h9 => h9) rfl dX12_fits_85 ?_
        refine lv_bipush (v := 21) hx hb dX12_fits_88 (by decide) ?_
        refine lv_iload_n hx hb dX12_fits_90 rfl (lv_at hl 0 rfl) ?_
        refine lv_imul hx hb dX12_fits_91 ?_
        refine ki (v := (nI (21 * k2_79))) (pk_mul 21 k2_79) ?_
        refine lv_iconst (v := 0) hx hb dX12_fits_92 (by decide) ?_
        refine va_iast hx hb hK hP hD hS 2 0 rfl rfl (i := nI (21 * k2_79)) (x := 0) (vp_in_nI (n := (21 * k2_79)) (by omega) (by omega)) dX12_fits_93 (fun H locs hP hD hS => ?_)
        rw [nI_clamp (by omega)] at hP hD
        have hP : va_P D vwCl [(m0, .inr (12, [.ref a0, .ref a1, .ref a2, .int (nI u3), .int f4, .ref a5, .int (nI u6), .int f7, .int f8, .int f9, .int f10, .int (nI u11), .int (nI u12), .int (nI u13), .ref a14, .ref a15, .ref a16, .ref a17, .int f18, .int f19, .ref a20, .ref a21, .int (nI u22), .ref a23, .ref a24, .ref a25, .int (nI u26), .int f27, .ref a28, .int (nI u29)])), (a0, .inl (κ 0, 21375, .inl w)), (a14, .inl (κ 0, 189, .inl (upd ga14_79 (21 * k2_79) 0))), (a16, .inl (κ 0, 9, .inl pt))] H := hP
        have hD : va_D A [(m0, .inr (12, [.ref a0, .ref a1, .ref a2, .int (nI u3), .int f4, .ref a5, .int (nI u6), .int f7, .int f8, .int f9, .int f10, .int (nI u11), .int (nI u12), .int (nI u13), .ref a14, .ref a15, .ref a16, .ref a17, .int f18, .int f19, .ref a20, .ref a21, .int (nI u22), .ref a23, .ref a24, .ref a25, .int (nI u26), .int f27, .ref a28, .int (nI u29)])), (a0, .inl (κ 0, 21375, .inl w)), (a14, .inl (κ 0, 189, .inl (upd ga14_79 (21 * k2_79) 0))), (a16, .inl (κ 0, 9, .inl pt))] := hD
        have hf_5 : Pfd (upd ga14_79 (21 * k2_79) 0) := (Pfd_upd hg79_0 (c := k2_79) (by omega) ⟨0, by omega, rfl⟩)
        generalize upd ga14_79 (21 * k2_79) 0 = g_4 at hP hD hf_5
        refine lv_iinc (v := (nI (k2_79 + 1))) (lv' := [(2, .int (nI (k2_79 + 1))), (0, .ref m0), (1, .int (nI a))]) hx hb dX12_fits_94 hl (k := 0) rfl (nI_i k2_79) (by decide) rfl (fun ls hl => ?_)
        refine lv_goto (tgt := 79) hx hb dX12_fits_97 (by decide) ?_
        exact ih79 _ _ _ _ (by omega) ⟨(k2_79 + 1), g_4, (by omega), hf_5, rfl, hP, hD, hS, lv_sub hl [0, 1, 2] rfl⟩
    · have nc_2 := cv_nle (a := u12) (b := a) (by omega) (by omega) c_2
      refine lv_aload_n hx hb dX12_fits_44 rfl (lv_at hl 0 rfl) ?_
      refine va_get (D := D) (ci := 12) (v := .ref a0) (C := RX12) (T := TX12) (N := 30) hx hb hts inlX12 hown hK hP 0 rfl rfl 0 (by decide) (hts _ mw_187) (fun _ h9 => h9) rfl dX12_fits_45 ?_
      refine lv_sipush (v := 21373) hx hb dX12_fits_48 (by decide) ?_
      refine va_iald hx hb hK hP 1 0 rfl rfl (i := 21373) (vp_k (by decide)) dX12_fits_51 ?_
      obtain ⟨x_6, ex_6⟩ : ∃ y9 : Int32, w 21373 = y9 := ⟨_, rfl⟩
      refine kv (v := .int x_6) (congrArg Value.int ex_6) ?_
      refine lv_iconst (v := 2) hx hb dX12_fits_52 (by decide) ?_
      refine lv_iand hx hb dX12_fits_53 ?_
      refine lv_topi (fun x_7 ex_7 => ?_)
      refine lv_if_ne (tgt := 74) hx hb dX12_fits_54 (by decide) (fun c_8 => ?_) (fun c_8 => ?_)
      · refine lv_aload_n hx hb dX12_fits_74 rfl (lv_at hl 0 rfl) ?_
        refine va_get (D := D) (ci := 12) (v := .int (nI u12)) (C := RX12) (T := TX12) (N := 30) hx hb hts inlX12 hown hK hP 0 rfl rfl 12 (by decide) (hts _ mw_446) (fun _ h9 => h9) rfl dX12_fits_75 ?_
        refine lv_istore_n (lv' := [(2, .int (nI u12)), (0, .ref m0), (1, .int (nI a))]) hx hb dX12_fits_78 rfl hl (by decide) rfl (fun ls hl => ?_)
        refine loop_dn (fun k9 H locs ls => ∃ (k2_79 : Nat), ∃ (ga14_79 : Nat → Int32), (k2_79 ≤ 8) ∧ Pfd ga14_79 ∧ 8 - k2_79 = k9 ∧ va_P D vwCl [(m0, .inr (12, [.ref a0, .ref a1, .ref a2, .int (nI u3), .int f4, .ref a5, .int (nI u6), .int f7, .int f8, .int f9, .int f10, .int (nI u11), .int (nI u12), .int (nI u13), .ref a14, .ref a15, .ref a16, .ref a17, .int f18, .int f19, .ref a20, .ref a21, .int (nI u22), .ref a23, .ref a24, .ref a25, .int (nI u26), .int f27, .ref a28, .int (nI u29)])), (a0, .inl (κ 0, 21375, .inl w)), (a14, .inl (κ 0, 189, .inl ga14_79)), (a16, .inl (κ 0, 9, .inl pt))] H ∧ va_D A [(m0, .inr (12, [.ref a0, .ref a1, .ref a2, .int (nI u3), .int f4, .ref a5, .int (nI u6), .int f7, .int f8, .int f9, .int f10, .int (nI u11), .int (nI u12), .int (nI u13), .ref a14, .ref a15, .ref a16, .ref a17, .int f18, .int f19, .ref a20, .ref a21, .int (nI u22), .ref a23, .ref a24, .ref a25, .int (nI u26), .int f27, .ref a28, .int (nI u29)])), (a0, .inl (κ 0, 21375, .inl w)), (a14, .inl (κ 0, 189, .inl ga14_79)), (a16, .inl (κ 0, 9, .inl pt))] ∧ va_S A s.heap H locs ∧ lv_has ls 3 [(2, .int (nI k2_79)), (0, .ref m0), (1, .int (nI a))]) (fun k9 H locs ls hI79 ih79 => ?_) (8 - u12) _ _ _ ⟨u12, fd, (by omega), h_a14, rfl, hP, hD, hS, lv_sub hl [0, 1, 2] rfl⟩
        obtain ⟨k2_79, ga14_79, hl79_0, hg79_0, hm79, hP, hD, hS, hl⟩ := hI79
        refine lv_iload_n hx hb dX12_fits_79 rfl (lv_at hl 0 rfl) ?_
        refine lv_iload_n hx hb dX12_fits_80 rfl (lv_at hl 2 rfl) ?_
        refine lv_icmp_ge (tgt := 100) hx hb dX12_fits_81 (by decide) (fun c_9 => ?_) (fun c_9 => ?_)
        · have nc_9 := cv_le (a := a) (b := k2_79) (by omega) (by omega) c_9
          refine lv_iconst (v := 1) hx hb dX12_fits_100 (by decide) ?_
          exact ct_iret hx hb hr hlk rfl hS hP hD (1, f7, f8, f9, ga14_79) rfl ⟨(show PF f8 from (by assumption)), (show Pfd ga14_79 from (by first | assumption | omega | rfl | exact Or.inl (by assumption) | exact Or.inr (by assumption))), (by exact Or.inl (⟨rfl, (show wdB (dW w 4) u12 a = true from (wd_t (z := 0) (Or.inl (by omega)) (Or.inr ⟨_, (show x_7 = dW w 4 &&& 2 from (by show x_7 = w 21373 &&& 2; rw [ex_6]; exact ex_7)), c_8⟩)))⟩))⟩ [0, 1, 2, 3] rfl (by decide) trivial (Nat.le_of_ble_eq_true rfl) (Nat.le_of_ble_eq_true rfl) dX12_fits_101
        · have nc_9 := cv_nle (a := a) (b := k2_79) (by omega) (by omega) c_9
          refine lv_aload_n hx hb dX12_fits_84 rfl (lv_at hl 1 rfl) ?_
          refine va_get (D := D) (ci := 12) (v := .ref a14) (C := RX12) (T := TX12) (N := 30) hx hb hts inlX12 hown hK hP 0 rfl rfl 14 (by decide) (hts _ mw_194) (fun _ h9 => h9) rfl dX12_fits_85 ?_
          refine lv_bipush (v := 21) hx hb dX12_fits_88 (by decide) ?_
          refine lv_iload_n hx hb dX12_fits_90 rfl (lv_at hl 0 rfl) ?_
          refine lv_imul hx hb dX12_fits_91 ?_
          refine ki (v := (nI (21 * k2_79))) (pk_mul 21 k2_79) ?_
          refine lv_iconst (v := 0) hx hb dX12_fits_92 (by decide) ?_
          refine va_iast hx hb hK hP hD hS 2 0 rfl rfl (i := nI (21 * k2_79)) (x := 0) (vp_in_nI (n := (21 * k2_79)) (by omega) (by omega)) dX12_fits_93 (fun H locs hP hD hS => ?_)
          rw [nI_clamp (by omega)] at hP hD
          have hP : va_P D vwCl [(m0, .inr (12, [.ref a0, .ref a1, .ref a2, .int (nI u3), .int f4, .ref a5, .int (nI u6), .int f7, .int f8, .int f9, .int f10, .int (nI u11), .int (nI u12), .int (nI u13), .ref a14, .ref a15, .ref a16, .ref a17, .int f18, .int f19, .ref a20, .ref a21, .int (nI u22), .ref a23, .ref a24, .ref a25, .int (nI u26), .int f27, .ref a28, .int (nI u29)])), (a0, .inl (κ 0, 21375, .inl w)), (a14, .inl (κ 0, 189, .inl (upd ga14_79 (21 * k2_79) 0))), (a16, .inl (κ 0, 9, .inl pt))] H := hP
          have hD : va_D A [(m0, .inr (12, [.ref a0, .ref a1, .ref a2, .int (nI u3), .int f4, .ref a5, .int (nI u6), .int f7, .int f8, .int f9, .int f10, .int (nI u11), .int (nI u12), .int (nI u13), .ref a14, .ref a15, .ref a16, .ref a17, .int f18, .int f19, .ref a20, .ref a21, .int (nI u22), .ref a23, .ref a24, .ref a25, .int (nI u26), .int f27, .ref a28, .int (nI u29)])), (a0, .inl (κ 0, 21375, .inl w)), (a14, .inl (κ 0, 189, .inl (upd ga14_79 (21 * k2_79) 0))), (a16, .inl (κ 0, 9, .inl pt))] := hD
          have hf_11 : Pfd (upd ga14_79 (21 * k2_79) 0) := (Pfd_upd hg79_0 (c := k2_79) (by omega) ⟨0, by omega, rfl⟩)
          generalize upd ga14_79 (21 * k2_79) 0 = g_10 at hP hD hf_11
          refine lv_iinc (v := (nI (k2_79 + 1))) (lv' := [(2, .int (nI (k2_79 + 1))), (0, .ref m0), (1, .int (nI a))]) hx hb dX12_fits_94 hl (k := 0) rfl (nI_i k2_79) (by decide) rfl (fun ls hl => ?_)
          refine lv_goto (tgt := 79) hx hb dX12_fits_97 (by decide) ?_
          exact ih79 _ _ _ _ (by omega) ⟨(k2_79 + 1), g_10, (by omega), hf_11, rfl, hP, hD, hS, lv_sub hl [0, 1, 2] rfl⟩
      · refine lv_aload_n hx hb dX12_fits_57 rfl (lv_at hl 0 rfl) ?_
        refine lv_bipush (v := 8) hx hb dX12_fits_58 (by decide) ?_
        refine lv_aload_n hx hb dX12_fits_60 rfl (lv_at hl 0 rfl) ?_
        refine va_get (D := D) (ci := 12) (v := .ref a16) (C := RX12) (T := TX12) (N := 30) hx hb hts inlX12 hown hK hP 0 rfl rfl 16 (by decide) (hts _ mw_196) (fun _ h9 => h9) rfl dX12_fits_61 ?_
        refine lv_iload_n hx hb dX12_fits_64 rfl (lv_at hl 1 rfl) ?_
        refine va_iald hx hb hK hP 3 0 rfl rfl (i := nI a) (vp_in_nI (n := a) (by omega) (by omega)) dX12_fits_65 ?_
        refine kv (v := .int (pt a)) (by rw [nI_clamp (by omega)]) ?_
        obtain ⟨n_12, hn_12, en_12⟩ : ∃ n9 : Nat, n9 ≤ 800 ∧ pt a = nI n9 := id (h_a16 a (by omega))
        refine kv (v := .int (nI n_12)) (congrArg Value.int en_12) ?_
        refine lv_aload_n hx hb dX12_fits_66 rfl (lv_at hl 0 rfl) ?_
        refine va_get (D := D) (ci := 12) (v := .int (nI u12)) (C := RX12) (T := TX12) (N := 30) hx hb hts inlX12 hown hK hP 0 rfl rfl 12 (by decide) (hts _ mw_446) (fun _ h9 => h9) rfl dX12_fits_67 ?_
        refine ct_V (wr := [(a0, .inl (κ 0, 21375, .inl w)), (a14, .inl (κ 0, 189, .inl fd)), (a16, .inl (κ 0, 9, .inl pt))]) (As := [.int 8, .int (nI n_12), .int (nI u12)]) (rest := []) hFX hKK hP hD hS hA (s_X12_wrong l D κ m0 a0 a1 a2 u3 f4 a5 u6 f7 f8 f9 f10 u11 u12 u13 a14 a15 a16 a17 f18 f19 a20 a21 u22 a23 a24 a25 u26 f27 a28 u29 8 (nI n_12) (nI u12)) 3 gV_X12_210 hdV_X12_wrong ⟨Nat.le_of_ble_eq_true rfl, Nat.le_of_ble_eq_true rfl⟩ rfl rfl (Nat.le_of_ble_eq_true rfl) dX12_fits_70 ⟨Nat.le_of_ble_eq_true rfl, Nat.le_of_ble_eq_true rfl⟩ hl.1 [0] [1, 2, 3] rfl rfl (by decide) (by decide) (by decide) 0 12 rfl rfl rfl trivial (fun _ H locs hp_13 _ hP hD hS hz_ hk_ => ?_)
        replace hP : va_P D vwCl [(m0, .inr (12, [.ref a0, .ref a1, .ref a2, .int (nI u3), .int f4, .ref a5, .int (nI u6), .int 8, .int (nI n_12), .int (nI u12), .int f10, .int (nI u11), .int (nI u12), .int (nI u13), .ref a14, .ref a15, .ref a16, .ref a17, .int f18, .int f19, .ref a20, .ref a21, .int (nI u22), .ref a23, .ref a24, .ref a25, .int (nI u26), .int f27, .ref a28, .int (nI u29)])), (a0, .inl (κ 0, 21375, .inl w)), (a14, .inl (κ 0, 189, .inl fd)), (a16, .inl (κ 0, 9, .inl pt))] H := hP.sub [3, 0, 1, 2] rfl
        replace hD : va_D A [(m0, .inr (12, [.ref a0, .ref a1, .ref a2, .int (nI u3), .int f4, .ref a5, .int (nI u6), .int 8, .int (nI n_12), .int (nI u12), .int f10, .int (nI u11), .int (nI u12), .int (nI u13), .ref a14, .ref a15, .ref a16, .ref a17, .int f18, .int f19, .ref a20, .ref a21, .int (nI u22), .ref a23, .ref a24, .ref a25, .int (nI u26), .int f27, .ref a28, .int (nI u29)])), (a0, .inl (κ 0, 21375, .inl w)), (a14, .inl (κ 0, 189, .inl fd)), (a16, .inl (κ 0, 9, .inl pt))] := hD.sub [3, 0, 1, 2] (by decide) rfl
        refine W.eq (g2 := F0 m 73 ls [.int 0]) rfl ?_
        exact ct_iret hx hb hr hlk rfl hS hP hD (0, 8, nI n_12, nI u12, fd) rfl ⟨(show PF (nI n_12) from (PF_n (by omega))), (show Pfd fd from (by first | assumption | omega | rfl | exact Or.inl (by assumption) | exact Or.inr (by assumption))), (by exact Or.inr ((⟨rfl, (show wdB (dW w 4) u12 a = false from (wd_f2 (by omega) (show x_7 = dW w 4 &&& 2 from (by show x_7 = w 21373 &&& 2; rw [ex_6]; exact ex_7)) c_8))⟩)))⟩ [0, 1, 2, 3] rfl (by decide) trivial (Nat.le_of_ble_eq_true rfl) (Nat.le_of_ble_eq_true rfl) dX12_fits_73
  · have nc_1 := cv_nle (a := a) (b := u12) (by omega) (by omega) c_1
    refine lv_aload_n hx hb dX12_fits_8 rfl (lv_at hl 0 rfl) ?_
    refine va_get (D := D) (ci := 12) (v := .ref a0) (C := RX12) (T := TX12) (N := 30) hx hb hts inlX12 hown hK hP 0 rfl rfl 0 (by decide) (hts _ mw_187) (fun _ h9 => h9) rfl dX12_fits_9 ?_
    refine lv_sipush (v := 21373) hx hb dX12_fits_12 (by decide) ?_
    refine va_iald hx hb hK hP 1 0 rfl rfl (i := 21373) (vp_k (by decide)) dX12_fits_15 ?_
    obtain ⟨x_14, ex_14⟩ : ∃ y9 : Int32, w 21373 = y9 := ⟨_, rfl⟩
    refine kv (v := .int x_14) (congrArg Value.int ex_14) ?_
    refine lv_iconst (v := 1) hx hb dX12_fits_16 (by decide) ?_
    refine lv_iand hx hb dX12_fits_17 ?_
    refine lv_topi (fun x_15 ex_15 => ?_)
    refine lv_if_ne (tgt := 36) hx hb dX12_fits_18 (by decide) (fun c_16 => ?_) (fun c_16 => ?_)
    · refine lv_aload_n hx hb dX12_fits_36 rfl (lv_at hl 0 rfl) ?_
      refine va_get (D := D) (ci := 12) (v := .int (nI u12)) (C := RX12) (T := TX12) (N := 30) hx hb hts inlX12 hown hK hP 0 rfl rfl 12 (by decide) (hts _ mw_446) (fun _ h9 => h9) rfl dX12_fits_37 ?_
      refine lv_iload_n hx hb dX12_fits_40 rfl (lv_at hl 1 rfl) ?_
      refine lv_icmp_le (tgt := 74) hx hb dX12_fits_41 (by decide) (fun c_17 => ?_) (fun c_17 => ?_)
      · have nc_17 := cv_le (a := u12) (b := a) (by omega) (by omega) c_17
        refine lv_aload_n hx hb dX12_fits_74 rfl (lv_at hl 0 rfl) ?_
        refine va_get (D := D) (ci := 12) (v := .int (nI u12)) (C := RX12) (T := TX12) (N := 30) hx hb hts inlX12 hown hK hP 0 rfl rfl 12 (by decide) (hts _ mw_446) (fun _ h9 => h9) rfl dX12_fits_75 ?_
        refine lv_istore_n (lv' := [(2, .int (nI u12)), (0, .ref m0), (1, .int (nI a))]) hx hb dX12_fits_78 rfl hl (by decide) rfl (fun ls hl => ?_)
        refine loop_dn (fun k9 H locs ls => ∃ (k2_79 : Nat), ∃ (ga14_79 : Nat → Int32), (k2_79 ≤ 8) ∧ Pfd ga14_79 ∧ 8 - k2_79 = k9 ∧ va_P D vwCl [(m0, .inr (12, [.ref a0, .ref a1, .ref a2, .int (nI u3), .int f4, .ref a5, .int (nI u6), .int f7, .int f8, .int f9, .int f10, .int (nI u11), .int (nI u12), .int (nI u13), .ref a14, .ref a15, .ref a16, .ref a17, .int f18, .int f19, .ref a20, .ref a21, .int (nI u22), .ref a23, .ref a24, .ref a25, .int (nI u26), .int f27, .ref a28, .int (nI u29)])), (a0, .inl (κ 0, 21375, .inl w)), (a14, .inl (κ 0, 189, .inl ga14_79)), (a16, .inl (κ 0, 9, .inl pt))] H ∧ va_D A [(m0, .inr (12, [.ref a0, .ref a1, .ref a2, .int (nI u3), .int f4, .ref a5, .int (nI u6), .int f7, .int f8, .int f9, .int f10, .int (nI u11), .int (nI u12), .int (nI u13), .ref a14, .ref a15, .ref a16, .ref a17, .int f18, .int f19, .ref a20, .ref a21, .int (nI u22), .ref a23, .ref a24, .ref a25, .int (nI u26), .int f27, .ref a28, .int (nI u29)])), (a0, .inl (κ 0, 21375, .inl w)), (a14, .inl (κ 0, 189, .inl ga14_79)), (a16, .inl (κ 0, 9, .inl pt))] ∧ va_S A s.heap H locs ∧ lv_has ls 3 [(2, .int (nI k2_79)), (0, .ref m0), (1, .int (nI a))]) (fun k9 H locs ls hI79 ih79 => ?_) (8 - u12) _ _ _ ⟨u12, fd, (by omega), h_a14, rfl, hP, hD, hS, lv_sub hl [0, 1, 2] rfl⟩
        obtain ⟨k2_79, ga14_79, hl79_0, hg79_0, hm79, hP, hD, hS, hl⟩ := hI79
        refine lv_iload_n hx hb dX12_fits_79 rfl (lv_at hl 0 rfl) ?_
        refine lv_iload_n hx hb dX12_fits_80 rfl (lv_at hl 2 rfl) ?_
        refine lv_icmp_ge (tgt := 100) hx hb dX12_fits_81 (by decide) (fun c_18 => ?_) (fun c_18 => ?_)
        · have nc_18 := cv_le (a := a) (b := k2_79) (by omega) (by omega) c_18
          refine lv_iconst (v := 1) hx hb dX12_fits_100 (by decide) ?_
          exact ct_iret hx hb hr hlk rfl hS hP hD (1, f7, f8, f9, ga14_79) rfl ⟨(show PF f8 from (by assumption)), (show Pfd ga14_79 from (by first | assumption | omega | rfl | exact Or.inl (by assumption) | exact Or.inr (by assumption))), (by exact Or.inl (⟨rfl, (show wdB (dW w 4) u12 a = true from (wd_t (z := 0) (Or.inr ⟨_, (show x_15 = dW w 4 &&& 1 from (by show x_15 = w 21373 &&& 1; rw [ex_14]; exact ex_15)), c_16⟩) (Or.inl (by omega))))⟩))⟩ [0, 1, 2, 3] rfl (by decide) trivial (Nat.le_of_ble_eq_true rfl) (Nat.le_of_ble_eq_true rfl) dX12_fits_101
        · have nc_18 := cv_nle (a := a) (b := k2_79) (by omega) (by omega) c_18
          refine lv_aload_n hx hb dX12_fits_84 rfl (lv_at hl 1 rfl) ?_
          refine va_get (D := D) (ci := 12) (v := .ref a14) (C := RX12) (T := TX12) (N := 30) hx hb hts inlX12 hown hK hP 0 rfl rfl 14 (by decide) (hts _ mw_194) (fun _ h9 => h9) rfl dX12_fits_85 ?_
          refine lv_bipush (v := 21) hx hb dX12_fits_88 (by decide) ?_
          refine lv_iload_n hx hb dX12_fits_90 rfl (lv_at hl 0 rfl) ?_
          refine lv_imul hx hb dX12_fits_91 ?_
          refine ki (v := (nI (21 * k2_79))) (pk_mul 21 k2_79) ?_
          refine lv_iconst (v := 0) hx hb dX12_fits_92 (by decide) ?_
          refine va_iast hx hb hK hP hD hS 2 0 rfl rfl (i := nI (21 * k2_79)) (x := 0) (vp_in_nI (n := (21 * k2_79)) (by omega) (by omega)) dX12_fits_93 (fun H locs hP hD hS => ?_)
          rw [nI_clamp (by omega)] at hP hD
          have hP : va_P D vwCl [(m0, .inr (12, [.ref a0, .ref a1, .ref a2, .int (nI u3), .int f4, .ref a5, .int (nI u6), .int f7, .int f8, .int f9, .int f10, .int (nI u11), .int (nI u12), .int (nI u13), .ref a14, .ref a15, .ref a16, .ref a17, .int f18, .int f19, .ref a20, .ref a21, .int (nI u22), .ref a23, .ref a24, .ref a25, .int (nI u26), .int f27, .ref a28, .int (nI u29)])), (a0, .inl (κ 0, 21375, .inl w)), (a14, .inl (κ 0, 189, .inl (upd ga14_79 (21 * k2_79) 0))), (a16, .inl (κ 0, 9, .inl pt))] H := hP
          have hD : va_D A [(m0, .inr (12, [.ref a0, .ref a1, .ref a2, .int (nI u3), .int f4, .ref a5, .int (nI u6), .int f7, .int f8, .int f9, .int f10, .int (nI u11), .int (nI u12), .int (nI u13), .ref a14, .ref a15, .ref a16, .ref a17, .int f18, .int f19, .ref a20, .ref a21, .int (nI u22), .ref a23, .ref a24, .ref a25, .int (nI u26), .int f27, .ref a28, .int (nI u29)])), (a0, .inl (κ 0, 21375, .inl w)), (a14, .inl (κ 0, 189, .inl (upd ga14_79 (21 * k2_79) 0))), (a16, .inl (κ 0, 9, .inl pt))] := hD
          have hf_20 : Pfd (upd ga14_79 (21 * k2_79) 0) := (Pfd_upd hg79_0 (c := k2_79) (by omega) ⟨0, by omega, rfl⟩)
          generalize upd ga14_79 (21 * k2_79) 0 = g_19 at hP hD hf_20
          refine lv_iinc (v := (nI (k2_79 + 1))) (lv' := [(2, .int (nI (k2_79 + 1))), (0, .ref m0), (1, .int (nI a))]) hx hb dX12_fits_94 hl (k := 0) rfl (nI_i k2_79) (by decide) rfl (fun ls hl => ?_)
          refine lv_goto (tgt := 79) hx hb dX12_fits_97 (by decide) ?_
          exact ih79 _ _ _ _ (by omega) ⟨(k2_79 + 1), g_19, (by omega), hf_20, rfl, hP, hD, hS, lv_sub hl [0, 1, 2] rfl⟩
      · have nc_17 := cv_nle (a := u12) (b := a) (by omega) (by omega) c_17
        refine lv_aload_n hx hb dX12_fits_44 rfl (lv_at hl 0 rfl) ?_
        refine va_get (D := D) (ci := 12) (v := .ref a0) (C := RX12) (T := TX12) (N := 30) hx hb hts inlX12 hown hK hP 0 rfl rfl 0 (by decide) (hts _ mw_187) (fun _ h9 => h9) rfl dX12_fits_45 ?_
        refine lv_sipush (v := 21373) hx hb dX12_fits_48 (by decide) ?_
        refine va_iald hx hb hK hP 1 0 rfl rfl (i := 21373) (vp_k (by decide)) dX12_fits_51 ?_
        refine kv (v := .int x_14) (congrArg Value.int (ex_14)) ?_
        refine lv_iconst (v := 2) hx hb dX12_fits_52 (by decide) ?_
        refine lv_iand hx hb dX12_fits_53 ?_
        refine lv_topi (fun x_21 ex_21 => ?_)
        refine lv_if_ne (tgt := 74) hx hb dX12_fits_54 (by decide) (fun c_22 => ?_) (fun c_22 => ?_)
        · refine lv_aload_n hx hb dX12_fits_74 rfl (lv_at hl 0 rfl) ?_
          refine va_get (D := D) (ci := 12) (v := .int (nI u12)) (C := RX12) (T := TX12) (N := 30) hx hb hts inlX12 hown hK hP 0 rfl rfl 12 (by decide) (hts _ mw_446) (fun _ h9 => h9) rfl dX12_fits_75 ?_
          refine lv_istore_n (lv' := [(2, .int (nI u12)), (0, .ref m0), (1, .int (nI a))]) hx hb dX12_fits_78 rfl hl (by decide) rfl (fun ls hl => ?_)
          refine loop_dn (fun k9 H locs ls => ∃ (k2_79 : Nat), ∃ (ga14_79 : Nat → Int32), (k2_79 ≤ 8) ∧ Pfd ga14_79 ∧ 8 - k2_79 = k9 ∧ va_P D vwCl [(m0, .inr (12, [.ref a0, .ref a1, .ref a2, .int (nI u3), .int f4, .ref a5, .int (nI u6), .int f7, .int f8, .int f9, .int f10, .int (nI u11), .int (nI u12), .int (nI u13), .ref a14, .ref a15, .ref a16, .ref a17, .int f18, .int f19, .ref a20, .ref a21, .int (nI u22), .ref a23, .ref a24, .ref a25, .int (nI u26), .int f27, .ref a28, .int (nI u29)])), (a0, .inl (κ 0, 21375, .inl w)), (a14, .inl (κ 0, 189, .inl ga14_79)), (a16, .inl (κ 0, 9, .inl pt))] H ∧ va_D A [(m0, .inr (12, [.ref a0, .ref a1, .ref a2, .int (nI u3), .int f4, .ref a5, .int (nI u6), .int f7, .int f8, .int f9, .int f10, .int (nI u11), .int (nI u12), .int (nI u13), .ref a14, .ref a15, .ref a16, .ref a17, .int f18, .int f19, .ref a20, .ref a21, .int (nI u22), .ref a23, .ref a24, .ref a25, .int (nI u26), .int f27, .ref a28, .int (nI u29)])), (a0, .inl (κ 0, 21375, .inl w)), (a14, .inl (κ 0, 189, .inl ga14_79)), (a16, .inl (κ 0, 9, .inl pt))] ∧ va_S A s.heap H locs ∧ lv_has ls 3 [(2, .int (nI k2_79)), (0, .ref m0), (1, .int (nI a))]) (fun k9 H locs ls hI79 ih79 => ?_) (8 - u12) _ _ _ ⟨u12, fd, (by omega), h_a14, rfl, hP, hD, hS, lv_sub hl [0, 1, 2] rfl⟩
          obtain ⟨k2_79, ga14_79, hl79_0, hg79_0, hm79, hP, hD, hS, hl⟩ := hI79
          refine lv_iload_n hx hb dX12_fits_79 rfl (lv_at hl 0 rfl) ?_
          refine lv_iload_n hx hb dX12_fits_80 rfl (lv_at hl 2 rfl) ?_
          refine lv_icmp_ge (tgt := 100) hx hb dX12_fits_81 (by decide) (fun c_23 => ?_) (fun c_23 => ?_)
          · have nc_23 := cv_le (a := a) (b := k2_79) (by omega) (by omega) c_23
            refine lv_iconst (v := 1) hx hb dX12_fits_100 (by decide) ?_
            exact ct_iret hx hb hr hlk rfl hS hP hD (1, f7, f8, f9, ga14_79) rfl ⟨(show PF f8 from (by assumption)), (show Pfd ga14_79 from (by first | assumption | omega | rfl | exact Or.inl (by assumption) | exact Or.inr (by assumption))), (by exact Or.inl (⟨rfl, (show wdB (dW w 4) u12 a = true from (wd_t (z := 0) (Or.inr ⟨_, (show x_15 = dW w 4 &&& 1 from (by show x_15 = w 21373 &&& 1; rw [ex_14]; exact ex_15)), c_16⟩) (Or.inr ⟨_, (show x_21 = dW w 4 &&& 2 from (by show x_21 = w 21373 &&& 2; rw [ex_14]; exact ex_21)), c_22⟩)))⟩))⟩ [0, 1, 2, 3] rfl (by decide) trivial (Nat.le_of_ble_eq_true rfl) (Nat.le_of_ble_eq_true rfl) dX12_fits_101
          · have nc_23 := cv_nle (a := a) (b := k2_79) (by omega) (by omega) c_23
            refine lv_aload_n hx hb dX12_fits_84 rfl (lv_at hl 1 rfl) ?_
            refine va_get (D := D) (ci := 12) (v := .ref a14) (C := RX12) (T := TX12) (N := 30) hx hb hts inlX12 hown hK hP 0 rfl rfl 14 (by decide) (hts _ mw_194) (fun _ h9 => h9) rfl dX12_fits_85 ?_
            refine lv_bipush (v := 21) hx hb dX12_fits_88 (by decide) ?_
            refine lv_iload_n hx hb dX12_fits_90 rfl (lv_at hl 0 rfl) ?_
            refine lv_imul hx hb dX12_fits_91 ?_
            refine ki (v := (nI (21 * k2_79))) (pk_mul 21 k2_79) ?_
            refine lv_iconst (v := 0) hx hb dX12_fits_92 (by decide) ?_
            refine va_iast hx hb hK hP hD hS 2 0 rfl rfl (i := nI (21 * k2_79)) (x := 0) (vp_in_nI (n := (21 * k2_79)) (by omega) (by omega)) dX12_fits_93 (fun H locs hP hD hS => ?_)
            rw [nI_clamp (by omega)] at hP hD
            have hP : va_P D vwCl [(m0, .inr (12, [.ref a0, .ref a1, .ref a2, .int (nI u3), .int f4, .ref a5, .int (nI u6), .int f7, .int f8, .int f9, .int f10, .int (nI u11), .int (nI u12), .int (nI u13), .ref a14, .ref a15, .ref a16, .ref a17, .int f18, .int f19, .ref a20, .ref a21, .int (nI u22), .ref a23, .ref a24, .ref a25, .int (nI u26), .int f27, .ref a28, .int (nI u29)])), (a0, .inl (κ 0, 21375, .inl w)), (a14, .inl (κ 0, 189, .inl (upd ga14_79 (21 * k2_79) 0))), (a16, .inl (κ 0, 9, .inl pt))] H := hP
            have hD : va_D A [(m0, .inr (12, [.ref a0, .ref a1, .ref a2, .int (nI u3), .int f4, .ref a5, .int (nI u6), .int f7, .int f8, .int f9, .int f10, .int (nI u11), .int (nI u12), .int (nI u13), .ref a14, .ref a15, .ref a16, .ref a17, .int f18, .int f19, .ref a20, .ref a21, .int (nI u22), .ref a23, .ref a24, .ref a25, .int (nI u26), .int f27, .ref a28, .int (nI u29)])), (a0, .inl (κ 0, 21375, .inl w)), (a14, .inl (κ 0, 189, .inl (upd ga14_79 (21 * k2_79) 0))), (a16, .inl (κ 0, 9, .inl pt))] := hD
            have hf_25 : Pfd (upd ga14_79 (21 * k2_79) 0) := (Pfd_upd hg79_0 (c := k2_79) (by omega) ⟨0, by omega, rfl⟩)
            generalize upd ga14_79 (21 * k2_79) 0 = g_24 at hP hD hf_25
            refine lv_iinc (v := (nI (k2_79 + 1))) (lv' := [(2, .int (nI (k2_79 + 1))), (0, .ref m0), (1, .int (nI a))]) hx hb dX12_fits_94 hl (k := 0) rfl (nI_i k2_79) (by decide) rfl (fun ls hl => ?_)
            refine lv_goto (tgt := 79) hx hb dX12_fits_97 (by decide) ?_
            exact ih79 _ _ _ _ (by omega) ⟨(k2_79 + 1), g_24, (by omega), hf_25, rfl, hP, hD, hS, lv_sub hl [0, 1, 2] rfl⟩
        · refine lv_aload_n hx hb dX12_fits_57 rfl (lv_at hl 0 rfl) ?_
          refine lv_bipush (v := 8) hx hb dX12_fits_58 (by decide) ?_
          refine lv_aload_n hx hb dX12_fits_60 rfl (lv_at hl 0 rfl) ?_
          refine va_get (D := D) (ci := 12) (v := .ref a16) (C := RX12) (T := TX12) (N := 30) hx hb hts inlX12 hown hK hP 0 rfl rfl 16 (by decide) (hts _ mw_196) (fun _ h9 => h9) rfl dX12_fits_61 ?_
          refine lv_iload_n hx hb dX12_fits_64 rfl (lv_at hl 1 rfl) ?_
          refine va_iald hx hb hK hP 3 0 rfl rfl (i := nI a) (vp_in_nI (n := a) (by omega) (by omega)) dX12_fits_65 ?_
          refine kv (v := .int (pt a)) (by rw [nI_clamp (by omega)]) ?_
          obtain ⟨n_26, hn_26, en_26⟩ : ∃ n9 : Nat, n9 ≤ 800 ∧ pt a = nI n9 := id (h_a16 a (by omega))
          refine kv (v := .int (nI n_26)) (congrArg Value.int en_26) ?_
          refine lv_aload_n hx hb dX12_fits_66 rfl (lv_at hl 0 rfl) ?_
          refine va_get (D := D) (ci := 12) (v := .int (nI u12)) (C := RX12) (T := TX12) (N := 30) hx hb hts inlX12 hown hK hP 0 rfl rfl 12 (by decide) (hts _ mw_446) (fun _ h9 => h9) rfl dX12_fits_67 ?_
          refine ct_V (wr := [(a0, .inl (κ 0, 21375, .inl w)), (a14, .inl (κ 0, 189, .inl fd)), (a16, .inl (κ 0, 9, .inl pt))]) (As := [.int 8, .int (nI n_26), .int (nI u12)]) (rest := []) hFX hKK hP hD hS hA (s_X12_wrong l D κ m0 a0 a1 a2 u3 f4 a5 u6 f7 f8 f9 f10 u11 u12 u13 a14 a15 a16 a17 f18 f19 a20 a21 u22 a23 a24 a25 u26 f27 a28 u29 8 (nI n_26) (nI u12)) 3 gV_X12_210 hdV_X12_wrong ⟨Nat.le_of_ble_eq_true rfl, Nat.le_of_ble_eq_true rfl⟩ rfl rfl (Nat.le_of_ble_eq_true rfl) dX12_fits_70 ⟨Nat.le_of_ble_eq_true rfl, Nat.le_of_ble_eq_true rfl⟩ hl.1 [0] [1, 2, 3] rfl rfl (by decide) (by decide) (by decide) 0 12 rfl rfl rfl trivial (fun _ H locs hp_27 _ hP hD hS hz_ hk_ => ?_)
          replace hP : va_P D vwCl [(m0, .inr (12, [.ref a0, .ref a1, .ref a2, .int (nI u3), .int f4, .ref a5, .int (nI u6), .int 8, .int (nI n_26), .int (nI u12), .int f10, .int (nI u11), .int (nI u12), .int (nI u13), .ref a14, .ref a15, .ref a16, .ref a17, .int f18, .int f19, .ref a20, .ref a21, .int (nI u22), .ref a23, .ref a24, .ref a25, .int (nI u26), .int f27, .ref a28, .int (nI u29)])), (a0, .inl (κ 0, 21375, .inl w)), (a14, .inl (κ 0, 189, .inl fd)), (a16, .inl (κ 0, 9, .inl pt))] H := hP.sub [3, 0, 1, 2] rfl
          replace hD : va_D A [(m0, .inr (12, [.ref a0, .ref a1, .ref a2, .int (nI u3), .int f4, .ref a5, .int (nI u6), .int 8, .int (nI n_26), .int (nI u12), .int f10, .int (nI u11), .int (nI u12), .int (nI u13), .ref a14, .ref a15, .ref a16, .ref a17, .int f18, .int f19, .ref a20, .ref a21, .int (nI u22), .ref a23, .ref a24, .ref a25, .int (nI u26), .int f27, .ref a28, .int (nI u29)])), (a0, .inl (κ 0, 21375, .inl w)), (a14, .inl (κ 0, 189, .inl fd)), (a16, .inl (κ 0, 9, .inl pt))] := hD.sub [3, 0, 1, 2] (by decide) rfl
          refine W.eq (g2 := F0 m 73 ls [.int 0]) rfl ?_
          exact ct_iret hx hb hr hlk rfl hS hP hD (0, 8, nI n_26, nI u12, fd) rfl ⟨(show PF (nI n_26) from (PF_n (by omega))), (show Pfd fd from (by first | assumption | omega | rfl | exact Or.inl (by assumption) | exact Or.inr (by assumption))), (by exact Or.inr ((⟨rfl, (show wdB (dW w 4) u12 a = false from (wd_f2 (by omega) (show x_21 = dW w 4 &&& 2 from (by show x_21 = w 21373 &&& 2; rw [ex_14]; exact ex_21)) c_22))⟩)))⟩ [0, 1, 2, 3] rfl (by decide) trivial (Nat.le_of_ble_eq_true rfl) (Nat.le_of_ble_eq_true rfl) dX12_fits_73
    · refine lv_aload_n hx hb dX12_fits_21 rfl (lv_at hl 0 rfl) ?_
      refine lv_bipush (v := 8) hx hb dX12_fits_22 (by decide) ?_
      refine lv_aload_n hx hb dX12_fits_24 rfl (lv_at hl 0 rfl) ?_
      refine va_get (D := D) (ci := 12) (v := .int (nI u13)) (C := RX12) (T := TX12) (N := 30) hx hb hts inlX12 hown hK hP 0 rfl rfl 13 (by decide) (hts _ mw_447) (fun _ h9 => h9) rfl dX12_fits_25 ?_
      refine lv_aload_n hx hb dX12_fits_28 rfl (lv_at hl 0 rfl) ?_
      refine va_get (D := D) (ci := 12) (v := .int (nI u12)) (C := RX12) (T := TX12) (N := 30) hx hb hts inlX12 hown hK hP 0 rfl rfl 12 (by decide) (hts _ mw_446) (fun _ h9 => h9) rfl dX12_fits_29 ?_
      refine ct_V (wr := [(a0, .inl (κ 0, 21375, .inl w)), (a14, .inl (κ 0, 189, .inl fd)), (a16, .inl (κ 0, 9, .inl pt))]) (As := [.int 8, .int (nI u13), .int (nI u12)]) (rest := []) hFX hKK hP hD hS hA (s_X12_wrong l D κ m0 a0 a1 a2 u3 f4 a5 u6 f7 f8 f9 f10 u11 u12 u13 a14 a15 a16 a17 f18 f19 a20 a21 u22 a23 a24 a25 u26 f27 a28 u29 8 (nI u13) (nI u12)) 3 gV_X12_210 hdV_X12_wrong ⟨Nat.le_of_ble_eq_true rfl, Nat.le_of_ble_eq_true rfl⟩ rfl rfl (Nat.le_of_ble_eq_true rfl) dX12_fits_32 ⟨Nat.le_of_ble_eq_true rfl, Nat.le_of_ble_eq_true rfl⟩ hl.1 [0] [1, 2, 3] rfl rfl (by decide) (by decide) (by decide) 0 12 rfl rfl rfl trivial (fun _ H locs hp_28 _ hP hD hS hz_ hk_ => ?_)
      replace hP : va_P D vwCl [(m0, .inr (12, [.ref a0, .ref a1, .ref a2, .int (nI u3), .int f4, .ref a5, .int (nI u6), .int 8, .int (nI u13), .int (nI u12), .int f10, .int (nI u11), .int (nI u12), .int (nI u13), .ref a14, .ref a15, .ref a16, .ref a17, .int f18, .int f19, .ref a20, .ref a21, .int (nI u22), .ref a23, .ref a24, .ref a25, .int (nI u26), .int f27, .ref a28, .int (nI u29)])), (a0, .inl (κ 0, 21375, .inl w)), (a14, .inl (κ 0, 189, .inl fd)), (a16, .inl (κ 0, 9, .inl pt))] H := hP.sub [3, 0, 1, 2] rfl
      replace hD : va_D A [(m0, .inr (12, [.ref a0, .ref a1, .ref a2, .int (nI u3), .int f4, .ref a5, .int (nI u6), .int 8, .int (nI u13), .int (nI u12), .int f10, .int (nI u11), .int (nI u12), .int (nI u13), .ref a14, .ref a15, .ref a16, .ref a17, .int f18, .int f19, .ref a20, .ref a21, .int (nI u22), .ref a23, .ref a24, .ref a25, .int (nI u26), .int f27, .ref a28, .int (nI u29)])), (a0, .inl (κ 0, 21375, .inl w)), (a14, .inl (κ 0, 189, .inl fd)), (a16, .inl (κ 0, 9, .inl pt))] := hD.sub [3, 0, 1, 2] (by decide) rfl
      refine W.eq (g2 := F0 m 35 ls [.int 0]) rfl ?_
      exact ct_iret hx hb hr hlk rfl hS hP hD (0, 8, nI u13, nI u12, fd) rfl ⟨(show PF (nI u13) from (PF_n (by omega))), (show Pfd fd from (by first | assumption | omega | rfl | exact Or.inl (by assumption) | exact Or.inr (by assumption))), (by exact Or.inr ((⟨rfl, (show wdB (dW w 4) u12 a = false from (wd_f1 (by omega) (show x_15 = dW w 4 &&& 1 from (by show x_15 = w 21373 &&& 1; rw [ex_14]; exact ex_15)) c_16))⟩)))⟩ [0, 1, 2, 3] rfl (by decide) trivial (Nat.le_of_ble_eq_true rfl) (Nat.le_of_ble_eq_true rfl) dX12_fits_35
set_option maxHeartbeats 4000000 in
set_option maxRecDepth 100000 in
theorem f_X12_names (l : Launch) (D : va_G) (κ : Nat → ClassId) (m0 : Nat) (a0 : Nat) (a1 : Nat) (a2 : Nat) (u3 : Nat) (f4 : Int32) (a5 : Nat) (u6 : Nat) (f7 : Int32) (f8 : Int32) (f9 : Int32) (f10 : Int32) (u11 : Nat) (u12 : Nat) (u13 : Nat) (a14 : Nat) (a15 : Nat) (a16 : Nat) (a17 : Nat) (f18 : Int32) (f19 : Int32) (a20 : Nat) (a21 : Nat) (u22 : Nat) (a23 : Nat) (a24 : Nat) (a25 : Nat) (u26 : Nat) (f27 : Int32) (a28 : Nat) (u29 : Nat) (dr : Nat → Int32) (b : Nat) (q : Nat) (N : Nat) (pl : Nat) (f : Nat → Int32) (xs : List Int32) (h_a17 : Pd dr) (hN : N < 2147483648) (hb : b < 8) (hpl : pl + 13 ≤ N) (hfa : FA f pl xs) (hx12 : xs.length ≤ 12) : Ct l yX12_names (wl yX12_names cX12_names 5 none) { frames := 0, cells := 0, slots := 0, locals := 0 } D κ [.ref m0, .int (nI b), .ref q, .int (nI pl)] [(m0, .inr (12, [.ref a0, .ref a1, .ref a2, .int (nI u3), .int f4, .ref a5, .int (nI u6), .int f7, .int f8, .int f9, .int f10, .int (nI u11), .int (nI u12), .int (nI u13), .ref a14, .ref a15, .ref a16, .ref a17, .int f18, .int f19, .ref a20, .ref a21, .int (nI u22), .ref a23, .ref a24, .ref a25, .int (nI u26), .int f27, .ref a28, .int (nI u29)])), (a17, .inl (κ 0, 7123, .inl dr)), (q, .inl (κ 0, N, .inl f))] (fun _ => True) (fun g_a17 : (Nat → Int32) => none) (fun g_a17 : (Nat → Int32) => Pd g_a17 ∧ FA g_a17 (4 + 13 * b) xs ∧ (∀ p : Nat, ¬ (4 + 13 * b ≤ p ∧ p < 4 + 13 * b + 13) → g_a17 p = dr p)) (fun g_a17 : (Nat → Int32) => [(m0, .inr (12, [.ref a0, .ref a1, .ref a2, .int (nI u3), .int f4, .ref a5, .int (nI u6), .int f7, .int f8, .int f9, .int f10, .int (nI u11), .int (nI u12), .int (nI u13), .ref a14, .ref a15, .ref a16, .ref a17, .int f18, .int f19, .ref a20, .ref a21, .int (nI u22), .ref a23, .ref a24, .ref a25, .int (nI u26), .int f27, .ref a28, .int (nI u29)])), (a17, .inl (κ 0, 7123, .inl g_a17)), (q, .inl (κ 0, N, .inl f))]) (fun _ _ => True) := by
  refine ct_of (by decide +kernel) (Nat.le_of_ble_eq_true rfl) ?_
  intro p e s m args below meth c A ls hx hb hr hml hts hown hlk hin hKK hK hA hP hD hS hI hl
  have hS : va_S A s.heap s.heap [] := hS
  have hFX : FX p s m args c cX12_names 5 RX12 := ⟨hx, hb, hml, hown, hts⟩
  have hl : lv_has ls 5 [(0, .ref m0), (1, .int (nI b)), (2, .ref q), (3, .int (nI pl))] := hl
  obtain ⟨hfa1, hfa2, hfa3⟩ := id hfa
  refine lv_iconst (v := 0) hx hb dX12_names_0 (by decide) ?_
  refine lv_istore (lv' := [(4, .int 0), (0, .ref m0), (1, .int (nI b)), (2, .ref q), (3, .int (nI pl))]) hx hb dX12_names_1 hl (by decide) rfl (fun ls hl => ?_)
  refine loop_dn (fun k9 H locs ls => ∃ (k4_3 : Nat), ∃ (ga17_3 : Nat → Int32), (k4_3 ≤ xs.length + 1) ∧ (∀ j9 : Nat, j9 < k4_3 → ga17_3 (4 + 13 * b + j9) = f (pl + j9)) ∧ (∀ p9 : Nat, ¬ (4 + 13 * b ≤ p9 ∧ p9 < 4 + 13 * b + 13) → ga17_3 p9 = dr p9) ∧ Pd ga17_3 ∧ xs.length + 1 - k4_3 = k9 ∧ va_P D vwCl [(m0, .inr (12, [.ref a0, .ref a1, .ref a2, .int (nI u3), .int f4, .ref a5, .int (nI u6), .int f7, .int f8, .int f9, .int f10, .int (nI u11), .int (nI u12), .int (nI u13), .ref a14, .ref a15, .ref a16, .ref a17, .int f18, .int f19, .ref a20, .ref a21, .int (nI u22), .ref a23, .ref a24, .ref a25, .int (nI u26), .int f27, .ref a28, .int (nI u29)])), (a17, .inl (κ 0, 7123, .inl ga17_3)), (q, .inl (κ 0, N, .inl f))] H ∧ va_D A [(m0, .inr (12, [.ref a0, .ref a1, .ref a2, .int (nI u3), .int f4, .ref a5, .int (nI u6), .int f7, .int f8, .int f9, .int f10, .int (nI u11), .int (nI u12), .int (nI u13), .ref a14, .ref a15, .ref a16, .ref a17, .int f18, .int f19, .ref a20, .ref a21, .int (nI u22), .ref a23, .ref a24, .ref a25, .int (nI u26), .int f27, .ref a28, .int (nI u29)])), (a17, .inl (κ 0, 7123, .inl ga17_3)), (q, .inl (κ 0, N, .inl f))] ∧ va_S A s.heap H locs ∧ lv_has ls 5 [(4, .int (nI k4_3)), (0, .ref m0), (1, .int (nI b)), (2, .ref q), (3, .int (nI pl))]) (fun k9 H locs ls hI3 ih3 => ?_) (xs.length + 1 - 0) _ _ _ ⟨0, dr, (by omega), (fun j9 h9 => absurd h9 (by omega)), (fun _ _ => rfl), h_a17, rfl, hP, hD, hS, lv_sub hl [0, 1, 2, 3, 4] rfl⟩
  obtain ⟨k4_3, ga17_3, hl3_0, hl3_1, hl3_2, hg3_0, hm3, hP, hD, hS, hl⟩ := hI3
  refine lv_iload hx hb dX12_names_3 (lv_at hl 0 rfl) ?_
  refine lv_aload_n hx hb dX12_names_5 rfl (lv_at hl 3 rfl) ?_
  refine lv_iload_n hx hb dX12_names_6 rfl (lv_at hl 4 rfl) ?_
  refine va_iald hx hb hK hP 2 0 rfl rfl (i := nI pl) (vp_in_nI (n := pl) (by omega) (by omega)) dX12_names_7 ?_
  refine kv (v := .int (f pl)) (by rw [nI_clamp (by omega)]) ?_
  refine kv (v := .int (nI xs.length)) (congrArg Value.int hfa1) ?_
  refine lv_icmp_gt (tgt := 37) hx hb dX12_names_8 (by decide) (fun c_1 => ?_) (fun c_1 => ?_)
  · have nc_1 := cv_lt (a := xs.length) (b := k4_3) (by omega) (by omega) c_1
    exact ct_vret hx hb hr hlk hS hP hD ga17_3 rfl ⟨(show Pd ga17_3 from (by first | assumption | omega | rfl | exact Or.inl (by assumption) | exact Or.inr (by assumption))), (show FA ga17_3 (4 + 13 * b) xs from ⟨by have q9 := hl3_1 0 (by omega); exact q9.trans hfa1, hfa2, (lsF_same (fun i9 h9 => by have q9 := hl3_1 (1 + i9) (by omega); rw [← Nat.add_assoc, ← Nat.add_assoc] at q9; exact q9)).trans hfa3⟩), (show ∀ p : Nat, ¬ (4 + 13 * b ≤ p ∧ p < 4 + 13 * b + 13) → ga17_3 p = dr p from hl3_2)⟩ [0, 1, 2] rfl (by decide) trivial (Nat.le_of_ble_eq_true rfl) (Nat.le_of_ble_eq_true rfl) dX12_names_37
  · have nc_1 := cv_nlt (a := xs.length) (b := k4_3) (by omega) (by omega) c_1
    refine lv_aload_n hx hb dX12_names_11 rfl (lv_at hl 1 rfl) ?_
    refine va_get (D := D) (ci := 12) (v := .ref a17) (C := RX12) (T := TX12) (N := 30) hx hb hts inlX12 hown hK hP 0 rfl rfl 17 (by decide) (hts _ mw_197) (fun _ h9 => h9) rfl dX12_names_12 ?_
    refine lv_iconst (v := 4) hx hb dX12_names_15 (by decide) ?_
    refine lv_bipush (v := 13) hx hb dX12_names_16 (by decide) ?_
    refine lv_iload_n hx hb dX12_names_18 rfl (lv_at hl 2 rfl) ?_
    refine lv_imul hx hb dX12_names_19 ?_
    refine ki (v := (nI (13 * b))) (pk_mul 13 b) ?_
    refine lv_iadd hx hb dX12_names_20 ?_
    refine ki (v := (nI (4 + (13 * b)))) (nI_add 4 (13 * b)) ?_
    refine lv_iload hx hb dX12_names_21 (lv_at hl 0 rfl) ?_
    refine lv_iadd hx hb dX12_names_23 ?_
    refine ki (v := (nI (4 + (13 * b) + k4_3))) (nI_add (4 + (13 * b)) k4_3) ?_
    refine lv_aload_n hx hb dX12_names_24 rfl (lv_at hl 3 rfl) ?_
    refine lv_iload_n hx hb dX12_names_25 rfl (lv_at hl 4 rfl) ?_
    refine lv_iload hx hb dX12_names_26 (lv_at hl 0 rfl) ?_
    refine lv_iadd hx hb dX12_names_28 ?_
    refine ki (v := (nI (pl + k4_3))) (nI_add pl k4_3) ?_
    refine va_iald hx hb hK hP 2 0 rfl rfl (i := nI (pl + k4_3)) (vp_in_nI (n := (pl + k4_3)) (by omega) (by omega)) dX12_names_29 ?_
    refine kv (v := .int (f (pl + k4_3))) (by rw [nI_clamp (by omega)]) ?_
    obtain ⟨x_2, ex_2⟩ : ∃ y9 : Int32, f (pl + k4_3) = y9 := ⟨_, rfl⟩
    refine kv (v := .int x_2) (congrArg Value.int ex_2) ?_
    refine va_iast hx hb hK hP hD hS 1 0 rfl rfl (i := nI (4 + (13 * b) + k4_3)) (x := x_2) (vp_in_nI (n := (4 + (13 * b) + k4_3)) (by omega) (by omega)) dX12_names_30 (fun H locs hP hD hS => ?_)
    rw [nI_clamp (by omega)] at hP hD
    have hP : va_P D vwCl [(m0, .inr (12, [.ref a0, .ref a1, .ref a2, .int (nI u3), .int f4, .ref a5, .int (nI u6), .int f7, .int f8, .int f9, .int f10, .int (nI u11), .int (nI u12), .int (nI u13), .ref a14, .ref a15, .ref a16, .ref a17, .int f18, .int f19, .ref a20, .ref a21, .int (nI u22), .ref a23, .ref a24, .ref a25, .int (nI u26), .int f27, .ref a28, .int (nI u29)])), (a17, .inl (κ 0, 7123, .inl (upd ga17_3 (4 + (13 * b) + k4_3) x_2))), (q, .inl (κ 0, N, .inl f))] H := hP
    have hD : va_D A [(m0, .inr (12, [.ref a0, .ref a1, .ref a2, .int (nI u3), .int f4, .ref a5, .int (nI u6), .int f7, .int f8, .int f9, .int f10, .int (nI u11), .int (nI u12), .int (nI u13), .ref a14, .ref a15, .ref a16, .ref a17, .int f18, .int f19, .ref a20, .ref a21, .int (nI u22), .ref a23, .ref a24, .ref a25, .int (nI u26), .int f27, .ref a28, .int (nI u29)])), (a17, .inl (κ 0, 7123, .inl (upd ga17_3 (4 + (13 * b) + k4_3) x_2))), (q, .inl (κ 0, N, .inl f))] := hD
    have hf_4 : Pd (upd ga17_3 (4 + (13 * b) + k4_3) x_2) := (PL_name hg3_0 (c := b) (k := k4_3) (by omega) (by omega) (by omega) (head_val ex_2 ⟨xs.length, hx12, hfa1⟩))
    have hq : ∀ j9 : Nat, j9 < k4_3 + 1 → (upd ga17_3 (4 + (13 * b) + k4_3) x_2) (4 + 13 * b + j9) = f (pl + j9) := (nm_put ex_2 hl3_1)
    have hq2 : ∀ p9 : Nat, ¬ (4 + 13 * b ≤ p9 ∧ p9 < 4 + 13 * b + 13) → (upd ga17_3 (4 + (13 * b) + k4_3) x_2) p9 = dr p9 := (fun p9 h9 => (pk_un (by omega)).trans (hl3_2 p9 h9))
    generalize upd ga17_3 (4 + (13 * b) + k4_3) x_2 = g_3 at hP hD hf_4 hq hq2
    refine lv_iinc (v := (nI (k4_3 + 1))) (lv' := [(4, .int (nI (k4_3 + 1))), (0, .ref m0), (1, .int (nI b)), (2, .ref q), (3, .int (nI pl))]) hx hb dX12_names_31 hl (k := 0) rfl (nI_i k4_3) (by decide) rfl (fun ls hl => ?_)
    refine lv_goto (tgt := 3) hx hb dX12_names_34 (by decide) ?_
    exact ih3 _ _ _ _ (by omega) ⟨(k4_3 + 1), g_3, (by omega), hq, hq2, hf_4, rfl, hP, hD, hS, lv_sub hl [0, 1, 2, 3, 4] rfl⟩
set_option maxHeartbeats 4000000 in
set_option maxRecDepth 100000 in
theorem f_X12_readsNames (l : Launch) (D : va_G) (κ : Nat → ClassId) (m0 : Nat) (a0 : Nat) (a1 : Nat) (a2 : Nat) (u3 : Nat) (f4 : Int32) (a5 : Nat) (u6 : Nat) (f7 : Int32) (f8 : Int32) (f9 : Int32) (f10 : Int32) (u11 : Nat) (u12 : Nat) (u13 : Nat) (a14 : Nat) (a15 : Nat) (a16 : Nat) (a17 : Nat) (f18 : Int32) (f19 : Int32) (a20 : Nat) (a21 : Nat) (u22 : Nat) (a23 : Nat) (a24 : Nat) (a25 : Nat) (u26 : Nat) (f27 : Int32) (a28 : Nat) (u29 : Nat) (fd : Nat → Int32) (fa : Nat → Int32) (dr : Nat → Int32) (fs : List (List Int32)) (h8 : PF f8) (h12 : u12 ≤ 8) (h_a14 : Pfd fd) (h_a15 : Pb 9 800 fa) (h_a17 : Pd dr) (hfl : FL fd u12 fs) : Ct l yX12_readsNames (wl yX12_readsNames cX12_readsNames 4 (some .boolean)) { frames := 4, cells := 0, slots := 0, locals := 87 } D κ [.ref m0] [(m0, .inr (12, [.ref a0, .ref a1, .ref a2, .int (nI u3), .int f4, .ref a5, .int (nI u6), .int f7, .int f8, .int f9, .int f10, .int (nI u11), .int (nI u12), .int (nI u13), .ref a14, .ref a15, .ref a16, .ref a17, .int f18, .int f19, .ref a20, .ref a21, .int (nI u22), .ref a23, .ref a24, .ref a25, .int (nI u26), .int f27, .ref a28, .int (nI u29)])), (a14, .inl (κ 0, 189, .inl fd)), (a15, .inl (κ 0, 9, .inl fa)), (a17, .inl (κ 0, 7123, .inl dr))] (fun _ => True) (fun u9 : Int32 × Int32 × Int32 × Int32 × (Nat → Int32) => some (.int u9.1)) (fun u9 : Int32 × Int32 × Int32 × Int32 × (Nat → Int32) => PF u9.2.2.1 ∧ Pd u9.2.2.2.2 ∧ ((u9.1 = 1 ∧ hdB fs u12 = true ∧ u9.2.2.2.2 1 = nI u12 ∧ u9.2.2.2.2 2 = dr 2) ∨ (u9.1 = 0 ∧ hdB fs u12 = false))) (fun u9 : Int32 × Int32 × Int32 × Int32 × (Nat → Int32) => [(m0, .inr (12, [.ref a0, .ref a1, .ref a2, .int (nI u3), .int f4, .ref a5, .int (nI u6), .int u9.2.1, .int u9.2.2.1, .int u9.2.2.2.1, .int f10, .int (nI u11), .int (nI u12), .int (nI u13), .ref a14, .ref a15, .ref a16, .ref a17, .int f18, .int f19, .ref a20, .ref a21, .int (nI u22), .ref a23, .ref a24, .ref a25, .int (nI u26), .int f27, .ref a28, .int (nI u29)])), (a14, .inl (κ 0, 189, .inl fd)), (a15, .inl (κ 0, 9, .inl fa)), (a17, .inl (κ 0, 7123, .inl u9.2.2.2.2))]) (fun _ _ => True) := by
  refine ct_of (by decide +kernel) (Nat.le_of_ble_eq_true rfl) ?_
  intro p e s m args below meth c A ls hx hb hr hml hts hown hlk hin hKK hK hA hP hD hS hI hl
  have hS : va_S A s.heap s.heap [] := hS
  have hFX : FX p s m args c cX12_readsNames 4 RX12 := ⟨hx, hb, hml, hown, hts⟩
  have hl : lv_has ls 4 [(0, .ref m0)] := hl
  refine lv_iconst (v := 0) hx hb dX12_readsNames_0 (by decide) ?_
  refine lv_istore_n (lv' := [(1, .int 0), (0, .ref m0)]) hx hb dX12_readsNames_1 rfl hl (by decide) rfl (fun ls hl => ?_)
  refine loop_dn (fun k9 H locs ls => ∃ (k1_2 : Nat), ∃ (ga17_2 : Nat → Int32), (k1_2 ≤ u12) ∧ (∀ i : Nat, i < 4 → ga17_2 i = dr i) ∧ (hdB fs k1_2 = true) ∧ (NL ga17_2 k1_2 fs) ∧ Pd ga17_2 ∧ u12 - k1_2 = k9 ∧ va_P D vwCl [(m0, .inr (12, [.ref a0, .ref a1, .ref a2, .int (nI u3), .int f4, .ref a5, .int (nI u6), .int f7, .int f8, .int f9, .int f10, .int (nI u11), .int (nI u12), .int (nI u13), .ref a14, .ref a15, .ref a16, .ref a17, .int f18, .int f19, .ref a20, .ref a21, .int (nI u22), .ref a23, .ref a24, .ref a25, .int (nI u26), .int f27, .ref a28, .int (nI u29)])), (a14, .inl (κ 0, 189, .inl fd)), (a15, .inl (κ 0, 9, .inl fa)), (a17, .inl (κ 0, 7123, .inl ga17_2))] H ∧ va_D A [(m0, .inr (12, [.ref a0, .ref a1, .ref a2, .int (nI u3), .int f4, .ref a5, .int (nI u6), .int f7, .int f8, .int f9, .int f10, .int (nI u11), .int (nI u12), .int (nI u13), .ref a14, .ref a15, .ref a16, .ref a17, .int f18, .int f19, .ref a20, .ref a21, .int (nI u22), .ref a23, .ref a24, .ref a25, .int (nI u26), .int f27, .ref a28, .int (nI u29)])), (a14, .inl (κ 0, 189, .inl fd)), (a15, .inl (κ 0, 9, .inl fa)), (a17, .inl (κ 0, 7123, .inl ga17_2))] ∧ va_S A s.heap H locs ∧ lv_has ls 4 [(1, .int (nI k1_2)), (0, .ref m0)]) (fun k9 H locs ls hI2 ih2 => ?_) (u12 - 0) _ _ _ ⟨0, dr, (by omega), (fun _ _ => rfl), rfl, NL_0, h_a17, rfl, hP, hD, hS, lv_sub hl [0, 1] rfl⟩
  obtain ⟨k1_2, ga17_2, hl2_0, hl2_1, hl2_2, hl2_3, hg2_0, hm2, hP, hD, hS, hl⟩ := hI2
  refine lv_iload_n hx hb dX12_readsNames_2 rfl (lv_at hl 0 rfl) ?_
  refine lv_aload_n hx hb dX12_readsNames_3 rfl (lv_at hl 1 rfl) ?_
  refine va_get (D := D) (ci := 12) (v := .int (nI u12)) (C := RX12) (T := TX12) (N := 30) hx hb hts inlX12 hown hK hP 0 rfl rfl 12 (by decide) (hts _ mw_446) (fun _ h9 => h9) rfl dX12_readsNames_4 ?_
  refine lv_icmp_ge (tgt := 106) hx hb dX12_readsNames_7 (by decide) (fun c_1 => ?_) (fun c_1 => ?_)
  · have nc_1 := cv_le (a := u12) (b := k1_2) (by omega) (by omega) c_1
    refine lv_aload_n hx hb dX12_readsNames_106 rfl (lv_at hl 1 rfl) ?_
    refine va_get (D := D) (ci := 12) (v := .ref a17) (C := RX12) (T := TX12) (N := 30) hx hb hts inlX12 hown hK hP 0 rfl rfl 17 (by decide) (hts _ mw_197) (fun _ h9 => h9) rfl dX12_readsNames_107 ?_
    refine lv_iconst (v := 1) hx hb dX12_readsNames_110 (by decide) ?_
    refine lv_aload_n hx hb dX12_readsNames_111 rfl (lv_at hl 1 rfl) ?_
    refine va_get (D := D) (ci := 12) (v := .int (nI u12)) (C := RX12) (T := TX12) (N := 30) hx hb hts inlX12 hown hK hP 0 rfl rfl 12 (by decide) (hts _ mw_446) (fun _ h9 => h9) rfl dX12_readsNames_112 ?_
    refine va_iast hx hb hK hP hD hS 3 0 rfl rfl (i := 1) (x := nI u12) (vp_k (by decide)) dX12_readsNames_115 (fun H locs hP hD hS => ?_)
    have hP : va_P D vwCl [(m0, .inr (12, [.ref a0, .ref a1, .ref a2, .int (nI u3), .int f4, .ref a5, .int (nI u6), .int f7, .int f8, .int f9, .int f10, .int (nI u11), .int (nI u12), .int (nI u13), .ref a14, .ref a15, .ref a16, .ref a17, .int f18, .int f19, .ref a20, .ref a21, .int (nI u22), .ref a23, .ref a24, .ref a25, .int (nI u26), .int f27, .ref a28, .int (nI u29)])), (a14, .inl (κ 0, 189, .inl fd)), (a15, .inl (κ 0, 9, .inl fa)), (a17, .inl (κ 0, 7123, .inl (upd ga17_2 1 (nI u12))))] H := hP
    have hD : va_D A [(m0, .inr (12, [.ref a0, .ref a1, .ref a2, .int (nI u3), .int f4, .ref a5, .int (nI u6), .int f7, .int f8, .int f9, .int f10, .int (nI u11), .int (nI u12), .int (nI u13), .ref a14, .ref a15, .ref a16, .ref a17, .int f18, .int f19, .ref a20, .ref a21, .int (nI u22), .ref a23, .ref a24, .ref a25, .int (nI u26), .int f27, .ref a28, .int (nI u29)])), (a14, .inl (κ 0, 189, .inl fd)), (a15, .inl (κ 0, 9, .inl fa)), (a17, .inl (κ 0, 7123, .inl (upd ga17_2 1 (nI u12))))] := hD
    have hf_3 : Pd (upd ga17_2 1 (nI u12)) := (PL_upd hg2_0 (mN (t := 0) (by omega) (by omega)) ⟨u12, by omega, rfl⟩)
    have hq1 : (upd ga17_2 1 (nI u12)) 1 = nI u12 := pk_us
    have hq2 : (upd ga17_2 1 (nI u12)) 2 = dr 2 := ((pk_un (by decide)).trans (hl2_1 2 (by decide)))
    generalize upd ga17_2 1 (nI u12) = g_2 at hP hD hf_3 hq1 hq2
    refine lv_iconst (v := 1) hx hb dX12_readsNames_116 (by decide) ?_
    exact ct_iret hx hb hr hlk rfl hS hP hD (1, f7, f8, f9, g_2) rfl ⟨(show PF f8 from (by assumption)), (show Pd g_2 from (by first | assumption | omega | rfl | exact Or.inl (by assumption) | exact Or.inr (by assumption))), (by exact Or.inl (⟨rfl, (show hdB fs u12 = true from (by have q9 := hl2_2; rw [show k1_2 = u12 by omega] at q9; exact q9)), (show g_2 1 = nI u12 from (by first | assumption | omega | rfl | exact Or.inl (by assumption) | exact Or.inr (by assumption))), (show g_2 2 = dr 2 from (by first | assumption | omega | rfl | exact Or.inl (by assumption) | exact Or.inr (by assumption)))⟩))⟩ [0, 1, 2, 3] rfl (by decide) trivial (Nat.le_of_ble_eq_true rfl) (Nat.le_of_ble_eq_true rfl) dX12_readsNames_117
  · have nc_1 := cv_nle (a := u12) (b := k1_2) (by omega) (by omega) c_1
    have hfx_4 := hfl.2 k1_2 (by omega)
    have hfx_4l := hfx_4.2.1
    refine lv_aload_n hx hb dX12_readsNames_10 rfl (lv_at hl 1 rfl) ?_
    refine va_get (D := D) (ci := 12) (v := .ref a14) (C := RX12) (T := TX12) (N := 30) hx hb hts inlX12 hown hK hP 0 rfl rfl 14 (by decide) (hts _ mw_194) (fun _ h9 => h9) rfl dX12_readsNames_11 ?_
    refine lv_bipush (v := 21) hx hb dX12_readsNames_14 (by decide) ?_
    refine lv_iload_n hx hb dX12_readsNames_16 rfl (lv_at hl 0 rfl) ?_
    refine lv_imul hx hb dX12_readsNames_17 ?_
    refine ki (v := (nI (21 * k1_2))) (pk_mul 21 k1_2) ?_
    refine cr_S (As := [.ref a14, .int (nI (21 * k1_2))]) (rest := []) hFX hKK (f_X12_isName l D κ a14 189 fd (21 * k1_2) (fs.getD k1_2 []) (by first | assumption | omega) (by omega) hfx_4) 2 gS_X12_241 hdS_X12_isName rfl rfl ⟨Nat.le_of_ble_eq_true rfl, Nat.le_of_ble_eq_true rfl⟩ rfl rfl (Nat.le_of_ble_eq_true rfl) dX12_readsNames_18 ⟨Nat.le_of_ble_eq_true rfl, Nat.le_of_ble_eq_true rfl⟩ hl.1 (hP.sub [1] rfl) (fun r__5 hp_6 => ?_)
    replace hp_6 : ((r__5 = 1 ∧ (fs.getD k1_2 []).length ≤ 12 ∧ nvB (fs.getD k1_2 []) = true) ∨ (r__5 = 0 ∧ nvB (fs.getD k1_2 []) = false)) := hp_6
    have ha_7 := hp_6
    clear hp_6
    rcases ha_7 with ⟨rfl, a_8, a_9⟩ | ⟨rfl, a_10⟩
    · refine W.eq (g2 := F0 m 21 ls [.int 1]) rfl ?_
      refine lv_istore_n (lv' := [(2, .int 1), (1, .int (nI k1_2)), (0, .ref m0)]) hx hb dX12_readsNames_21 rfl hl (by decide) rfl (fun ls hl => ?_)
      refine lv_iconst (v := 0) hx hb dX12_readsNames_22 (by decide) ?_
      refine lv_istore_n (lv' := [(3, .int 0), (2, .int 1), (1, .int (nI k1_2)), (0, .ref m0)]) hx hb dX12_readsNames_23 rfl hl (by decide) rfl (fun ls hl => ?_)
      refine loop_dn (fun k9 H locs ls => ∃ (k3_24 : Nat), ∃ (k2_24 : Int32), (k3_24 ≤ k1_2) ∧ ((¬ k2_24 = 0 ∧ nvB (fs.getD k1_2 []) = true ∧ memB fs (fs.getD k1_2 []) k3_24 = false) ∨ (k2_24 = 0 ∧ hdB fs u12 = false)) ∧ k1_2 - k3_24 = k9 ∧ va_P D vwCl [(m0, .inr (12, [.ref a0, .ref a1, .ref a2, .int (nI u3), .int f4, .ref a5, .int (nI u6), .int f7, .int f8, .int f9, .int f10, .int (nI u11), .int (nI u12), .int (nI u13), .ref a14, .ref a15, .ref a16, .ref a17, .int f18, .int f19, .ref a20, .ref a21, .int (nI u22), .ref a23, .ref a24, .ref a25, .int (nI u26), .int f27, .ref a28, .int (nI u29)])), (a14, .inl (κ 0, 189, .inl fd)), (a15, .inl (κ 0, 9, .inl fa)), (a17, .inl (κ 0, 7123, .inl ga17_2))] H ∧ va_D A [(m0, .inr (12, [.ref a0, .ref a1, .ref a2, .int (nI u3), .int f4, .ref a5, .int (nI u6), .int f7, .int f8, .int f9, .int f10, .int (nI u11), .int (nI u12), .int (nI u13), .ref a14, .ref a15, .ref a16, .ref a17, .int f18, .int f19, .ref a20, .ref a21, .int (nI u22), .ref a23, .ref a24, .ref a25, .int (nI u26), .int f27, .ref a28, .int (nI u29)])), (a14, .inl (κ 0, 189, .inl fd)), (a15, .inl (κ 0, 9, .inl fa)), (a17, .inl (κ 0, 7123, .inl ga17_2))] ∧ va_S A s.heap H locs ∧ lv_has ls 4 [(3, .int (nI k3_24)), (2, .int k2_24), (1, .int (nI k1_2)), (0, .ref m0)]) (fun k9 H locs ls hI24 ih24 => ?_) (k1_2 - 0) _ _ _ ⟨0, 1, (by omega), (Or.inl ⟨by decide, a_9, rfl⟩), rfl, hP, hD, hS, lv_sub hl [0, 1, 2, 3] rfl⟩
      obtain ⟨k3_24, k2_24, hl24_0, hl24_1, hm24, hP, hD, hS, hl⟩ := hI24
      refine lv_iload_n hx hb dX12_readsNames_24 rfl (lv_at hl 0 rfl) ?_
      refine lv_iload_n hx hb dX12_readsNames_25 rfl (lv_at hl 2 rfl) ?_
      refine lv_icmp_ge (tgt := 69) hx hb dX12_readsNames_26 (by decide) (fun c_11 => ?_) (fun c_11 => ?_)
      · have nc_11 := cv_le (a := k1_2) (b := k3_24) (by omega) (by omega) c_11
        refine lv_iload_n hx hb dX12_readsNames_69 rfl (lv_at hl 1 rfl) ?_
        refine lv_if_ne (tgt := 87) hx hb dX12_readsNames_70 (by decide) (fun c_12 => ?_) (fun c_12 => ?_)
        · obtain ⟨hnv_131, hnv_132⟩ := is_y hl24_1 c_12
          have hnv_133 := nv_12 hnv_131
          refine lv_aload_n hx hb dX12_readsNames_87 rfl (lv_at hl 3 rfl) ?_
          refine lv_iload_n hx hb dX12_readsNames_88 rfl (lv_at hl 2 rfl) ?_
          refine lv_aload_n hx hb dX12_readsNames_89 rfl (lv_at hl 3 rfl) ?_
          refine va_get (D := D) (ci := 12) (v := .ref a14) (C := RX12) (T := TX12) (N := 30) hx hb hts inlX12 hown hK hP 0 rfl rfl 14 (by decide) (hts _ mw_194) (fun _ h9 => h9) rfl dX12_readsNames_90 ?_
          refine lv_bipush (v := 21) hx hb dX12_readsNames_93 (by decide) ?_
          refine lv_iload_n hx hb dX12_readsNames_95 rfl (lv_at hl 2 rfl) ?_
          refine lv_imul hx hb dX12_readsNames_96 ?_
          refine ki (v := (nI (21 * k1_2))) (pk_mul 21 k1_2) ?_
          refine ct_V (wr := [(a15, .inl (κ 0, 9, .inl fa))]) (As := [.int (nI k1_2), .ref a14, .int (nI (21 * k1_2))]) (rest := []) hFX hKK hP hD hS hA (f_X12_names l D κ m0 a0 a1 a2 u3 f4 a5 u6 f7 f8 f9 f10 u11 u12 u13 a14 a15 a16 a17 f18 f19 a20 a21 u22 a23 a24 a25 u26 f27 a28 u29 ga17_2 k1_2 a14 189 (21 * k1_2) fd (fs.getD k1_2 []) hg2_0 (by first | assumption | omega) (by omega) (by omega) hfx_4 hnv_133) 3 gV_X12_248 hdV_X12_names ⟨Nat.le_of_ble_eq_true rfl, Nat.le_of_ble_eq_true rfl⟩ rfl rfl (Nat.le_of_ble_eq_true rfl) dX12_readsNames_97 ⟨Nat.le_of_ble_eq_true rfl, Nat.le_of_ble_eq_true rfl⟩ hl.1 [0, 3, 1] [2] rfl rfl (by decide) (by decide) (by decide) 0 12 rfl rfl rfl trivial (fun g_a17__14 H locs hp_15 _ hP hD hS hz_ hk_ => ?_)
          replace hP : va_P D vwCl [(m0, .inr (12, [.ref a0, .ref a1, .ref a2, .int (nI u3), .int f4, .ref a5, .int (nI u6), .int f7, .int f8, .int f9, .int f10, .int (nI u11), .int (nI u12), .int (nI u13), .ref a14, .ref a15, .ref a16, .ref a17, .int f18, .int f19, .ref a20, .ref a21, .int (nI u22), .ref a23, .ref a24, .ref a25, .int (nI u26), .int f27, .ref a28, .int (nI u29)])), (a14, .inl (κ 0, 189, .inl fd)), (a15, .inl (κ 0, 9, .inl fa)), (a17, .inl (κ 0, 7123, .inl g_a17__14))] H := hP.sub [1, 3, 0, 2] rfl
          replace hD : va_D A [(m0, .inr (12, [.ref a0, .ref a1, .ref a2, .int (nI u3), .int f4, .ref a5, .int (nI u6), .int f7, .int f8, .int f9, .int f10, .int (nI u11), .int (nI u12), .int (nI u13), .ref a14, .ref a15, .ref a16, .ref a17, .int f18, .int f19, .ref a20, .ref a21, .int (nI u22), .ref a23, .ref a24, .ref a25, .int (nI u26), .int f27, .ref a28, .int (nI u29)])), (a14, .inl (κ 0, 189, .inl fd)), (a15, .inl (κ 0, 9, .inl fa)), (a17, .inl (κ 0, 7123, .inl g_a17__14))] := hD.sub [1, 3, 0, 2] (by decide) rfl
          replace hp_15 : Pd g_a17__14 ∧ FA g_a17__14 (4 + 13 * k1_2) (fs.getD k1_2 []) ∧ (∀ p : Nat, ¬ (4 + 13 * k1_2 ≤ p ∧ p < 4 + 13 * k1_2 + 13) → g_a17__14 p = ga17_2 p) := hp_15
          obtain ⟨h_16, h_17, h_18⟩ := hp_15
          refine W.eq (g2 := F0 m 100 ls []) rfl ?_
          have hq : ∀ i : Nat, i < 4 → g_a17__14 i = dr i := fun i9 h9 => (h_18 i9 (by omega)).trans (hl2_1 i9 h9)
          have hnl_19 : NL g_a17__14 (k1_2 + 1) fs := NL_add hl2_3 h_17 hnv_133 h_18
          refine lv_iinc (v := (nI (k1_2 + 1))) (lv' := [(1, .int (nI (k1_2 + 1))), (3, .int (nI k3_24)), (2, .int k2_24), (0, .ref m0)]) hx hb dX12_readsNames_100 hl (k := 2) rfl (nI_i k1_2) (by decide) rfl (fun ls hl => ?_)
          refine lv_goto (tgt := 2) hx hb dX12_readsNames_103 (by decide) ?_
          exact ih2 _ _ _ _ (by omega) ⟨(k1_2 + 1), g_a17__14, (by omega), hq, (hd_go hl2_2 hnv_131 (by have q9 := hnv_132; rw [show k3_24 = k1_2 by omega] at q9; exact q9)), hnl_19, h_16, rfl, hP, hD, hS, lv_sub hl [0, 3] rfl⟩
        · refine lv_aload_n hx hb dX12_readsNames_73 rfl (lv_at hl 3 rfl) ?_
          refine lv_bipush (v := 7) hx hb dX12_readsNames_74 (by decide) ?_
          refine lv_aload_n hx hb dX12_readsNames_76 rfl (lv_at hl 3 rfl) ?_
          refine va_get (D := D) (ci := 12) (v := .ref a15) (C := RX12) (T := TX12) (N := 30) hx hb hts inlX12 hown hK hP 0 rfl rfl 15 (by decide) (hts _ mw_195) (fun _ h9 => h9) rfl dX12_readsNames_77 ?_
          refine lv_iload_n hx hb dX12_readsNames_80 rfl (lv_at hl 2 rfl) ?_
          refine va_iald hx hb hK hP 2 0 rfl rfl (i := nI k1_2) (vp_in_nI (n := k1_2) (by omega) (by omega)) dX12_readsNames_81 ?_
          refine kv (v := .int (fa k1_2)) (by rw [nI_clamp (by omega)]) ?_
          obtain ⟨n_20, hn_20, en_20⟩ : ∃ n9 : Nat, n9 ≤ 800 ∧ fa k1_2 = nI n9 := id (h_a15 k1_2 (by omega))
          refine kv (v := .int (nI n_20)) (congrArg Value.int en_20) ?_
          refine lv_iload_n hx hb dX12_readsNames_82 rfl (lv_at hl 2 rfl) ?_
          refine ct_V (wr := [(a14, .inl (κ 0, 189, .inl fd)), (a15, .inl (κ 0, 9, .inl fa)), (a17, .inl (κ 0, 7123, .inl ga17_2))]) (As := [.int 7, .int (nI n_20), .int (nI k1_2)]) (rest := []) hFX hKK hP hD hS hA (s_X12_wrong l D κ m0 a0 a1 a2 u3 f4 a5 u6 f7 f8 f9 f10 u11 u12 u13 a14 a15 a16 a17 f18 f19 a20 a21 u22 a23 a24 a25 u26 f27 a28 u29 7 (nI n_20) (nI k1_2)) 3 gV_X12_210 hdV_X12_wrong ⟨Nat.le_of_ble_eq_true rfl, Nat.le_of_ble_eq_true rfl⟩ rfl rfl (Nat.le_of_ble_eq_true rfl) dX12_readsNames_83 ⟨Nat.le_of_ble_eq_true rfl, Nat.le_of_ble_eq_true rfl⟩ hl.1 [0] [1, 2, 3] rfl rfl (by decide) (by decide) (by decide) 0 12 rfl rfl rfl trivial (fun _ H locs hp_21 _ hP hD hS hz_ hk_ => ?_)
          replace hP : va_P D vwCl [(m0, .inr (12, [.ref a0, .ref a1, .ref a2, .int (nI u3), .int f4, .ref a5, .int (nI u6), .int 7, .int (nI n_20), .int (nI k1_2), .int f10, .int (nI u11), .int (nI u12), .int (nI u13), .ref a14, .ref a15, .ref a16, .ref a17, .int f18, .int f19, .ref a20, .ref a21, .int (nI u22), .ref a23, .ref a24, .ref a25, .int (nI u26), .int f27, .ref a28, .int (nI u29)])), (a14, .inl (κ 0, 189, .inl fd)), (a15, .inl (κ 0, 9, .inl fa)), (a17, .inl (κ 0, 7123, .inl ga17_2))] H := hP.sub [3, 0, 1, 2] rfl
          replace hD : va_D A [(m0, .inr (12, [.ref a0, .ref a1, .ref a2, .int (nI u3), .int f4, .ref a5, .int (nI u6), .int 7, .int (nI n_20), .int (nI k1_2), .int f10, .int (nI u11), .int (nI u12), .int (nI u13), .ref a14, .ref a15, .ref a16, .ref a17, .int f18, .int f19, .ref a20, .ref a21, .int (nI u22), .ref a23, .ref a24, .ref a25, .int (nI u26), .int f27, .ref a28, .int (nI u29)])), (a14, .inl (κ 0, 189, .inl fd)), (a15, .inl (κ 0, 9, .inl fa)), (a17, .inl (κ 0, 7123, .inl ga17_2))] := hD.sub [3, 0, 1, 2] (by decide) rfl
          refine W.eq (g2 := F0 m 86 ls [.int 0]) rfl ?_
          exact ct_iret hx hb hr hlk rfl hS hP hD (0, 7, nI n_20, nI k1_2, ga17_2) rfl ⟨(show PF (nI n_20) from (PF_n (by omega))), (show Pd ga17_2 from (by first | assumption | omega | rfl | exact Or.inl (by assumption) | exact Or.inr (by assumption))), (by exact Or.inr ((⟨rfl, (show hdB fs u12 = false from (is_n hl24_1 c_12))⟩)))⟩ [0, 1, 2, 3] rfl (by decide) trivial (Nat.le_of_ble_eq_true rfl) (Nat.le_of_ble_eq_true rfl) dX12_readsNames_86
      · have nc_11 := cv_nle (a := k1_2) (b := k3_24) (by omega) (by omega) c_11
        refine lv_iload_n hx hb dX12_readsNames_29 rfl (lv_at hl 1 rfl) ?_
        refine lv_if_eq (tgt := 69) hx hb dX12_readsNames_30 (by decide) (fun c_22 => ?_) (fun c_22 => ?_)
        · refine lv_iload_n hx hb dX12_readsNames_69 rfl (lv_at hl 1 rfl) ?_
          refine lv_if_ne (tgt := 87) hx hb dX12_readsNames_70 (by decide) (fun c_23 => absurd c_22 c_23) (fun c_23 => ?_)
          refine lv_aload_n hx hb dX12_readsNames_73 rfl (lv_at hl 3 rfl) ?_
          refine lv_bipush (v := 7) hx hb dX12_readsNames_74 (by decide) ?_
          refine lv_aload_n hx hb dX12_readsNames_76 rfl (lv_at hl 3 rfl) ?_
          refine va_get (D := D) (ci := 12) (v := .ref a15) (C := RX12) (T := TX12) (N := 30) hx hb hts inlX12 hown hK hP 0 rfl rfl 15 (by decide) (hts _ mw_195) (fun _ h9 => h9) rfl dX12_readsNames_77 ?_
          refine lv_iload_n hx hb dX12_readsNames_80 rfl (lv_at hl 2 rfl) ?_
          refine va_iald hx hb hK hP 2 0 rfl rfl (i := nI k1_2) (vp_in_nI (n := k1_2) (by omega) (by omega)) dX12_readsNames_81 ?_
          refine kv (v := .int (fa k1_2)) (by rw [nI_clamp (by omega)]) ?_
          obtain ⟨n_24, hn_24, en_24⟩ : ∃ n9 : Nat, n9 ≤ 800 ∧ fa k1_2 = nI n9 := id (h_a15 k1_2 (by omega))
          refine kv (v := .int (nI n_24)) (congrArg Value.int en_24) ?_
          refine lv_iload_n hx hb dX12_readsNames_82 rfl (lv_at hl 2 rfl) ?_
          refine ct_V (wr := [(a14, .inl (κ 0, 189, .inl fd)), (a15, .inl (κ 0, 9, .inl fa)), (a17, .inl (κ 0, 7123, .inl ga17_2))]) (As := [.int 7, .int (nI n_24), .int (nI k1_2)]) (rest := []) hFX hKK hP hD hS hA (s_X12_wrong l D κ m0 a0 a1 a2 u3 f4 a5 u6 f7 f8 f9 f10 u11 u12 u13 a14 a15 a16 a17 f18 f19 a20 a21 u22 a23 a24 a25 u26 f27 a28 u29 7 (nI n_24) (nI k1_2)) 3 gV_X12_210 hdV_X12_wrong ⟨Nat.le_of_ble_eq_true rfl, Nat.le_of_ble_eq_true rfl⟩ rfl rfl (Nat.le_of_ble_eq_true rfl) dX12_readsNames_83 ⟨Nat.le_of_ble_eq_true rfl, Nat.le_of_ble_eq_true rfl⟩ hl.1 [0] [1, 2, 3] rfl rfl (by decide) (by decide) (by decide) 0 12 rfl rfl rfl trivial (fun _ H locs hp_25 _ hP hD hS hz_ hk_ => ?_)
          replace hP : va_P D vwCl [(m0, .inr (12, [.ref a0, .ref a1, .ref a2, .int (nI u3), .int f4, .ref a5, .int (nI u6), .int 7, .int (nI n_24), .int (nI k1_2), .int f10, .int (nI u11), .int (nI u12), .int (nI u13), .ref a14, .ref a15, .ref a16, .ref a17, .int f18, .int f19, .ref a20, .ref a21, .int (nI u22), .ref a23, .ref a24, .ref a25, .int (nI u26), .int f27, .ref a28, .int (nI u29)])), (a14, .inl (κ 0, 189, .inl fd)), (a15, .inl (κ 0, 9, .inl fa)), (a17, .inl (κ 0, 7123, .inl ga17_2))] H := hP.sub [3, 0, 1, 2] rfl
          replace hD : va_D A [(m0, .inr (12, [.ref a0, .ref a1, .ref a2, .int (nI u3), .int f4, .ref a5, .int (nI u6), .int 7, .int (nI n_24), .int (nI k1_2), .int f10, .int (nI u11), .int (nI u12), .int (nI u13), .ref a14, .ref a15, .ref a16, .ref a17, .int f18, .int f19, .ref a20, .ref a21, .int (nI u22), .ref a23, .ref a24, .ref a25, .int (nI u26), .int f27, .ref a28, .int (nI u29)])), (a14, .inl (κ 0, 189, .inl fd)), (a15, .inl (κ 0, 9, .inl fa)), (a17, .inl (κ 0, 7123, .inl ga17_2))] := hD.sub [3, 0, 1, 2] (by decide) rfl
          refine W.eq (g2 := F0 m 86 ls [.int 0]) rfl ?_
          exact ct_iret hx hb hr hlk rfl hS hP hD (0, 7, nI n_24, nI k1_2, ga17_2) rfl ⟨(show PF (nI n_24) from (PF_n (by omega))), (show Pd ga17_2 from (by first | assumption | omega | rfl | exact Or.inl (by assumption) | exact Or.inr (by assumption))), (by exact Or.inr ((⟨rfl, (show hdB fs u12 = false from (is_n hl24_1 c_22))⟩)))⟩ [0, 1, 2, 3] rfl (by decide) trivial (Nat.le_of_ble_eq_true rfl) (Nat.le_of_ble_eq_true rfl) dX12_readsNames_86
        · refine lv_aload_n hx hb dX12_readsNames_33 rfl (lv_at hl 3 rfl) ?_
          refine va_get (D := D) (ci := 12) (v := .ref a14) (C := RX12) (T := TX12) (N := 30) hx hb hts inlX12 hown hK hP 0 rfl rfl 14 (by decide) (hts _ mw_194) (fun _ h9 => h9) rfl dX12_readsNames_34 ?_
          refine lv_bipush (v := 21) hx hb dX12_readsNames_37 (by decide) ?_
          refine lv_iload_n hx hb dX12_readsNames_39 rfl (lv_at hl 2 rfl) ?_
          refine lv_imul hx hb dX12_readsNames_40 ?_
          refine ki (v := (nI (21 * k1_2))) (pk_mul 21 k1_2) ?_
          refine lv_aload_n hx hb dX12_readsNames_41 rfl (lv_at hl 3 rfl) ?_
          refine va_get (D := D) (ci := 12) (v := .ref a17) (C := RX12) (T := TX12) (N := 30) hx hb hts inlX12 hown hK hP 0 rfl rfl 17 (by decide) (hts _ mw_197) (fun _ h9 => h9) rfl dX12_readsNames_42 ?_
          refine lv_iconst (v := 4) hx hb dX12_readsNames_45 (by decide) ?_
          refine lv_bipush (v := 13) hx hb dX12_readsNames_46 (by decide) ?_
          refine lv_iload_n hx hb dX12_readsNames_48 rfl (lv_at hl 0 rfl) ?_
          refine lv_imul hx hb dX12_readsNames_49 ?_
          refine ki (v := (nI (13 * k3_24))) (pk_mul 13 k3_24) ?_
          refine lv_iadd hx hb dX12_readsNames_50 ?_
          refine ki (v := (nI (4 + (13 * k3_24)))) (nI_add 4 (13 * k3_24)) ?_
          obtain ⟨hno_261, hno_262⟩ := hl2_3 k3_24 (by omega)
          refine cr_S (As := [.ref a14, .int (nI (21 * k1_2)), .ref a17, .int (nI (4 + (13 * k3_24)))]) (rest := []) hFX hKK (f_X12_areSame l D κ a14 189 fd a17 7123 ga17_2 (21 * k1_2) (4 + (13 * k3_24)) (fs.getD k1_2 []) (fs.getD k3_24 []) (by first | assumption | omega) (by first | assumption | omega) (by omega) (by omega) hfx_4 hno_261) 4 gS_X12_244 hdS_X12_areSame rfl rfl ⟨Nat.le_of_ble_eq_true rfl, Nat.le_of_ble_eq_true rfl⟩ rfl rfl (Nat.le_of_ble_eq_true rfl) dX12_readsNames_51 ⟨Nat.le_of_ble_eq_true rfl, Nat.le_of_ble_eq_true rfl⟩ hl.1 (hP.sub [1, 3] rfl) (fun r__27 hp_28 => ?_)
          replace hp_28 : ((r__27 = 1 ∧ (fs.getD k1_2 []) = (fs.getD k3_24 [])) ∨ (r__27 = 0 ∧ ¬ (fs.getD k1_2 []) = (fs.getD k3_24 []))) := hp_28
          have ha_29 := hp_28
          clear hp_28
          rcases ha_29 with ⟨rfl, a_30⟩ | ⟨rfl, a_31⟩
          · refine W.eq (g2 := F0 m 54 ls [.int 1]) rfl ?_
            refine lv_if_ne (tgt := 61) hx hb dX12_readsNames_54 (by decide) (fun c_32 => ?_) (fun c_32 => absurd c_32 (by decide))
            refine lv_iconst (v := 0) hx hb dX12_readsNames_61 (by decide) ?_
            refine lv_istore_n (lv' := [(2, .int 0), (3, .int (nI k3_24)), (1, .int (nI k1_2)), (0, .ref m0)]) hx hb dX12_readsNames_62 rfl hl (by decide) rfl (fun ls hl => ?_)
            refine lv_iinc (v := (nI (k3_24 + 1))) (lv' := [(3, .int (nI (k3_24 + 1))), (2, .int 0), (1, .int (nI k1_2)), (0, .ref m0)]) hx hb dX12_readsNames_63 hl (k := 1) rfl (nI_i k3_24) (by decide) rfl (fun ls hl => ?_)
            refine lv_goto (tgt := 24) hx hb dX12_readsNames_66 (by decide) ?_
            exact ih24 _ _ _ _ (by omega) ⟨(k3_24 + 1), 0, (by omega), (Or.inr ⟨rfl, hd_m (mem_in (i := k3_24) a_30.symm (by omega)) (by omega)⟩), rfl, hP, hD, hS, lv_sub hl [0, 1, 2, 3] rfl⟩
          · refine W.eq (g2 := F0 m 54 ls [.int 0]) rfl ?_
            refine lv_if_ne (tgt := 61) hx hb dX12_readsNames_54 (by decide) (fun c_33 => absurd c_33 (by decide)) (fun c_33 => ?_)
            refine lv_iconst (v := 1) hx hb dX12_readsNames_57 (by decide) ?_
            refine lv_goto (tgt := 62) hx hb dX12_readsNames_58 (by decide) ?_
            refine lv_istore_n (lv' := [(2, .int 1), (3, .int (nI k3_24)), (1, .int (nI k1_2)), (0, .ref m0)]) hx hb dX12_readsNames_62 rfl hl (by decide) rfl (fun ls hl => ?_)
            refine lv_iinc (v := (nI (k3_24 + 1))) (lv' := [(3, .int (nI (k3_24 + 1))), (2, .int 1), (1, .int (nI k1_2)), (0, .ref m0)]) hx hb dX12_readsNames_63 hl (k := 1) rfl (nI_i k3_24) (by decide) rfl (fun ls hl => ?_)
            refine lv_goto (tgt := 24) hx hb dX12_readsNames_66 (by decide) ?_
            exact ih24 _ _ _ _ (by omega) ⟨(k3_24 + 1), 1, (by omega), (Or.inl ⟨by decide, (is_y hl24_1 c_22).1, mem_go (is_y hl24_1 c_22).2 (fun h9 => a_31 h9.symm)⟩), rfl, hP, hD, hS, lv_sub hl [0, 1, 2, 3] rfl⟩
    · refine W.eq (g2 := F0 m 21 ls [.int 0]) rfl ?_
      refine lv_istore_n (lv' := [(2, .int 0), (1, .int (nI k1_2)), (0, .ref m0)]) hx hb dX12_readsNames_21 rfl hl (by decide) rfl (fun ls hl => ?_)
      refine lv_iconst (v := 0) hx hb dX12_readsNames_22 (by decide) ?_
      refine lv_istore_n (lv' := [(3, .int 0), (2, .int 0), (1, .int (nI k1_2)), (0, .ref m0)]) hx hb dX12_readsNames_23 rfl hl (by decide) rfl (fun ls hl => ?_)
      refine loop_dn (fun k9 H locs ls => ∃ (k3_24 : Nat), ∃ (k2_24 : Int32), (k3_24 ≤ k1_2) ∧ ((¬ k2_24 = 0 ∧ nvB (fs.getD k1_2 []) = true ∧ memB fs (fs.getD k1_2 []) k3_24 = false) ∨ (k2_24 = 0 ∧ hdB fs u12 = false)) ∧ k1_2 - k3_24 = k9 ∧ va_P D vwCl [(m0, .inr (12, [.ref a0, .ref a1, .ref a2, .int (nI u3), .int f4, .ref a5, .int (nI u6), .int f7, .int f8, .int f9, .int f10, .int (nI u11), .int (nI u12), .int (nI u13), .ref a14, .ref a15, .ref a16, .ref a17, .int f18, .int f19, .ref a20, .ref a21, .int (nI u22), .ref a23, .ref a24, .ref a25, .int (nI u26), .int f27, .ref a28, .int (nI u29)])), (a14, .inl (κ 0, 189, .inl fd)), (a15, .inl (κ 0, 9, .inl fa)), (a17, .inl (κ 0, 7123, .inl ga17_2))] H ∧ va_D A [(m0, .inr (12, [.ref a0, .ref a1, .ref a2, .int (nI u3), .int f4, .ref a5, .int (nI u6), .int f7, .int f8, .int f9, .int f10, .int (nI u11), .int (nI u12), .int (nI u13), .ref a14, .ref a15, .ref a16, .ref a17, .int f18, .int f19, .ref a20, .ref a21, .int (nI u22), .ref a23, .ref a24, .ref a25, .int (nI u26), .int f27, .ref a28, .int (nI u29)])), (a14, .inl (κ 0, 189, .inl fd)), (a15, .inl (κ 0, 9, .inl fa)), (a17, .inl (κ 0, 7123, .inl ga17_2))] ∧ va_S A s.heap H locs ∧ lv_has ls 4 [(3, .int (nI k3_24)), (2, .int k2_24), (1, .int (nI k1_2)), (0, .ref m0)]) (fun k9 H locs ls hI24 ih24 => ?_) (k1_2 - 0) _ _ _ ⟨0, 0, (by omega), (Or.inr ⟨rfl, hd_n a_10 (by omega)⟩), rfl, hP, hD, hS, lv_sub hl [0, 1, 2, 3] rfl⟩
      obtain ⟨k3_24, k2_24, hl24_0, hl24_1, hm24, hP, hD, hS, hl⟩ := hI24
      refine lv_iload_n hx hb dX12_readsNames_24 rfl (lv_at hl 0 rfl) ?_
      refine lv_iload_n hx hb dX12_readsNames_25 rfl (lv_at hl 2 rfl) ?_
      refine lv_icmp_ge (tgt := 69) hx hb dX12_readsNames_26 (by decide) (fun c_34 => ?_) (fun c_34 => ?_)
      · have nc_34 := cv_le (a := k1_2) (b := k3_24) (by omega) (by omega) c_34
        refine lv_iload_n hx hb dX12_readsNames_69 rfl (lv_at hl 1 rfl) ?_
        refine lv_if_ne (tgt := 87) hx hb dX12_readsNames_70 (by decide) (fun c_35 => ?_) (fun c_35 => ?_)
        · obtain ⟨hnv_361, hnv_362⟩ := is_y hl24_1 c_35
          have hnv_363 := nv_12 hnv_361
          refine lv_aload_n hx hb dX12_readsNames_87 rfl (lv_at hl 3 rfl) ?_
          refine lv_iload_n hx hb dX12_readsNames_88 rfl (lv_at hl 2 rfl) ?_
          refine lv_aload_n hx hb dX12_readsNames_89 rfl (lv_at hl 3 rfl) ?_
          refine va_get (D := D) (ci := 12) (v := .ref a14) (C := RX12) (T := TX12) (N := 30) hx hb hts inlX12 hown hK hP 0 rfl rfl 14 (by decide) (hts _ mw_194) (fun _ h9 => h9) rfl dX12_readsNames_90 ?_
          refine lv_bipush (v := 21) hx hb dX12_readsNames_93 (by decide) ?_
          refine lv_iload_n hx hb dX12_readsNames_95 rfl (lv_at hl 2 rfl) ?_
          refine lv_imul hx hb dX12_readsNames_96 ?_
          refine ki (v := (nI (21 * k1_2))) (pk_mul 21 k1_2) ?_
          refine ct_V (wr := [(a15, .inl (κ 0, 9, .inl fa))]) (As := [.int (nI k1_2), .ref a14, .int (nI (21 * k1_2))]) (rest := []) hFX hKK hP hD hS hA (f_X12_names l D κ m0 a0 a1 a2 u3 f4 a5 u6 f7 f8 f9 f10 u11 u12 u13 a14 a15 a16 a17 f18 f19 a20 a21 u22 a23 a24 a25 u26 f27 a28 u29 ga17_2 k1_2 a14 189 (21 * k1_2) fd (fs.getD k1_2 []) hg2_0 (by first | assumption | omega) (by omega) (by omega) hfx_4 hnv_363) 3 gV_X12_248 hdV_X12_names ⟨Nat.le_of_ble_eq_true rfl, Nat.le_of_ble_eq_true rfl⟩ rfl rfl (Nat.le_of_ble_eq_true rfl) dX12_readsNames_97 ⟨Nat.le_of_ble_eq_true rfl, Nat.le_of_ble_eq_true rfl⟩ hl.1 [0, 3, 1] [2] rfl rfl (by decide) (by decide) (by decide) 0 12 rfl rfl rfl trivial (fun g_a17__37 H locs hp_38 _ hP hD hS hz_ hk_ => ?_)
          replace hP : va_P D vwCl [(m0, .inr (12, [.ref a0, .ref a1, .ref a2, .int (nI u3), .int f4, .ref a5, .int (nI u6), .int f7, .int f8, .int f9, .int f10, .int (nI u11), .int (nI u12), .int (nI u13), .ref a14, .ref a15, .ref a16, .ref a17, .int f18, .int f19, .ref a20, .ref a21, .int (nI u22), .ref a23, .ref a24, .ref a25, .int (nI u26), .int f27, .ref a28, .int (nI u29)])), (a14, .inl (κ 0, 189, .inl fd)), (a15, .inl (κ 0, 9, .inl fa)), (a17, .inl (κ 0, 7123, .inl g_a17__37))] H := hP.sub [1, 3, 0, 2] rfl
          replace hD : va_D A [(m0, .inr (12, [.ref a0, .ref a1, .ref a2, .int (nI u3), .int f4, .ref a5, .int (nI u6), .int f7, .int f8, .int f9, .int f10, .int (nI u11), .int (nI u12), .int (nI u13), .ref a14, .ref a15, .ref a16, .ref a17, .int f18, .int f19, .ref a20, .ref a21, .int (nI u22), .ref a23, .ref a24, .ref a25, .int (nI u26), .int f27, .ref a28, .int (nI u29)])), (a14, .inl (κ 0, 189, .inl fd)), (a15, .inl (κ 0, 9, .inl fa)), (a17, .inl (κ 0, 7123, .inl g_a17__37))] := hD.sub [1, 3, 0, 2] (by decide) rfl
          replace hp_38 : Pd g_a17__37 ∧ FA g_a17__37 (4 + 13 * k1_2) (fs.getD k1_2 []) ∧ (∀ p : Nat, ¬ (4 + 13 * k1_2 ≤ p ∧ p < 4 + 13 * k1_2 + 13) → g_a17__37 p = ga17_2 p) := hp_38
          obtain ⟨h_39, h_40, h_41⟩ := hp_38
          refine W.eq (g2 := F0 m 100 ls []) rfl ?_
          have hq : ∀ i : Nat, i < 4 → g_a17__37 i = dr i := fun i9 h9 => (h_41 i9 (by omega)).trans (hl2_1 i9 h9)
          have hnl_42 : NL g_a17__37 (k1_2 + 1) fs := NL_add hl2_3 h_40 hnv_363 h_41
          refine lv_iinc (v := (nI (k1_2 + 1))) (lv' := [(1, .int (nI (k1_2 + 1))), (3, .int (nI k3_24)), (2, .int k2_24), (0, .ref m0)]) hx hb dX12_readsNames_100 hl (k := 2) rfl (nI_i k1_2) (by decide) rfl (fun ls hl => ?_)
          refine lv_goto (tgt := 2) hx hb dX12_readsNames_103 (by decide) ?_
          exact ih2 _ _ _ _ (by omega) ⟨(k1_2 + 1), g_a17__37, (by omega), hq, (hd_go hl2_2 hnv_361 (by have q9 := hnv_362; rw [show k3_24 = k1_2 by omega] at q9; exact q9)), hnl_42, h_39, rfl, hP, hD, hS, lv_sub hl [0, 3] rfl⟩
        · refine lv_aload_n hx hb dX12_readsNames_73 rfl (lv_at hl 3 rfl) ?_
          refine lv_bipush (v := 7) hx hb dX12_readsNames_74 (by decide) ?_
          refine lv_aload_n hx hb dX12_readsNames_76 rfl (lv_at hl 3 rfl) ?_
          refine va_get (D := D) (ci := 12) (v := .ref a15) (C := RX12) (T := TX12) (N := 30) hx hb hts inlX12 hown hK hP 0 rfl rfl 15 (by decide) (hts _ mw_195) (fun _ h9 => h9) rfl dX12_readsNames_77 ?_
          refine lv_iload_n hx hb dX12_readsNames_80 rfl (lv_at hl 2 rfl) ?_
          refine va_iald hx hb hK hP 2 0 rfl rfl (i := nI k1_2) (vp_in_nI (n := k1_2) (by omega) (by omega)) dX12_readsNames_81 ?_
          refine kv (v := .int (fa k1_2)) (by rw [nI_clamp (by omega)]) ?_
          obtain ⟨n_43, hn_43, en_43⟩ : ∃ n9 : Nat, n9 ≤ 800 ∧ fa k1_2 = nI n9 := id (h_a15 k1_2 (by omega))
          refine kv (v := .int (nI n_43)) (congrArg Value.int en_43) ?_
          refine lv_iload_n hx hb dX12_readsNames_82 rfl (lv_at hl 2 rfl) ?_
          refine ct_V (wr := [(a14, .inl (κ 0, 189, .inl fd)), (a15, .inl (κ 0, 9, .inl fa)), (a17, .inl (κ 0, 7123, .inl ga17_2))]) (As := [.int 7, .int (nI n_43), .int (nI k1_2)]) (rest := []) hFX hKK hP hD hS hA (s_X12_wrong l D κ m0 a0 a1 a2 u3 f4 a5 u6 f7 f8 f9 f10 u11 u12 u13 a14 a15 a16 a17 f18 f19 a20 a21 u22 a23 a24 a25 u26 f27 a28 u29 7 (nI n_43) (nI k1_2)) 3 gV_X12_210 hdV_X12_wrong ⟨Nat.le_of_ble_eq_true rfl, Nat.le_of_ble_eq_true rfl⟩ rfl rfl (Nat.le_of_ble_eq_true rfl) dX12_readsNames_83 ⟨Nat.le_of_ble_eq_true rfl, Nat.le_of_ble_eq_true rfl⟩ hl.1 [0] [1, 2, 3] rfl rfl (by decide) (by decide) (by decide) 0 12 rfl rfl rfl trivial (fun _ H locs hp_44 _ hP hD hS hz_ hk_ => ?_)
          replace hP : va_P D vwCl [(m0, .inr (12, [.ref a0, .ref a1, .ref a2, .int (nI u3), .int f4, .ref a5, .int (nI u6), .int 7, .int (nI n_43), .int (nI k1_2), .int f10, .int (nI u11), .int (nI u12), .int (nI u13), .ref a14, .ref a15, .ref a16, .ref a17, .int f18, .int f19, .ref a20, .ref a21, .int (nI u22), .ref a23, .ref a24, .ref a25, .int (nI u26), .int f27, .ref a28, .int (nI u29)])), (a14, .inl (κ 0, 189, .inl fd)), (a15, .inl (κ 0, 9, .inl fa)), (a17, .inl (κ 0, 7123, .inl ga17_2))] H := hP.sub [3, 0, 1, 2] rfl
          replace hD : va_D A [(m0, .inr (12, [.ref a0, .ref a1, .ref a2, .int (nI u3), .int f4, .ref a5, .int (nI u6), .int 7, .int (nI n_43), .int (nI k1_2), .int f10, .int (nI u11), .int (nI u12), .int (nI u13), .ref a14, .ref a15, .ref a16, .ref a17, .int f18, .int f19, .ref a20, .ref a21, .int (nI u22), .ref a23, .ref a24, .ref a25, .int (nI u26), .int f27, .ref a28, .int (nI u29)])), (a14, .inl (κ 0, 189, .inl fd)), (a15, .inl (κ 0, 9, .inl fa)), (a17, .inl (κ 0, 7123, .inl ga17_2))] := hD.sub [3, 0, 1, 2] (by decide) rfl
          refine W.eq (g2 := F0 m 86 ls [.int 0]) rfl ?_
          exact ct_iret hx hb hr hlk rfl hS hP hD (0, 7, nI n_43, nI k1_2, ga17_2) rfl ⟨(show PF (nI n_43) from (PF_n (by omega))), (show Pd ga17_2 from (by first | assumption | omega | rfl | exact Or.inl (by assumption) | exact Or.inr (by assumption))), (by exact Or.inr ((⟨rfl, (show hdB fs u12 = false from (is_n hl24_1 c_35))⟩)))⟩ [0, 1, 2, 3] rfl (by decide) trivial (Nat.le_of_ble_eq_true rfl) (Nat.le_of_ble_eq_true rfl) dX12_readsNames_86
      · have nc_34 := cv_nle (a := k1_2) (b := k3_24) (by omega) (by omega) c_34
        refine lv_iload_n hx hb dX12_readsNames_29 rfl (lv_at hl 1 rfl) ?_
        refine lv_if_eq (tgt := 69) hx hb dX12_readsNames_30 (by decide) (fun c_45 => ?_) (fun c_45 => ?_)
        · refine lv_iload_n hx hb dX12_readsNames_69 rfl (lv_at hl 1 rfl) ?_
          refine lv_if_ne (tgt := 87) hx hb dX12_readsNames_70 (by decide) (fun c_46 => absurd c_45 c_46) (fun c_46 => ?_)
          refine lv_aload_n hx hb dX12_readsNames_73 rfl (lv_at hl 3 rfl) ?_
          refine lv_bipush (v := 7) hx hb dX12_readsNames_74 (by decide) ?_
          refine lv_aload_n hx hb dX12_readsNames_76 rfl (lv_at hl 3 rfl) ?_
          refine va_get (D := D) (ci := 12) (v := .ref a15) (C := RX12) (T := TX12) (N := 30) hx hb hts inlX12 hown hK hP 0 rfl rfl 15 (by decide) (hts _ mw_195) (fun _ h9 => h9) rfl dX12_readsNames_77 ?_
          refine lv_iload_n hx hb dX12_readsNames_80 rfl (lv_at hl 2 rfl) ?_
          refine va_iald hx hb hK hP 2 0 rfl rfl (i := nI k1_2) (vp_in_nI (n := k1_2) (by omega) (by omega)) dX12_readsNames_81 ?_
          refine kv (v := .int (fa k1_2)) (by rw [nI_clamp (by omega)]) ?_
          obtain ⟨n_47, hn_47, en_47⟩ : ∃ n9 : Nat, n9 ≤ 800 ∧ fa k1_2 = nI n9 := id (h_a15 k1_2 (by omega))
          refine kv (v := .int (nI n_47)) (congrArg Value.int en_47) ?_
          refine lv_iload_n hx hb dX12_readsNames_82 rfl (lv_at hl 2 rfl) ?_
          refine ct_V (wr := [(a14, .inl (κ 0, 189, .inl fd)), (a15, .inl (κ 0, 9, .inl fa)), (a17, .inl (κ 0, 7123, .inl ga17_2))]) (As := [.int 7, .int (nI n_47), .int (nI k1_2)]) (rest := []) hFX hKK hP hD hS hA (s_X12_wrong l D κ m0 a0 a1 a2 u3 f4 a5 u6 f7 f8 f9 f10 u11 u12 u13 a14 a15 a16 a17 f18 f19 a20 a21 u22 a23 a24 a25 u26 f27 a28 u29 7 (nI n_47) (nI k1_2)) 3 gV_X12_210 hdV_X12_wrong ⟨Nat.le_of_ble_eq_true rfl, Nat.le_of_ble_eq_true rfl⟩ rfl rfl (Nat.le_of_ble_eq_true rfl) dX12_readsNames_83 ⟨Nat.le_of_ble_eq_true rfl, Nat.le_of_ble_eq_true rfl⟩ hl.1 [0] [1, 2, 3] rfl rfl (by decide) (by decide) (by decide) 0 12 rfl rfl rfl trivial (fun _ H locs hp_48 _ hP hD hS hz_ hk_ => ?_)
          replace hP : va_P D vwCl [(m0, .inr (12, [.ref a0, .ref a1, .ref a2, .int (nI u3), .int f4, .ref a5, .int (nI u6), .int 7, .int (nI n_47), .int (nI k1_2), .int f10, .int (nI u11), .int (nI u12), .int (nI u13), .ref a14, .ref a15, .ref a16, .ref a17, .int f18, .int f19, .ref a20, .ref a21, .int (nI u22), .ref a23, .ref a24, .ref a25, .int (nI u26), .int f27, .ref a28, .int (nI u29)])), (a14, .inl (κ 0, 189, .inl fd)), (a15, .inl (κ 0, 9, .inl fa)), (a17, .inl (κ 0, 7123, .inl ga17_2))] H := hP.sub [3, 0, 1, 2] rfl
          replace hD : va_D A [(m0, .inr (12, [.ref a0, .ref a1, .ref a2, .int (nI u3), .int f4, .ref a5, .int (nI u6), .int 7, .int (nI n_47), .int (nI k1_2), .int f10, .int (nI u11), .int (nI u12), .int (nI u13), .ref a14, .ref a15, .ref a16, .ref a17, .int f18, .int f19, .ref a20, .ref a21, .int (nI u22), .ref a23, .ref a24, .ref a25, .int (nI u26), .int f27, .ref a28, .int (nI u29)])), (a14, .inl (κ 0, 189, .inl fd)), (a15, .inl (κ 0, 9, .inl fa)), (a17, .inl (κ 0, 7123, .inl ga17_2))] := hD.sub [3, 0, 1, 2] (by decide) rfl
          refine W.eq (g2 := F0 m 86 ls [.int 0]) rfl ?_
          exact ct_iret hx hb hr hlk rfl hS hP hD (0, 7, nI n_47, nI k1_2, ga17_2) rfl ⟨(show PF (nI n_47) from (PF_n (by omega))), (show Pd ga17_2 from (by first | assumption | omega | rfl | exact Or.inl (by assumption) | exact Or.inr (by assumption))), (by exact Or.inr ((⟨rfl, (show hdB fs u12 = false from (is_n hl24_1 c_45))⟩)))⟩ [0, 1, 2, 3] rfl (by decide) trivial (Nat.le_of_ble_eq_true rfl) (Nat.le_of_ble_eq_true rfl) dX12_readsNames_86
        · refine lv_aload_n hx hb dX12_readsNames_33 rfl (lv_at hl 3 rfl) ?_
          refine va_get (D := D) (ci := 12) (v := .ref a14) (C := RX12) (T := TX12) (N := 30) hx hb hts inlX12 hown hK hP 0 rfl rfl 14 (by decide) (hts _ mw_194) (fun _ h9 => h9) rfl dX12_readsNames_34 ?_
          refine lv_bipush (v := 21) hx hb dX12_readsNames_37 (by decide) ?_
          refine lv_iload_n hx hb dX12_readsNames_39 rfl (lv_at hl 2 rfl) ?_
          refine lv_imul hx hb dX12_readsNames_40 ?_
          refine ki (v := (nI (21 * k1_2))) (pk_mul 21 k1_2) ?_
          refine lv_aload_n hx hb dX12_readsNames_41 rfl (lv_at hl 3 rfl) ?_
          refine va_get (D := D) (ci := 12) (v := .ref a17) (C := RX12) (T := TX12) (N := 30) hx hb hts inlX12 hown hK hP 0 rfl rfl 17 (by decide) (hts _ mw_197) (fun _ h9 => h9) rfl dX12_readsNames_42 ?_
          refine lv_iconst (v := 4) hx hb dX12_readsNames_45 (by decide) ?_
          refine lv_bipush (v := 13) hx hb dX12_readsNames_46 (by decide) ?_
          refine lv_iload_n hx hb dX12_readsNames_48 rfl (lv_at hl 0 rfl) ?_
          refine lv_imul hx hb dX12_readsNames_49 ?_
          refine ki (v := (nI (13 * k3_24))) (pk_mul 13 k3_24) ?_
          refine lv_iadd hx hb dX12_readsNames_50 ?_
          refine ki (v := (nI (4 + (13 * k3_24)))) (nI_add 4 (13 * k3_24)) ?_
          obtain ⟨hno_491, hno_492⟩ := hl2_3 k3_24 (by omega)
          refine cr_S (As := [.ref a14, .int (nI (21 * k1_2)), .ref a17, .int (nI (4 + (13 * k3_24)))]) (rest := []) hFX hKK (f_X12_areSame l D κ a14 189 fd a17 7123 ga17_2 (21 * k1_2) (4 + (13 * k3_24)) (fs.getD k1_2 []) (fs.getD k3_24 []) (by first | assumption | omega) (by first | assumption | omega) (by omega) (by omega) hfx_4 hno_491) 4 gS_X12_244 hdS_X12_areSame rfl rfl ⟨Nat.le_of_ble_eq_true rfl, Nat.le_of_ble_eq_true rfl⟩ rfl rfl (Nat.le_of_ble_eq_true rfl) dX12_readsNames_51 ⟨Nat.le_of_ble_eq_true rfl, Nat.le_of_ble_eq_true rfl⟩ hl.1 (hP.sub [1, 3] rfl) (fun r__50 hp_51 => ?_)
          replace hp_51 : ((r__50 = 1 ∧ (fs.getD k1_2 []) = (fs.getD k3_24 [])) ∨ (r__50 = 0 ∧ ¬ (fs.getD k1_2 []) = (fs.getD k3_24 []))) := hp_51
          have ha_52 := hp_51
          clear hp_51
          rcases ha_52 with ⟨rfl, a_53⟩ | ⟨rfl, a_54⟩
          · refine W.eq (g2 := F0 m 54 ls [.int 1]) rfl ?_
            refine lv_if_ne (tgt := 61) hx hb dX12_readsNames_54 (by decide) (fun c_55 => ?_) (fun c_55 => absurd c_55 (by decide))
            refine lv_iconst (v := 0) hx hb dX12_readsNames_61 (by decide) ?_
            refine lv_istore_n (lv' := [(2, .int 0), (3, .int (nI k3_24)), (1, .int (nI k1_2)), (0, .ref m0)]) hx hb dX12_readsNames_62 rfl hl (by decide) rfl (fun ls hl => ?_)
            refine lv_iinc (v := (nI (k3_24 + 1))) (lv' := [(3, .int (nI (k3_24 + 1))), (2, .int 0), (1, .int (nI k1_2)), (0, .ref m0)]) hx hb dX12_readsNames_63 hl (k := 1) rfl (nI_i k3_24) (by decide) rfl (fun ls hl => ?_)
            refine lv_goto (tgt := 24) hx hb dX12_readsNames_66 (by decide) ?_
            exact ih24 _ _ _ _ (by omega) ⟨(k3_24 + 1), 0, (by omega), (Or.inr ⟨rfl, hd_m (mem_in (i := k3_24) a_53.symm (by omega)) (by omega)⟩), rfl, hP, hD, hS, lv_sub hl [0, 1, 2, 3] rfl⟩
          · refine W.eq (g2 := F0 m 54 ls [.int 0]) rfl ?_
            refine lv_if_ne (tgt := 61) hx hb dX12_readsNames_54 (by decide) (fun c_56 => absurd c_56 (by decide)) (fun c_56 => ?_)
            refine lv_iconst (v := 1) hx hb dX12_readsNames_57 (by decide) ?_
            refine lv_goto (tgt := 62) hx hb dX12_readsNames_58 (by decide) ?_
            refine lv_istore_n (lv' := [(2, .int 1), (3, .int (nI k3_24)), (1, .int (nI k1_2)), (0, .ref m0)]) hx hb dX12_readsNames_62 rfl hl (by decide) rfl (fun ls hl => ?_)
            refine lv_iinc (v := (nI (k3_24 + 1))) (lv' := [(3, .int (nI (k3_24 + 1))), (2, .int 1), (1, .int (nI k1_2)), (0, .ref m0)]) hx hb dX12_readsNames_63 hl (k := 1) rfl (nI_i k3_24) (by decide) rfl (fun ls hl => ?_)
            refine lv_goto (tgt := 24) hx hb dX12_readsNames_66 (by decide) ?_
            exact ih24 _ _ _ _ (by omega) ⟨(k3_24 + 1), 1, (by omega), (Or.inl ⟨by decide, (is_y hl24_1 c_45).1, mem_go (is_y hl24_1 c_45).2 (fun h9 => a_54 h9.symm)⟩), rfl, hP, hD, hS, lv_sub hl [0, 1, 2, 3] rfl⟩
