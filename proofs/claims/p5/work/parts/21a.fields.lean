/-! what both readers do, as functions of the tape and the dialect -/
def lsF (f : Nat → Int32) : Nat → List Int32
  | 0 => []
  | n + 1 => lsF f n ++ [f n]
theorem lsF_len (f : Nat → Int32) : ∀ n : Nat, (lsF f n).length = n
  | 0 => rfl
  | n + 1 => by rw [lsF, List.length_append, lsF_len f n]; rfl
theorem lsF_same {f g : Nat → Int32} : ∀ {n : Nat}, (∀ i : Nat, i < n → f i = g i) → lsF f n = lsF g n
  | 0, _ => rfl
  | n + 1, h => by rw [lsF, lsF, lsF_same (fun i hi => h i (by omega)), h n (by omega)]
theorem lsF_up {f : Nat → Int32} {n : Nat} {v : Int32} : lsF (upd f n v) (n + 1) = lsF f n ++ [v] := by
  rw [lsF, lsF_same (f := upd f n v) (g := f) (fun i hi => by simp [upd, show i ≠ n by omega])]
  simp [upd]
def sgB (x : Int32) : Bool := decide (32 ≤ x.toInt) && decide (x.toInt ≤ 126)
theorem sgB_t {x : Int32} (h1 : 32 ≤ x.toInt) (h2 : x.toInt ≤ 126) : sgB x = true := by simp [sgB, h1, h2]
theorem sgB_f {x : Int32} (h : x.toInt < 32 ∨ 126 < x.toInt) : sgB x = false := by
  unfold sgB
  rcases h with h | h
  · rw [decide_eq_false (by omega)]; rfl
  · rw [decide_eq_false (p := x.toInt ≤ 126) (by omega), Bool.and_false]
theorem sgB_i {x : Int32} (h : sgB x = true) : 32 ≤ x.toInt ∧ x.toInt ≤ 126 := by
  unfold sgB at h
  rw [Bool.and_eq_true, decide_eq_true_eq, decide_eq_true_eq] at h
  exact h
theorem nb_of {x : Int32} (h1 : 0 ≤ x.toInt) (h2 : x.toInt ≤ 127) : x.toInt8.toInt32 = x := by
  apply Int32.toInt_inj.mp
  rw [Int8.toInt_toInt32, Int32.toInt_toInt8]
  simp only [Int.bmod]
  omega
def skF (t d : Nat → Int32) : Nat → Nat → Nat
  | 0, p => p
  | n + 1, p => if d 3 = 1 then (if t p = 32 then skF t d n (p + 1) else p) else p
def plF (t d : Nat → Int32) : Nat → Nat → Nat → List Int32 → Option (Nat × List Int32)
  | 0, p, _, a => some (p, a)
  | n + 1, p, k, a => if t p = d 0 then some (p, a) else if t p = 10 then some (p, a) else if sgB (t p) = false then none else if t p = d 1 then none else if t p = 32 ∧ d 3 = 1 then plF t d n (p + 1) (k + 1) a else if 20 ≤ a.length + k then none else plF t d n (p + 1) 0 (a ++ List.replicate k 32 ++ [t p])
def quF (t d : Nat → Int32) : Nat → Nat → List Int32 → Option (Nat × List Int32)
  | 0, _, _ => none
  | 1, p, a => if sgB (t p) = false ∧ ¬ t p = 10 then none else if t p = d 1 then some (p + 1, a) else none
  | n + 2, p, a => if sgB (t p) = false ∧ ¬ t p = 10 then none else if t p = d 1 then (if t (p + 1) = t p then (if 20 ≤ a.length then none else quF t d n (p + 2) (a ++ [t p])) else some (p + 1, a)) else if 20 ≤ a.length then none else quF t d (n + 1) (p + 1) (a ++ [t p])
def bhF (t d : Nat → Int32) (L r : Nat) (a : List Int32) : Option (Nat × List Int32) := if L ≤ skF t d (L - r) r ∨ t (skF t d (L - r) r) = d 0 ∨ t (skF t d (L - r) r) = 10 then some (skF t d (L - r) r, a) else none
def fdF (t d : Nat → Int32) (L p : Nat) : Option (Nat × List Int32) :=
  if skF t d (L - p) p < L ∧ t (skF t d (L - p) p) = d 1 then
    match quF t d (L - (skF t d (L - p) p + 1)) (skF t d (L - p) p + 1) [] with
    | none => none
    | some (r, a) => bhF t d L r a
  else plF t d (L - skF t d (L - p) p) (skF t d (L - p) p) 0 []
def lnF (t d : Nat → Int32) (L : Nat) : Nat → Nat → List (List Int32) → Option (Nat × List (List Int32))
  | 0, _, _ => none
  | k + 1, p, fs => match fdF t d L p with
    | none => none
    | some (q, a) => if L ≤ q ∨ t q = 10 then some (q, fs ++ [a]) else lnF t d L k (q + 1) (fs ++ [a])
section SPEC
variable {t d : Nat → Int32} {L p k n : Nat} {a : List Int32} {x y z w : Int32}
theorem nx (h : p < L) : L - p = (L - (p + 1)) + 1 := by omega
theorem sk_end (h : L ≤ p) : skF t d (L - p) p = p := by rw [Nat.sub_eq_zero_of_le h]; rfl
theorem sk_no (e : d 3 = x) (c : ¬ x = 1) : ∀ n : Nat, skF t d n p = p
  | 0 => rfl
  | n + 1 => by rw [skF, if_neg (by rw [e]; exact c)]
theorem sk_stop (e : t p = x) (c : ¬ x = 32) : ∀ n : Nat, skF t d n p = p
  | 0 => rfl
  | n + 1 => by
    rw [skF]
    split
    · rw [if_neg (by rw [e]; exact c)]
    · rfl
theorem sk_go (h : p < L) (e : d 3 = x) (c : x = 1) (e2 : t p = y) (c2 : y = 32) : skF t d (L - p) p = skF t d (L - (p + 1)) (p + 1) := by
  rw [nx h, skF, if_pos (e.trans c), if_pos (e2.trans c2)]
theorem sk_le : ∀ (n p : Nat), p ≤ skF t d n p
  | 0, p => Nat.le_refl _
  | n + 1, p => by
    rw [skF]
    split
    · split
      · exact Nat.le_trans (Nat.le_succ p) (sk_le n (p + 1))
      · exact Nat.le_refl _
    · exact Nat.le_refl _
theorem pl_end (h : L ≤ p) : plF t d (L - p) p k a = some (p, a) := by rw [Nat.sub_eq_zero_of_le h]; rfl
theorem pl_sep (h : p < L) (e : t p = x) (e2 : d 0 = y) (c : x = y) : plF t d (L - p) p k a = some (p, a) := by
  rw [nx h, plF, if_pos (by rw [e, e2, c])]
theorem pl_10 (h : p < L) (e : t p = x) (c : x = 10) : plF t d (L - p) p k a = some (p, a) := by
  rw [nx h, plF]
  split
  · rfl
  · rw [if_pos (e.trans c)]
theorem pl_sg (h : p < L) (e : t p = x) (e2 : d 0 = y) (n1 : ¬ x = y) (n2 : ¬ x = 10) (s : sgB x = false) : plF t d (L - p) p k a = none := by
  rw [nx h, plF, if_neg (by rw [e, e2]; exact n1), if_neg (by rw [e]; exact n2), if_pos (by rw [e]; exact s)]
theorem pl_q (h : p < L) (e : t p = x) (e2 : d 0 = y) (n1 : ¬ x = y) (n2 : ¬ x = 10) (e3 : d 1 = z) (c : x = z) : plF t d (L - p) p k a = none := by
  rw [nx h, plF, if_neg (by rw [e, e2]; exact n1), if_neg (by rw [e]; exact n2)]
  split
  · rfl
  · rw [if_pos (by rw [e, e3]; exact c)]
theorem pl_bl (h : p < L) (e : t p = x) (e2 : d 0 = y) (n1 : ¬ x = y) (n2 : ¬ x = 10) (s : sgB x = true) (e3 : d 1 = z) (n3 : ¬ x = z) (c : x = 32) (e4 : d 3 = w) (c2 : w = 1) : plF t d (L - p) p k a = plF t d (L - (p + 1)) (p + 1) (k + 1) a := by
  rw [nx h, plF, if_neg (by rw [e, e2]; exact n1), if_neg (by rw [e]; exact n2), if_neg (by rw [e, s]; exact Bool.noConfusion), if_neg (by rw [e, e3]; exact n3), if_pos ⟨e.trans c, e4.trans c2⟩]
theorem pl_full (h : p < L) (e : t p = x) (e2 : d 0 = y) (n1 : ¬ x = y) (n2 : ¬ x = 10) (s : sgB x = true) (e3 : d 1 = z) (n3 : ¬ x = z) (nb : ¬ (t p = 32 ∧ d 3 = 1)) (hl : 20 ≤ a.length + k) : plF t d (L - p) p k a = none := by
  rw [nx h, plF, if_neg (by rw [e, e2]; exact n1), if_neg (by rw [e]; exact n2), if_neg (by rw [e, s]; exact Bool.noConfusion), if_neg (by rw [e, e3]; exact n3), if_neg nb, if_pos hl]
theorem pl_kp (h : p < L) (e : t p = x) (e2 : d 0 = y) (n1 : ¬ x = y) (n2 : ¬ x = 10) (s : sgB x = true) (e3 : d 1 = z) (n3 : ¬ x = z) (nb : ¬ (t p = 32 ∧ d 3 = 1)) (hl : a.length + k < 20) : plF t d (L - p) p k a = plF t d (L - (p + 1)) (p + 1) 0 (a ++ List.replicate k 32 ++ [x]) := by
  rw [nx h, plF, if_neg (by rw [e, e2]; exact n1), if_neg (by rw [e]; exact n2), if_neg (by rw [e, s]; exact Bool.noConfusion), if_neg (by rw [e, e3]; exact n3), if_neg nb, if_neg (by omega), e]
theorem ng (e : t p = x) (s : sgB x = true ∨ x = 10) : ¬ (sgB (t p) = false ∧ ¬ t p = 10) := by
  rintro ⟨q1, q2⟩
  rw [e] at q1 q2
  rcases s with s | s
  · rw [s] at q1
    exact Bool.noConfusion q1
  · exact q2 s
theorem nx1 (h : p < L) : L - p = 1 ∨ L - p = (L - (p + 1 + 1)) + 2 := by omega
theorem qu_end (h : L ≤ p) : quF t d (L - p) p a = none := by rw [Nat.sub_eq_zero_of_le h]; rfl
theorem qu_sg (h : p < L) (e : t p = x) (s : sgB x = false) (n : ¬ x = 10) : quF t d (L - p) p a = none := by
  have h9 : sgB (t p) = false ∧ ¬ t p = 10 := ⟨by rw [e]; exact s, by rw [e]; exact n⟩
  rcases nx1 h with h1 | h1 <;> rw [h1, quF, if_pos h9]
theorem qu_q1 (h : p < L) (e : t p = x) (s : sgB x = true ∨ x = 10) (e3 : d 1 = z) (c : x = z) (h2 : L ≤ p + 1) : quF t d (L - p) p a = some (p + 1, a) := by
  rw [show L - p = 1 by omega, quF, if_neg (ng e s), if_pos (by rw [e, e3]; exact c)]
theorem qu_q2 (h : p + 1 < L) (e : t p = x) (s : sgB x = true ∨ x = 10) (e3 : d 1 = z) (c : x = z) (e4 : t (p + 1) = w) (n : ¬ w = x) : quF t d (L - p) p a = some (p + 1, a) := by
  rw [show L - p = (L - (p + 1 + 1)) + 2 by omega, quF, if_neg (ng e s), if_pos (by rw [e, e3]; exact c), if_neg (by rw [e4, e]; exact n)]
theorem qu_q3 (h : p + 1 < L) (e : t p = x) (s : sgB x = true ∨ x = 10) (e3 : d 1 = z) (c : x = z) (e4 : t (p + 1) = w) (c2 : w = x) (hl : 20 ≤ a.length) : quF t d (L - p) p a = none := by
  rw [show L - p = (L - (p + 1 + 1)) + 2 by omega, quF, if_neg (ng e s), if_pos (by rw [e, e3]; exact c), if_pos (by rw [e4, e]; exact c2), if_pos hl]
theorem qu_q4 (h : p + 1 < L) (e : t p = x) (s : sgB x = true ∨ x = 10) (e3 : d 1 = z) (c : x = z) (e4 : t (p + 1) = w) (c2 : w = x) (hl : a.length < 20) : quF t d (L - p) p a = quF t d (L - (p + 1 + 1)) (p + 1 + 1) (a ++ [x]) := by
  rw [show L - p = (L - (p + 1 + 1)) + 2 by omega, quF, if_neg (ng e s), if_pos (by rw [e, e3]; exact c), if_pos (by rw [e4, e]; exact c2), if_neg (by omega), e]
theorem qu_f (h : p < L) (e : t p = x) (s : sgB x = true ∨ x = 10) (e3 : d 1 = z) (n : ¬ x = z) (hl : 20 ≤ a.length) : quF t d (L - p) p a = none := by
  rcases nx1 h with h1 | h1
  · rw [h1, quF, if_neg (ng e s), if_neg (by rw [e, e3]; exact n)]
  · rw [h1, quF, if_neg (ng e s), if_neg (by rw [e, e3]; exact n), if_pos hl]
theorem qu_k (h : p < L) (e : t p = x) (s : sgB x = true ∨ x = 10) (e3 : d 1 = z) (n : ¬ x = z) (hl : a.length < 20) : quF t d (L - p) p a = quF t d (L - (p + 1)) (p + 1) (a ++ [x]) := by
  rcases nx1 h with h1 | h1
  · rw [h1, quF, if_neg (ng e s), if_neg (by rw [e, e3]; exact n), show L - (p + 1) = 0 by omega]
    rfl
  · rw [h1, quF, if_neg (ng e s), if_neg (by rw [e, e3]; exact n), if_neg (by omega), e, show L - (p + 1) = (L - (p + 1 + 1)) + 1 by omega]
theorem rp_step {f g : Nat → Int32} {n k : Nat} {A : List Int32} (hk : 1 ≤ k) (e : lsF g (n + 1) = lsF f n ++ [32]) (h : lsF f n ++ List.replicate k 32 = A) : lsF g (n + 1) ++ List.replicate (k - 1) 32 = A := by
  obtain ⟨j, rfl⟩ : ∃ j, k = j + 1 := ⟨k - 1, by omega⟩
  rw [e, ← h, Nat.add_sub_cancel, List.append_assoc]
  rfl
theorem pl_back {f g : Nat → Int32} {n k' : Nat} {A : List Int32} (hk : k' = 0) (e : lsF g (n + 1) = lsF f n ++ [x]) (h : lsF f n ++ List.replicate k' 32 = A) : lsF g (n + 1) = A ++ [x] := by
  subst hk
  rw [e, ← h]
  simp
theorem bh_1 {r s : Nat} (e : s = skF t d (L - r) r) (h : L ≤ s) : bhF t d L r a = some (s, a) := by
  subst e
  exact if_pos (Or.inl h)
theorem bh_2 {r s : Nat} (e : s = skF t d (L - r) r) (e1 : t s = x) (e2 : d 0 = y) (c : x = y) : bhF t d L r a = some (s, a) := by
  subst e
  exact if_pos (Or.inr (Or.inl (by rw [e1, e2]; exact c)))
theorem bh_3 {r s : Nat} (e : s = skF t d (L - r) r) (e1 : t s = x) (c : x = 10) : bhF t d L r a = some (s, a) := by
  subst e
  exact if_pos (Or.inr (Or.inr (e1.trans c)))
theorem bh_4 {r s : Nat} (e : s = skF t d (L - r) r) (h : s < L) (e1 : t s = x) (e2 : d 0 = y) (c : ¬ x = y) (c2 : ¬ x = 10) : bhF t d L r a = none := by
  subst e
  refine if_neg (fun h9 => ?_)
  rcases h9 with h9 | h9 | h9
  · omega
  · exact c (by rw [← e1, ← e2]; exact h9)
  · exact c2 (by rw [← e1]; exact h9)
theorem fd_p {q : Nat} (e : q = skF t d (L - p) p) (h : L ≤ q ∨ ¬ t q = d 1) : fdF t d L p = plF t d (L - q) q 0 [] := by
  subst e
  exact if_neg (fun h9 => by
    rcases h with h | h
    · omega
    · exact h h9.2)
theorem fd_q {q r : Nat} (e : q = skF t d (L - p) p) (h : q < L) (h2 : t q = d 1) (h3 : quF t d (L - (q + 1)) (q + 1) [] = some (r, a)) : fdF t d L p = bhF t d L r a := by
  subst e
  unfold fdF
  rw [if_pos ⟨h, h2⟩, h3]
theorem fd_n {q : Nat} (e : q = skF t d (L - p) p) (h : q < L) (h2 : t q = d 1) (h3 : quF t d (L - (q + 1)) (q + 1) [] = none) : fdF t d L p = none := by
  subst e
  unfold fdF
  rw [if_pos ⟨h, h2⟩, h3]
theorem qu_ok {A B : Option (Nat × List Int32)} {r : Int32} (h : (r = 0 ∧ A = B) ∨ (¬ r = 0 ∧ A = none)) (c : r = 0) : A = B := by
  rcases h with h | h
  · exact h.2
  · exact absurd c h.1
theorem qu_no {A B : Option (Nat × List Int32)} {r : Int32} (h : (r = 0 ∧ A = B) ∨ (¬ r = 0 ∧ A = none)) (c : ¬ r = 0) : A = none := by
  rcases h with h | h
  · exact absurd h.1 c
  · exact h.2
end SPEC

set_option maxHeartbeats 4000000 in
set_option maxRecDepth 100000 in
theorem c_X8_isSign_S (l : Launch) (D : va_G) (κ : Nat → ClassId) (κq : Nat → Nat) (za : Int32) : Er l yX8_isSign (wl yX8_isSign cX8_isSign 1 (some .boolean)) { frames := 0, cells := 0, slots := 0, locals := 0 } D κ κq [.int za] [] (fun r : Int32 => some (.int r)) (fun r : Int32 => ((r = 1 ∧ sgB za = true) ∨ (r = 0 ∧ sgB za = false))) := by
  refine er_of (by decide +kernel) (Nat.le_of_ble_eq_true rfl) ?_
  intro p e s m args below meth c A ls hx hb hr hml hts hown hlk hKK hK hP hE hl
  have hS : va_S A s.heap s.heap [] := va_S.rf
  have hP : va_P D vwCl ([] ++ []) s.heap := hP
  have hFX : FX p s m args c cX8_isSign 1 RX8 := ⟨hx, hb, hml, hown, hts⟩
  have hl : lv_has ls 1 [(0, .int za)] := hl
  refine lv_iload_n hx hb dX8_isSign_0 rfl (lv_at hl 0 rfl) ?_
  refine lv_bipush (v := 32) hx hb dX8_isSign_1 (by decide) ?_
  refine lv_icmp_lt (tgt := 16) hx hb dX8_isSign_3 (by decide) (fun c_1 => ?_) (fun c_1 => ?_)
  · have nc_1 := cz_lt (a := za.toInt) (b := (32 : Int)) rfl (by decide) c_1
    refine lv_iconst (v := 0) hx hb dX8_isSign_16 (by decide) ?_
    exact cr_iret hx hb hr hlk rfl 0 rfl (by exact Or.inr ((⟨rfl, (show sgB za = false from (sgB_f (by omega)))⟩))) dX8_isSign_17
  · have nc_1 := cz_nlt (a := za.toInt) (b := (32 : Int)) rfl (by decide) c_1
    refine lv_iload_n hx hb dX8_isSign_6 rfl (lv_at hl 0 rfl) ?_
    refine lv_bipush (v := 126) hx hb dX8_isSign_7 (by decide) ?_
    refine lv_icmp_gt (tgt := 16) hx hb dX8_isSign_9 (by decide) (fun c_2 => ?_) (fun c_2 => ?_)
    · have nc_2 := cz_lt (a := (126 : Int)) (b := za.toInt) (by decide) rfl c_2
      refine lv_iconst (v := 0) hx hb dX8_isSign_16 (by decide) ?_
      exact cr_iret hx hb hr hlk rfl 0 rfl (by exact Or.inr ((⟨rfl, (show sgB za = false from (sgB_f (by omega)))⟩))) dX8_isSign_17
    · have nc_2 := cz_nlt (a := (126 : Int)) (b := za.toInt) (by decide) rfl c_2
      refine lv_iconst (v := 1) hx hb dX8_isSign_12 (by decide) ?_
      refine lv_goto (tgt := 17) hx hb dX8_isSign_13 (by decide) ?_
      exact cr_iret hx hb hr hlk rfl 1 rfl (by exact Or.inl (⟨rfl, (show sgB za = true from (sgB_t (by omega) (by omega)))⟩)) dX8_isSign_17
set_option maxHeartbeats 4000000 in
set_option maxRecDepth 100000 in
theorem c_X4_skipBlanks_S (l : Launch) (D : va_G) (κ : Nat → ClassId) (κq : Nat → Nat) (rd : Nat) (tp : Nat) (d : Nat) (ft : Nat) (bl : Nat) (aq : Nat) (wk : Nat) (sz : Nat) (fl : Nat) (sr : Nat) (cnt : Nat) (cl : Nat) (rw : Nat) (ca : Int32) (cv : Value) (tb : Nat) (L : Nat) (tf : Nat → Int32) (dl : Nat → Int32) (hL8 : L ≤ 800) (hat : aq ≤ L) : Et l yX4_skipBlanks (wl yX4_skipBlanks cX4_skipBlanks 1 none) { frames := 0, cells := 0, slots := 0, locals := 0 } D κ κq [.ref rd] [(rd, .inr (4, [.ref tp, .ref d, .ref ft, .ref bl, .int (nI aq), .int ca, .ref wk, .int (nI sz), .ref fl, .ref sr, .int (nI cnt), cv, .ref cl, .int (nI rw)])), (tp, .inr (8, [.ref tb, .int (nI L)])), (tb, .inl (κ 0, 800, .inl tf)), (d, .inl (κ 0, 6, .inl dl))] (fun y : Nat => none) (fun y : Nat => y ≤ L ∧ aq ≤ y ∧ y = skF tf dl (L - aq) aq) (fun y : Nat => [(rd, .inr (4, [.ref tp, .ref d, .ref ft, .ref bl, .int (nI y), .int ca, .ref wk, .int (nI sz), .ref fl, .ref sr, .int (nI cnt), cv, .ref cl, .int (nI rw)])), (tp, .inr (8, [.ref tb, .int (nI L)])), (tb, .inl (κ 0, 800, .inl tf)), (d, .inl (κ 0, 6, .inl dl))]) := by
  refine et_of (by decide +kernel) (Nat.le_of_ble_eq_true rfl) ?_
  intro p e s m args below meth c A ls hx hb hr hml hts hown hlk hin hKK hK hA hP hD hS hE hl
  have hS : va_S A s.heap s.heap [] := hS
  have hP : va_P D vwCl ([(rd, .inr (4, [.ref tp, .ref d, .ref ft, .ref bl, .int (nI aq), .int ca, .ref wk, .int (nI sz), .ref fl, .ref sr, .int (nI cnt), cv, .ref cl, .int (nI rw)])), (tp, .inr (8, [.ref tb, .int (nI L)])), (tb, .inl (κ 0, 800, .inl tf)), (d, .inl (κ 0, 6, .inl dl))] ++ []) s.heap := hP
  have hD : va_D A ([(rd, .inr (4, [.ref tp, .ref d, .ref ft, .ref bl, .int (nI aq), .int ca, .ref wk, .int (nI sz), .ref fl, .ref sr, .int (nI cnt), cv, .ref cl, .int (nI rw)])), (tp, .inr (8, [.ref tb, .int (nI L)])), (tb, .inl (κ 0, 800, .inl tf)), (d, .inl (κ 0, 6, .inl dl))] ++ []) := hD
  have hFX : FX p s m args c cX4_skipBlanks 1 RX4 := ⟨hx, hb, hml, hown, hts⟩
  have hl : lv_has ls 1 [(0, .ref rd)] := hl
  refine lv_aload_n hx hb dX4_skipBlanks_0 rfl (lv_at hl 0 rfl) ?_
  refine va_get (D := D) (ci := 4) (v := .ref d) (C := RX4) (T := TX4) (N := 14) hx hb hts inlX4 hown hK hP 0 rfl rfl 1 (by decide) (hts _ mw_82) (fun _ h9 => h9) rfl dX4_skipBlanks_1 ?_
  refine lv_iconst (v := 3) hx hb dX4_skipBlanks_4 (by decide) ?_
  refine va_iald hx hb hK hP 3 0 rfl rfl (i := 3) (vp_k (by decide)) dX4_skipBlanks_5 ?_
  obtain ⟨x_1, ex_1⟩ : ∃ y9 : Int32, dl 3 = y9 := ⟨_, rfl⟩
  refine kv (v := .int x_1) (congrArg Value.int ex_1) ?_
  refine lv_iconst (v := 1) hx hb dX4_skipBlanks_6 (by decide) ?_
  refine lv_icmp_ne (tgt := 54) hx hb dX4_skipBlanks_7 (by decide) (fun c_2 => ?_) (fun c_2 => ?_)
  · exact et_vret hx hb hr hlk hS aq rfl ⟨(show aq ≤ L from (by first | assumption | omega | rfl | exact Or.inl (by assumption) | exact Or.inr (by assumption))), (show aq ≤ aq from (by first | assumption | omega | rfl | exact Or.inl (by assumption) | exact Or.inr (by assumption))), (show aq = skF tf dl (L - aq) aq from ((sk_no ex_1 c_2 _).symm))⟩ (subP0 hP [0, 1, 2, 3] rfl) (hD.sub [0, 1, 2, 3] (by decide) rfl) (Nat.le_of_ble_eq_true rfl) (Nat.le_of_ble_eq_true rfl) dX4_skipBlanks_54
  · refine loop_dn (fun k9 H locs ls => ∃ (v4_10 : Nat), (v4_10 ≤ L) ∧ (aq ≤ v4_10) ∧ (skF tf dl (L - v4_10) v4_10 = skF tf dl (L - aq) aq) ∧ L - v4_10 = k9 ∧ va_P D vwCl ([(rd, .inr (4, [.ref tp, .ref d, .ref ft, .ref bl, .int (nI v4_10), .int ca, .ref wk, .int (nI sz), .ref fl, .ref sr, .int (nI cnt), cv, .ref cl, .int (nI rw)])), (tp, .inr (8, [.ref tb, .int (nI L)])), (tb, .inl (κ 0, 800, .inl tf)), (d, .inl (κ 0, 6, .inl dl))] ++ []) H ∧ va_D A ([(rd, .inr (4, [.ref tp, .ref d, .ref ft, .ref bl, .int (nI v4_10), .int ca, .ref wk, .int (nI sz), .ref fl, .ref sr, .int (nI cnt), cv, .ref cl, .int (nI rw)])), (tp, .inr (8, [.ref tb, .int (nI L)])), (tb, .inl (κ 0, 800, .inl tf)), (d, .inl (κ 0, 6, .inl dl))] ++ []) ∧ va_S A s.heap H locs ∧ lv_has ls 1 [(0, .ref rd)]) (fun k9 H locs ls hI10 ih10 => ?_) (L - aq) _ _ _ ⟨aq, (by omega), (by omega), rfl, rfl, hP, hD, hS, lv_sub hl [0] rfl⟩
    obtain ⟨v4_10, hl10_0, hl10_1, hl10_2, hm10, hP, hD, hS, hl⟩ := hI10
    refine lv_aload_n hx hb dX4_skipBlanks_10 rfl (lv_at hl 0 rfl) ?_
    refine va_get (D := D) (ci := 4) (v := .int (nI v4_10)) (C := RX4) (T := TX4) (N := 14) hx hb hts inlX4 hown hK hP 0 rfl rfl 4 (by decide) (hts _ mw_71) (fun _ h9 => h9) rfl dX4_skipBlanks_11 ?_
    refine lv_aload_n hx hb dX4_skipBlanks_14 rfl (lv_at hl 0 rfl) ?_
    refine va_get (D := D) (ci := 4) (v := .ref tp) (C := RX4) (T := TX4) (N := 14) hx hb hts inlX4 hown hK hP 0 rfl rfl 0 (by decide) (hts _ mw_81) (fun _ h9 => h9) rfl dX4_skipBlanks_15 ?_
    refine va_get (D := D) (ci := 8) (v := .int (nI L)) (C := RX8) (T := TX8) (N := 2) hx hb hts inlX8 hown hK hP 1 rfl rfl 1 (by decide) (hts _ mw_261) (fun _ h9 => h9) rfl dX4_skipBlanks_18 ?_
    refine lv_icmp_ge (tgt := 54) hx hb dX4_skipBlanks_21 (by decide) (fun c_3 => ?_) (fun c_3 => ?_)
    · have nc_3 := cv_le (a := L) (b := v4_10) (by omega) (by omega) c_3
      exact et_vret hx hb hr hlk hS v4_10 rfl ⟨(show v4_10 ≤ L from (by first | assumption | omega | rfl | exact Or.inl (by assumption) | exact Or.inr (by assumption))), (show aq ≤ v4_10 from (by first | assumption | omega | rfl | exact Or.inl (by assumption) | exact Or.inr (by assumption))), (show v4_10 = skF tf dl (L - aq) aq from ((sk_end (by omega)).symm.trans hl10_2))⟩ (subP0 hP [0, 1, 2, 3] rfl) (hD.sub [0, 1, 2, 3] (by decide) rfl) (Nat.le_of_ble_eq_true rfl) (Nat.le_of_ble_eq_true rfl) dX4_skipBlanks_54
    · have nc_3 := cv_nle (a := L) (b := v4_10) (by omega) (by omega) c_3
      refine lv_aload_n hx hb dX4_skipBlanks_24 rfl (lv_at hl 0 rfl) ?_
      refine va_get (D := D) (ci := 4) (v := .ref tp) (C := RX4) (T := TX4) (N := 14) hx hb hts inlX4 hown hK hP 0 rfl rfl 0 (by decide) (hts _ mw_81) (fun _ h9 => h9) rfl dX4_skipBlanks_25 ?_
      refine va_get (D := D) (ci := 8) (v := .ref tb) (C := RX8) (T := TX8) (N := 2) hx hb hts inlX8 hown hK hP 1 rfl rfl 0 (by decide) (hts _ mw_266) (fun _ h9 => h9) rfl dX4_skipBlanks_28 ?_
      refine lv_aload_n hx hb dX4_skipBlanks_31 rfl (lv_at hl 0 rfl) ?_
      refine va_get (D := D) (ci := 4) (v := .int (nI v4_10)) (C := RX4) (T := TX4) (N := 14) hx hb hts inlX4 hown hK hP 0 rfl rfl 4 (by decide) (hts _ mw_71) (fun _ h9 => h9) rfl dX4_skipBlanks_32 ?_
      refine va_iald hx hb hK hP 2 0 rfl rfl (i := nI v4_10) (vp_in_nI (n := v4_10) (by omega) (by omega)) dX4_skipBlanks_35 ?_
      refine kv (v := .int (tf v4_10)) (by rw [nI_clamp (by omega)]) ?_
      obtain ⟨x_4, ex_4⟩ : ∃ y9 : Int32, tf v4_10 = y9 := ⟨_, rfl⟩
      refine kv (v := .int x_4) (congrArg Value.int ex_4) ?_
      refine lv_bipush (v := 32) hx hb dX4_skipBlanks_36 (by decide) ?_
      refine lv_icmp_ne (tgt := 54) hx hb dX4_skipBlanks_38 (by decide) (fun c_5 => ?_) (fun c_5 => ?_)
      · exact et_vret hx hb hr hlk hS v4_10 rfl ⟨(show v4_10 ≤ L from (by first | assumption | omega | rfl | exact Or.inl (by assumption) | exact Or.inr (by assumption))), (show aq ≤ v4_10 from (by first | assumption | omega | rfl | exact Or.inl (by assumption) | exact Or.inr (by assumption))), (show v4_10 = skF tf dl (L - aq) aq from ((sk_stop ex_4 c_5 _).symm.trans hl10_2))⟩ (subP0 hP [0, 1, 2, 3] rfl) (hD.sub [0, 1, 2, 3] (by decide) rfl) (Nat.le_of_ble_eq_true rfl) (Nat.le_of_ble_eq_true rfl) dX4_skipBlanks_54
      · refine lv_aload_n hx hb dX4_skipBlanks_41 rfl (lv_at hl 0 rfl) ?_
        refine lv_dup hx hb dX4_skipBlanks_42 rfl ?_
        refine va_get (D := D) (ci := 4) (v := .int (nI v4_10)) (C := RX4) (T := TX4) (N := 14) hx hb hts inlX4 hown hK hP 0 rfl rfl 4 (by decide) (hts _ mw_71) (fun _ h9 => h9) rfl dX4_skipBlanks_43 ?_
        refine lv_iconst (v := 1) hx hb dX4_skipBlanks_46 (by decide) ?_
        refine lv_iadd hx hb dX4_skipBlanks_47 ?_
        refine ki (v := (nI (v4_10 + 1))) (nI_add v4_10 1) ?_
        refine va_put (D := D) (ci := 4) (v := .int (nI (v4_10 + 1))) (ty := tyX4 4) (C := RX4) (T := TX4) (N := 14) hx hb hts inlX4 tyX4 tyX4_ok nmX4 hown hK hP hD hS 0 rfl rfl 4 (by decide) (hts _ mw_71) (fun _ h9 => h9) rfl (tyX4_ok 4 (by decide)) rfl rfl (Nat.le_of_ble_eq_true rfl) dX4_skipBlanks_48 (fun H locs hP hD hS => ?_)
        have hP : va_P D vwCl ([(rd, .inr (4, [.ref tp, .ref d, .ref ft, .ref bl, .int (nI (v4_10 + 1)), .int ca, .ref wk, .int (nI sz), .ref fl, .ref sr, .int (nI cnt), cv, .ref cl, .int (nI rw)])), (tp, .inr (8, [.ref tb, .int (nI L)])), (tb, .inl (κ 0, 800, .inl tf)), (d, .inl (κ 0, 6, .inl dl))] ++ []) H := hP
        have hD : va_D A ([(rd, .inr (4, [.ref tp, .ref d, .ref ft, .ref bl, .int (nI (v4_10 + 1)), .int ca, .ref wk, .int (nI sz), .ref fl, .ref sr, .int (nI cnt), cv, .ref cl, .int (nI rw)])), (tp, .inr (8, [.ref tb, .int (nI L)])), (tb, .inl (κ 0, 800, .inl tf)), (d, .inl (κ 0, 6, .inl dl))] ++ []) := hD
        refine lv_goto (tgt := 0) hx hb dX4_skipBlanks_51 (by decide) ?_
        refine lv_aload_n hx hb dX4_skipBlanks_0 rfl (lv_at hl 0 rfl) ?_
        refine va_get (D := D) (ci := 4) (v := .ref d) (C := RX4) (T := TX4) (N := 14) hx hb hts inlX4 hown hK hP 0 rfl rfl 1 (by decide) (hts _ mw_82) (fun _ h9 => h9) rfl dX4_skipBlanks_1 ?_
        refine lv_iconst (v := 3) hx hb dX4_skipBlanks_4 (by decide) ?_
        refine va_iald hx hb hK hP 3 0 rfl rfl (i := 3) (vp_k (by decide)) dX4_skipBlanks_5 ?_
        refine kv (v := .int x_1) (congrArg Value.int (ex_1)) ?_
        refine lv_iconst (v := 1) hx hb dX4_skipBlanks_6 (by decide) ?_
        refine lv_icmp_ne (tgt := 54) hx hb dX4_skipBlanks_7 (by decide) (fun c_6 => absurd c_2 c_6) (fun c_6 => ?_)
        exact ih10 _ _ _ _ (by omega) ⟨(v4_10 + 1), (by omega), (by omega), ((sk_go (by omega) ex_1 c_2 ex_4 c_5).symm.trans hl10_2), rfl, hP, hD, hS, lv_sub hl [0] rfl⟩
set_option maxHeartbeats 4000000 in
set_option maxRecDepth 100000 in
theorem c_X4_keepByte_S (l : Launch) (D : va_G) (κ : Nat → ClassId) (κq : Nat → Nat) (rd : Nat) (tp : Nat) (d : Nat) (ft : Nat) (bl : Nat) (aq : Nat) (wk : Nat) (sz : Nat) (fl : Nat) (sr : Nat) (cnt : Nat) (cl : Nat) (rw : Nat) (ca : Int32) (cv : Value) (wf : Nat → Int32) (za : Int32) (hsz : sz < 20) (hwf : sb_Fit wf) (hnb : za.toInt8.toInt32 = za) : Et l yX4_keepByte (wl yX4_keepByte cX4_keepByte 2 none) { frames := 0, cells := 0, slots := 0, locals := 0 } D κ κq [.ref rd, .int za] [(rd, .inr (4, [.ref tp, .ref d, .ref ft, .ref bl, .int (nI aq), .int ca, .ref wk, .int (nI sz), .ref fl, .ref sr, .int (nI cnt), cv, .ref cl, .int (nI rw)])), (wk, .inl (κ 1, 20, .inl wf))] (fun g : (Nat → Int32) => none) (fun g : (Nat → Int32) => sb_Fit g ∧ lsF g (sz + 1) = lsF wf sz ++ [za]) (fun g : (Nat → Int32) => [(rd, .inr (4, [.ref tp, .ref d, .ref ft, .ref bl, .int (nI aq), .int ca, .ref wk, .int (nI (sz + 1)), .ref fl, .ref sr, .int (nI cnt), cv, .ref cl, .int (nI rw)])), (wk, .inl (κ 1, 20, .inl g))]) := by
  refine et_of (by decide +kernel) (Nat.le_of_ble_eq_true rfl) ?_
  intro p e s m args below meth c A ls hx hb hr hml hts hown hlk hin hKK hK hA hP hD hS hE hl
  have hS : va_S A s.heap s.heap [] := hS
  have hP : va_P D vwCl ([(rd, .inr (4, [.ref tp, .ref d, .ref ft, .ref bl, .int (nI aq), .int ca, .ref wk, .int (nI sz), .ref fl, .ref sr, .int (nI cnt), cv, .ref cl, .int (nI rw)])), (wk, .inl (κ 1, 20, .inl wf))] ++ []) s.heap := hP
  have hD : va_D A ([(rd, .inr (4, [.ref tp, .ref d, .ref ft, .ref bl, .int (nI aq), .int ca, .ref wk, .int (nI sz), .ref fl, .ref sr, .int (nI cnt), cv, .ref cl, .int (nI rw)])), (wk, .inl (κ 1, 20, .inl wf))] ++ []) := hD
  have hFX : FX p s m args c cX4_keepByte 2 RX4 := ⟨hx, hb, hml, hown, hts⟩
  have hl : lv_has ls 2 [(0, .ref rd), (1, .int za)] := hl
  refine lv_aload_n hx hb dX4_keepByte_0 rfl (lv_at hl 0 rfl) ?_
  refine va_get (D := D) (ci := 4) (v := .int (nI sz)) (C := RX4) (T := TX4) (N := 14) hx hb hts inlX4 hown hK hP 0 rfl rfl 7 (by decide) (hts _ mw_74) (fun _ h9 => h9) rfl dX4_keepByte_1 ?_
  refine lv_bipush (v := 20) hx hb dX4_keepByte_4 (by decide) ?_
  refine lv_icmp_ge (tgt := 30) hx hb dX4_keepByte_6 (by decide) (fun c_1 => ?_) (fun c_1 => ?_)
  · have nc_1 := cv_le (a := 20) (b := sz) (by omega) (by omega) c_1
    omega
  · have nc_1 := cv_nle (a := 20) (b := sz) (by omega) (by omega) c_1
    refine lv_aload_n hx hb dX4_keepByte_9 rfl (lv_at hl 0 rfl) ?_
    refine va_get (D := D) (ci := 4) (v := .ref wk) (C := RX4) (T := TX4) (N := 14) hx hb hts inlX4 hown hK hP 0 rfl rfl 6 (by decide) (hts _ mw_73) (fun _ h9 => h9) rfl dX4_keepByte_10 ?_
    refine lv_aload_n hx hb dX4_keepByte_13 rfl (lv_at hl 0 rfl) ?_
    refine va_get (D := D) (ci := 4) (v := .int (nI sz)) (C := RX4) (T := TX4) (N := 14) hx hb hts inlX4 hown hK hP 0 rfl rfl 7 (by decide) (hts _ mw_74) (fun _ h9 => h9) rfl dX4_keepByte_14 ?_
    refine lv_iload_n hx hb dX4_keepByte_17 rfl (lv_at hl 1 rfl) ?_
    obtain ⟨x_2, ex_2⟩ : ∃ y9 : Int32, (za : Int32).toInt8.toInt32 = y9 := ⟨_, rfl⟩
    refine lv_i2b hx hb dX4_keepByte_18 ex_2 ?_
    refine va_bast hx hb hK hP hD hS 1 1 rfl rfl (i := nI sz) (x := x_2) (vp_in_nI (n := sz) (by omega) (by omega)) dX4_keepByte_19 (fun H locs hP hD hS => ?_)
    rw [nI_clamp (by omega)] at hP hD
    have hP : va_P D vwCl ([(rd, .inr (4, [.ref tp, .ref d, .ref ft, .ref bl, .int (nI aq), .int ca, .ref wk, .int (nI sz), .ref fl, .ref sr, .int (nI cnt), cv, .ref cl, .int (nI rw)])), (wk, .inl (κ 1, 20, .inl (upd wf sz (vp_nar .byte x_2))))] ++ []) H := hP
    have hD : va_D A ([(rd, .inr (4, [.ref tp, .ref d, .ref ft, .ref bl, .int (nI aq), .int ca, .ref wk, .int (nI sz), .ref fl, .ref sr, .int (nI cnt), cv, .ref cl, .int (nI rw)])), (wk, .inl (κ 1, 20, .inl (upd wf sz (vp_nar .byte x_2))))] ++ []) := hD
    have hf_4 : sb_Fit (upd wf sz (vp_nar .byte x_2)) := sb_fitU hwf (fit_nar _)
    have hq : lsF (upd wf sz (vp_nar .byte x_2)) (sz + 1) = lsF wf sz ++ [za] := (by rw [show vp_nar .byte x_2 = za from (by rw [← ex_2, hnb]; exact hnb)]; exact lsF_up)
    generalize upd wf sz (vp_nar .byte x_2) = g_3 at hP hD hf_4 hq
    refine lv_aload_n hx hb dX4_keepByte_20 rfl (lv_at hl 0 rfl) ?_
    refine lv_dup hx hb dX4_keepByte_21 rfl ?_
    refine va_get (D := D) (ci := 4) (v := .int (nI sz)) (C := RX4) (T := TX4) (N := 14) hx hb hts inlX4 hown hK hP 0 rfl rfl 7 (by decide) (hts _ mw_74) (fun _ h9 => h9) rfl dX4_keepByte_22 ?_
    refine lv_iconst (v := 1) hx hb dX4_keepByte_25 (by decide) ?_
    refine lv_iadd hx hb dX4_keepByte_26 ?_
    refine ki (v := (nI (sz + 1))) (nI_add sz 1) ?_
    refine va_put (D := D) (ci := 4) (v := .int (nI (sz + 1))) (ty := tyX4 7) (C := RX4) (T := TX4) (N := 14) hx hb hts inlX4 tyX4 tyX4_ok nmX4 hown hK hP hD hS 0 rfl rfl 7 (by decide) (hts _ mw_74) (fun _ h9 => h9) rfl (tyX4_ok 7 (by decide)) rfl rfl (Nat.le_of_ble_eq_true rfl) dX4_keepByte_27 (fun H locs hP hD hS => ?_)
    have hP : va_P D vwCl ([(rd, .inr (4, [.ref tp, .ref d, .ref ft, .ref bl, .int (nI aq), .int ca, .ref wk, .int (nI (sz + 1)), .ref fl, .ref sr, .int (nI cnt), cv, .ref cl, .int (nI rw)])), (wk, .inl (κ 1, 20, .inl g_3))] ++ []) H := hP
    have hD : va_D A ([(rd, .inr (4, [.ref tp, .ref d, .ref ft, .ref bl, .int (nI aq), .int ca, .ref wk, .int (nI (sz + 1)), .ref fl, .ref sr, .int (nI cnt), cv, .ref cl, .int (nI rw)])), (wk, .inl (κ 1, 20, .inl g_3))] ++ []) := hD
    exact et_vret hx hb hr hlk hS g_3 rfl ⟨(show sb_Fit g_3 from (by first | assumption | omega | rfl | exact Or.inl (by assumption) | exact Or.inr (by assumption))), (show lsF g_3 (sz + 1) = lsF wf sz ++ [za] from (by first | assumption | omega | rfl | exact Or.inl (by assumption) | exact Or.inr (by assumption)))⟩ (subP0 hP [0, 1] rfl) (hD.sub [0, 1] (by decide) rfl) (Nat.le_of_ble_eq_true rfl) (Nat.le_of_ble_eq_true rfl) dX4_keepByte_30
set_option maxHeartbeats 4000000 in
set_option maxRecDepth 100000 in
theorem c_X4_readPlain_S (l : Launch) (D : va_G) (κ : Nat → ClassId) (κq : Nat → Nat) (rd : Nat) (tp : Nat) (d : Nat) (ft : Nat) (bl : Nat) (aq : Nat) (wk : Nat) (fl : Nat) (sr : Nat) (cnt : Nat) (cl : Nat) (rw : Nat) (ca : Int32) (cv : Value) (tb : Nat) (L : Nat) (tf : Nat → Int32) (dl : Nat → Int32) (wf : Nat → Int32) (hL8 : L ≤ 800) (hat : aq ≤ L) (hwf : sb_Fit wf) : Et l yX4_readPlain (wl yX4_readPlain cX4_readPlain 3 (some .int)) { frames := 1, cells := 0, slots := 0, locals := 21 } D κ κq [.ref rd] [(rd, .inr (4, [.ref tp, .ref d, .ref ft, .ref bl, .int (nI aq), .int ca, .ref wk, .int 0, .ref fl, .ref sr, .int (nI cnt), cv, .ref cl, .int (nI rw)])), (tp, .inr (8, [.ref tb, .int (nI L)])), (tb, .inl (κ 0, 800, .inl tf)), (d, .inl (κ 0, 6, .inl dl)), (wk, .inl (κ 1, 20, .inl wf))] (fun u9 : Int32 × Nat × Nat × (Nat → Int32) => some (.int u9.1)) (fun u9 : Int32 × Nat × Nat × (Nat → Int32) => u9.2.1 ≤ L ∧ aq ≤ u9.2.1 ∧ u9.2.2.1 ≤ 20 ∧ sb_Fit u9.2.2.2 ∧ ((u9.1 = 0 ∧ plF tf dl (L - aq) aq 0 [] = some (u9.2.1, lsF u9.2.2.2 u9.2.2.1)) ∨ (¬ u9.1 = 0 ∧ plF tf dl (L - aq) aq 0 [] = none))) (fun u9 : Int32 × Nat × Nat × (Nat → Int32) => [(rd, .inr (4, [.ref tp, .ref d, .ref ft, .ref bl, .int (nI u9.2.1), .int ca, .ref wk, .int (nI u9.2.2.1), .ref fl, .ref sr, .int (nI cnt), cv, .ref cl, .int (nI rw)])), (tp, .inr (8, [.ref tb, .int (nI L)])), (tb, .inl (κ 0, 800, .inl tf)), (d, .inl (κ 0, 6, .inl dl)), (wk, .inl (κ 1, 20, .inl u9.2.2.2))]) := by
  refine et_of (by decide +kernel) (Nat.le_of_ble_eq_true rfl) ?_
  intro p e s m args below meth c A ls hx hb hr hml hts hown hlk hin hKK hK hA hP hD hS hE hl
  have hS : va_S A s.heap s.heap [] := hS
  have hP : va_P D vwCl ([(rd, .inr (4, [.ref tp, .ref d, .ref ft, .ref bl, .int (nI aq), .int ca, .ref wk, .int 0, .ref fl, .ref sr, .int (nI cnt), cv, .ref cl, .int (nI rw)])), (tp, .inr (8, [.ref tb, .int (nI L)])), (tb, .inl (κ 0, 800, .inl tf)), (d, .inl (κ 0, 6, .inl dl)), (wk, .inl (κ 1, 20, .inl wf))] ++ []) s.heap := hP
  have hD : va_D A ([(rd, .inr (4, [.ref tp, .ref d, .ref ft, .ref bl, .int (nI aq), .int ca, .ref wk, .int 0, .ref fl, .ref sr, .int (nI cnt), cv, .ref cl, .int (nI rw)])), (tp, .inr (8, [.ref tb, .int (nI L)])), (tb, .inl (κ 0, 800, .inl tf)), (d, .inl (κ 0, 6, .inl dl)), (wk, .inl (κ 1, 20, .inl wf))] ++ []) := hD
  have hFX : FX p s m args c cX4_readPlain 3 RX4 := ⟨hx, hb, hml, hown, hts⟩
  have hl : lv_has ls 3 [(0, .ref rd)] := hl
  refine lv_iconst (v := 0) hx hb dX4_readPlain_0 (by decide) ?_
  refine lv_istore_n (lv' := [(1, .int 0), (0, .ref rd)]) hx hb dX4_readPlain_1 rfl hl (by decide) rfl (fun ls hl => ?_)
  refine loop_dn (fun k9 H locs ls => ∃ (k1_2 : Nat), ∃ (v4_2 : Nat), ∃ (v7_2 : Nat), ∃ (gwk_2 : Nat → Int32), (v4_2 ≤ L) ∧ (aq ≤ v4_2) ∧ (v7_2 ≤ 20) ∧ (k1_2 ≤ v4_2) ∧ (plF tf dl (L - v4_2) v4_2 k1_2 (lsF gwk_2 v7_2) = plF tf dl (L - aq) aq 0 []) ∧ sb_Fit gwk_2 ∧ L - v4_2 = k9 ∧ va_P D vwCl ([(rd, .inr (4, [.ref tp, .ref d, .ref ft, .ref bl, .int (nI v4_2), .int ca, .ref wk, .int (nI v7_2), .ref fl, .ref sr, .int (nI cnt), cv, .ref cl, .int (nI rw)])), (tp, .inr (8, [.ref tb, .int (nI L)])), (tb, .inl (κ 0, 800, .inl tf)), (d, .inl (κ 0, 6, .inl dl)), (wk, .inl (κ 1, 20, .inl gwk_2))] ++ []) H ∧ va_D A ([(rd, .inr (4, [.ref tp, .ref d, .ref ft, .ref bl, .int (nI v4_2), .int ca, .ref wk, .int (nI v7_2), .ref fl, .ref sr, .int (nI cnt), cv, .ref cl, .int (nI rw)])), (tp, .inr (8, [.ref tb, .int (nI L)])), (tb, .inl (κ 0, 800, .inl tf)), (d, .inl (κ 0, 6, .inl dl)), (wk, .inl (κ 1, 20, .inl gwk_2))] ++ []) ∧ va_S A s.heap H locs ∧ lv_has ls 3 [(1, .int (nI k1_2)), (0, .ref rd)]) (fun k9 H locs ls hI2 ih2 => ?_) (L - aq) _ _ _ ⟨0, aq, 0, wf, (by omega), (by omega), (by omega), (by omega), rfl, hwf, rfl, hP, hD, hS, lv_sub hl [0, 1] rfl⟩
  obtain ⟨k1_2, v4_2, v7_2, gwk_2, hl2_0, hl2_1, hl2_2, hl2_3, hl2_4, hg2_0, hm2, hP, hD, hS, hl⟩ := hI2
  refine lv_aload_n hx hb dX4_readPlain_2 rfl (lv_at hl 1 rfl) ?_
  refine va_get (D := D) (ci := 4) (v := .int (nI v4_2)) (C := RX4) (T := TX4) (N := 14) hx hb hts inlX4 hown hK hP 0 rfl rfl 4 (by decide) (hts _ mw_71) (fun _ h9 => h9) rfl dX4_readPlain_3 ?_
  refine lv_aload_n hx hb dX4_readPlain_6 rfl (lv_at hl 1 rfl) ?_
  refine va_get (D := D) (ci := 4) (v := .ref tp) (C := RX4) (T := TX4) (N := 14) hx hb hts inlX4 hown hK hP 0 rfl rfl 0 (by decide) (hts _ mw_81) (fun _ h9 => h9) rfl dX4_readPlain_7 ?_
  refine va_get (D := D) (ci := 8) (v := .int (nI L)) (C := RX8) (T := TX8) (N := 2) hx hb hts inlX8 hown hK hP 1 rfl rfl 1 (by decide) (hts _ mw_261) (fun _ h9 => h9) rfl dX4_readPlain_10 ?_
  refine lv_icmp_ge (tgt := 137) hx hb dX4_readPlain_13 (by decide) (fun c_1 => ?_) (fun c_1 => ?_)
  · have nc_1 := cv_le (a := L) (b := v4_2) (by omega) (by omega) c_1
    refine lv_iconst (v := 0) hx hb dX4_readPlain_137 (by decide) ?_
    exact et_iret hx hb hr hlk rfl hS (0, v4_2, v7_2, gwk_2) rfl ⟨(show v4_2 ≤ L from (by first | assumption | omega | rfl | exact Or.inl (by assumption) | exact Or.inr (by assumption))), (show aq ≤ v4_2 from (by first | assumption | omega | rfl | exact Or.inl (by assumption) | exact Or.inr (by assumption))), (show v7_2 ≤ 20 from (by first | assumption | omega | rfl | exact Or.inl (by assumption) | exact Or.inr (by assumption))), (show sb_Fit gwk_2 from (by first | assumption | omega | rfl | exact Or.inl (by assumption) | exact Or.inr (by assumption))), (show ((0 : Int32) = 0 ∧ plF tf dl (L - aq) aq 0 [] = some (v4_2, lsF gwk_2 v7_2)) ∨ (¬ (0 : Int32) = 0 ∧ plF tf dl (L - aq) aq 0 [] = none) from (Or.inl ⟨rfl, hl2_4.symm.trans (pl_end (by omega))⟩))⟩ (subP0 hP [0, 1, 2, 3, 4] rfl) (hD.sub [0, 1, 2, 3, 4] (by decide) rfl) (Nat.le_of_ble_eq_true rfl) (Nat.le_of_ble_eq_true rfl) dX4_readPlain_138
  · have nc_1 := cv_nle (a := L) (b := v4_2) (by omega) (by omega) c_1
    refine lv_aload_n hx hb dX4_readPlain_16 rfl (lv_at hl 1 rfl) ?_
    refine va_get (D := D) (ci := 4) (v := .ref tp) (C := RX4) (T := TX4) (N := 14) hx hb hts inlX4 hown hK hP 0 rfl rfl 0 (by decide) (hts _ mw_81) (fun _ h9 => h9) rfl dX4_readPlain_17 ?_
    refine va_get (D := D) (ci := 8) (v := .ref tb) (C := RX8) (T := TX8) (N := 2) hx hb hts inlX8 hown hK hP 1 rfl rfl 0 (by decide) (hts _ mw_266) (fun _ h9 => h9) rfl dX4_readPlain_20 ?_
    refine lv_aload_n hx hb dX4_readPlain_23 rfl (lv_at hl 1 rfl) ?_
    refine va_get (D := D) (ci := 4) (v := .int (nI v4_2)) (C := RX4) (T := TX4) (N := 14) hx hb hts inlX4 hown hK hP 0 rfl rfl 4 (by decide) (hts _ mw_71) (fun _ h9 => h9) rfl dX4_readPlain_24 ?_
    refine va_iald hx hb hK hP 2 0 rfl rfl (i := nI v4_2) (vp_in_nI (n := v4_2) (by omega) (by omega)) dX4_readPlain_27 ?_
    refine kv (v := .int (tf v4_2)) (by rw [nI_clamp (by omega)]) ?_
    obtain ⟨x_2, ex_2⟩ : ∃ y9 : Int32, tf v4_2 = y9 := ⟨_, rfl⟩
    refine kv (v := .int x_2) (congrArg Value.int ex_2) ?_
    refine lv_istore_n (lv' := [(2, .int x_2), (1, .int (nI k1_2)), (0, .ref rd)]) hx hb dX4_readPlain_28 rfl hl (by decide) rfl (fun ls hl => ?_)
    refine lv_iload_n hx hb dX4_readPlain_29 rfl (lv_at hl 0 rfl) ?_
    refine lv_aload_n hx hb dX4_readPlain_30 rfl (lv_at hl 2 rfl) ?_
    refine va_get (D := D) (ci := 4) (v := .ref d) (C := RX4) (T := TX4) (N := 14) hx hb hts inlX4 hown hK hP 0 rfl rfl 1 (by decide) (hts _ mw_82) (fun _ h9 => h9) rfl dX4_readPlain_31 ?_
    refine lv_iconst (v := 0) hx hb dX4_readPlain_34 (by decide) ?_
    refine va_iald hx hb hK hP 3 0 rfl rfl (i := 0) (vp_k (by decide)) dX4_readPlain_35 ?_
    obtain ⟨x_3, ex_3⟩ : ∃ y9 : Int32, dl 0 = y9 := ⟨_, rfl⟩
    refine kv (v := .int x_3) (congrArg Value.int ex_3) ?_
    refine lv_icmp_eq (tgt := 45) hx hb dX4_readPlain_36 (by decide) (fun c_4 => ?_) (fun c_4 => ?_)
    · refine lv_iconst (v := 0) hx hb dX4_readPlain_45 (by decide) ?_
      exact et_iret hx hb hr hlk rfl hS (0, v4_2, v7_2, gwk_2) rfl ⟨(show v4_2 ≤ L from (by first | assumption | omega | rfl | exact Or.inl (by assumption) | exact Or.inr (by assumption))), (show aq ≤ v4_2 from (by first | assumption | omega | rfl | exact Or.inl (by assumption) | exact Or.inr (by assumption))), (show v7_2 ≤ 20 from (by first | assumption | omega | rfl | exact Or.inl (by assumption) | exact Or.inr (by assumption))), (show sb_Fit gwk_2 from (by first | assumption | omega | rfl | exact Or.inl (by assumption) | exact Or.inr (by assumption))), (show ((0 : Int32) = 0 ∧ plF tf dl (L - aq) aq 0 [] = some (v4_2, lsF gwk_2 v7_2)) ∨ (¬ (0 : Int32) = 0 ∧ plF tf dl (L - aq) aq 0 [] = none) from (Or.inl ⟨rfl, hl2_4.symm.trans (pl_sep (by omega) ex_2 ex_3 c_4)⟩))⟩ (subP0 hP [0, 1, 2, 3, 4] rfl) (hD.sub [0, 1, 2, 3, 4] (by decide) rfl) (Nat.le_of_ble_eq_true rfl) (Nat.le_of_ble_eq_true rfl) dX4_readPlain_46
    · refine lv_iload_n hx hb dX4_readPlain_39 rfl (lv_at hl 0 rfl) ?_
      refine lv_bipush (v := 10) hx hb dX4_readPlain_40 (by decide) ?_
      refine lv_icmp_ne (tgt := 47) hx hb dX4_readPlain_42 (by decide) (fun c_5 => ?_) (fun c_5 => ?_)
      · refine lv_iload_n hx hb dX4_readPlain_47 rfl (lv_at hl 0 rfl) ?_
        refine er_S (As := [.int x_2]) (rest := []) hFX hKK hE hS (c_X8_isSign_S l D κ κq x_2) 1 gS_X4_115 hdS_X8_isSign rfl rfl ⟨Nat.le_of_ble_eq_true rfl, Nat.le_of_ble_eq_true rfl⟩ rfl rfl (Nat.le_of_ble_eq_true rfl) dX4_readPlain_48 ⟨Nat.le_of_ble_eq_true rfl, Nat.le_of_ble_eq_true rfl⟩ hl.1 (subP0 hP [] rfl) (fun r__6 hp_7 => ?_)
        replace hp_7 : ((r__6 = 1 ∧ sgB x_2 = true) ∨ (r__6 = 0 ∧ sgB x_2 = false)) := hp_7
        have ha_8 := hp_7
        clear hp_7
        rcases ha_8 with ⟨rfl, a_9⟩ | ⟨rfl, a_10⟩
        · refine W.eq (g2 := F0 m 51 ls [.int 1]) rfl ?_
          refine lv_if_ne (tgt := 56) hx hb dX4_readPlain_51 (by decide) (fun c_11 => ?_) (fun c_11 => absurd c_11 (by decide))
          refine lv_iload_n hx hb dX4_readPlain_56 rfl (lv_at hl 0 rfl) ?_
          refine lv_aload_n hx hb dX4_readPlain_57 rfl (lv_at hl 2 rfl) ?_
          refine va_get (D := D) (ci := 4) (v := .ref d) (C := RX4) (T := TX4) (N := 14) hx hb hts inlX4 hown hK hP 0 rfl rfl 1 (by decide) (hts _ mw_82) (fun _ h9 => h9) rfl dX4_readPlain_58 ?_
          refine lv_iconst (v := 1) hx hb dX4_readPlain_61 (by decide) ?_
          refine va_iald hx hb hK hP 3 0 rfl rfl (i := 1) (vp_k (by decide)) dX4_readPlain_62 ?_
          obtain ⟨x_12, ex_12⟩ : ∃ y9 : Int32, dl 1 = y9 := ⟨_, rfl⟩
          refine kv (v := .int x_12) (congrArg Value.int ex_12) ?_
          refine lv_icmp_ne (tgt := 68) hx hb dX4_readPlain_63 (by decide) (fun c_13 => ?_) (fun c_13 => ?_)
          · refine lv_iload_n hx hb dX4_readPlain_68 rfl (lv_at hl 0 rfl) ?_
            refine lv_bipush (v := 32) hx hb dX4_readPlain_69 (by decide) ?_
            refine lv_icmp_ne (tgt := 90) hx hb dX4_readPlain_71 (by decide) (fun c_14 => ?_) (fun c_14 => ?_)
            · refine lv_aload_n hx hb dX4_readPlain_90 rfl (lv_at hl 2 rfl) ?_
              refine va_get (D := D) (ci := 4) (v := .int (nI v7_2)) (C := RX4) (T := TX4) (N := 14) hx hb hts inlX4 hown hK hP 0 rfl rfl 7 (by decide) (hts _ mw_74) (fun _ h9 => h9) rfl dX4_readPlain_91 ?_
              refine lv_iload_n hx hb dX4_readPlain_94 rfl (lv_at hl 1 rfl) ?_
              refine lv_iadd hx hb dX4_readPlain_95 ?_
              refine ki (v := (nI (v7_2 + k1_2))) (nI_add v7_2 k1_2) ?_
              refine lv_bipush (v := 20) hx hb dX4_readPlain_96 (by decide) ?_
              refine lv_icmp_lt (tgt := 103) hx hb dX4_readPlain_98 (by decide) (fun c_15 => ?_) (fun c_15 => ?_)
              · have nc_15 := cv_lt (a := (v7_2 + k1_2)) (b := 20) (by omega) (by omega) c_15
                refine loop_dn (fun k9 H locs ls => ∃ (k1_103 : Nat), ∃ (v7_103 : Nat), ∃ (gwk_103 : Nat → Int32), (v7_103 + k1_103 = v7_2 + k1_2) ∧ (v7_103 ≤ 20) ∧ (lsF gwk_103 v7_103 ++ List.replicate k1_103 32 = lsF gwk_2 v7_2 ++ List.replicate k1_2 32) ∧ sb_Fit gwk_103 ∧ k1_103 = k9 ∧ va_P D vwCl ([(rd, .inr (4, [.ref tp, .ref d, .ref ft, .ref bl, .int (nI v4_2), .int ca, .ref wk, .int (nI v7_103), .ref fl, .ref sr, .int (nI cnt), cv, .ref cl, .int (nI rw)])), (tp, .inr (8, [.ref tb, .int (nI L)])), (tb, .inl (κ 0, 800, .inl tf)), (d, .inl (κ 0, 6, .inl dl)), (wk, .inl (κ 1, 20, .inl gwk_103))] ++ []) H ∧ va_D A ([(rd, .inr (4, [.ref tp, .ref d, .ref ft, .ref bl, .int (nI v4_2), .int ca, .ref wk, .int (nI v7_103), .ref fl, .ref sr, .int (nI cnt), cv, .ref cl, .int (nI rw)])), (tp, .inr (8, [.ref tb, .int (nI L)])), (tb, .inl (κ 0, 800, .inl tf)), (d, .inl (κ 0, 6, .inl dl)), (wk, .inl (κ 1, 20, .inl gwk_103))] ++ []) ∧ va_S A s.heap H locs ∧ lv_has ls 3 [(2, .int x_2), (1, .int (nI k1_103)), (0, .ref rd)]) (fun k9 H locs ls hI103 ih103 => ?_) (k1_2) _ _ _ ⟨k1_2, v7_2, gwk_2, (by omega), (by omega), rfl, hg2_0, rfl, hP, hD, hS, lv_sub hl [0, 1, 2] rfl⟩
                obtain ⟨k1_103, v7_103, gwk_103, hl103_0, hl103_1, hl103_2, hg103_0, hm103, hP, hD, hS, hl⟩ := hI103
                refine lv_iload_n hx hb dX4_readPlain_103 rfl (lv_at hl 1 rfl) ?_
                refine lv_if_le (tgt := 119) hx hb dX4_readPlain_104 (by decide) (fun c_16 => ?_) (fun c_16 => ?_)
                · have nc_16 := cv_le (a := k1_103) (b := 0) (by omega) (by omega) c_16
                  have hsg9 := sgB_i a_9
                  refine lv_aload_n hx hb dX4_readPlain_119 rfl (lv_at hl 2 rfl) ?_
                  refine lv_iload_n hx hb dX4_readPlain_120 rfl (lv_at hl 0 rfl) ?_
                  refine et_VN (CR := [(tp, .inr (8, [.ref tb, .int (nI L)])), (tb, .inl (κ 0, 800, .inl tf)), (d, .inl (κ 0, 6, .inl dl))]) (As := [.int x_2]) (rest := []) hFX hKK hE hP hD hS hA (c_X4_keepByte_S l D κ κq rd tp d ft bl v4_2 wk v7_103 fl sr cnt cl rw ca cv gwk_103 x_2 (by omega) hg103_0 (nb_of (by omega) (by omega))) 1 gV_X4_153 hdV_X4_keepByte ⟨Nat.le_of_ble_eq_true rfl, Nat.le_of_ble_eq_true rfl⟩ rfl rfl (Nat.le_of_ble_eq_true rfl) dX4_readPlain_121 ⟨Nat.le_of_ble_eq_true rfl, Nat.le_of_ble_eq_true rfl⟩ hl.1 [0, 4] [1, 2, 3] rfl rfl (by decide) (by decide) (by decide) hP 0 4 rfl rfl rfl (fun g__17 H locs hp_18 hP hD hS => ?_)
                  refine W.widen (k := 0) (n := 0) (Nat.le_refl _) (Nat.le_refl _) ?_
                  replace hP : va_P D vwCl ([(rd, .inr (4, [.ref tp, .ref d, .ref ft, .ref bl, .int (nI v4_2), .int ca, .ref wk, .int (nI (v7_103 + 1)), .ref fl, .ref sr, .int (nI cnt), cv, .ref cl, .int (nI rw)])), (tp, .inr (8, [.ref tb, .int (nI L)])), (tb, .inl (κ 0, 800, .inl tf)), (d, .inl (κ 0, 6, .inl dl)), (wk, .inl (κ 1, 20, .inl g__17))] ++ []) H := subP (C := [(tp, .inr (8, [.ref tb, .int (nI L)])), (tb, .inl (κ 0, 800, .inl tf)), (d, .inl (κ 0, 6, .inl dl)), (rd, .inr (4, [.ref tp, .ref d, .ref ft, .ref bl, .int (nI v4_2), .int ca, .ref wk, .int (nI (v7_103 + 1)), .ref fl, .ref sr, .int (nI cnt), cv, .ref cl, .int (nI rw)])), (wk, .inl (κ 1, 20, .inl g__17))]) hP [3, 0, 1, 2, 4] rfl
                  replace hD : va_D A ([(rd, .inr (4, [.ref tp, .ref d, .ref ft, .ref bl, .int (nI v4_2), .int ca, .ref wk, .int (nI (v7_103 + 1)), .ref fl, .ref sr, .int (nI cnt), cv, .ref cl, .int (nI rw)])), (tp, .inr (8, [.ref tb, .int (nI L)])), (tb, .inl (κ 0, 800, .inl tf)), (d, .inl (κ 0, 6, .inl dl)), (wk, .inl (κ 1, 20, .inl g__17))] ++ []) := subD (C := [(tp, .inr (8, [.ref tb, .int (nI L)])), (tb, .inl (κ 0, 800, .inl tf)), (d, .inl (κ 0, 6, .inl dl)), (rd, .inr (4, [.ref tp, .ref d, .ref ft, .ref bl, .int (nI v4_2), .int ca, .ref wk, .int (nI (v7_103 + 1)), .ref fl, .ref sr, .int (nI cnt), cv, .ref cl, .int (nI rw)])), (wk, .inl (κ 1, 20, .inl g__17))]) hD [3, 0, 1, 2, 4] (by decide) rfl
                  replace hp_18 : sb_Fit g__17 ∧ lsF g__17 (v7_103 + 1) = lsF gwk_103 v7_103 ++ [x_2] := hp_18
                  obtain ⟨h_19, h_20⟩ := hp_18
                  refine W.eq (g2 := F0 m 124 ls []) rfl ?_
                  refine lv_aload_n hx hb dX4_readPlain_124 rfl (lv_at hl 2 rfl) ?_
                  refine lv_dup hx hb dX4_readPlain_125 rfl ?_
                  refine va_get (D := D) (ci := 4) (v := .int (nI v4_2)) (C := RX4) (T := TX4) (N := 14) hx hb hts inlX4 hown hK hP 0 rfl rfl 4 (by decide) (hts _ mw_71) (fun _ h9 => h9) rfl dX4_readPlain_126 ?_
                  refine lv_iconst (v := 1) hx hb dX4_readPlain_129 (by decide) ?_
                  refine lv_iadd hx hb dX4_readPlain_130 ?_
                  refine ki (v := (nI (v4_2 + 1))) (nI_add v4_2 1) ?_
                  refine va_put (D := D) (ci := 4) (v := .int (nI (v4_2 + 1))) (ty := tyX4 4) (C := RX4) (T := TX4) (N := 14) hx hb hts inlX4 tyX4 tyX4_ok nmX4 hown hK hP hD hS 0 rfl rfl 4 (by decide) (hts _ mw_71) (fun _ h9 => h9) rfl (tyX4_ok 4 (by decide)) rfl rfl (Nat.le_of_ble_eq_true rfl) dX4_readPlain_131 (fun H locs hP hD hS => ?_)
                  have hP : va_P D vwCl ([(rd, .inr (4, [.ref tp, .ref d, .ref ft, .ref bl, .int (nI (v4_2 + 1)), .int ca, .ref wk, .int (nI (v7_103 + 1)), .ref fl, .ref sr, .int (nI cnt), cv, .ref cl, .int (nI rw)])), (tp, .inr (8, [.ref tb, .int (nI L)])), (tb, .inl (κ 0, 800, .inl tf)), (d, .inl (κ 0, 6, .inl dl)), (wk, .inl (κ 1, 20, .inl g__17))] ++ []) H := hP
                  have hD : va_D A ([(rd, .inr (4, [.ref tp, .ref d, .ref ft, .ref bl, .int (nI (v4_2 + 1)), .int ca, .ref wk, .int (nI (v7_103 + 1)), .ref fl, .ref sr, .int (nI cnt), cv, .ref cl, .int (nI rw)])), (tp, .inr (8, [.ref tb, .int (nI L)])), (tb, .inl (κ 0, 800, .inl tf)), (d, .inl (κ 0, 6, .inl dl)), (wk, .inl (κ 1, 20, .inl g__17))] ++ []) := hD
                  refine lv_goto (tgt := 2) hx hb dX4_readPlain_134 (by decide) ?_
                  exact ih2 _ _ _ _ (by omega) ⟨k1_103, (v4_2 + 1), (v7_103 + 1), g__17, (by omega), (by omega), (by omega), (by omega), (by rw [show k1_103 = 0 by omega, pl_back (k' := k1_103) (by omega) h_20 hl103_2]; exact (pl_kp (by omega) ex_2 ex_3 c_4 c_5 a_9 ex_12 c_13 (fun h9 => c_14 (ex_2.symm.trans h9.1)) (by rw [lsF_len]; omega)).symm.trans hl2_4), h_19, rfl, hP, hD, hS, lv_sub hl [1, 2] rfl⟩
                · have nc_16 := cv_nle (a := k1_103) (b := 0) (by omega) (by omega) c_16
                  refine lv_aload_n hx hb dX4_readPlain_107 rfl (lv_at hl 2 rfl) ?_
                  refine lv_bipush (v := 32) hx hb dX4_readPlain_108 (by decide) ?_
                  refine et_VN (CR := [(tp, .inr (8, [.ref tb, .int (nI L)])), (tb, .inl (κ 0, 800, .inl tf)), (d, .inl (κ 0, 6, .inl dl))]) (As := [.int 32]) (rest := []) hFX hKK hE hP hD hS hA (c_X4_keepByte_S l D κ κq rd tp d ft bl v4_2 wk v7_103 fl sr cnt cl rw ca cv gwk_103 32 (by omega) hg103_0 (by decide)) 1 gV_X4_153 hdV_X4_keepByte ⟨Nat.le_of_ble_eq_true rfl, Nat.le_of_ble_eq_true rfl⟩ rfl rfl (Nat.le_of_ble_eq_true rfl) dX4_readPlain_110 ⟨Nat.le_of_ble_eq_true rfl, Nat.le_of_ble_eq_true rfl⟩ hl.1 [0, 4] [1, 2, 3] rfl rfl (by decide) (by decide) (by decide) hP 0 4 rfl rfl rfl (fun g__21 H locs hp_22 hP hD hS => ?_)
                  refine W.widen (k := 0) (n := 0) (Nat.le_refl _) (Nat.le_refl _) ?_
                  replace hP : va_P D vwCl ([(rd, .inr (4, [.ref tp, .ref d, .ref ft, .ref bl, .int (nI v4_2), .int ca, .ref wk, .int (nI (v7_103 + 1)), .ref fl, .ref sr, .int (nI cnt), cv, .ref cl, .int (nI rw)])), (tp, .inr (8, [.ref tb, .int (nI L)])), (tb, .inl (κ 0, 800, .inl tf)), (d, .inl (κ 0, 6, .inl dl)), (wk, .inl (κ 1, 20, .inl g__21))] ++ []) H := subP (C := [(tp, .inr (8, [.ref tb, .int (nI L)])), (tb, .inl (κ 0, 800, .inl tf)), (d, .inl (κ 0, 6, .inl dl)), (rd, .inr (4, [.ref tp, .ref d, .ref ft, .ref bl, .int (nI v4_2), .int ca, .ref wk, .int (nI (v7_103 + 1)), .ref fl, .ref sr, .int (nI cnt), cv, .ref cl, .int (nI rw)])), (wk, .inl (κ 1, 20, .inl g__21))]) hP [3, 0, 1, 2, 4] rfl
                  replace hD : va_D A ([(rd, .inr (4, [.ref tp, .ref d, .ref ft, .ref bl, .int (nI v4_2), .int ca, .ref wk, .int (nI (v7_103 + 1)), .ref fl, .ref sr, .int (nI cnt), cv, .ref cl, .int (nI rw)])), (tp, .inr (8, [.ref tb, .int (nI L)])), (tb, .inl (κ 0, 800, .inl tf)), (d, .inl (κ 0, 6, .inl dl)), (wk, .inl (κ 1, 20, .inl g__21))] ++ []) := subD (C := [(tp, .inr (8, [.ref tb, .int (nI L)])), (tb, .inl (κ 0, 800, .inl tf)), (d, .inl (κ 0, 6, .inl dl)), (rd, .inr (4, [.ref tp, .ref d, .ref ft, .ref bl, .int (nI v4_2), .int ca, .ref wk, .int (nI (v7_103 + 1)), .ref fl, .ref sr, .int (nI cnt), cv, .ref cl, .int (nI rw)])), (wk, .inl (κ 1, 20, .inl g__21))]) hD [3, 0, 1, 2, 4] (by decide) rfl
                  replace hp_22 : sb_Fit g__21 ∧ lsF g__21 (v7_103 + 1) = lsF gwk_103 v7_103 ++ [(32 : Int32)] := hp_22
                  obtain ⟨h_23, h_24⟩ := hp_22
                  refine W.eq (g2 := F0 m 113 ls []) rfl ?_
                  refine lv_iinc (v := (nI (k1_103 - 1))) (lv' := [(1, .int (nI (k1_103 - 1))), (2, .int x_2), (0, .ref rd)]) hx hb dX4_readPlain_113 hl (k := 1) rfl (nI_d (by omega)) (by decide) rfl (fun ls hl => ?_)
                  refine lv_goto (tgt := 103) hx hb dX4_readPlain_116 (by decide) ?_
                  exact ih103 _ _ _ _ (by omega) ⟨(k1_103 - 1), (v7_103 + 1), g__21, (by omega), (by omega), (rp_step (by omega) h_24 hl103_2), h_23, rfl, hP, hD, hS, lv_sub hl [1, 0, 2] rfl⟩
              · have nc_15 := cv_nlt (a := (v7_2 + k1_2)) (b := 20) (by omega) (by omega) c_15
                refine lv_iconst (v := 5) hx hb dX4_readPlain_101 (by decide) ?_
                exact et_iret hx hb hr hlk rfl hS (5, v4_2, v7_2, gwk_2) rfl ⟨(show v4_2 ≤ L from (by first | assumption | omega | rfl | exact Or.inl (by assumption) | exact Or.inr (by assumption))), (show aq ≤ v4_2 from (by first | assumption | omega | rfl | exact Or.inl (by assumption) | exact Or.inr (by assumption))), (show v7_2 ≤ 20 from (by first | assumption | omega | rfl | exact Or.inl (by assumption) | exact Or.inr (by assumption))), (show sb_Fit gwk_2 from (by first | assumption | omega | rfl | exact Or.inl (by assumption) | exact Or.inr (by assumption))), (show ((5 : Int32) = 0 ∧ plF tf dl (L - aq) aq 0 [] = some (v4_2, lsF gwk_2 v7_2)) ∨ (¬ (5 : Int32) = 0 ∧ plF tf dl (L - aq) aq 0 [] = none) from (Or.inr ⟨by decide, hl2_4.symm.trans (pl_full (by omega) ex_2 ex_3 c_4 c_5 a_9 ex_12 c_13 (fun h9 => c_14 (ex_2.symm.trans h9.1)) (by rw [lsF_len]; omega))⟩))⟩ (subP0 hP [0, 1, 2, 3, 4] rfl) (hD.sub [0, 1, 2, 3, 4] (by decide) rfl) (Nat.le_of_ble_eq_true rfl) (Nat.le_of_ble_eq_true rfl) dX4_readPlain_102
            · refine lv_aload_n hx hb dX4_readPlain_74 rfl (lv_at hl 2 rfl) ?_
              refine va_get (D := D) (ci := 4) (v := .ref d) (C := RX4) (T := TX4) (N := 14) hx hb hts inlX4 hown hK hP 0 rfl rfl 1 (by decide) (hts _ mw_82) (fun _ h9 => h9) rfl dX4_readPlain_75 ?_
              refine lv_iconst (v := 3) hx hb dX4_readPlain_78 (by decide) ?_
              refine va_iald hx hb hK hP 3 0 rfl rfl (i := 3) (vp_k (by decide)) dX4_readPlain_79 ?_
              obtain ⟨x_25, ex_25⟩ : ∃ y9 : Int32, dl 3 = y9 := ⟨_, rfl⟩
              refine kv (v := .int x_25) (congrArg Value.int ex_25) ?_
              refine lv_iconst (v := 1) hx hb dX4_readPlain_80 (by decide) ?_
              refine lv_icmp_ne (tgt := 90) hx hb dX4_readPlain_81 (by decide) (fun c_26 => ?_) (fun c_26 => ?_)
              · refine lv_aload_n hx hb dX4_readPlain_90 rfl (lv_at hl 2 rfl) ?_
                refine va_get (D := D) (ci := 4) (v := .int (nI v7_2)) (C := RX4) (T := TX4) (N := 14) hx hb hts inlX4 hown hK hP 0 rfl rfl 7 (by decide) (hts _ mw_74) (fun _ h9 => h9) rfl dX4_readPlain_91 ?_
                refine lv_iload_n hx hb dX4_readPlain_94 rfl (lv_at hl 1 rfl) ?_
                refine lv_iadd hx hb dX4_readPlain_95 ?_
                refine ki (v := (nI (v7_2 + k1_2))) (nI_add v7_2 k1_2) ?_
                refine lv_bipush (v := 20) hx hb dX4_readPlain_96 (by decide) ?_
                refine lv_icmp_lt (tgt := 103) hx hb dX4_readPlain_98 (by decide) (fun c_27 => ?_) (fun c_27 => ?_)
                · have nc_27 := cv_lt (a := (v7_2 + k1_2)) (b := 20) (by omega) (by omega) c_27
                  refine loop_dn (fun k9 H locs ls => ∃ (k1_103 : Nat), ∃ (v7_103 : Nat), ∃ (gwk_103 : Nat → Int32), (v7_103 + k1_103 = v7_2 + k1_2) ∧ (v7_103 ≤ 20) ∧ (lsF gwk_103 v7_103 ++ List.replicate k1_103 32 = lsF gwk_2 v7_2 ++ List.replicate k1_2 32) ∧ sb_Fit gwk_103 ∧ k1_103 = k9 ∧ va_P D vwCl ([(rd, .inr (4, [.ref tp, .ref d, .ref ft, .ref bl, .int (nI v4_2), .int ca, .ref wk, .int (nI v7_103), .ref fl, .ref sr, .int (nI cnt), cv, .ref cl, .int (nI rw)])), (tp, .inr (8, [.ref tb, .int (nI L)])), (tb, .inl (κ 0, 800, .inl tf)), (d, .inl (κ 0, 6, .inl dl)), (wk, .inl (κ 1, 20, .inl gwk_103))] ++ []) H ∧ va_D A ([(rd, .inr (4, [.ref tp, .ref d, .ref ft, .ref bl, .int (nI v4_2), .int ca, .ref wk, .int (nI v7_103), .ref fl, .ref sr, .int (nI cnt), cv, .ref cl, .int (nI rw)])), (tp, .inr (8, [.ref tb, .int (nI L)])), (tb, .inl (κ 0, 800, .inl tf)), (d, .inl (κ 0, 6, .inl dl)), (wk, .inl (κ 1, 20, .inl gwk_103))] ++ []) ∧ va_S A s.heap H locs ∧ lv_has ls 3 [(2, .int x_2), (1, .int (nI k1_103)), (0, .ref rd)]) (fun k9 H locs ls hI103 ih103 => ?_) (k1_2) _ _ _ ⟨k1_2, v7_2, gwk_2, (by omega), (by omega), rfl, hg2_0, rfl, hP, hD, hS, lv_sub hl [0, 1, 2] rfl⟩
                  obtain ⟨k1_103, v7_103, gwk_103, hl103_0, hl103_1, hl103_2, hg103_0, hm103, hP, hD, hS, hl⟩ := hI103
                  refine lv_iload_n hx hb dX4_readPlain_103 rfl (lv_at hl 1 rfl) ?_
                  refine lv_if_le (tgt := 119) hx hb dX4_readPlain_104 (by decide) (fun c_28 => ?_) (fun c_28 => ?_)
                  · have nc_28 := cv_le (a := k1_103) (b := 0) (by omega) (by omega) c_28
                    have hsg9 := sgB_i a_9
                    refine lv_aload_n hx hb dX4_readPlain_119 rfl (lv_at hl 2 rfl) ?_
                    refine lv_iload_n hx hb dX4_readPlain_120 rfl (lv_at hl 0 rfl) ?_
                    refine et_VN (CR := [(tp, .inr (8, [.ref tb, .int (nI L)])), (tb, .inl (κ 0, 800, .inl tf)), (d, .inl (κ 0, 6, .inl dl))]) (As := [.int x_2]) (rest := []) hFX hKK hE hP hD hS hA (c_X4_keepByte_S l D κ κq rd tp d ft bl v4_2 wk v7_103 fl sr cnt cl rw ca cv gwk_103 x_2 (by omega) hg103_0 (nb_of (by omega) (by omega))) 1 gV_X4_153 hdV_X4_keepByte ⟨Nat.le_of_ble_eq_true rfl, Nat.le_of_ble_eq_true rfl⟩ rfl rfl (Nat.le_of_ble_eq_true rfl) dX4_readPlain_121 ⟨Nat.le_of_ble_eq_true rfl, Nat.le_of_ble_eq_true rfl⟩ hl.1 [0, 4] [1, 2, 3] rfl rfl (by decide) (by decide) (by decide) hP 0 4 rfl rfl rfl (fun g__29 H locs hp_30 hP hD hS => ?_)
                    refine W.widen (k := 0) (n := 0) (Nat.le_refl _) (Nat.le_refl _) ?_
                    replace hP : va_P D vwCl ([(rd, .inr (4, [.ref tp, .ref d, .ref ft, .ref bl, .int (nI v4_2), .int ca, .ref wk, .int (nI (v7_103 + 1)), .ref fl, .ref sr, .int (nI cnt), cv, .ref cl, .int (nI rw)])), (tp, .inr (8, [.ref tb, .int (nI L)])), (tb, .inl (κ 0, 800, .inl tf)), (d, .inl (κ 0, 6, .inl dl)), (wk, .inl (κ 1, 20, .inl g__29))] ++ []) H := subP (C := [(tp, .inr (8, [.ref tb, .int (nI L)])), (tb, .inl (κ 0, 800, .inl tf)), (d, .inl (κ 0, 6, .inl dl)), (rd, .inr (4, [.ref tp, .ref d, .ref ft, .ref bl, .int (nI v4_2), .int ca, .ref wk, .int (nI (v7_103 + 1)), .ref fl, .ref sr, .int (nI cnt), cv, .ref cl, .int (nI rw)])), (wk, .inl (κ 1, 20, .inl g__29))]) hP [3, 0, 1, 2, 4] rfl
                    replace hD : va_D A ([(rd, .inr (4, [.ref tp, .ref d, .ref ft, .ref bl, .int (nI v4_2), .int ca, .ref wk, .int (nI (v7_103 + 1)), .ref fl, .ref sr, .int (nI cnt), cv, .ref cl, .int (nI rw)])), (tp, .inr (8, [.ref tb, .int (nI L)])), (tb, .inl (κ 0, 800, .inl tf)), (d, .inl (κ 0, 6, .inl dl)), (wk, .inl (κ 1, 20, .inl g__29))] ++ []) := subD (C := [(tp, .inr (8, [.ref tb, .int (nI L)])), (tb, .inl (κ 0, 800, .inl tf)), (d, .inl (κ 0, 6, .inl dl)), (rd, .inr (4, [.ref tp, .ref d, .ref ft, .ref bl, .int (nI v4_2), .int ca, .ref wk, .int (nI (v7_103 + 1)), .ref fl, .ref sr, .int (nI cnt), cv, .ref cl, .int (nI rw)])), (wk, .inl (κ 1, 20, .inl g__29))]) hD [3, 0, 1, 2, 4] (by decide) rfl
                    replace hp_30 : sb_Fit g__29 ∧ lsF g__29 (v7_103 + 1) = lsF gwk_103 v7_103 ++ [x_2] := hp_30
                    obtain ⟨h_31, h_32⟩ := hp_30
                    refine W.eq (g2 := F0 m 124 ls []) rfl ?_
                    refine lv_aload_n hx hb dX4_readPlain_124 rfl (lv_at hl 2 rfl) ?_
                    refine lv_dup hx hb dX4_readPlain_125 rfl ?_
                    refine va_get (D := D) (ci := 4) (v := .int (nI v4_2)) (C := RX4) (T := TX4) (N := 14) hx hb hts inlX4 hown hK hP 0 rfl rfl 4 (by decide) (hts _ mw_71) (fun _ h9 => h9) rfl dX4_readPlain_126 ?_
                    refine lv_iconst (v := 1) hx hb dX4_readPlain_129 (by decide) ?_
                    refine lv_iadd hx hb dX4_readPlain_130 ?_
                    refine ki (v := (nI (v4_2 + 1))) (nI_add v4_2 1) ?_
                    refine va_put (D := D) (ci := 4) (v := .int (nI (v4_2 + 1))) (ty := tyX4 4) (C := RX4) (T := TX4) (N := 14) hx hb hts inlX4 tyX4 tyX4_ok nmX4 hown hK hP hD hS 0 rfl rfl 4 (by decide) (hts _ mw_71) (fun _ h9 => h9) rfl (tyX4_ok 4 (by decide)) rfl rfl (Nat.le_of_ble_eq_true rfl) dX4_readPlain_131 (fun H locs hP hD hS => ?_)
                    have hP : va_P D vwCl ([(rd, .inr (4, [.ref tp, .ref d, .ref ft, .ref bl, .int (nI (v4_2 + 1)), .int ca, .ref wk, .int (nI (v7_103 + 1)), .ref fl, .ref sr, .int (nI cnt), cv, .ref cl, .int (nI rw)])), (tp, .inr (8, [.ref tb, .int (nI L)])), (tb, .inl (κ 0, 800, .inl tf)), (d, .inl (κ 0, 6, .inl dl)), (wk, .inl (κ 1, 20, .inl g__29))] ++ []) H := hP
                    have hD : va_D A ([(rd, .inr (4, [.ref tp, .ref d, .ref ft, .ref bl, .int (nI (v4_2 + 1)), .int ca, .ref wk, .int (nI (v7_103 + 1)), .ref fl, .ref sr, .int (nI cnt), cv, .ref cl, .int (nI rw)])), (tp, .inr (8, [.ref tb, .int (nI L)])), (tb, .inl (κ 0, 800, .inl tf)), (d, .inl (κ 0, 6, .inl dl)), (wk, .inl (κ 1, 20, .inl g__29))] ++ []) := hD
                    refine lv_goto (tgt := 2) hx hb dX4_readPlain_134 (by decide) ?_
                    exact ih2 _ _ _ _ (by omega) ⟨k1_103, (v4_2 + 1), (v7_103 + 1), g__29, (by omega), (by omega), (by omega), (by omega), (by rw [show k1_103 = 0 by omega, pl_back (k' := k1_103) (by omega) h_32 hl103_2]; exact (pl_kp (by omega) ex_2 ex_3 c_4 c_5 a_9 ex_12 c_13 (fun h9 => c_26 (ex_25.symm.trans h9.2)) (by rw [lsF_len]; omega)).symm.trans hl2_4), h_31, rfl, hP, hD, hS, lv_sub hl [1, 2] rfl⟩
                  · have nc_28 := cv_nle (a := k1_103) (b := 0) (by omega) (by omega) c_28
                    refine lv_aload_n hx hb dX4_readPlain_107 rfl (lv_at hl 2 rfl) ?_
                    refine lv_bipush (v := 32) hx hb dX4_readPlain_108 (by decide) ?_
                    refine et_VN (CR := [(tp, .inr (8, [.ref tb, .int (nI L)])), (tb, .inl (κ 0, 800, .inl tf)), (d, .inl (κ 0, 6, .inl dl))]) (As := [.int 32]) (rest := []) hFX hKK hE hP hD hS hA (c_X4_keepByte_S l D κ κq rd tp d ft bl v4_2 wk v7_103 fl sr cnt cl rw ca cv gwk_103 32 (by omega) hg103_0 (by decide)) 1 gV_X4_153 hdV_X4_keepByte ⟨Nat.le_of_ble_eq_true rfl, Nat.le_of_ble_eq_true rfl⟩ rfl rfl (Nat.le_of_ble_eq_true rfl) dX4_readPlain_110 ⟨Nat.le_of_ble_eq_true rfl, Nat.le_of_ble_eq_true rfl⟩ hl.1 [0, 4] [1, 2, 3] rfl rfl (by decide) (by decide) (by decide) hP 0 4 rfl rfl rfl (fun g__33 H locs hp_34 hP hD hS => ?_)
                    refine W.widen (k := 0) (n := 0) (Nat.le_refl _) (Nat.le_refl _) ?_
                    replace hP : va_P D vwCl ([(rd, .inr (4, [.ref tp, .ref d, .ref ft, .ref bl, .int (nI v4_2), .int ca, .ref wk, .int (nI (v7_103 + 1)), .ref fl, .ref sr, .int (nI cnt), cv, .ref cl, .int (nI rw)])), (tp, .inr (8, [.ref tb, .int (nI L)])), (tb, .inl (κ 0, 800, .inl tf)), (d, .inl (κ 0, 6, .inl dl)), (wk, .inl (κ 1, 20, .inl g__33))] ++ []) H := subP (C := [(tp, .inr (8, [.ref tb, .int (nI L)])), (tb, .inl (κ 0, 800, .inl tf)), (d, .inl (κ 0, 6, .inl dl)), (rd, .inr (4, [.ref tp, .ref d, .ref ft, .ref bl, .int (nI v4_2), .int ca, .ref wk, .int (nI (v7_103 + 1)), .ref fl, .ref sr, .int (nI cnt), cv, .ref cl, .int (nI rw)])), (wk, .inl (κ 1, 20, .inl g__33))]) hP [3, 0, 1, 2, 4] rfl
                    replace hD : va_D A ([(rd, .inr (4, [.ref tp, .ref d, .ref ft, .ref bl, .int (nI v4_2), .int ca, .ref wk, .int (nI (v7_103 + 1)), .ref fl, .ref sr, .int (nI cnt), cv, .ref cl, .int (nI rw)])), (tp, .inr (8, [.ref tb, .int (nI L)])), (tb, .inl (κ 0, 800, .inl tf)), (d, .inl (κ 0, 6, .inl dl)), (wk, .inl (κ 1, 20, .inl g__33))] ++ []) := subD (C := [(tp, .inr (8, [.ref tb, .int (nI L)])), (tb, .inl (κ 0, 800, .inl tf)), (d, .inl (κ 0, 6, .inl dl)), (rd, .inr (4, [.ref tp, .ref d, .ref ft, .ref bl, .int (nI v4_2), .int ca, .ref wk, .int (nI (v7_103 + 1)), .ref fl, .ref sr, .int (nI cnt), cv, .ref cl, .int (nI rw)])), (wk, .inl (κ 1, 20, .inl g__33))]) hD [3, 0, 1, 2, 4] (by decide) rfl
                    replace hp_34 : sb_Fit g__33 ∧ lsF g__33 (v7_103 + 1) = lsF gwk_103 v7_103 ++ [(32 : Int32)] := hp_34
                    obtain ⟨h_35, h_36⟩ := hp_34
                    refine W.eq (g2 := F0 m 113 ls []) rfl ?_
                    refine lv_iinc (v := (nI (k1_103 - 1))) (lv' := [(1, .int (nI (k1_103 - 1))), (2, .int x_2), (0, .ref rd)]) hx hb dX4_readPlain_113 hl (k := 1) rfl (nI_d (by omega)) (by decide) rfl (fun ls hl => ?_)
                    refine lv_goto (tgt := 103) hx hb dX4_readPlain_116 (by decide) ?_
                    exact ih103 _ _ _ _ (by omega) ⟨(k1_103 - 1), (v7_103 + 1), g__33, (by omega), (by omega), (rp_step (by omega) h_36 hl103_2), h_35, rfl, hP, hD, hS, lv_sub hl [1, 0, 2] rfl⟩
                · have nc_27 := cv_nlt (a := (v7_2 + k1_2)) (b := 20) (by omega) (by omega) c_27
                  refine lv_iconst (v := 5) hx hb dX4_readPlain_101 (by decide) ?_
                  exact et_iret hx hb hr hlk rfl hS (5, v4_2, v7_2, gwk_2) rfl ⟨(show v4_2 ≤ L from (by first | assumption | omega | rfl | exact Or.inl (by assumption) | exact Or.inr (by assumption))), (show aq ≤ v4_2 from (by first | assumption | omega | rfl | exact Or.inl (by assumption) | exact Or.inr (by assumption))), (show v7_2 ≤ 20 from (by first | assumption | omega | rfl | exact Or.inl (by assumption) | exact Or.inr (by assumption))), (show sb_Fit gwk_2 from (by first | assumption | omega | rfl | exact Or.inl (by assumption) | exact Or.inr (by assumption))), (show ((5 : Int32) = 0 ∧ plF tf dl (L - aq) aq 0 [] = some (v4_2, lsF gwk_2 v7_2)) ∨ (¬ (5 : Int32) = 0 ∧ plF tf dl (L - aq) aq 0 [] = none) from (Or.inr ⟨by decide, hl2_4.symm.trans (pl_full (by omega) ex_2 ex_3 c_4 c_5 a_9 ex_12 c_13 (fun h9 => c_26 (ex_25.symm.trans h9.2)) (by rw [lsF_len]; omega))⟩))⟩ (subP0 hP [0, 1, 2, 3, 4] rfl) (hD.sub [0, 1, 2, 3, 4] (by decide) rfl) (Nat.le_of_ble_eq_true rfl) (Nat.le_of_ble_eq_true rfl) dX4_readPlain_102
              · refine lv_iinc (v := (nI (k1_2 + 1))) (lv' := [(1, .int (nI (k1_2 + 1))), (2, .int x_2), (0, .ref rd)]) hx hb dX4_readPlain_84 hl (k := 1) rfl (nI_i k1_2) (by decide) rfl (fun ls hl => ?_)
                refine lv_goto (tgt := 124) hx hb dX4_readPlain_87 (by decide) ?_
                refine lv_aload_n hx hb dX4_readPlain_124 rfl (lv_at hl 2 rfl) ?_
                refine lv_dup hx hb dX4_readPlain_125 rfl ?_
                refine va_get (D := D) (ci := 4) (v := .int (nI v4_2)) (C := RX4) (T := TX4) (N := 14) hx hb hts inlX4 hown hK hP 0 rfl rfl 4 (by decide) (hts _ mw_71) (fun _ h9 => h9) rfl dX4_readPlain_126 ?_
                refine lv_iconst (v := 1) hx hb dX4_readPlain_129 (by decide) ?_
                refine lv_iadd hx hb dX4_readPlain_130 ?_
                refine ki (v := (nI (v4_2 + 1))) (nI_add v4_2 1) ?_
                refine va_put (D := D) (ci := 4) (v := .int (nI (v4_2 + 1))) (ty := tyX4 4) (C := RX4) (T := TX4) (N := 14) hx hb hts inlX4 tyX4 tyX4_ok nmX4 hown hK hP hD hS 0 rfl rfl 4 (by decide) (hts _ mw_71) (fun _ h9 => h9) rfl (tyX4_ok 4 (by decide)) rfl rfl (Nat.le_of_ble_eq_true rfl) dX4_readPlain_131 (fun H locs hP hD hS => ?_)
                have hP : va_P D vwCl ([(rd, .inr (4, [.ref tp, .ref d, .ref ft, .ref bl, .int (nI (v4_2 + 1)), .int ca, .ref wk, .int (nI v7_2), .ref fl, .ref sr, .int (nI cnt), cv, .ref cl, .int (nI rw)])), (tp, .inr (8, [.ref tb, .int (nI L)])), (tb, .inl (κ 0, 800, .inl tf)), (d, .inl (κ 0, 6, .inl dl)), (wk, .inl (κ 1, 20, .inl gwk_2))] ++ []) H := hP
                have hD : va_D A ([(rd, .inr (4, [.ref tp, .ref d, .ref ft, .ref bl, .int (nI (v4_2 + 1)), .int ca, .ref wk, .int (nI v7_2), .ref fl, .ref sr, .int (nI cnt), cv, .ref cl, .int (nI rw)])), (tp, .inr (8, [.ref tb, .int (nI L)])), (tb, .inl (κ 0, 800, .inl tf)), (d, .inl (κ 0, 6, .inl dl)), (wk, .inl (κ 1, 20, .inl gwk_2))] ++ []) := hD
                refine lv_goto (tgt := 2) hx hb dX4_readPlain_134 (by decide) ?_
                exact ih2 _ _ _ _ (by omega) ⟨(k1_2 + 1), (v4_2 + 1), v7_2, gwk_2, (by omega), (by omega), (by omega), (by omega), ((pl_bl (by omega) ex_2 ex_3 c_4 c_5 a_9 ex_12 c_13 c_14 ex_25 c_26).symm.trans hl2_4), hg2_0, rfl, hP, hD, hS, lv_sub hl [0, 2] rfl⟩
          · refine lv_iconst (v := 2) hx hb dX4_readPlain_66 (by decide) ?_
            exact et_iret hx hb hr hlk rfl hS (2, v4_2, v7_2, gwk_2) rfl ⟨(show v4_2 ≤ L from (by first | assumption | omega | rfl | exact Or.inl (by assumption) | exact Or.inr (by assumption))), (show aq ≤ v4_2 from (by first | assumption | omega | rfl | exact Or.inl (by assumption) | exact Or.inr (by assumption))), (show v7_2 ≤ 20 from (by first | assumption | omega | rfl | exact Or.inl (by assumption) | exact Or.inr (by assumption))), (show sb_Fit gwk_2 from (by first | assumption | omega | rfl | exact Or.inl (by assumption) | exact Or.inr (by assumption))), (show ((2 : Int32) = 0 ∧ plF tf dl (L - aq) aq 0 [] = some (v4_2, lsF gwk_2 v7_2)) ∨ (¬ (2 : Int32) = 0 ∧ plF tf dl (L - aq) aq 0 [] = none) from (Or.inr ⟨by decide, hl2_4.symm.trans (pl_q (by omega) ex_2 ex_3 c_4 c_5 ex_12 c_13)⟩))⟩ (subP0 hP [0, 1, 2, 3, 4] rfl) (hD.sub [0, 1, 2, 3, 4] (by decide) rfl) (Nat.le_of_ble_eq_true rfl) (Nat.le_of_ble_eq_true rfl) dX4_readPlain_67
        · refine W.eq (g2 := F0 m 51 ls [.int 0]) rfl ?_
          refine lv_if_ne (tgt := 56) hx hb dX4_readPlain_51 (by decide) (fun c_37 => absurd c_37 (by decide)) (fun c_37 => ?_)
          refine lv_iconst (v := 1) hx hb dX4_readPlain_54 (by decide) ?_
          exact et_iret hx hb hr hlk rfl hS (1, v4_2, v7_2, gwk_2) rfl ⟨(show v4_2 ≤ L from (by first | assumption | omega | rfl | exact Or.inl (by assumption) | exact Or.inr (by assumption))), (show aq ≤ v4_2 from (by first | assumption | omega | rfl | exact Or.inl (by assumption) | exact Or.inr (by assumption))), (show v7_2 ≤ 20 from (by first | assumption | omega | rfl | exact Or.inl (by assumption) | exact Or.inr (by assumption))), (show sb_Fit gwk_2 from (by first | assumption | omega | rfl | exact Or.inl (by assumption) | exact Or.inr (by assumption))), (show ((1 : Int32) = 0 ∧ plF tf dl (L - aq) aq 0 [] = some (v4_2, lsF gwk_2 v7_2)) ∨ (¬ (1 : Int32) = 0 ∧ plF tf dl (L - aq) aq 0 [] = none) from (Or.inr ⟨by decide, hl2_4.symm.trans (pl_sg (by omega) ex_2 ex_3 c_4 c_5 a_10)⟩))⟩ (subP0 hP [0, 1, 2, 3, 4] rfl) (hD.sub [0, 1, 2, 3, 4] (by decide) rfl) (Nat.le_of_ble_eq_true rfl) (Nat.le_of_ble_eq_true rfl) dX4_readPlain_55
      · refine lv_iconst (v := 0) hx hb dX4_readPlain_45 (by decide) ?_
        exact et_iret hx hb hr hlk rfl hS (0, v4_2, v7_2, gwk_2) rfl ⟨(show v4_2 ≤ L from (by first | assumption | omega | rfl | exact Or.inl (by assumption) | exact Or.inr (by assumption))), (show aq ≤ v4_2 from (by first | assumption | omega | rfl | exact Or.inl (by assumption) | exact Or.inr (by assumption))), (show v7_2 ≤ 20 from (by first | assumption | omega | rfl | exact Or.inl (by assumption) | exact Or.inr (by assumption))), (show sb_Fit gwk_2 from (by first | assumption | omega | rfl | exact Or.inl (by assumption) | exact Or.inr (by assumption))), (show ((0 : Int32) = 0 ∧ plF tf dl (L - aq) aq 0 [] = some (v4_2, lsF gwk_2 v7_2)) ∨ (¬ (0 : Int32) = 0 ∧ plF tf dl (L - aq) aq 0 [] = none) from (Or.inl ⟨rfl, hl2_4.symm.trans (pl_10 (by omega) ex_2 c_5)⟩))⟩ (subP0 hP [0, 1, 2, 3, 4] rfl) (hD.sub [0, 1, 2, 3, 4] (by decide) rfl) (Nat.le_of_ble_eq_true rfl) (Nat.le_of_ble_eq_true rfl) dX4_readPlain_46
set_option maxHeartbeats 4000000 in
set_option maxRecDepth 100000 in
theorem c_X4_readQuoted_S (l : Launch) (D : va_G) (κ : Nat → ClassId) (κq : Nat → Nat) (rd : Nat) (tp : Nat) (d : Nat) (ft : Nat) (bl : Nat) (aq : Nat) (wk : Nat) (fl : Nat) (sr : Nat) (cnt : Nat) (cl : Nat) (rw : Nat) (ca : Int32) (cv : Value) (tb : Nat) (L : Nat) (tf : Nat → Int32) (dl : Nat → Int32) (wf : Nat → Int32) (hL8 : L ≤ 800) (haq : aq < L) (hwf : sb_Fit wf) : Et l yX4_readQuoted (wl yX4_readQuoted cX4_readQuoted 2 (some .int)) { frames := 1, cells := 0, slots := 0, locals := 21 } D κ κq [.ref rd] [(rd, .inr (4, [.ref tp, .ref d, .ref ft, .ref bl, .int (nI aq), .int ca, .ref wk, .int 0, .ref fl, .ref sr, .int (nI cnt), cv, .ref cl, .int (nI rw)])), (tp, .inr (8, [.ref tb, .int (nI L)])), (tb, .inl (κ 0, 800, .inl tf)), (d, .inl (κ 0, 6, .inl dl)), (wk, .inl (κ 1, 20, .inl wf))] (fun u9 : Int32 × Nat × Nat × (Nat → Int32) => some (.int u9.1)) (fun u9 : Int32 × Nat × Nat × (Nat → Int32) => u9.2.1 ≤ L ∧ aq ≤ u9.2.1 ∧ u9.2.2.1 ≤ 20 ∧ sb_Fit u9.2.2.2 ∧ ((u9.1 = 0 ∧ quF tf dl (L - (aq + 1)) (aq + 1) [] = some (u9.2.1, lsF u9.2.2.2 u9.2.2.1)) ∨ (¬ u9.1 = 0 ∧ quF tf dl (L - (aq + 1)) (aq + 1) [] = none))) (fun u9 : Int32 × Nat × Nat × (Nat → Int32) => [(rd, .inr (4, [.ref tp, .ref d, .ref ft, .ref bl, .int (nI u9.2.1), .int ca, .ref wk, .int (nI u9.2.2.1), .ref fl, .ref sr, .int (nI cnt), cv, .ref cl, .int (nI rw)])), (tp, .inr (8, [.ref tb, .int (nI L)])), (tb, .inl (κ 0, 800, .inl tf)), (d, .inl (κ 0, 6, .inl dl)), (wk, .inl (κ 1, 20, .inl u9.2.2.2))]) := by
  refine et_of (by decide +kernel) (Nat.le_of_ble_eq_true rfl) ?_
  intro p e s m args below meth c A ls hx hb hr hml hts hown hlk hin hKK hK hA hP hD hS hE hl
  have hS : va_S A s.heap s.heap [] := hS
  have hP : va_P D vwCl ([(rd, .inr (4, [.ref tp, .ref d, .ref ft, .ref bl, .int (nI aq), .int ca, .ref wk, .int 0, .ref fl, .ref sr, .int (nI cnt), cv, .ref cl, .int (nI rw)])), (tp, .inr (8, [.ref tb, .int (nI L)])), (tb, .inl (κ 0, 800, .inl tf)), (d, .inl (κ 0, 6, .inl dl)), (wk, .inl (κ 1, 20, .inl wf))] ++ []) s.heap := hP
  have hD : va_D A ([(rd, .inr (4, [.ref tp, .ref d, .ref ft, .ref bl, .int (nI aq), .int ca, .ref wk, .int 0, .ref fl, .ref sr, .int (nI cnt), cv, .ref cl, .int (nI rw)])), (tp, .inr (8, [.ref tb, .int (nI L)])), (tb, .inl (κ 0, 800, .inl tf)), (d, .inl (κ 0, 6, .inl dl)), (wk, .inl (κ 1, 20, .inl wf))] ++ []) := hD
  have hFX : FX p s m args c cX4_readQuoted 2 RX4 := ⟨hx, hb, hml, hown, hts⟩
  have hl : lv_has ls 2 [(0, .ref rd)] := hl
  refine lv_aload_n hx hb dX4_readQuoted_0 rfl (lv_at hl 0 rfl) ?_
  refine lv_dup hx hb dX4_readQuoted_1 rfl ?_
  refine va_get (D := D) (ci := 4) (v := .int (nI aq)) (C := RX4) (T := TX4) (N := 14) hx hb hts inlX4 hown hK hP 0 rfl rfl 4 (by decide) (hts _ mw_71) (fun _ h9 => h9) rfl dX4_readQuoted_2 ?_
  refine lv_iconst (v := 1) hx hb dX4_readQuoted_5 (by decide) ?_
  refine lv_iadd hx hb dX4_readQuoted_6 ?_
  refine ki (v := (nI (aq + 1))) (nI_add aq 1) ?_
  refine va_put (D := D) (ci := 4) (v := .int (nI (aq + 1))) (ty := tyX4 4) (C := RX4) (T := TX4) (N := 14) hx hb hts inlX4 tyX4 tyX4_ok nmX4 hown hK hP hD hS 0 rfl rfl 4 (by decide) (hts _ mw_71) (fun _ h9 => h9) rfl (tyX4_ok 4 (by decide)) rfl rfl (Nat.le_of_ble_eq_true rfl) dX4_readQuoted_7 (fun H locs hP hD hS => ?_)
  have hP : va_P D vwCl ([(rd, .inr (4, [.ref tp, .ref d, .ref ft, .ref bl, .int (nI (aq + 1)), .int ca, .ref wk, .int 0, .ref fl, .ref sr, .int (nI cnt), cv, .ref cl, .int (nI rw)])), (tp, .inr (8, [.ref tb, .int (nI L)])), (tb, .inl (κ 0, 800, .inl tf)), (d, .inl (κ 0, 6, .inl dl)), (wk, .inl (κ 1, 20, .inl wf))] ++ []) H := hP
  have hD : va_D A ([(rd, .inr (4, [.ref tp, .ref d, .ref ft, .ref bl, .int (nI (aq + 1)), .int ca, .ref wk, .int 0, .ref fl, .ref sr, .int (nI cnt), cv, .ref cl, .int (nI rw)])), (tp, .inr (8, [.ref tb, .int (nI L)])), (tb, .inl (κ 0, 800, .inl tf)), (d, .inl (κ 0, 6, .inl dl)), (wk, .inl (κ 1, 20, .inl wf))] ++ []) := hD
  refine loop_dn (fun k9 H locs ls => ∃ (v4_10 : Nat), ∃ (v7_10 : Nat), ∃ (gwk_10 : Nat → Int32), (v4_10 ≤ L) ∧ (aq ≤ v4_10) ∧ (v7_10 ≤ 20) ∧ (quF tf dl (L - v4_10) v4_10 (lsF gwk_10 v7_10) = quF tf dl (L - (aq + 1)) (aq + 1) []) ∧ sb_Fit gwk_10 ∧ L - v4_10 = k9 ∧ va_P D vwCl ([(rd, .inr (4, [.ref tp, .ref d, .ref ft, .ref bl, .int (nI v4_10), .int ca, .ref wk, .int (nI v7_10), .ref fl, .ref sr, .int (nI cnt), cv, .ref cl, .int (nI rw)])), (tp, .inr (8, [.ref tb, .int (nI L)])), (tb, .inl (κ 0, 800, .inl tf)), (d, .inl (κ 0, 6, .inl dl)), (wk, .inl (κ 1, 20, .inl gwk_10))] ++ []) H ∧ va_D A ([(rd, .inr (4, [.ref tp, .ref d, .ref ft, .ref bl, .int (nI v4_10), .int ca, .ref wk, .int (nI v7_10), .ref fl, .ref sr, .int (nI cnt), cv, .ref cl, .int (nI rw)])), (tp, .inr (8, [.ref tb, .int (nI L)])), (tb, .inl (κ 0, 800, .inl tf)), (d, .inl (κ 0, 6, .inl dl)), (wk, .inl (κ 1, 20, .inl gwk_10))] ++ []) ∧ va_S A s.heap H locs ∧ lv_has ls 2 [(0, .ref rd)]) (fun k9 H locs ls hI10 ih10 => ?_) (L - (aq + 1)) _ _ _ ⟨(aq + 1), 0, wf, (by omega), (by omega), (by omega), rfl, hwf, rfl, hP, hD, hS, lv_sub hl [0] rfl⟩
  obtain ⟨v4_10, v7_10, gwk_10, hl10_0, hl10_1, hl10_2, hl10_3, hg10_0, hm10, hP, hD, hS, hl⟩ := hI10
  refine lv_aload_n hx hb dX4_readQuoted_10 rfl (lv_at hl 0 rfl) ?_
  refine va_get (D := D) (ci := 4) (v := .int (nI v4_10)) (C := RX4) (T := TX4) (N := 14) hx hb hts inlX4 hown hK hP 0 rfl rfl 4 (by decide) (hts _ mw_71) (fun _ h9 => h9) rfl dX4_readQuoted_11 ?_
  refine lv_aload_n hx hb dX4_readQuoted_14 rfl (lv_at hl 0 rfl) ?_
  refine va_get (D := D) (ci := 4) (v := .ref tp) (C := RX4) (T := TX4) (N := 14) hx hb hts inlX4 hown hK hP 0 rfl rfl 0 (by decide) (hts _ mw_81) (fun _ h9 => h9) rfl dX4_readQuoted_15 ?_
  refine va_get (D := D) (ci := 8) (v := .int (nI L)) (C := RX8) (T := TX8) (N := 2) hx hb hts inlX8 hown hK hP 1 rfl rfl 1 (by decide) (hts _ mw_261) (fun _ h9 => h9) rfl dX4_readQuoted_18 ?_
  refine lv_icmp_ge (tgt := 133) hx hb dX4_readQuoted_21 (by decide) (fun c_1 => ?_) (fun c_1 => ?_)
  · have nc_1 := cv_le (a := L) (b := v4_10) (by omega) (by omega) c_1
    refine lv_iconst (v := 4) hx hb dX4_readQuoted_133 (by decide) ?_
    exact et_iret hx hb hr hlk rfl hS (4, v4_10, v7_10, gwk_10) rfl ⟨(show v4_10 ≤ L from (by first | assumption | omega | rfl | exact Or.inl (by assumption) | exact Or.inr (by assumption))), (show aq ≤ v4_10 from (by first | assumption | omega | rfl | exact Or.inl (by assumption) | exact Or.inr (by assumption))), (show v7_10 ≤ 20 from (by first | assumption | omega | rfl | exact Or.inl (by assumption) | exact Or.inr (by assumption))), (show sb_Fit gwk_10 from (by first | assumption | omega | rfl | exact Or.inl (by assumption) | exact Or.inr (by assumption))), (show ((4 : Int32) = 0 ∧ quF tf dl (L - (aq + 1)) (aq + 1) [] = some (v4_10, lsF gwk_10 v7_10)) ∨ (¬ (4 : Int32) = 0 ∧ quF tf dl (L - (aq + 1)) (aq + 1) [] = none) from (Or.inr ⟨by decide, hl10_3.symm.trans (qu_end (by omega))⟩))⟩ (subP0 hP [0, 1, 2, 3, 4] rfl) (hD.sub [0, 1, 2, 3, 4] (by decide) rfl) (Nat.le_of_ble_eq_true rfl) (Nat.le_of_ble_eq_true rfl) dX4_readQuoted_134
  · have nc_1 := cv_nle (a := L) (b := v4_10) (by omega) (by omega) c_1
    refine lv_aload_n hx hb dX4_readQuoted_24 rfl (lv_at hl 0 rfl) ?_
    refine va_get (D := D) (ci := 4) (v := .ref tp) (C := RX4) (T := TX4) (N := 14) hx hb hts inlX4 hown hK hP 0 rfl rfl 0 (by decide) (hts _ mw_81) (fun _ h9 => h9) rfl dX4_readQuoted_25 ?_
    refine va_get (D := D) (ci := 8) (v := .ref tb) (C := RX8) (T := TX8) (N := 2) hx hb hts inlX8 hown hK hP 1 rfl rfl 0 (by decide) (hts _ mw_266) (fun _ h9 => h9) rfl dX4_readQuoted_28 ?_
    refine lv_aload_n hx hb dX4_readQuoted_31 rfl (lv_at hl 0 rfl) ?_
    refine va_get (D := D) (ci := 4) (v := .int (nI v4_10)) (C := RX4) (T := TX4) (N := 14) hx hb hts inlX4 hown hK hP 0 rfl rfl 4 (by decide) (hts _ mw_71) (fun _ h9 => h9) rfl dX4_readQuoted_32 ?_
    refine va_iald hx hb hK hP 2 0 rfl rfl (i := nI v4_10) (vp_in_nI (n := v4_10) (by omega) (by omega)) dX4_readQuoted_35 ?_
    refine kv (v := .int (tf v4_10)) (by rw [nI_clamp (by omega)]) ?_
    obtain ⟨x_2, ex_2⟩ : ∃ y9 : Int32, tf v4_10 = y9 := ⟨_, rfl⟩
    refine kv (v := .int x_2) (congrArg Value.int ex_2) ?_
    refine lv_istore_n (lv' := [(1, .int x_2), (0, .ref rd)]) hx hb dX4_readQuoted_36 rfl hl (by decide) rfl (fun ls hl => ?_)
    refine lv_iload_n hx hb dX4_readQuoted_37 rfl (lv_at hl 0 rfl) ?_
    refine er_S (As := [.int x_2]) (rest := []) hFX hKK hE hS (c_X8_isSign_S l D κ κq x_2) 1 gS_X4_115 hdS_X8_isSign rfl rfl ⟨Nat.le_of_ble_eq_true rfl, Nat.le_of_ble_eq_true rfl⟩ rfl rfl (Nat.le_of_ble_eq_true rfl) dX4_readQuoted_38 ⟨Nat.le_of_ble_eq_true rfl, Nat.le_of_ble_eq_true rfl⟩ hl.1 (subP0 hP [] rfl) (fun r__3 hp_4 => ?_)
    replace hp_4 : ((r__3 = 1 ∧ sgB x_2 = true) ∨ (r__3 = 0 ∧ sgB x_2 = false)) := hp_4
    have ha_5 := hp_4
    clear hp_4
    rcases ha_5 with ⟨rfl, a_6⟩ | ⟨rfl, a_7⟩
    · refine W.eq (g2 := F0 m 41 ls [.int 1]) rfl ?_
      refine lv_if_ne (tgt := 52) hx hb dX4_readQuoted_41 (by decide) (fun c_8 => ?_) (fun c_8 => absurd c_8 (by decide))
      refine lv_iload_n hx hb dX4_readQuoted_52 rfl (lv_at hl 0 rfl) ?_
      refine lv_aload_n hx hb dX4_readQuoted_53 rfl (lv_at hl 1 rfl) ?_
      refine va_get (D := D) (ci := 4) (v := .ref d) (C := RX4) (T := TX4) (N := 14) hx hb hts inlX4 hown hK hP 0 rfl rfl 1 (by decide) (hts _ mw_82) (fun _ h9 => h9) rfl dX4_readQuoted_54 ?_
      refine lv_iconst (v := 1) hx hb dX4_readQuoted_57 (by decide) ?_
      refine va_iald hx hb hK hP 3 0 rfl rfl (i := 1) (vp_k (by decide)) dX4_readQuoted_58 ?_
      obtain ⟨x_9, ex_9⟩ : ∃ y9 : Int32, dl 1 = y9 := ⟨_, rfl⟩
      refine kv (v := .int x_9) (congrArg Value.int ex_9) ?_
      refine lv_icmp_ne (tgt := 104) hx hb dX4_readQuoted_59 (by decide) (fun c_10 => ?_) (fun c_10 => ?_)
      · refine lv_aload_n hx hb dX4_readQuoted_104 rfl (lv_at hl 1 rfl) ?_
        refine va_get (D := D) (ci := 4) (v := .int (nI v7_10)) (C := RX4) (T := TX4) (N := 14) hx hb hts inlX4 hown hK hP 0 rfl rfl 7 (by decide) (hts _ mw_74) (fun _ h9 => h9) rfl dX4_readQuoted_105 ?_
        refine lv_bipush (v := 20) hx hb dX4_readQuoted_108 (by decide) ?_
        refine lv_icmp_lt (tgt := 115) hx hb dX4_readQuoted_110 (by decide) (fun c_11 => ?_) (fun c_11 => ?_)
        · have nc_11 := cv_lt (a := v7_10) (b := 20) (by omega) (by omega) c_11
          refine lv_aload_n hx hb dX4_readQuoted_115 rfl (lv_at hl 1 rfl) ?_
          refine lv_iload_n hx hb dX4_readQuoted_116 rfl (lv_at hl 0 rfl) ?_
          have hsg9 := sgB_i a_6
          refine et_VN (CR := [(tp, .inr (8, [.ref tb, .int (nI L)])), (tb, .inl (κ 0, 800, .inl tf)), (d, .inl (κ 0, 6, .inl dl))]) (As := [.int x_2]) (rest := []) hFX hKK hE hP hD hS hA (c_X4_keepByte_S l D κ κq rd tp d ft bl v4_10 wk v7_10 fl sr cnt cl rw ca cv gwk_10 x_2 (by omega) hg10_0 (nb_of (by omega) (by omega))) 1 gV_X4_153 hdV_X4_keepByte ⟨Nat.le_of_ble_eq_true rfl, Nat.le_of_ble_eq_true rfl⟩ rfl rfl (Nat.le_of_ble_eq_true rfl) dX4_readQuoted_117 ⟨Nat.le_of_ble_eq_true rfl, Nat.le_of_ble_eq_true rfl⟩ hl.1 [0, 4] [1, 2, 3] rfl rfl (by decide) (by decide) (by decide) hP 0 4 rfl rfl rfl (fun g__12 H locs hp_13 hP hD hS => ?_)
          refine W.widen (k := 0) (n := 0) (Nat.le_refl _) (Nat.le_refl _) ?_
          replace hP : va_P D vwCl ([(rd, .inr (4, [.ref tp, .ref d, .ref ft, .ref bl, .int (nI v4_10), .int ca, .ref wk, .int (nI (v7_10 + 1)), .ref fl, .ref sr, .int (nI cnt), cv, .ref cl, .int (nI rw)])), (tp, .inr (8, [.ref tb, .int (nI L)])), (tb, .inl (κ 0, 800, .inl tf)), (d, .inl (κ 0, 6, .inl dl)), (wk, .inl (κ 1, 20, .inl g__12))] ++ []) H := subP (C := [(tp, .inr (8, [.ref tb, .int (nI L)])), (tb, .inl (κ 0, 800, .inl tf)), (d, .inl (κ 0, 6, .inl dl)), (rd, .inr (4, [.ref tp, .ref d, .ref ft, .ref bl, .int (nI v4_10), .int ca, .ref wk, .int (nI (v7_10 + 1)), .ref fl, .ref sr, .int (nI cnt), cv, .ref cl, .int (nI rw)])), (wk, .inl (κ 1, 20, .inl g__12))]) hP [3, 0, 1, 2, 4] rfl
          replace hD : va_D A ([(rd, .inr (4, [.ref tp, .ref d, .ref ft, .ref bl, .int (nI v4_10), .int ca, .ref wk, .int (nI (v7_10 + 1)), .ref fl, .ref sr, .int (nI cnt), cv, .ref cl, .int (nI rw)])), (tp, .inr (8, [.ref tb, .int (nI L)])), (tb, .inl (κ 0, 800, .inl tf)), (d, .inl (κ 0, 6, .inl dl)), (wk, .inl (κ 1, 20, .inl g__12))] ++ []) := subD (C := [(tp, .inr (8, [.ref tb, .int (nI L)])), (tb, .inl (κ 0, 800, .inl tf)), (d, .inl (κ 0, 6, .inl dl)), (rd, .inr (4, [.ref tp, .ref d, .ref ft, .ref bl, .int (nI v4_10), .int ca, .ref wk, .int (nI (v7_10 + 1)), .ref fl, .ref sr, .int (nI cnt), cv, .ref cl, .int (nI rw)])), (wk, .inl (κ 1, 20, .inl g__12))]) hD [3, 0, 1, 2, 4] (by decide) rfl
          replace hp_13 : sb_Fit g__12 ∧ lsF g__12 (v7_10 + 1) = lsF gwk_10 v7_10 ++ [x_2] := hp_13
          obtain ⟨h_14, h_15⟩ := hp_13
          refine W.eq (g2 := F0 m 120 ls []) rfl ?_
          refine lv_aload_n hx hb dX4_readQuoted_120 rfl (lv_at hl 1 rfl) ?_
          refine lv_dup hx hb dX4_readQuoted_121 rfl ?_
          refine va_get (D := D) (ci := 4) (v := .int (nI v4_10)) (C := RX4) (T := TX4) (N := 14) hx hb hts inlX4 hown hK hP 0 rfl rfl 4 (by decide) (hts _ mw_71) (fun _ h9 => h9) rfl dX4_readQuoted_122 ?_
          refine lv_iconst (v := 1) hx hb dX4_readQuoted_125 (by decide) ?_
          refine lv_iadd hx hb dX4_readQuoted_126 ?_
          refine ki (v := (nI (v4_10 + 1))) (nI_add v4_10 1) ?_
          refine va_put (D := D) (ci := 4) (v := .int (nI (v4_10 + 1))) (ty := tyX4 4) (C := RX4) (T := TX4) (N := 14) hx hb hts inlX4 tyX4 tyX4_ok nmX4 hown hK hP hD hS 0 rfl rfl 4 (by decide) (hts _ mw_71) (fun _ h9 => h9) rfl (tyX4_ok 4 (by decide)) rfl rfl (Nat.le_of_ble_eq_true rfl) dX4_readQuoted_127 (fun H locs hP hD hS => ?_)
          have hP : va_P D vwCl ([(rd, .inr (4, [.ref tp, .ref d, .ref ft, .ref bl, .int (nI (v4_10 + 1)), .int ca, .ref wk, .int (nI (v7_10 + 1)), .ref fl, .ref sr, .int (nI cnt), cv, .ref cl, .int (nI rw)])), (tp, .inr (8, [.ref tb, .int (nI L)])), (tb, .inl (κ 0, 800, .inl tf)), (d, .inl (κ 0, 6, .inl dl)), (wk, .inl (κ 1, 20, .inl g__12))] ++ []) H := hP
          have hD : va_D A ([(rd, .inr (4, [.ref tp, .ref d, .ref ft, .ref bl, .int (nI (v4_10 + 1)), .int ca, .ref wk, .int (nI (v7_10 + 1)), .ref fl, .ref sr, .int (nI cnt), cv, .ref cl, .int (nI rw)])), (tp, .inr (8, [.ref tb, .int (nI L)])), (tb, .inl (κ 0, 800, .inl tf)), (d, .inl (κ 0, 6, .inl dl)), (wk, .inl (κ 1, 20, .inl g__12))] ++ []) := hD
          refine lv_goto (tgt := 10) hx hb dX4_readQuoted_130 (by decide) ?_
          exact ih10 _ _ _ _ (by omega) ⟨(v4_10 + 1), (v7_10 + 1), g__12, (by omega), (by omega), (by omega), (by rw [h_15]; exact (qu_k (by omega) ex_2 (Or.inl a_6) ex_9 c_10 (by rw [lsF_len]; omega)).symm.trans hl10_3), h_14, rfl, hP, hD, hS, lv_sub hl [1] rfl⟩
        · have nc_11 := cv_nlt (a := v7_10) (b := 20) (by omega) (by omega) c_11
          refine lv_iconst (v := 5) hx hb dX4_readQuoted_113 (by decide) ?_
          exact et_iret hx hb hr hlk rfl hS (5, v4_10, v7_10, gwk_10) rfl ⟨(show v4_10 ≤ L from (by first | assumption | omega | rfl | exact Or.inl (by assumption) | exact Or.inr (by assumption))), (show aq ≤ v4_10 from (by first | assumption | omega | rfl | exact Or.inl (by assumption) | exact Or.inr (by assumption))), (show v7_10 ≤ 20 from (by first | assumption | omega | rfl | exact Or.inl (by assumption) | exact Or.inr (by assumption))), (show sb_Fit gwk_10 from (by first | assumption | omega | rfl | exact Or.inl (by assumption) | exact Or.inr (by assumption))), (show ((5 : Int32) = 0 ∧ quF tf dl (L - (aq + 1)) (aq + 1) [] = some (v4_10, lsF gwk_10 v7_10)) ∨ (¬ (5 : Int32) = 0 ∧ quF tf dl (L - (aq + 1)) (aq + 1) [] = none) from (Or.inr ⟨by decide, hl10_3.symm.trans (qu_f (by omega) ex_2 (Or.inl a_6) ex_9 c_10 (by rw [lsF_len]; omega))⟩))⟩ (subP0 hP [0, 1, 2, 3, 4] rfl) (hD.sub [0, 1, 2, 3, 4] (by decide) rfl) (Nat.le_of_ble_eq_true rfl) (Nat.le_of_ble_eq_true rfl) dX4_readQuoted_114
      · refine lv_aload_n hx hb dX4_readQuoted_62 rfl (lv_at hl 1 rfl) ?_
        refine lv_dup hx hb dX4_readQuoted_63 rfl ?_
        refine va_get (D := D) (ci := 4) (v := .int (nI v4_10)) (C := RX4) (T := TX4) (N := 14) hx hb hts inlX4 hown hK hP 0 rfl rfl 4 (by decide) (hts _ mw_71) (fun _ h9 => h9) rfl dX4_readQuoted_64 ?_
        refine lv_iconst (v := 1) hx hb dX4_readQuoted_67 (by decide) ?_
        refine lv_iadd hx hb dX4_readQuoted_68 ?_
        refine ki (v := (nI (v4_10 + 1))) (nI_add v4_10 1) ?_
        refine va_put (D := D) (ci := 4) (v := .int (nI (v4_10 + 1))) (ty := tyX4 4) (C := RX4) (T := TX4) (N := 14) hx hb hts inlX4 tyX4 tyX4_ok nmX4 hown hK hP hD hS 0 rfl rfl 4 (by decide) (hts _ mw_71) (fun _ h9 => h9) rfl (tyX4_ok 4 (by decide)) rfl rfl (Nat.le_of_ble_eq_true rfl) dX4_readQuoted_69 (fun H locs hP hD hS => ?_)
        have hP : va_P D vwCl ([(rd, .inr (4, [.ref tp, .ref d, .ref ft, .ref bl, .int (nI (v4_10 + 1)), .int ca, .ref wk, .int (nI v7_10), .ref fl, .ref sr, .int (nI cnt), cv, .ref cl, .int (nI rw)])), (tp, .inr (8, [.ref tb, .int (nI L)])), (tb, .inl (κ 0, 800, .inl tf)), (d, .inl (κ 0, 6, .inl dl)), (wk, .inl (κ 1, 20, .inl gwk_10))] ++ []) H := hP
        have hD : va_D A ([(rd, .inr (4, [.ref tp, .ref d, .ref ft, .ref bl, .int (nI (v4_10 + 1)), .int ca, .ref wk, .int (nI v7_10), .ref fl, .ref sr, .int (nI cnt), cv, .ref cl, .int (nI rw)])), (tp, .inr (8, [.ref tb, .int (nI L)])), (tb, .inl (κ 0, 800, .inl tf)), (d, .inl (κ 0, 6, .inl dl)), (wk, .inl (κ 1, 20, .inl gwk_10))] ++ []) := hD
        refine lv_aload_n hx hb dX4_readQuoted_72 rfl (lv_at hl 1 rfl) ?_
        refine va_get (D := D) (ci := 4) (v := .int (nI (v4_10 + 1))) (C := RX4) (T := TX4) (N := 14) hx hb hts inlX4 hown hK hP 0 rfl rfl 4 (by decide) (hts _ mw_71) (fun _ h9 => h9) rfl dX4_readQuoted_73 ?_
        refine lv_aload_n hx hb dX4_readQuoted_76 rfl (lv_at hl 1 rfl) ?_
        refine va_get (D := D) (ci := 4) (v := .ref tp) (C := RX4) (T := TX4) (N := 14) hx hb hts inlX4 hown hK hP 0 rfl rfl 0 (by decide) (hts _ mw_81) (fun _ h9 => h9) rfl dX4_readQuoted_77 ?_
        refine va_get (D := D) (ci := 8) (v := .int (nI L)) (C := RX8) (T := TX8) (N := 2) hx hb hts inlX8 hown hK hP 1 rfl rfl 1 (by decide) (hts _ mw_261) (fun _ h9 => h9) rfl dX4_readQuoted_80 ?_
        refine lv_icmp_ge (tgt := 102) hx hb dX4_readQuoted_83 (by decide) (fun c_16 => ?_) (fun c_16 => ?_)
        · have nc_16 := cv_le (a := L) (b := (v4_10 + 1)) (by omega) (by omega) c_16
          refine lv_iconst (v := 0) hx hb dX4_readQuoted_102 (by decide) ?_
          exact et_iret hx hb hr hlk rfl hS (0, v4_10 + 1, v7_10, gwk_10) rfl ⟨(show (v4_10 + 1) ≤ L from (by first | assumption | omega | rfl | exact Or.inl (by assumption) | exact Or.inr (by assumption))), (show aq ≤ (v4_10 + 1) from (by first | assumption | omega | rfl | exact Or.inl (by assumption) | exact Or.inr (by assumption))), (show v7_10 ≤ 20 from (by first | assumption | omega | rfl | exact Or.inl (by assumption) | exact Or.inr (by assumption))), (show sb_Fit gwk_10 from (by first | assumption | omega | rfl | exact Or.inl (by assumption) | exact Or.inr (by assumption))), (show ((0 : Int32) = 0 ∧ quF tf dl (L - (aq + 1)) (aq + 1) [] = some ((v4_10 + 1), lsF gwk_10 v7_10)) ∨ (¬ (0 : Int32) = 0 ∧ quF tf dl (L - (aq + 1)) (aq + 1) [] = none) from (Or.inl ⟨rfl, hl10_3.symm.trans (qu_q1 (by omega) ex_2 (Or.inl a_6) ex_9 c_10 (by omega))⟩))⟩ (subP0 hP [0, 1, 2, 3, 4] rfl) (hD.sub [0, 1, 2, 3, 4] (by decide) rfl) (Nat.le_of_ble_eq_true rfl) (Nat.le_of_ble_eq_true rfl) dX4_readQuoted_103
        · have nc_16 := cv_nle (a := L) (b := (v4_10 + 1)) (by omega) (by omega) c_16
          refine lv_aload_n hx hb dX4_readQuoted_86 rfl (lv_at hl 1 rfl) ?_
          refine va_get (D := D) (ci := 4) (v := .ref tp) (C := RX4) (T := TX4) (N := 14) hx hb hts inlX4 hown hK hP 0 rfl rfl 0 (by decide) (hts _ mw_81) (fun _ h9 => h9) rfl dX4_readQuoted_87 ?_
          refine va_get (D := D) (ci := 8) (v := .ref tb) (C := RX8) (T := TX8) (N := 2) hx hb hts inlX8 hown hK hP 1 rfl rfl 0 (by decide) (hts _ mw_266) (fun _ h9 => h9) rfl dX4_readQuoted_90 ?_
          refine lv_aload_n hx hb dX4_readQuoted_93 rfl (lv_at hl 1 rfl) ?_
          refine va_get (D := D) (ci := 4) (v := .int (nI (v4_10 + 1))) (C := RX4) (T := TX4) (N := 14) hx hb hts inlX4 hown hK hP 0 rfl rfl 4 (by decide) (hts _ mw_71) (fun _ h9 => h9) rfl dX4_readQuoted_94 ?_
          refine va_iald hx hb hK hP 2 0 rfl rfl (i := nI (v4_10 + 1)) (vp_in_nI (n := (v4_10 + 1)) (by omega) (by omega)) dX4_readQuoted_97 ?_
          refine kv (v := .int (tf (v4_10 + 1))) (by rw [nI_clamp (by omega)]) ?_
          obtain ⟨x_17, ex_17⟩ : ∃ y9 : Int32, tf (v4_10 + 1) = y9 := ⟨_, rfl⟩
          refine kv (v := .int x_17) (congrArg Value.int ex_17) ?_
          refine lv_iload_n hx hb dX4_readQuoted_98 rfl (lv_at hl 0 rfl) ?_
          refine lv_icmp_eq (tgt := 104) hx hb dX4_readQuoted_99 (by decide) (fun c_18 => ?_) (fun c_18 => ?_)
          · refine lv_aload_n hx hb dX4_readQuoted_104 rfl (lv_at hl 1 rfl) ?_
            refine va_get (D := D) (ci := 4) (v := .int (nI v7_10)) (C := RX4) (T := TX4) (N := 14) hx hb hts inlX4 hown hK hP 0 rfl rfl 7 (by decide) (hts _ mw_74) (fun _ h9 => h9) rfl dX4_readQuoted_105 ?_
            refine lv_bipush (v := 20) hx hb dX4_readQuoted_108 (by decide) ?_
            refine lv_icmp_lt (tgt := 115) hx hb dX4_readQuoted_110 (by decide) (fun c_19 => ?_) (fun c_19 => ?_)
            · have nc_19 := cv_lt (a := v7_10) (b := 20) (by omega) (by omega) c_19
              refine lv_aload_n hx hb dX4_readQuoted_115 rfl (lv_at hl 1 rfl) ?_
              refine lv_iload_n hx hb dX4_readQuoted_116 rfl (lv_at hl 0 rfl) ?_
              have hsg9 := sgB_i a_6
              refine et_VN (CR := [(tp, .inr (8, [.ref tb, .int (nI L)])), (tb, .inl (κ 0, 800, .inl tf)), (d, .inl (κ 0, 6, .inl dl))]) (As := [.int x_2]) (rest := []) hFX hKK hE hP hD hS hA (c_X4_keepByte_S l D κ κq rd tp d ft bl (v4_10 + 1) wk v7_10 fl sr cnt cl rw ca cv gwk_10 x_2 (by omega) hg10_0 (nb_of (by omega) (by omega))) 1 gV_X4_153 hdV_X4_keepByte ⟨Nat.le_of_ble_eq_true rfl, Nat.le_of_ble_eq_true rfl⟩ rfl rfl (Nat.le_of_ble_eq_true rfl) dX4_readQuoted_117 ⟨Nat.le_of_ble_eq_true rfl, Nat.le_of_ble_eq_true rfl⟩ hl.1 [0, 4] [1, 2, 3] rfl rfl (by decide) (by decide) (by decide) hP 0 4 rfl rfl rfl (fun g__20 H locs hp_21 hP hD hS => ?_)
              refine W.widen (k := 0) (n := 0) (Nat.le_refl _) (Nat.le_refl _) ?_
              replace hP : va_P D vwCl ([(rd, .inr (4, [.ref tp, .ref d, .ref ft, .ref bl, .int (nI (v4_10 + 1)), .int ca, .ref wk, .int (nI (v7_10 + 1)), .ref fl, .ref sr, .int (nI cnt), cv, .ref cl, .int (nI rw)])), (tp, .inr (8, [.ref tb, .int (nI L)])), (tb, .inl (κ 0, 800, .inl tf)), (d, .inl (κ 0, 6, .inl dl)), (wk, .inl (κ 1, 20, .inl g__20))] ++ []) H := subP (C := [(tp, .inr (8, [.ref tb, .int (nI L)])), (tb, .inl (κ 0, 800, .inl tf)), (d, .inl (κ 0, 6, .inl dl)), (rd, .inr (4, [.ref tp, .ref d, .ref ft, .ref bl, .int (nI (v4_10 + 1)), .int ca, .ref wk, .int (nI (v7_10 + 1)), .ref fl, .ref sr, .int (nI cnt), cv, .ref cl, .int (nI rw)])), (wk, .inl (κ 1, 20, .inl g__20))]) hP [3, 0, 1, 2, 4] rfl
              replace hD : va_D A ([(rd, .inr (4, [.ref tp, .ref d, .ref ft, .ref bl, .int (nI (v4_10 + 1)), .int ca, .ref wk, .int (nI (v7_10 + 1)), .ref fl, .ref sr, .int (nI cnt), cv, .ref cl, .int (nI rw)])), (tp, .inr (8, [.ref tb, .int (nI L)])), (tb, .inl (κ 0, 800, .inl tf)), (d, .inl (κ 0, 6, .inl dl)), (wk, .inl (κ 1, 20, .inl g__20))] ++ []) := subD (C := [(tp, .inr (8, [.ref tb, .int (nI L)])), (tb, .inl (κ 0, 800, .inl tf)), (d, .inl (κ 0, 6, .inl dl)), (rd, .inr (4, [.ref tp, .ref d, .ref ft, .ref bl, .int (nI (v4_10 + 1)), .int ca, .ref wk, .int (nI (v7_10 + 1)), .ref fl, .ref sr, .int (nI cnt), cv, .ref cl, .int (nI rw)])), (wk, .inl (κ 1, 20, .inl g__20))]) hD [3, 0, 1, 2, 4] (by decide) rfl
              replace hp_21 : sb_Fit g__20 ∧ lsF g__20 (v7_10 + 1) = lsF gwk_10 v7_10 ++ [x_2] := hp_21
              obtain ⟨h_22, h_23⟩ := hp_21
              refine W.eq (g2 := F0 m 120 ls []) rfl ?_
              refine lv_aload_n hx hb dX4_readQuoted_120 rfl (lv_at hl 1 rfl) ?_
              refine lv_dup hx hb dX4_readQuoted_121 rfl ?_
              refine va_get (D := D) (ci := 4) (v := .int (nI (v4_10 + 1))) (C := RX4) (T := TX4) (N := 14) hx hb hts inlX4 hown hK hP 0 rfl rfl 4 (by decide) (hts _ mw_71) (fun _ h9 => h9) rfl dX4_readQuoted_122 ?_
              refine lv_iconst (v := 1) hx hb dX4_readQuoted_125 (by decide) ?_
              refine lv_iadd hx hb dX4_readQuoted_126 ?_
              refine ki (v := (nI (v4_10 + 1 + 1))) (nI_add (v4_10 + 1) 1) ?_
              refine va_put (D := D) (ci := 4) (v := .int (nI (v4_10 + 1 + 1))) (ty := tyX4 4) (C := RX4) (T := TX4) (N := 14) hx hb hts inlX4 tyX4 tyX4_ok nmX4 hown hK hP hD hS 0 rfl rfl 4 (by decide) (hts _ mw_71) (fun _ h9 => h9) rfl (tyX4_ok 4 (by decide)) rfl rfl (Nat.le_of_ble_eq_true rfl) dX4_readQuoted_127 (fun H locs hP hD hS => ?_)
              have hP : va_P D vwCl ([(rd, .inr (4, [.ref tp, .ref d, .ref ft, .ref bl, .int (nI (v4_10 + 1 + 1)), .int ca, .ref wk, .int (nI (v7_10 + 1)), .ref fl, .ref sr, .int (nI cnt), cv, .ref cl, .int (nI rw)])), (tp, .inr (8, [.ref tb, .int (nI L)])), (tb, .inl (κ 0, 800, .inl tf)), (d, .inl (κ 0, 6, .inl dl)), (wk, .inl (κ 1, 20, .inl g__20))] ++ []) H := hP
              have hD : va_D A ([(rd, .inr (4, [.ref tp, .ref d, .ref ft, .ref bl, .int (nI (v4_10 + 1 + 1)), .int ca, .ref wk, .int (nI (v7_10 + 1)), .ref fl, .ref sr, .int (nI cnt), cv, .ref cl, .int (nI rw)])), (tp, .inr (8, [.ref tb, .int (nI L)])), (tb, .inl (κ 0, 800, .inl tf)), (d, .inl (κ 0, 6, .inl dl)), (wk, .inl (κ 1, 20, .inl g__20))] ++ []) := hD
              refine lv_goto (tgt := 10) hx hb dX4_readQuoted_130 (by decide) ?_
              exact ih10 _ _ _ _ (by omega) ⟨(v4_10 + 1 + 1), (v7_10 + 1), g__20, (by omega), (by omega), (by omega), (by rw [h_23]; exact (qu_q4 (by omega) ex_2 (Or.inl a_6) ex_9 c_10 ex_17 c_18 (by rw [lsF_len]; omega)).symm.trans hl10_3), h_22, rfl, hP, hD, hS, lv_sub hl [1] rfl⟩
            · have nc_19 := cv_nlt (a := v7_10) (b := 20) (by omega) (by omega) c_19
              refine lv_iconst (v := 5) hx hb dX4_readQuoted_113 (by decide) ?_
              exact et_iret hx hb hr hlk rfl hS (5, v4_10 + 1, v7_10, gwk_10) rfl ⟨(show (v4_10 + 1) ≤ L from (by first | assumption | omega | rfl | exact Or.inl (by assumption) | exact Or.inr (by assumption))), (show aq ≤ (v4_10 + 1) from (by first | assumption | omega | rfl | exact Or.inl (by assumption) | exact Or.inr (by assumption))), (show v7_10 ≤ 20 from (by first | assumption | omega | rfl | exact Or.inl (by assumption) | exact Or.inr (by assumption))), (show sb_Fit gwk_10 from (by first | assumption | omega | rfl | exact Or.inl (by assumption) | exact Or.inr (by assumption))), (show ((5 : Int32) = 0 ∧ quF tf dl (L - (aq + 1)) (aq + 1) [] = some ((v4_10 + 1), lsF gwk_10 v7_10)) ∨ (¬ (5 : Int32) = 0 ∧ quF tf dl (L - (aq + 1)) (aq + 1) [] = none) from (Or.inr ⟨by decide, hl10_3.symm.trans (qu_q3 (by omega) ex_2 (Or.inl a_6) ex_9 c_10 ex_17 c_18 (by rw [lsF_len]; omega))⟩))⟩ (subP0 hP [0, 1, 2, 3, 4] rfl) (hD.sub [0, 1, 2, 3, 4] (by decide) rfl) (Nat.le_of_ble_eq_true rfl) (Nat.le_of_ble_eq_true rfl) dX4_readQuoted_114
          · refine lv_iconst (v := 0) hx hb dX4_readQuoted_102 (by decide) ?_
            exact et_iret hx hb hr hlk rfl hS (0, v4_10 + 1, v7_10, gwk_10) rfl ⟨(show (v4_10 + 1) ≤ L from (by first | assumption | omega | rfl | exact Or.inl (by assumption) | exact Or.inr (by assumption))), (show aq ≤ (v4_10 + 1) from (by first | assumption | omega | rfl | exact Or.inl (by assumption) | exact Or.inr (by assumption))), (show v7_10 ≤ 20 from (by first | assumption | omega | rfl | exact Or.inl (by assumption) | exact Or.inr (by assumption))), (show sb_Fit gwk_10 from (by first | assumption | omega | rfl | exact Or.inl (by assumption) | exact Or.inr (by assumption))), (show ((0 : Int32) = 0 ∧ quF tf dl (L - (aq + 1)) (aq + 1) [] = some ((v4_10 + 1), lsF gwk_10 v7_10)) ∨ (¬ (0 : Int32) = 0 ∧ quF tf dl (L - (aq + 1)) (aq + 1) [] = none) from (Or.inl ⟨rfl, hl10_3.symm.trans (qu_q2 (by omega) ex_2 (Or.inl a_6) ex_9 c_10 ex_17 c_18)⟩))⟩ (subP0 hP [0, 1, 2, 3, 4] rfl) (hD.sub [0, 1, 2, 3, 4] (by decide) rfl) (Nat.le_of_ble_eq_true rfl) (Nat.le_of_ble_eq_true rfl) dX4_readQuoted_103
    · refine W.eq (g2 := F0 m 41 ls [.int 0]) rfl ?_
      refine lv_if_ne (tgt := 52) hx hb dX4_readQuoted_41 (by decide) (fun c_24 => absurd c_24 (by decide)) (fun c_24 => ?_)
      refine lv_iload_n hx hb dX4_readQuoted_44 rfl (lv_at hl 0 rfl) ?_
      refine lv_bipush (v := 10) hx hb dX4_readQuoted_45 (by decide) ?_
      refine lv_icmp_eq (tgt := 52) hx hb dX4_readQuoted_47 (by decide) (fun c_25 => ?_) (fun c_25 => ?_)
      · refine lv_iload_n hx hb dX4_readQuoted_52 rfl (lv_at hl 0 rfl) ?_
        refine lv_aload_n hx hb dX4_readQuoted_53 rfl (lv_at hl 1 rfl) ?_
        refine va_get (D := D) (ci := 4) (v := .ref d) (C := RX4) (T := TX4) (N := 14) hx hb hts inlX4 hown hK hP 0 rfl rfl 1 (by decide) (hts _ mw_82) (fun _ h9 => h9) rfl dX4_readQuoted_54 ?_
        refine lv_iconst (v := 1) hx hb dX4_readQuoted_57 (by decide) ?_
        refine va_iald hx hb hK hP 3 0 rfl rfl (i := 1) (vp_k (by decide)) dX4_readQuoted_58 ?_
        obtain ⟨x_26, ex_26⟩ : ∃ y9 : Int32, dl 1 = y9 := ⟨_, rfl⟩
        refine kv (v := .int x_26) (congrArg Value.int ex_26) ?_
        refine lv_icmp_ne (tgt := 104) hx hb dX4_readQuoted_59 (by decide) (fun c_27 => ?_) (fun c_27 => ?_)
        · refine lv_aload_n hx hb dX4_readQuoted_104 rfl (lv_at hl 1 rfl) ?_
          refine va_get (D := D) (ci := 4) (v := .int (nI v7_10)) (C := RX4) (T := TX4) (N := 14) hx hb hts inlX4 hown hK hP 0 rfl rfl 7 (by decide) (hts _ mw_74) (fun _ h9 => h9) rfl dX4_readQuoted_105 ?_
          refine lv_bipush (v := 20) hx hb dX4_readQuoted_108 (by decide) ?_
          refine lv_icmp_lt (tgt := 115) hx hb dX4_readQuoted_110 (by decide) (fun c_28 => ?_) (fun c_28 => ?_)
          · have nc_28 := cv_lt (a := v7_10) (b := 20) (by omega) (by omega) c_28
            refine lv_aload_n hx hb dX4_readQuoted_115 rfl (lv_at hl 1 rfl) ?_
            refine lv_iload_n hx hb dX4_readQuoted_116 rfl (lv_at hl 0 rfl) ?_
            have hsg9 : 0 ≤ x_2.toInt ∧ x_2.toInt ≤ 127 := by rw [c_25]; decide
            refine et_VN (CR := [(tp, .inr (8, [.ref tb, .int (nI L)])), (tb, .inl (κ 0, 800, .inl tf)), (d, .inl (κ 0, 6, .inl dl))]) (As := [.int x_2]) (rest := []) hFX hKK hE hP hD hS hA (c_X4_keepByte_S l D κ κq rd tp d ft bl v4_10 wk v7_10 fl sr cnt cl rw ca cv gwk_10 x_2 (by omega) hg10_0 (nb_of (by omega) (by omega))) 1 gV_X4_153 hdV_X4_keepByte ⟨Nat.le_of_ble_eq_true rfl, Nat.le_of_ble_eq_true rfl⟩ rfl rfl (Nat.le_of_ble_eq_true rfl) dX4_readQuoted_117 ⟨Nat.le_of_ble_eq_true rfl, Nat.le_of_ble_eq_true rfl⟩ hl.1 [0, 4] [1, 2, 3] rfl rfl (by decide) (by decide) (by decide) hP 0 4 rfl rfl rfl (fun g__29 H locs hp_30 hP hD hS => ?_)
            refine W.widen (k := 0) (n := 0) (Nat.le_refl _) (Nat.le_refl _) ?_
            replace hP : va_P D vwCl ([(rd, .inr (4, [.ref tp, .ref d, .ref ft, .ref bl, .int (nI v4_10), .int ca, .ref wk, .int (nI (v7_10 + 1)), .ref fl, .ref sr, .int (nI cnt), cv, .ref cl, .int (nI rw)])), (tp, .inr (8, [.ref tb, .int (nI L)])), (tb, .inl (κ 0, 800, .inl tf)), (d, .inl (κ 0, 6, .inl dl)), (wk, .inl (κ 1, 20, .inl g__29))] ++ []) H := subP (C := [(tp, .inr (8, [.ref tb, .int (nI L)])), (tb, .inl (κ 0, 800, .inl tf)), (d, .inl (κ 0, 6, .inl dl)), (rd, .inr (4, [.ref tp, .ref d, .ref ft, .ref bl, .int (nI v4_10), .int ca, .ref wk, .int (nI (v7_10 + 1)), .ref fl, .ref sr, .int (nI cnt), cv, .ref cl, .int (nI rw)])), (wk, .inl (κ 1, 20, .inl g__29))]) hP [3, 0, 1, 2, 4] rfl
            replace hD : va_D A ([(rd, .inr (4, [.ref tp, .ref d, .ref ft, .ref bl, .int (nI v4_10), .int ca, .ref wk, .int (nI (v7_10 + 1)), .ref fl, .ref sr, .int (nI cnt), cv, .ref cl, .int (nI rw)])), (tp, .inr (8, [.ref tb, .int (nI L)])), (tb, .inl (κ 0, 800, .inl tf)), (d, .inl (κ 0, 6, .inl dl)), (wk, .inl (κ 1, 20, .inl g__29))] ++ []) := subD (C := [(tp, .inr (8, [.ref tb, .int (nI L)])), (tb, .inl (κ 0, 800, .inl tf)), (d, .inl (κ 0, 6, .inl dl)), (rd, .inr (4, [.ref tp, .ref d, .ref ft, .ref bl, .int (nI v4_10), .int ca, .ref wk, .int (nI (v7_10 + 1)), .ref fl, .ref sr, .int (nI cnt), cv, .ref cl, .int (nI rw)])), (wk, .inl (κ 1, 20, .inl g__29))]) hD [3, 0, 1, 2, 4] (by decide) rfl
            replace hp_30 : sb_Fit g__29 ∧ lsF g__29 (v7_10 + 1) = lsF gwk_10 v7_10 ++ [x_2] := hp_30
            obtain ⟨h_31, h_32⟩ := hp_30
            refine W.eq (g2 := F0 m 120 ls []) rfl ?_
            refine lv_aload_n hx hb dX4_readQuoted_120 rfl (lv_at hl 1 rfl) ?_
            refine lv_dup hx hb dX4_readQuoted_121 rfl ?_
            refine va_get (D := D) (ci := 4) (v := .int (nI v4_10)) (C := RX4) (T := TX4) (N := 14) hx hb hts inlX4 hown hK hP 0 rfl rfl 4 (by decide) (hts _ mw_71) (fun _ h9 => h9) rfl dX4_readQuoted_122 ?_
            refine lv_iconst (v := 1) hx hb dX4_readQuoted_125 (by decide) ?_
            refine lv_iadd hx hb dX4_readQuoted_126 ?_
            refine ki (v := (nI (v4_10 + 1))) (nI_add v4_10 1) ?_
            refine va_put (D := D) (ci := 4) (v := .int (nI (v4_10 + 1))) (ty := tyX4 4) (C := RX4) (T := TX4) (N := 14) hx hb hts inlX4 tyX4 tyX4_ok nmX4 hown hK hP hD hS 0 rfl rfl 4 (by decide) (hts _ mw_71) (fun _ h9 => h9) rfl (tyX4_ok 4 (by decide)) rfl rfl (Nat.le_of_ble_eq_true rfl) dX4_readQuoted_127 (fun H locs hP hD hS => ?_)
            have hP : va_P D vwCl ([(rd, .inr (4, [.ref tp, .ref d, .ref ft, .ref bl, .int (nI (v4_10 + 1)), .int ca, .ref wk, .int (nI (v7_10 + 1)), .ref fl, .ref sr, .int (nI cnt), cv, .ref cl, .int (nI rw)])), (tp, .inr (8, [.ref tb, .int (nI L)])), (tb, .inl (κ 0, 800, .inl tf)), (d, .inl (κ 0, 6, .inl dl)), (wk, .inl (κ 1, 20, .inl g__29))] ++ []) H := hP
            have hD : va_D A ([(rd, .inr (4, [.ref tp, .ref d, .ref ft, .ref bl, .int (nI (v4_10 + 1)), .int ca, .ref wk, .int (nI (v7_10 + 1)), .ref fl, .ref sr, .int (nI cnt), cv, .ref cl, .int (nI rw)])), (tp, .inr (8, [.ref tb, .int (nI L)])), (tb, .inl (κ 0, 800, .inl tf)), (d, .inl (κ 0, 6, .inl dl)), (wk, .inl (κ 1, 20, .inl g__29))] ++ []) := hD
            refine lv_goto (tgt := 10) hx hb dX4_readQuoted_130 (by decide) ?_
            exact ih10 _ _ _ _ (by omega) ⟨(v4_10 + 1), (v7_10 + 1), g__29, (by omega), (by omega), (by omega), (by rw [h_32]; exact (qu_k (by omega) ex_2 (Or.inr c_25) ex_26 c_27 (by rw [lsF_len]; omega)).symm.trans hl10_3), h_31, rfl, hP, hD, hS, lv_sub hl [1] rfl⟩
          · have nc_28 := cv_nlt (a := v7_10) (b := 20) (by omega) (by omega) c_28
            refine lv_iconst (v := 5) hx hb dX4_readQuoted_113 (by decide) ?_
            exact et_iret hx hb hr hlk rfl hS (5, v4_10, v7_10, gwk_10) rfl ⟨(show v4_10 ≤ L from (by first | assumption | omega | rfl | exact Or.inl (by assumption) | exact Or.inr (by assumption))), (show aq ≤ v4_10 from (by first | assumption | omega | rfl | exact Or.inl (by assumption) | exact Or.inr (by assumption))), (show v7_10 ≤ 20 from (by first | assumption | omega | rfl | exact Or.inl (by assumption) | exact Or.inr (by assumption))), (show sb_Fit gwk_10 from (by first | assumption | omega | rfl | exact Or.inl (by assumption) | exact Or.inr (by assumption))), (show ((5 : Int32) = 0 ∧ quF tf dl (L - (aq + 1)) (aq + 1) [] = some (v4_10, lsF gwk_10 v7_10)) ∨ (¬ (5 : Int32) = 0 ∧ quF tf dl (L - (aq + 1)) (aq + 1) [] = none) from (Or.inr ⟨by decide, hl10_3.symm.trans (qu_f (by omega) ex_2 (Or.inr c_25) ex_26 c_27 (by rw [lsF_len]; omega))⟩))⟩ (subP0 hP [0, 1, 2, 3, 4] rfl) (hD.sub [0, 1, 2, 3, 4] (by decide) rfl) (Nat.le_of_ble_eq_true rfl) (Nat.le_of_ble_eq_true rfl) dX4_readQuoted_114
        · refine lv_aload_n hx hb dX4_readQuoted_62 rfl (lv_at hl 1 rfl) ?_
          refine lv_dup hx hb dX4_readQuoted_63 rfl ?_
          refine va_get (D := D) (ci := 4) (v := .int (nI v4_10)) (C := RX4) (T := TX4) (N := 14) hx hb hts inlX4 hown hK hP 0 rfl rfl 4 (by decide) (hts _ mw_71) (fun _ h9 => h9) rfl dX4_readQuoted_64 ?_
          refine lv_iconst (v := 1) hx hb dX4_readQuoted_67 (by decide) ?_
          refine lv_iadd hx hb dX4_readQuoted_68 ?_
          refine ki (v := (nI (v4_10 + 1))) (nI_add v4_10 1) ?_
          refine va_put (D := D) (ci := 4) (v := .int (nI (v4_10 + 1))) (ty := tyX4 4) (C := RX4) (T := TX4) (N := 14) hx hb hts inlX4 tyX4 tyX4_ok nmX4 hown hK hP hD hS 0 rfl rfl 4 (by decide) (hts _ mw_71) (fun _ h9 => h9) rfl (tyX4_ok 4 (by decide)) rfl rfl (Nat.le_of_ble_eq_true rfl) dX4_readQuoted_69 (fun H locs hP hD hS => ?_)
          have hP : va_P D vwCl ([(rd, .inr (4, [.ref tp, .ref d, .ref ft, .ref bl, .int (nI (v4_10 + 1)), .int ca, .ref wk, .int (nI v7_10), .ref fl, .ref sr, .int (nI cnt), cv, .ref cl, .int (nI rw)])), (tp, .inr (8, [.ref tb, .int (nI L)])), (tb, .inl (κ 0, 800, .inl tf)), (d, .inl (κ 0, 6, .inl dl)), (wk, .inl (κ 1, 20, .inl gwk_10))] ++ []) H := hP
          have hD : va_D A ([(rd, .inr (4, [.ref tp, .ref d, .ref ft, .ref bl, .int (nI (v4_10 + 1)), .int ca, .ref wk, .int (nI v7_10), .ref fl, .ref sr, .int (nI cnt), cv, .ref cl, .int (nI rw)])), (tp, .inr (8, [.ref tb, .int (nI L)])), (tb, .inl (κ 0, 800, .inl tf)), (d, .inl (κ 0, 6, .inl dl)), (wk, .inl (κ 1, 20, .inl gwk_10))] ++ []) := hD
          refine lv_aload_n hx hb dX4_readQuoted_72 rfl (lv_at hl 1 rfl) ?_
          refine va_get (D := D) (ci := 4) (v := .int (nI (v4_10 + 1))) (C := RX4) (T := TX4) (N := 14) hx hb hts inlX4 hown hK hP 0 rfl rfl 4 (by decide) (hts _ mw_71) (fun _ h9 => h9) rfl dX4_readQuoted_73 ?_
          refine lv_aload_n hx hb dX4_readQuoted_76 rfl (lv_at hl 1 rfl) ?_
          refine va_get (D := D) (ci := 4) (v := .ref tp) (C := RX4) (T := TX4) (N := 14) hx hb hts inlX4 hown hK hP 0 rfl rfl 0 (by decide) (hts _ mw_81) (fun _ h9 => h9) rfl dX4_readQuoted_77 ?_
          refine va_get (D := D) (ci := 8) (v := .int (nI L)) (C := RX8) (T := TX8) (N := 2) hx hb hts inlX8 hown hK hP 1 rfl rfl 1 (by decide) (hts _ mw_261) (fun _ h9 => h9) rfl dX4_readQuoted_80 ?_
          refine lv_icmp_ge (tgt := 102) hx hb dX4_readQuoted_83 (by decide) (fun c_33 => ?_) (fun c_33 => ?_)
          · have nc_33 := cv_le (a := L) (b := (v4_10 + 1)) (by omega) (by omega) c_33
            refine lv_iconst (v := 0) hx hb dX4_readQuoted_102 (by decide) ?_
            exact et_iret hx hb hr hlk rfl hS (0, v4_10 + 1, v7_10, gwk_10) rfl ⟨(show (v4_10 + 1) ≤ L from (by first | assumption | omega | rfl | exact Or.inl (by assumption) | exact Or.inr (by assumption))), (show aq ≤ (v4_10 + 1) from (by first | assumption | omega | rfl | exact Or.inl (by assumption) | exact Or.inr (by assumption))), (show v7_10 ≤ 20 from (by first | assumption | omega | rfl | exact Or.inl (by assumption) | exact Or.inr (by assumption))), (show sb_Fit gwk_10 from (by first | assumption | omega | rfl | exact Or.inl (by assumption) | exact Or.inr (by assumption))), (show ((0 : Int32) = 0 ∧ quF tf dl (L - (aq + 1)) (aq + 1) [] = some ((v4_10 + 1), lsF gwk_10 v7_10)) ∨ (¬ (0 : Int32) = 0 ∧ quF tf dl (L - (aq + 1)) (aq + 1) [] = none) from (Or.inl ⟨rfl, hl10_3.symm.trans (qu_q1 (by omega) ex_2 (Or.inr c_25) ex_26 c_27 (by omega))⟩))⟩ (subP0 hP [0, 1, 2, 3, 4] rfl) (hD.sub [0, 1, 2, 3, 4] (by decide) rfl) (Nat.le_of_ble_eq_true rfl) (Nat.le_of_ble_eq_true rfl) dX4_readQuoted_103
          · have nc_33 := cv_nle (a := L) (b := (v4_10 + 1)) (by omega) (by omega) c_33
            refine lv_aload_n hx hb dX4_readQuoted_86 rfl (lv_at hl 1 rfl) ?_
            refine va_get (D := D) (ci := 4) (v := .ref tp) (C := RX4) (T := TX4) (N := 14) hx hb hts inlX4 hown hK hP 0 rfl rfl 0 (by decide) (hts _ mw_81) (fun _ h9 => h9) rfl dX4_readQuoted_87 ?_
            refine va_get (D := D) (ci := 8) (v := .ref tb) (C := RX8) (T := TX8) (N := 2) hx hb hts inlX8 hown hK hP 1 rfl rfl 0 (by decide) (hts _ mw_266) (fun _ h9 => h9) rfl dX4_readQuoted_90 ?_
            refine lv_aload_n hx hb dX4_readQuoted_93 rfl (lv_at hl 1 rfl) ?_
            refine va_get (D := D) (ci := 4) (v := .int (nI (v4_10 + 1))) (C := RX4) (T := TX4) (N := 14) hx hb hts inlX4 hown hK hP 0 rfl rfl 4 (by decide) (hts _ mw_71) (fun _ h9 => h9) rfl dX4_readQuoted_94 ?_
            refine va_iald hx hb hK hP 2 0 rfl rfl (i := nI (v4_10 + 1)) (vp_in_nI (n := (v4_10 + 1)) (by omega) (by omega)) dX4_readQuoted_97 ?_
            refine kv (v := .int (tf (v4_10 + 1))) (by rw [nI_clamp (by omega)]) ?_
            obtain ⟨x_34, ex_34⟩ : ∃ y9 : Int32, tf (v4_10 + 1) = y9 := ⟨_, rfl⟩
            refine kv (v := .int x_34) (congrArg Value.int ex_34) ?_
            refine lv_iload_n hx hb dX4_readQuoted_98 rfl (lv_at hl 0 rfl) ?_
            refine lv_icmp_eq (tgt := 104) hx hb dX4_readQuoted_99 (by decide) (fun c_35 => ?_) (fun c_35 => ?_)
            · refine lv_aload_n hx hb dX4_readQuoted_104 rfl (lv_at hl 1 rfl) ?_
              refine va_get (D := D) (ci := 4) (v := .int (nI v7_10)) (C := RX4) (T := TX4) (N := 14) hx hb hts inlX4 hown hK hP 0 rfl rfl 7 (by decide) (hts _ mw_74) (fun _ h9 => h9) rfl dX4_readQuoted_105 ?_
              refine lv_bipush (v := 20) hx hb dX4_readQuoted_108 (by decide) ?_
              refine lv_icmp_lt (tgt := 115) hx hb dX4_readQuoted_110 (by decide) (fun c_36 => ?_) (fun c_36 => ?_)
              · have nc_36 := cv_lt (a := v7_10) (b := 20) (by omega) (by omega) c_36
                refine lv_aload_n hx hb dX4_readQuoted_115 rfl (lv_at hl 1 rfl) ?_
                refine lv_iload_n hx hb dX4_readQuoted_116 rfl (lv_at hl 0 rfl) ?_
                have hsg9 : 0 ≤ x_2.toInt ∧ x_2.toInt ≤ 127 := by rw [c_25]; decide
                refine et_VN (CR := [(tp, .inr (8, [.ref tb, .int (nI L)])), (tb, .inl (κ 0, 800, .inl tf)), (d, .inl (κ 0, 6, .inl dl))]) (As := [.int x_2]) (rest := []) hFX hKK hE hP hD hS hA (c_X4_keepByte_S l D κ κq rd tp d ft bl (v4_10 + 1) wk v7_10 fl sr cnt cl rw ca cv gwk_10 x_2 (by omega) hg10_0 (nb_of (by omega) (by omega))) 1 gV_X4_153 hdV_X4_keepByte ⟨Nat.le_of_ble_eq_true rfl, Nat.le_of_ble_eq_true rfl⟩ rfl rfl (Nat.le_of_ble_eq_true rfl) dX4_readQuoted_117 ⟨Nat.le_of_ble_eq_true rfl, Nat.le_of_ble_eq_true rfl⟩ hl.1 [0, 4] [1, 2, 3] rfl rfl (by decide) (by decide) (by decide) hP 0 4 rfl rfl rfl (fun g__37 H locs hp_38 hP hD hS => ?_)
                refine W.widen (k := 0) (n := 0) (Nat.le_refl _) (Nat.le_refl _) ?_
                replace hP : va_P D vwCl ([(rd, .inr (4, [.ref tp, .ref d, .ref ft, .ref bl, .int (nI (v4_10 + 1)), .int ca, .ref wk, .int (nI (v7_10 + 1)), .ref fl, .ref sr, .int (nI cnt), cv, .ref cl, .int (nI rw)])), (tp, .inr (8, [.ref tb, .int (nI L)])), (tb, .inl (κ 0, 800, .inl tf)), (d, .inl (κ 0, 6, .inl dl)), (wk, .inl (κ 1, 20, .inl g__37))] ++ []) H := subP (C := [(tp, .inr (8, [.ref tb, .int (nI L)])), (tb, .inl (κ 0, 800, .inl tf)), (d, .inl (κ 0, 6, .inl dl)), (rd, .inr (4, [.ref tp, .ref d, .ref ft, .ref bl, .int (nI (v4_10 + 1)), .int ca, .ref wk, .int (nI (v7_10 + 1)), .ref fl, .ref sr, .int (nI cnt), cv, .ref cl, .int (nI rw)])), (wk, .inl (κ 1, 20, .inl g__37))]) hP [3, 0, 1, 2, 4] rfl
                replace hD : va_D A ([(rd, .inr (4, [.ref tp, .ref d, .ref ft, .ref bl, .int (nI (v4_10 + 1)), .int ca, .ref wk, .int (nI (v7_10 + 1)), .ref fl, .ref sr, .int (nI cnt), cv, .ref cl, .int (nI rw)])), (tp, .inr (8, [.ref tb, .int (nI L)])), (tb, .inl (κ 0, 800, .inl tf)), (d, .inl (κ 0, 6, .inl dl)), (wk, .inl (κ 1, 20, .inl g__37))] ++ []) := subD (C := [(tp, .inr (8, [.ref tb, .int (nI L)])), (tb, .inl (κ 0, 800, .inl tf)), (d, .inl (κ 0, 6, .inl dl)), (rd, .inr (4, [.ref tp, .ref d, .ref ft, .ref bl, .int (nI (v4_10 + 1)), .int ca, .ref wk, .int (nI (v7_10 + 1)), .ref fl, .ref sr, .int (nI cnt), cv, .ref cl, .int (nI rw)])), (wk, .inl (κ 1, 20, .inl g__37))]) hD [3, 0, 1, 2, 4] (by decide) rfl
                replace hp_38 : sb_Fit g__37 ∧ lsF g__37 (v7_10 + 1) = lsF gwk_10 v7_10 ++ [x_2] := hp_38
                obtain ⟨h_39, h_40⟩ := hp_38
                refine W.eq (g2 := F0 m 120 ls []) rfl ?_
                refine lv_aload_n hx hb dX4_readQuoted_120 rfl (lv_at hl 1 rfl) ?_
                refine lv_dup hx hb dX4_readQuoted_121 rfl ?_
                refine va_get (D := D) (ci := 4) (v := .int (nI (v4_10 + 1))) (C := RX4) (T := TX4) (N := 14) hx hb hts inlX4 hown hK hP 0 rfl rfl 4 (by decide) (hts _ mw_71) (fun _ h9 => h9) rfl dX4_readQuoted_122 ?_
                refine lv_iconst (v := 1) hx hb dX4_readQuoted_125 (by decide) ?_
                refine lv_iadd hx hb dX4_readQuoted_126 ?_
                refine ki (v := (nI (v4_10 + 1 + 1))) (nI_add (v4_10 + 1) 1) ?_
                refine va_put (D := D) (ci := 4) (v := .int (nI (v4_10 + 1 + 1))) (ty := tyX4 4) (C := RX4) (T := TX4) (N := 14) hx hb hts inlX4 tyX4 tyX4_ok nmX4 hown hK hP hD hS 0 rfl rfl 4 (by decide) (hts _ mw_71) (fun _ h9 => h9) rfl (tyX4_ok 4 (by decide)) rfl rfl (Nat.le_of_ble_eq_true rfl) dX4_readQuoted_127 (fun H locs hP hD hS => ?_)
                have hP : va_P D vwCl ([(rd, .inr (4, [.ref tp, .ref d, .ref ft, .ref bl, .int (nI (v4_10 + 1 + 1)), .int ca, .ref wk, .int (nI (v7_10 + 1)), .ref fl, .ref sr, .int (nI cnt), cv, .ref cl, .int (nI rw)])), (tp, .inr (8, [.ref tb, .int (nI L)])), (tb, .inl (κ 0, 800, .inl tf)), (d, .inl (κ 0, 6, .inl dl)), (wk, .inl (κ 1, 20, .inl g__37))] ++ []) H := hP
                have hD : va_D A ([(rd, .inr (4, [.ref tp, .ref d, .ref ft, .ref bl, .int (nI (v4_10 + 1 + 1)), .int ca, .ref wk, .int (nI (v7_10 + 1)), .ref fl, .ref sr, .int (nI cnt), cv, .ref cl, .int (nI rw)])), (tp, .inr (8, [.ref tb, .int (nI L)])), (tb, .inl (κ 0, 800, .inl tf)), (d, .inl (κ 0, 6, .inl dl)), (wk, .inl (κ 1, 20, .inl g__37))] ++ []) := hD
                refine lv_goto (tgt := 10) hx hb dX4_readQuoted_130 (by decide) ?_
                exact ih10 _ _ _ _ (by omega) ⟨(v4_10 + 1 + 1), (v7_10 + 1), g__37, (by omega), (by omega), (by omega), (by rw [h_40]; exact (qu_q4 (by omega) ex_2 (Or.inr c_25) ex_26 c_27 ex_34 c_35 (by rw [lsF_len]; omega)).symm.trans hl10_3), h_39, rfl, hP, hD, hS, lv_sub hl [1] rfl⟩
              · have nc_36 := cv_nlt (a := v7_10) (b := 20) (by omega) (by omega) c_36
                refine lv_iconst (v := 5) hx hb dX4_readQuoted_113 (by decide) ?_
                exact et_iret hx hb hr hlk rfl hS (5, v4_10 + 1, v7_10, gwk_10) rfl ⟨(show (v4_10 + 1) ≤ L from (by first | assumption | omega | rfl | exact Or.inl (by assumption) | exact Or.inr (by assumption))), (show aq ≤ (v4_10 + 1) from (by first | assumption | omega | rfl | exact Or.inl (by assumption) | exact Or.inr (by assumption))), (show v7_10 ≤ 20 from (by first | assumption | omega | rfl | exact Or.inl (by assumption) | exact Or.inr (by assumption))), (show sb_Fit gwk_10 from (by first | assumption | omega | rfl | exact Or.inl (by assumption) | exact Or.inr (by assumption))), (show ((5 : Int32) = 0 ∧ quF tf dl (L - (aq + 1)) (aq + 1) [] = some ((v4_10 + 1), lsF gwk_10 v7_10)) ∨ (¬ (5 : Int32) = 0 ∧ quF tf dl (L - (aq + 1)) (aq + 1) [] = none) from (Or.inr ⟨by decide, hl10_3.symm.trans (qu_q3 (by omega) ex_2 (Or.inr c_25) ex_26 c_27 ex_34 c_35 (by rw [lsF_len]; omega))⟩))⟩ (subP0 hP [0, 1, 2, 3, 4] rfl) (hD.sub [0, 1, 2, 3, 4] (by decide) rfl) (Nat.le_of_ble_eq_true rfl) (Nat.le_of_ble_eq_true rfl) dX4_readQuoted_114
            · refine lv_iconst (v := 0) hx hb dX4_readQuoted_102 (by decide) ?_
              exact et_iret hx hb hr hlk rfl hS (0, v4_10 + 1, v7_10, gwk_10) rfl ⟨(show (v4_10 + 1) ≤ L from (by first | assumption | omega | rfl | exact Or.inl (by assumption) | exact Or.inr (by assumption))), (show aq ≤ (v4_10 + 1) from (by first | assumption | omega | rfl | exact Or.inl (by assumption) | exact Or.inr (by assumption))), (show v7_10 ≤ 20 from (by first | assumption | omega | rfl | exact Or.inl (by assumption) | exact Or.inr (by assumption))), (show sb_Fit gwk_10 from (by first | assumption | omega | rfl | exact Or.inl (by assumption) | exact Or.inr (by assumption))), (show ((0 : Int32) = 0 ∧ quF tf dl (L - (aq + 1)) (aq + 1) [] = some ((v4_10 + 1), lsF gwk_10 v7_10)) ∨ (¬ (0 : Int32) = 0 ∧ quF tf dl (L - (aq + 1)) (aq + 1) [] = none) from (Or.inl ⟨rfl, hl10_3.symm.trans (qu_q2 (by omega) ex_2 (Or.inr c_25) ex_26 c_27 ex_34 c_35)⟩))⟩ (subP0 hP [0, 1, 2, 3, 4] rfl) (hD.sub [0, 1, 2, 3, 4] (by decide) rfl) (Nat.le_of_ble_eq_true rfl) (Nat.le_of_ble_eq_true rfl) dX4_readQuoted_103
      · refine lv_iconst (v := 1) hx hb dX4_readQuoted_50 (by decide) ?_
        exact et_iret hx hb hr hlk rfl hS (1, v4_10, v7_10, gwk_10) rfl ⟨(show v4_10 ≤ L from (by first | assumption | omega | rfl | exact Or.inl (by assumption) | exact Or.inr (by assumption))), (show aq ≤ v4_10 from (by first | assumption | omega | rfl | exact Or.inl (by assumption) | exact Or.inr (by assumption))), (show v7_10 ≤ 20 from (by first | assumption | omega | rfl | exact Or.inl (by assumption) | exact Or.inr (by assumption))), (show sb_Fit gwk_10 from (by first | assumption | omega | rfl | exact Or.inl (by assumption) | exact Or.inr (by assumption))), (show ((1 : Int32) = 0 ∧ quF tf dl (L - (aq + 1)) (aq + 1) [] = some (v4_10, lsF gwk_10 v7_10)) ∨ (¬ (1 : Int32) = 0 ∧ quF tf dl (L - (aq + 1)) (aq + 1) [] = none) from (Or.inr ⟨by decide, hl10_3.symm.trans (qu_sg (by omega) ex_2 a_7 c_25)⟩))⟩ (subP0 hP [0, 1, 2, 3, 4] rfl) (hD.sub [0, 1, 2, 3, 4] (by decide) rfl) (Nat.le_of_ble_eq_true rfl) (Nat.le_of_ble_eq_true rfl) dX4_readQuoted_51
set_option maxHeartbeats 4000000 in
set_option maxRecDepth 100000 in
theorem c_X4_checkBehindQuote_S (l : Launch) (D : va_G) (κ : Nat → ClassId) (κq : Nat → Nat) (rd : Nat) (tp : Nat) (d : Nat) (ft : Nat) (bl : Nat) (aq : Nat) (wk : Nat) (sz : Nat) (fl : Nat) (sr : Nat) (cnt : Nat) (cl : Nat) (rw : Nat) (ca : Int32) (cv : Value) (tb : Nat) (L : Nat) (tf : Nat → Int32) (dl : Nat → Int32) (a0 : List Int32) (hL8 : L ≤ 800) (hat : aq ≤ L) : Et l yX4_checkBehindQuote (wl yX4_checkBehindQuote cX4_checkBehindQuote 2 (some .int)) { frames := 1, cells := 0, slots := 0, locals := 20 } D κ κq [.ref rd] [(rd, .inr (4, [.ref tp, .ref d, .ref ft, .ref bl, .int (nI aq), .int ca, .ref wk, .int (nI sz), .ref fl, .ref sr, .int (nI cnt), cv, .ref cl, .int (nI rw)])), (tp, .inr (8, [.ref tb, .int (nI L)])), (tb, .inl (κ 0, 800, .inl tf)), (d, .inl (κ 0, 6, .inl dl))] (fun u9 : Int32 × Nat => some (.int u9.1)) (fun u9 : Int32 × Nat => u9.2 ≤ L ∧ aq ≤ u9.2 ∧ ((u9.1 = 0 ∧ bhF tf dl L aq a0 = some (u9.2, a0)) ∨ (¬ u9.1 = 0 ∧ bhF tf dl L aq a0 = none))) (fun u9 : Int32 × Nat => [(rd, .inr (4, [.ref tp, .ref d, .ref ft, .ref bl, .int (nI u9.2), .int ca, .ref wk, .int (nI sz), .ref fl, .ref sr, .int (nI cnt), cv, .ref cl, .int (nI rw)])), (tp, .inr (8, [.ref tb, .int (nI L)])), (tb, .inl (κ 0, 800, .inl tf)), (d, .inl (κ 0, 6, .inl dl))]) := by
  refine et_of (by decide +kernel) (Nat.le_of_ble_eq_true rfl) ?_
  intro p e s m args below meth c A ls hx hb hr hml hts hown hlk hin hKK hK hA hP hD hS hE hl
  have hS : va_S A s.heap s.heap [] := hS
  have hP : va_P D vwCl ([(rd, .inr (4, [.ref tp, .ref d, .ref ft, .ref bl, .int (nI aq), .int ca, .ref wk, .int (nI sz), .ref fl, .ref sr, .int (nI cnt), cv, .ref cl, .int (nI rw)])), (tp, .inr (8, [.ref tb, .int (nI L)])), (tb, .inl (κ 0, 800, .inl tf)), (d, .inl (κ 0, 6, .inl dl))] ++ []) s.heap := hP
  have hD : va_D A ([(rd, .inr (4, [.ref tp, .ref d, .ref ft, .ref bl, .int (nI aq), .int ca, .ref wk, .int (nI sz), .ref fl, .ref sr, .int (nI cnt), cv, .ref cl, .int (nI rw)])), (tp, .inr (8, [.ref tb, .int (nI L)])), (tb, .inl (κ 0, 800, .inl tf)), (d, .inl (κ 0, 6, .inl dl))] ++ []) := hD
  have hFX : FX p s m args c cX4_checkBehindQuote 2 RX4 := ⟨hx, hb, hml, hown, hts⟩
  have hl : lv_has ls 2 [(0, .ref rd)] := hl
  refine lv_aload_n hx hb dX4_checkBehindQuote_0 rfl (lv_at hl 0 rfl) ?_
  refine et_VN (CR := []) (As := []) (rest := []) hFX hKK hE hP hD hS hA (c_X4_skipBlanks_S l D κ κq rd tp d ft bl aq wk sz fl sr cnt cl rw ca cv tb L tf dl (by omega) (by omega)) 0 gV_X4_141 hdV_X4_skipBlanks ⟨Nat.le_of_ble_eq_true rfl, Nat.le_of_ble_eq_true rfl⟩ rfl rfl (Nat.le_of_ble_eq_true rfl) dX4_checkBehindQuote_1 ⟨Nat.le_of_ble_eq_true rfl, Nat.le_of_ble_eq_true rfl⟩ hl.1 [0, 1, 2, 3] [] rfl rfl (by decide) (by decide) (by decide) hP 0 4 rfl rfl rfl (fun y__1 H locs hp_2 hP hD hS => ?_)
  refine W.widen (k := 0) (n := 0) (Nat.le_refl _) (Nat.le_refl _) ?_
  replace hP : va_P D vwCl ([(rd, .inr (4, [.ref tp, .ref d, .ref ft, .ref bl, .int (nI y__1), .int ca, .ref wk, .int (nI sz), .ref fl, .ref sr, .int (nI cnt), cv, .ref cl, .int (nI rw)])), (tp, .inr (8, [.ref tb, .int (nI L)])), (tb, .inl (κ 0, 800, .inl tf)), (d, .inl (κ 0, 6, .inl dl))] ++ []) H := subP (C := [(rd, .inr (4, [.ref tp, .ref d, .ref ft, .ref bl, .int (nI y__1), .int ca, .ref wk, .int (nI sz), .ref fl, .ref sr, .int (nI cnt), cv, .ref cl, .int (nI rw)])), (tp, .inr (8, [.ref tb, .int (nI L)])), (tb, .inl (κ 0, 800, .inl tf)), (d, .inl (κ 0, 6, .inl dl))]) hP [0, 1, 2, 3] rfl
  replace hD : va_D A ([(rd, .inr (4, [.ref tp, .ref d, .ref ft, .ref bl, .int (nI y__1), .int ca, .ref wk, .int (nI sz), .ref fl, .ref sr, .int (nI cnt), cv, .ref cl, .int (nI rw)])), (tp, .inr (8, [.ref tb, .int (nI L)])), (tb, .inl (κ 0, 800, .inl tf)), (d, .inl (κ 0, 6, .inl dl))] ++ []) := subD (C := [(rd, .inr (4, [.ref tp, .ref d, .ref ft, .ref bl, .int (nI y__1), .int ca, .ref wk, .int (nI sz), .ref fl, .ref sr, .int (nI cnt), cv, .ref cl, .int (nI rw)])), (tp, .inr (8, [.ref tb, .int (nI L)])), (tb, .inl (κ 0, 800, .inl tf)), (d, .inl (κ 0, 6, .inl dl))]) hD [0, 1, 2, 3] (by decide) rfl
  replace hp_2 : y__1 ≤ L ∧ aq ≤ y__1 ∧ y__1 = skF tf dl (L - aq) aq := hp_2
  obtain ⟨h_3, h_4, h_5⟩ := hp_2
  refine W.eq (g2 := F0 m 4 ls []) rfl ?_
  refine lv_aload_n hx hb dX4_checkBehindQuote_4 rfl (lv_at hl 0 rfl) ?_
  refine va_get (D := D) (ci := 4) (v := .int (nI y__1)) (C := RX4) (T := TX4) (N := 14) hx hb hts inlX4 hown hK hP 0 rfl rfl 4 (by decide) (hts _ mw_71) (fun _ h9 => h9) rfl dX4_checkBehindQuote_5 ?_
  refine lv_aload_n hx hb dX4_checkBehindQuote_8 rfl (lv_at hl 0 rfl) ?_
  refine va_get (D := D) (ci := 4) (v := .ref tp) (C := RX4) (T := TX4) (N := 14) hx hb hts inlX4 hown hK hP 0 rfl rfl 0 (by decide) (hts _ mw_81) (fun _ h9 => h9) rfl dX4_checkBehindQuote_9 ?_
  refine va_get (D := D) (ci := 8) (v := .int (nI L)) (C := RX8) (T := TX8) (N := 2) hx hb hts inlX8 hown hK hP 1 rfl rfl 1 (by decide) (hts _ mw_261) (fun _ h9 => h9) rfl dX4_checkBehindQuote_12 ?_
  refine lv_icmp_lt (tgt := 20) hx hb dX4_checkBehindQuote_15 (by decide) (fun c_6 => ?_) (fun c_6 => ?_)
  · have nc_6 := cv_lt (a := y__1) (b := L) (by omega) (by omega) c_6
    refine lv_aload_n hx hb dX4_checkBehindQuote_20 rfl (lv_at hl 0 rfl) ?_
    refine va_get (D := D) (ci := 4) (v := .ref tp) (C := RX4) (T := TX4) (N := 14) hx hb hts inlX4 hown hK hP 0 rfl rfl 0 (by decide) (hts _ mw_81) (fun _ h9 => h9) rfl dX4_checkBehindQuote_21 ?_
    refine va_get (D := D) (ci := 8) (v := .ref tb) (C := RX8) (T := TX8) (N := 2) hx hb hts inlX8 hown hK hP 1 rfl rfl 0 (by decide) (hts _ mw_266) (fun _ h9 => h9) rfl dX4_checkBehindQuote_24 ?_
    refine lv_aload_n hx hb dX4_checkBehindQuote_27 rfl (lv_at hl 0 rfl) ?_
    refine va_get (D := D) (ci := 4) (v := .int (nI y__1)) (C := RX4) (T := TX4) (N := 14) hx hb hts inlX4 hown hK hP 0 rfl rfl 4 (by decide) (hts _ mw_71) (fun _ h9 => h9) rfl dX4_checkBehindQuote_28 ?_
    refine va_iald hx hb hK hP 2 0 rfl rfl (i := nI y__1) (vp_in_nI (n := y__1) (by omega) (by omega)) dX4_checkBehindQuote_31 ?_
    refine kv (v := .int (tf y__1)) (by rw [nI_clamp (by omega)]) ?_
    obtain ⟨x_7, ex_7⟩ : ∃ y9 : Int32, tf y__1 = y9 := ⟨_, rfl⟩
    refine kv (v := .int x_7) (congrArg Value.int ex_7) ?_
    refine lv_istore_n (lv' := [(1, .int x_7), (0, .ref rd)]) hx hb dX4_checkBehindQuote_32 rfl hl (by decide) rfl (fun ls hl => ?_)
    refine lv_iload_n hx hb dX4_checkBehindQuote_33 rfl (lv_at hl 0 rfl) ?_
    refine lv_aload_n hx hb dX4_checkBehindQuote_34 rfl (lv_at hl 1 rfl) ?_
    refine va_get (D := D) (ci := 4) (v := .ref d) (C := RX4) (T := TX4) (N := 14) hx hb hts inlX4 hown hK hP 0 rfl rfl 1 (by decide) (hts _ mw_82) (fun _ h9 => h9) rfl dX4_checkBehindQuote_35 ?_
    refine lv_iconst (v := 0) hx hb dX4_checkBehindQuote_38 (by decide) ?_
    refine va_iald hx hb hK hP 3 0 rfl rfl (i := 0) (vp_k (by decide)) dX4_checkBehindQuote_39 ?_
    obtain ⟨x_8, ex_8⟩ : ∃ y9 : Int32, dl 0 = y9 := ⟨_, rfl⟩
    refine kv (v := .int x_8) (congrArg Value.int ex_8) ?_
    refine lv_icmp_eq (tgt := 49) hx hb dX4_checkBehindQuote_40 (by decide) (fun c_9 => ?_) (fun c_9 => ?_)
    · refine lv_iconst (v := 0) hx hb dX4_checkBehindQuote_49 (by decide) ?_
      exact et_iret hx hb hr hlk rfl hS (0, y__1) rfl ⟨(show y__1 ≤ L from (by first | assumption | omega | rfl | exact Or.inl (by assumption) | exact Or.inr (by assumption))), (show aq ≤ y__1 from (by first | assumption | omega | rfl | exact Or.inl (by assumption) | exact Or.inr (by assumption))), (show ((0 : Int32) = 0 ∧ bhF tf dl L aq a0 = some (y__1, a0)) ∨ (¬ (0 : Int32) = 0 ∧ bhF tf dl L aq a0 = none) from (Or.inl ⟨rfl, bh_2 h_5 ex_7 ex_8 c_9⟩))⟩ (subP0 hP [0, 1, 2, 3] rfl) (hD.sub [0, 1, 2, 3] (by decide) rfl) (Nat.le_of_ble_eq_true rfl) (Nat.le_of_ble_eq_true rfl) dX4_checkBehindQuote_50
    · refine lv_iload_n hx hb dX4_checkBehindQuote_43 rfl (lv_at hl 0 rfl) ?_
      refine lv_bipush (v := 10) hx hb dX4_checkBehindQuote_44 (by decide) ?_
      refine lv_icmp_ne (tgt := 51) hx hb dX4_checkBehindQuote_46 (by decide) (fun c_10 => ?_) (fun c_10 => ?_)
      · refine lv_iload_n hx hb dX4_checkBehindQuote_51 rfl (lv_at hl 0 rfl) ?_
        refine er_S (As := [.int x_7]) (rest := []) hFX hKK hE hS (c_X8_isSign l D κ κq x_7) 1 gS_X4_115 hdS_X8_isSign rfl rfl ⟨Nat.le_of_ble_eq_true rfl, Nat.le_of_ble_eq_true rfl⟩ rfl rfl (Nat.le_of_ble_eq_true rfl) dX4_checkBehindQuote_52 ⟨Nat.le_of_ble_eq_true rfl, Nat.le_of_ble_eq_true rfl⟩ hl.1 (subP0 hP [] rfl) (fun r__11 hp_12 => ?_)
        replace hp_12 : ((r__11 = 1) ∨ (r__11 = 0)) := hp_12
        have ha_13 := hp_12
        clear hp_12
        rcases ha_13 with rfl | rfl
        · refine W.eq (g2 := F0 m 55 ls [.int 1]) rfl ?_
          refine lv_if_eq (tgt := 62) hx hb dX4_checkBehindQuote_55 (by decide) (fun c_14 => absurd c_14 (by decide)) (fun c_14 => ?_)
          refine lv_iconst (v := 3) hx hb dX4_checkBehindQuote_58 (by decide) ?_
          refine lv_goto (tgt := 63) hx hb dX4_checkBehindQuote_59 (by decide) ?_
          exact et_iret hx hb hr hlk rfl hS (3, y__1) rfl ⟨(show y__1 ≤ L from (by first | assumption | omega | rfl | exact Or.inl (by assumption) | exact Or.inr (by assumption))), (show aq ≤ y__1 from (by first | assumption | omega | rfl | exact Or.inl (by assumption) | exact Or.inr (by assumption))), (show ((3 : Int32) = 0 ∧ bhF tf dl L aq a0 = some (y__1, a0)) ∨ (¬ (3 : Int32) = 0 ∧ bhF tf dl L aq a0 = none) from (Or.inr ⟨by decide, bh_4 h_5 (by omega) ex_7 ex_8 c_9 c_10⟩))⟩ (subP0 hP [0, 1, 2, 3] rfl) (hD.sub [0, 1, 2, 3] (by decide) rfl) (Nat.le_of_ble_eq_true rfl) (Nat.le_of_ble_eq_true rfl) dX4_checkBehindQuote_63
        · refine W.eq (g2 := F0 m 55 ls [.int 0]) rfl ?_
          refine lv_if_eq (tgt := 62) hx hb dX4_checkBehindQuote_55 (by decide) (fun c_15 => ?_) (fun c_15 => absurd (by decide) c_15)
          refine lv_iconst (v := 1) hx hb dX4_checkBehindQuote_62 (by decide) ?_
          exact et_iret hx hb hr hlk rfl hS (1, y__1) rfl ⟨(show y__1 ≤ L from (by first | assumption | omega | rfl | exact Or.inl (by assumption) | exact Or.inr (by assumption))), (show aq ≤ y__1 from (by first | assumption | omega | rfl | exact Or.inl (by assumption) | exact Or.inr (by assumption))), (show ((1 : Int32) = 0 ∧ bhF tf dl L aq a0 = some (y__1, a0)) ∨ (¬ (1 : Int32) = 0 ∧ bhF tf dl L aq a0 = none) from (Or.inr ⟨by decide, bh_4 h_5 (by omega) ex_7 ex_8 c_9 c_10⟩))⟩ (subP0 hP [0, 1, 2, 3] rfl) (hD.sub [0, 1, 2, 3] (by decide) rfl) (Nat.le_of_ble_eq_true rfl) (Nat.le_of_ble_eq_true rfl) dX4_checkBehindQuote_63
      · refine lv_iconst (v := 0) hx hb dX4_checkBehindQuote_49 (by decide) ?_
        exact et_iret hx hb hr hlk rfl hS (0, y__1) rfl ⟨(show y__1 ≤ L from (by first | assumption | omega | rfl | exact Or.inl (by assumption) | exact Or.inr (by assumption))), (show aq ≤ y__1 from (by first | assumption | omega | rfl | exact Or.inl (by assumption) | exact Or.inr (by assumption))), (show ((0 : Int32) = 0 ∧ bhF tf dl L aq a0 = some (y__1, a0)) ∨ (¬ (0 : Int32) = 0 ∧ bhF tf dl L aq a0 = none) from (Or.inl ⟨rfl, bh_3 h_5 ex_7 c_10⟩))⟩ (subP0 hP [0, 1, 2, 3] rfl) (hD.sub [0, 1, 2, 3] (by decide) rfl) (Nat.le_of_ble_eq_true rfl) (Nat.le_of_ble_eq_true rfl) dX4_checkBehindQuote_50
  · have nc_6 := cv_nlt (a := y__1) (b := L) (by omega) (by omega) c_6
    refine lv_iconst (v := 0) hx hb dX4_checkBehindQuote_18 (by decide) ?_
    exact et_iret hx hb hr hlk rfl hS (0, y__1) rfl ⟨(show y__1 ≤ L from (by first | assumption | omega | rfl | exact Or.inl (by assumption) | exact Or.inr (by assumption))), (show aq ≤ y__1 from (by first | assumption | omega | rfl | exact Or.inl (by assumption) | exact Or.inr (by assumption))), (show ((0 : Int32) = 0 ∧ bhF tf dl L aq a0 = some (y__1, a0)) ∨ (¬ (0 : Int32) = 0 ∧ bhF tf dl L aq a0 = none) from (Or.inl ⟨rfl, bh_1 h_5 (by omega)⟩))⟩ (subP0 hP [0, 1, 2, 3] rfl) (hD.sub [0, 1, 2, 3] (by decide) rfl) (Nat.le_of_ble_eq_true rfl) (Nat.le_of_ble_eq_true rfl) dX4_checkBehindQuote_19
set_option maxHeartbeats 4000000 in
set_option maxRecDepth 100000 in
theorem c_X4_readField_S (l : Launch) (D : va_G) (κ : Nat → ClassId) (κq : Nat → Nat) (rd : Nat) (tp : Nat) (d : Nat) (ft : Nat) (bl : Nat) (aq : Nat) (wk : Nat) (sz : Nat) (fl : Nat) (sr : Nat) (cnt : Nat) (cl : Nat) (rw : Nat) (ca : Int32) (cv : Value) (tb : Nat) (L : Nat) (tf : Nat → Int32) (dl : Nat → Int32) (wf : Nat → Int32) (hL8 : L ≤ 800) (hat : aq ≤ L) (hsz : sz ≤ 20) (hwf : sb_Fit wf) : Et l yX4_readField (wl yX4_readField cX4_readField 2 (some .int)) { frames := 2, cells := 0, slots := 0, locals := 43 } D κ κq [.ref rd] [(rd, .inr (4, [.ref tp, .ref d, .ref ft, .ref bl, .int (nI aq), .int ca, .ref wk, .int (nI sz), .ref fl, .ref sr, .int (nI cnt), cv, .ref cl, .int (nI rw)])), (tp, .inr (8, [.ref tb, .int (nI L)])), (tb, .inl (κ 0, 800, .inl tf)), (d, .inl (κ 0, 6, .inl dl)), (wk, .inl (κ 1, 20, .inl wf))] (fun u9 : Int32 × Nat × Nat × (Nat → Int32) => some (.int u9.1)) (fun u9 : Int32 × Nat × Nat × (Nat → Int32) => u9.2.1 ≤ L ∧ aq ≤ u9.2.1 ∧ u9.2.2.1 ≤ 20 ∧ sb_Fit u9.2.2.2 ∧ ((u9.1 = 0 ∧ fdF tf dl L aq = some (u9.2.1, lsF u9.2.2.2 u9.2.2.1)) ∨ (¬ u9.1 = 0 ∧ fdF tf dl L aq = none))) (fun u9 : Int32 × Nat × Nat × (Nat → Int32) => [(rd, .inr (4, [.ref tp, .ref d, .ref ft, .ref bl, .int (nI u9.2.1), .int ca, .ref wk, .int (nI u9.2.2.1), .ref fl, .ref sr, .int (nI cnt), cv, .ref cl, .int (nI rw)])), (tp, .inr (8, [.ref tb, .int (nI L)])), (tb, .inl (κ 0, 800, .inl tf)), (d, .inl (κ 0, 6, .inl dl)), (wk, .inl (κ 1, 20, .inl u9.2.2.2))]) := by
  refine et_of (by decide +kernel) (Nat.le_of_ble_eq_true rfl) ?_
  intro p e s m args below meth c A ls hx hb hr hml hts hown hlk hin hKK hK hA hP hD hS hE hl
  have hS : va_S A s.heap s.heap [] := hS
  have hP : va_P D vwCl ([(rd, .inr (4, [.ref tp, .ref d, .ref ft, .ref bl, .int (nI aq), .int ca, .ref wk, .int (nI sz), .ref fl, .ref sr, .int (nI cnt), cv, .ref cl, .int (nI rw)])), (tp, .inr (8, [.ref tb, .int (nI L)])), (tb, .inl (κ 0, 800, .inl tf)), (d, .inl (κ 0, 6, .inl dl)), (wk, .inl (κ 1, 20, .inl wf))] ++ []) s.heap := hP
  have hD : va_D A ([(rd, .inr (4, [.ref tp, .ref d, .ref ft, .ref bl, .int (nI aq), .int ca, .ref wk, .int (nI sz), .ref fl, .ref sr, .int (nI cnt), cv, .ref cl, .int (nI rw)])), (tp, .inr (8, [.ref tb, .int (nI L)])), (tb, .inl (κ 0, 800, .inl tf)), (d, .inl (κ 0, 6, .inl dl)), (wk, .inl (κ 1, 20, .inl wf))] ++ []) := hD
  have hFX : FX p s m args c cX4_readField 2 RX4 := ⟨hx, hb, hml, hown, hts⟩
  have hl : lv_has ls 2 [(0, .ref rd)] := hl
  refine lv_aload_n hx hb dX4_readField_0 rfl (lv_at hl 0 rfl) ?_
  refine lv_iconst (v := 0) hx hb dX4_readField_1 (by decide) ?_
  refine va_put (D := D) (ci := 4) (v := .int 0) (ty := tyX4 7) (C := RX4) (T := TX4) (N := 14) hx hb hts inlX4 tyX4 tyX4_ok nmX4 hown hK hP hD hS 0 rfl rfl 7 (by decide) (hts _ mw_74) (fun _ h9 => h9) rfl (tyX4_ok 7 (by decide)) rfl rfl (Nat.le_of_ble_eq_true rfl) dX4_readField_2 (fun H locs hP hD hS => ?_)
  have hP : va_P D vwCl ([(rd, .inr (4, [.ref tp, .ref d, .ref ft, .ref bl, .int (nI aq), .int ca, .ref wk, .int 0, .ref fl, .ref sr, .int (nI cnt), cv, .ref cl, .int (nI rw)])), (tp, .inr (8, [.ref tb, .int (nI L)])), (tb, .inl (κ 0, 800, .inl tf)), (d, .inl (κ 0, 6, .inl dl)), (wk, .inl (κ 1, 20, .inl wf))] ++ []) H := hP
  have hD : va_D A ([(rd, .inr (4, [.ref tp, .ref d, .ref ft, .ref bl, .int (nI aq), .int ca, .ref wk, .int 0, .ref fl, .ref sr, .int (nI cnt), cv, .ref cl, .int (nI rw)])), (tp, .inr (8, [.ref tb, .int (nI L)])), (tb, .inl (κ 0, 800, .inl tf)), (d, .inl (κ 0, 6, .inl dl)), (wk, .inl (κ 1, 20, .inl wf))] ++ []) := hD
  refine lv_aload_n hx hb dX4_readField_5 rfl (lv_at hl 0 rfl) ?_
  refine et_VN (CR := [(wk, .inl (κ 1, 20, .inl wf))]) (As := []) (rest := []) hFX hKK hE hP hD hS hA (c_X4_skipBlanks_S l D κ κq rd tp d ft bl aq wk 0 fl sr cnt cl rw ca cv tb L tf dl (by omega) (by omega)) 0 gV_X4_141 hdV_X4_skipBlanks ⟨Nat.le_of_ble_eq_true rfl, Nat.le_of_ble_eq_true rfl⟩ rfl rfl (Nat.le_of_ble_eq_true rfl) dX4_readField_6 ⟨Nat.le_of_ble_eq_true rfl, Nat.le_of_ble_eq_true rfl⟩ hl.1 [0, 1, 2, 3] [4] rfl rfl (by decide) (by decide) (by decide) hP 0 4 rfl rfl rfl (fun y__1 H locs hp_2 hP hD hS => ?_)
  refine W.widen (k := 0) (n := 0) (Nat.le_refl _) (Nat.le_refl _) ?_
  replace hP : va_P D vwCl ([(rd, .inr (4, [.ref tp, .ref d, .ref ft, .ref bl, .int (nI y__1), .int ca, .ref wk, .int (nI 0), .ref fl, .ref sr, .int (nI cnt), cv, .ref cl, .int (nI rw)])), (tp, .inr (8, [.ref tb, .int (nI L)])), (tb, .inl (κ 0, 800, .inl tf)), (d, .inl (κ 0, 6, .inl dl)), (wk, .inl (κ 1, 20, .inl wf))] ++ []) H := subP (C := [(wk, .inl (κ 1, 20, .inl wf)), (rd, .inr (4, [.ref tp, .ref d, .ref ft, .ref bl, .int (nI y__1), .int ca, .ref wk, .int (nI 0), .ref fl, .ref sr, .int (nI cnt), cv, .ref cl, .int (nI rw)])), (tp, .inr (8, [.ref tb, .int (nI L)])), (tb, .inl (κ 0, 800, .inl tf)), (d, .inl (κ 0, 6, .inl dl))]) hP [1, 2, 3, 4, 0] rfl
  replace hD : va_D A ([(rd, .inr (4, [.ref tp, .ref d, .ref ft, .ref bl, .int (nI y__1), .int ca, .ref wk, .int (nI 0), .ref fl, .ref sr, .int (nI cnt), cv, .ref cl, .int (nI rw)])), (tp, .inr (8, [.ref tb, .int (nI L)])), (tb, .inl (κ 0, 800, .inl tf)), (d, .inl (κ 0, 6, .inl dl)), (wk, .inl (κ 1, 20, .inl wf))] ++ []) := subD (C := [(wk, .inl (κ 1, 20, .inl wf)), (rd, .inr (4, [.ref tp, .ref d, .ref ft, .ref bl, .int (nI y__1), .int ca, .ref wk, .int (nI 0), .ref fl, .ref sr, .int (nI cnt), cv, .ref cl, .int (nI rw)])), (tp, .inr (8, [.ref tb, .int (nI L)])), (tb, .inl (κ 0, 800, .inl tf)), (d, .inl (κ 0, 6, .inl dl))]) hD [1, 2, 3, 4, 0] (by decide) rfl
  replace hp_2 : y__1 ≤ L ∧ aq ≤ y__1 ∧ y__1 = skF tf dl (L - aq) aq := hp_2
  obtain ⟨h_3, h_4, h_5⟩ := hp_2
  refine W.eq (g2 := F0 m 9 ls []) rfl ?_
  refine lv_aload_n hx hb dX4_readField_9 rfl (lv_at hl 0 rfl) ?_
  refine va_get (D := D) (ci := 4) (v := .int (nI y__1)) (C := RX4) (T := TX4) (N := 14) hx hb hts inlX4 hown hK hP 0 rfl rfl 4 (by decide) (hts _ mw_71) (fun _ h9 => h9) rfl dX4_readField_10 ?_
  refine lv_aload_n hx hb dX4_readField_13 rfl (lv_at hl 0 rfl) ?_
  refine va_get (D := D) (ci := 4) (v := .ref tp) (C := RX4) (T := TX4) (N := 14) hx hb hts inlX4 hown hK hP 0 rfl rfl 0 (by decide) (hts _ mw_81) (fun _ h9 => h9) rfl dX4_readField_14 ?_
  refine va_get (D := D) (ci := 8) (v := .int (nI L)) (C := RX8) (T := TX8) (N := 2) hx hb hts inlX8 hown hK hP 1 rfl rfl 1 (by decide) (hts _ mw_261) (fun _ h9 => h9) rfl dX4_readField_17 ?_
  refine lv_icmp_ge (tgt := 44) hx hb dX4_readField_20 (by decide) (fun c_6 => ?_) (fun c_6 => ?_)
  · have nc_6 := cv_le (a := L) (b := y__1) (by omega) (by omega) c_6
    refine lv_aload_n hx hb dX4_readField_44 rfl (lv_at hl 0 rfl) ?_
    refine et_VN (CR := []) (As := []) (rest := []) hFX hKK hE hP hD hS hA (c_X4_readPlain_S l D κ κq rd tp d ft bl y__1 wk fl sr cnt cl rw ca cv tb L tf dl wf (by omega) (by omega) hwf) 0 gV_X4_144 hdV_X4_readPlain ⟨Nat.le_of_ble_eq_true rfl, Nat.le_of_ble_eq_true rfl⟩ rfl rfl (Nat.le_of_ble_eq_true rfl) dX4_readField_45 ⟨Nat.le_of_ble_eq_true rfl, Nat.le_of_ble_eq_true rfl⟩ hl.1 [0, 1, 2, 3, 4] [] rfl rfl (by decide) (by decide) (by decide) hP 0 4 rfl rfl rfl (fun u_11 H locs hp_12 hP hD hS => ?_)
    refine W.widen (k := 0) (n := 0) (Nat.le_refl _) (Nat.le_refl _) ?_
    obtain ⟨r__7, y__8, s__9, g__10⟩ := u_11
    replace hP : va_P D vwCl ([(rd, .inr (4, [.ref tp, .ref d, .ref ft, .ref bl, .int (nI y__8), .int ca, .ref wk, .int (nI s__9), .ref fl, .ref sr, .int (nI cnt), cv, .ref cl, .int (nI rw)])), (tp, .inr (8, [.ref tb, .int (nI L)])), (tb, .inl (κ 0, 800, .inl tf)), (d, .inl (κ 0, 6, .inl dl)), (wk, .inl (κ 1, 20, .inl g__10))] ++ []) H := subP (C := [(rd, .inr (4, [.ref tp, .ref d, .ref ft, .ref bl, .int (nI y__8), .int ca, .ref wk, .int (nI s__9), .ref fl, .ref sr, .int (nI cnt), cv, .ref cl, .int (nI rw)])), (tp, .inr (8, [.ref tb, .int (nI L)])), (tb, .inl (κ 0, 800, .inl tf)), (d, .inl (κ 0, 6, .inl dl)), (wk, .inl (κ 1, 20, .inl g__10))]) hP [0, 1, 2, 3, 4] rfl
    replace hD : va_D A ([(rd, .inr (4, [.ref tp, .ref d, .ref ft, .ref bl, .int (nI y__8), .int ca, .ref wk, .int (nI s__9), .ref fl, .ref sr, .int (nI cnt), cv, .ref cl, .int (nI rw)])), (tp, .inr (8, [.ref tb, .int (nI L)])), (tb, .inl (κ 0, 800, .inl tf)), (d, .inl (κ 0, 6, .inl dl)), (wk, .inl (κ 1, 20, .inl g__10))] ++ []) := subD (C := [(rd, .inr (4, [.ref tp, .ref d, .ref ft, .ref bl, .int (nI y__8), .int ca, .ref wk, .int (nI s__9), .ref fl, .ref sr, .int (nI cnt), cv, .ref cl, .int (nI rw)])), (tp, .inr (8, [.ref tb, .int (nI L)])), (tb, .inl (κ 0, 800, .inl tf)), (d, .inl (κ 0, 6, .inl dl)), (wk, .inl (κ 1, 20, .inl g__10))]) hD [0, 1, 2, 3, 4] (by decide) rfl
    replace hp_12 : y__8 ≤ L ∧ y__1 ≤ y__8 ∧ s__9 ≤ 20 ∧ sb_Fit g__10 ∧ ((r__7 = 0 ∧ plF tf dl (L - y__1) y__1 0 [] = some (y__8, lsF g__10 s__9)) ∨ (¬ r__7 = 0 ∧ plF tf dl (L - y__1) y__1 0 [] = none)) := hp_12
    obtain ⟨h_13, h_14, h_15, h_16, h_17⟩ := hp_12
    refine W.eq (g2 := F0 m 48 ls [.int r__7]) rfl ?_
    exact et_iret hx hb hr hlk rfl hS (r__7, y__8, s__9, g__10) rfl ⟨(show y__8 ≤ L from (by first | assumption | omega | rfl | exact Or.inl (by assumption) | exact Or.inr (by assumption))), (show aq ≤ y__8 from (by first | assumption | omega | rfl | exact Or.inl (by assumption) | exact Or.inr (by assumption))), (show s__9 ≤ 20 from (by first | assumption | omega | rfl | exact Or.inl (by assumption) | exact Or.inr (by assumption))), (show sb_Fit g__10 from (by first | assumption | omega | rfl | exact Or.inl (by assumption) | exact Or.inr (by assumption))), (show (r__7 = 0 ∧ fdF tf dl L aq = some (y__8, lsF g__10 s__9)) ∨ (¬ r__7 = 0 ∧ fdF tf dl L aq = none) from (by rw [fd_p h_5 (Or.inl (by omega))]; exact h_17))⟩ (subP0 hP [0, 1, 2, 3, 4] rfl) (hD.sub [0, 1, 2, 3, 4] (by decide) rfl) (Nat.le_of_ble_eq_true rfl) (Nat.le_of_ble_eq_true rfl) dX4_readField_48
  · have nc_6 := cv_nle (a := L) (b := y__1) (by omega) (by omega) c_6
    refine lv_aload_n hx hb dX4_readField_23 rfl (lv_at hl 0 rfl) ?_
    refine va_get (D := D) (ci := 4) (v := .ref tp) (C := RX4) (T := TX4) (N := 14) hx hb hts inlX4 hown hK hP 0 rfl rfl 0 (by decide) (hts _ mw_81) (fun _ h9 => h9) rfl dX4_readField_24 ?_
    refine va_get (D := D) (ci := 8) (v := .ref tb) (C := RX8) (T := TX8) (N := 2) hx hb hts inlX8 hown hK hP 1 rfl rfl 0 (by decide) (hts _ mw_266) (fun _ h9 => h9) rfl dX4_readField_27 ?_
    refine lv_aload_n hx hb dX4_readField_30 rfl (lv_at hl 0 rfl) ?_
    refine va_get (D := D) (ci := 4) (v := .int (nI y__1)) (C := RX4) (T := TX4) (N := 14) hx hb hts inlX4 hown hK hP 0 rfl rfl 4 (by decide) (hts _ mw_71) (fun _ h9 => h9) rfl dX4_readField_31 ?_
    refine va_iald hx hb hK hP 2 0 rfl rfl (i := nI y__1) (vp_in_nI (n := y__1) (by omega) (by omega)) dX4_readField_34 ?_
    refine kv (v := .int (tf y__1)) (by rw [nI_clamp (by omega)]) ?_
    obtain ⟨x_18, ex_18⟩ : ∃ y9 : Int32, tf y__1 = y9 := ⟨_, rfl⟩
    refine kv (v := .int x_18) (congrArg Value.int ex_18) ?_
    refine lv_aload_n hx hb dX4_readField_35 rfl (lv_at hl 0 rfl) ?_
    refine va_get (D := D) (ci := 4) (v := .ref d) (C := RX4) (T := TX4) (N := 14) hx hb hts inlX4 hown hK hP 0 rfl rfl 1 (by decide) (hts _ mw_82) (fun _ h9 => h9) rfl dX4_readField_36 ?_
    refine lv_iconst (v := 1) hx hb dX4_readField_39 (by decide) ?_
    refine va_iald hx hb hK hP 3 0 rfl rfl (i := 1) (vp_k (by decide)) dX4_readField_40 ?_
    obtain ⟨x_19, ex_19⟩ : ∃ y9 : Int32, dl 1 = y9 := ⟨_, rfl⟩
    refine kv (v := .int x_19) (congrArg Value.int ex_19) ?_
    refine lv_icmp_eq (tgt := 49) hx hb dX4_readField_41 (by decide) (fun c_20 => ?_) (fun c_20 => ?_)
    · refine lv_aload_n hx hb dX4_readField_49 rfl (lv_at hl 0 rfl) ?_
      refine et_VN (CR := []) (As := []) (rest := []) hFX hKK hE hP hD hS hA (c_X4_readQuoted_S l D κ κq rd tp d ft bl y__1 wk fl sr cnt cl rw ca cv tb L tf dl wf (by omega) (by omega) hwf) 0 gV_X4_147 hdV_X4_readQuoted ⟨Nat.le_of_ble_eq_true rfl, Nat.le_of_ble_eq_true rfl⟩ rfl rfl (Nat.le_of_ble_eq_true rfl) dX4_readField_50 ⟨Nat.le_of_ble_eq_true rfl, Nat.le_of_ble_eq_true rfl⟩ hl.1 [0, 1, 2, 3, 4] [] rfl rfl (by decide) (by decide) (by decide) hP 0 4 rfl rfl rfl (fun u_25 H locs hp_26 hP hD hS => ?_)
      refine W.widen (k := 0) (n := 0) (Nat.le_refl _) (Nat.le_refl _) ?_
      obtain ⟨r__21, y__22, s__23, g__24⟩ := u_25
      replace hP : va_P D vwCl ([(rd, .inr (4, [.ref tp, .ref d, .ref ft, .ref bl, .int (nI y__22), .int ca, .ref wk, .int (nI s__23), .ref fl, .ref sr, .int (nI cnt), cv, .ref cl, .int (nI rw)])), (tp, .inr (8, [.ref tb, .int (nI L)])), (tb, .inl (κ 0, 800, .inl tf)), (d, .inl (κ 0, 6, .inl dl)), (wk, .inl (κ 1, 20, .inl g__24))] ++ []) H := subP (C := [(rd, .inr (4, [.ref tp, .ref d, .ref ft, .ref bl, .int (nI y__22), .int ca, .ref wk, .int (nI s__23), .ref fl, .ref sr, .int (nI cnt), cv, .ref cl, .int (nI rw)])), (tp, .inr (8, [.ref tb, .int (nI L)])), (tb, .inl (κ 0, 800, .inl tf)), (d, .inl (κ 0, 6, .inl dl)), (wk, .inl (κ 1, 20, .inl g__24))]) hP [0, 1, 2, 3, 4] rfl
      replace hD : va_D A ([(rd, .inr (4, [.ref tp, .ref d, .ref ft, .ref bl, .int (nI y__22), .int ca, .ref wk, .int (nI s__23), .ref fl, .ref sr, .int (nI cnt), cv, .ref cl, .int (nI rw)])), (tp, .inr (8, [.ref tb, .int (nI L)])), (tb, .inl (κ 0, 800, .inl tf)), (d, .inl (κ 0, 6, .inl dl)), (wk, .inl (κ 1, 20, .inl g__24))] ++ []) := subD (C := [(rd, .inr (4, [.ref tp, .ref d, .ref ft, .ref bl, .int (nI y__22), .int ca, .ref wk, .int (nI s__23), .ref fl, .ref sr, .int (nI cnt), cv, .ref cl, .int (nI rw)])), (tp, .inr (8, [.ref tb, .int (nI L)])), (tb, .inl (κ 0, 800, .inl tf)), (d, .inl (κ 0, 6, .inl dl)), (wk, .inl (κ 1, 20, .inl g__24))]) hD [0, 1, 2, 3, 4] (by decide) rfl
      replace hp_26 : y__22 ≤ L ∧ y__1 ≤ y__22 ∧ s__23 ≤ 20 ∧ sb_Fit g__24 ∧ ((r__21 = 0 ∧ quF tf dl (L - (y__1 + 1)) (y__1 + 1) [] = some (y__22, lsF g__24 s__23)) ∨ (¬ r__21 = 0 ∧ quF tf dl (L - (y__1 + 1)) (y__1 + 1) [] = none)) := hp_26
      obtain ⟨h_27, h_28, h_29, h_30, h_31⟩ := hp_26
      refine W.eq (g2 := F0 m 53 ls [.int r__21]) rfl ?_
      refine lv_istore_n (lv' := [(1, .int r__21), (0, .ref rd)]) hx hb dX4_readField_53 rfl hl (by decide) rfl (fun ls hl => ?_)
      refine lv_iload_n hx hb dX4_readField_54 rfl (lv_at hl 0 rfl) ?_
      refine lv_if_ne (tgt := 65) hx hb dX4_readField_55 (by decide) (fun c_32 => ?_) (fun c_32 => ?_)
      · refine lv_iload_n hx hb dX4_readField_65 rfl (lv_at hl 0 rfl) ?_
        exact et_iret hx hb hr hlk rfl hS (r__21, y__22, s__23, g__24) rfl ⟨(show y__22 ≤ L from (by first | assumption | omega | rfl | exact Or.inl (by assumption) | exact Or.inr (by assumption))), (show aq ≤ y__22 from (by first | assumption | omega | rfl | exact Or.inl (by assumption) | exact Or.inr (by assumption))), (show s__23 ≤ 20 from (by first | assumption | omega | rfl | exact Or.inl (by assumption) | exact Or.inr (by assumption))), (show sb_Fit g__24 from (by first | assumption | omega | rfl | exact Or.inl (by assumption) | exact Or.inr (by assumption))), (show (r__21 = 0 ∧ fdF tf dl L aq = some (y__22, lsF g__24 s__23)) ∨ (¬ r__21 = 0 ∧ fdF tf dl L aq = none) from (Or.inr ⟨c_32, fd_n h_5 (by omega) (ex_18.trans (c_20.trans ex_19.symm)) (qu_no h_31 c_32)⟩))⟩ (subP0 hP [0, 1, 2, 3, 4] rfl) (hD.sub [0, 1, 2, 3, 4] (by decide) rfl) (Nat.le_of_ble_eq_true rfl) (Nat.le_of_ble_eq_true rfl) dX4_readField_66
      · refine lv_aload_n hx hb dX4_readField_58 rfl (lv_at hl 1 rfl) ?_
        refine et_VN (CR := [(wk, .inl (κ 1, 20, .inl g__24))]) (As := []) (rest := []) hFX hKK hE hP hD hS hA (c_X4_checkBehindQuote_S l D κ κq rd tp d ft bl y__22 wk s__23 fl sr cnt cl rw ca cv tb L tf dl (lsF g__24 s__23) (by omega) (by omega)) 0 gV_X4_150 hdV_X4_checkBehindQuote ⟨Nat.le_of_ble_eq_true rfl, Nat.le_of_ble_eq_true rfl⟩ rfl rfl (Nat.le_of_ble_eq_true rfl) dX4_readField_59 ⟨Nat.le_of_ble_eq_true rfl, Nat.le_of_ble_eq_true rfl⟩ hl.1 [0, 1, 2, 3] [4] rfl rfl (by decide) (by decide) (by decide) hP 0 4 rfl rfl rfl (fun u_35 H locs hp_36 hP hD hS => ?_)
        refine W.widen (k := 0) (n := 0) (Nat.le_refl _) (Nat.le_refl _) ?_
        obtain ⟨r__33, y__34⟩ := u_35
        replace hP : va_P D vwCl ([(rd, .inr (4, [.ref tp, .ref d, .ref ft, .ref bl, .int (nI y__34), .int ca, .ref wk, .int (nI s__23), .ref fl, .ref sr, .int (nI cnt), cv, .ref cl, .int (nI rw)])), (tp, .inr (8, [.ref tb, .int (nI L)])), (tb, .inl (κ 0, 800, .inl tf)), (d, .inl (κ 0, 6, .inl dl)), (wk, .inl (κ 1, 20, .inl g__24))] ++ []) H := subP (C := [(wk, .inl (κ 1, 20, .inl g__24)), (rd, .inr (4, [.ref tp, .ref d, .ref ft, .ref bl, .int (nI y__34), .int ca, .ref wk, .int (nI s__23), .ref fl, .ref sr, .int (nI cnt), cv, .ref cl, .int (nI rw)])), (tp, .inr (8, [.ref tb, .int (nI L)])), (tb, .inl (κ 0, 800, .inl tf)), (d, .inl (κ 0, 6, .inl dl))]) hP [1, 2, 3, 4, 0] rfl
        replace hD : va_D A ([(rd, .inr (4, [.ref tp, .ref d, .ref ft, .ref bl, .int (nI y__34), .int ca, .ref wk, .int (nI s__23), .ref fl, .ref sr, .int (nI cnt), cv, .ref cl, .int (nI rw)])), (tp, .inr (8, [.ref tb, .int (nI L)])), (tb, .inl (κ 0, 800, .inl tf)), (d, .inl (κ 0, 6, .inl dl)), (wk, .inl (κ 1, 20, .inl g__24))] ++ []) := subD (C := [(wk, .inl (κ 1, 20, .inl g__24)), (rd, .inr (4, [.ref tp, .ref d, .ref ft, .ref bl, .int (nI y__34), .int ca, .ref wk, .int (nI s__23), .ref fl, .ref sr, .int (nI cnt), cv, .ref cl, .int (nI rw)])), (tp, .inr (8, [.ref tb, .int (nI L)])), (tb, .inl (κ 0, 800, .inl tf)), (d, .inl (κ 0, 6, .inl dl))]) hD [1, 2, 3, 4, 0] (by decide) rfl
        replace hp_36 : y__34 ≤ L ∧ y__22 ≤ y__34 ∧ ((r__33 = 0 ∧ bhF tf dl L y__22 (lsF g__24 s__23) = some (y__34, (lsF g__24 s__23))) ∨ (¬ r__33 = 0 ∧ bhF tf dl L y__22 (lsF g__24 s__23) = none)) := hp_36
        obtain ⟨h_37, h_38, h_39⟩ := hp_36
        refine W.eq (g2 := F0 m 62 ls [.int r__33]) rfl ?_
        refine lv_goto (tgt := 66) hx hb dX4_readField_62 (by decide) ?_
        exact et_iret hx hb hr hlk rfl hS (r__33, y__34, s__23, g__24) rfl ⟨(show y__34 ≤ L from (by first | assumption | omega | rfl | exact Or.inl (by assumption) | exact Or.inr (by assumption))), (show aq ≤ y__34 from (by first | assumption | omega | rfl | exact Or.inl (by assumption) | exact Or.inr (by assumption))), (show s__23 ≤ 20 from (by first | assumption | omega | rfl | exact Or.inl (by assumption) | exact Or.inr (by assumption))), (show sb_Fit g__24 from (by first | assumption | omega | rfl | exact Or.inl (by assumption) | exact Or.inr (by assumption))), (show (r__33 = 0 ∧ fdF tf dl L aq = some (y__34, lsF g__24 s__23)) ∨ (¬ r__33 = 0 ∧ fdF tf dl L aq = none) from (by rw [fd_q h_5 (by omega) (ex_18.trans (c_20.trans ex_19.symm)) (qu_ok h_31 c_32)]; exact h_39))⟩ (subP0 hP [0, 1, 2, 3, 4] rfl) (hD.sub [0, 1, 2, 3, 4] (by decide) rfl) (Nat.le_of_ble_eq_true rfl) (Nat.le_of_ble_eq_true rfl) dX4_readField_66
    · refine lv_aload_n hx hb dX4_readField_44 rfl (lv_at hl 0 rfl) ?_
      refine et_VN (CR := []) (As := []) (rest := []) hFX hKK hE hP hD hS hA (c_X4_readPlain_S l D κ κq rd tp d ft bl y__1 wk fl sr cnt cl rw ca cv tb L tf dl wf (by omega) (by omega) hwf) 0 gV_X4_144 hdV_X4_readPlain ⟨Nat.le_of_ble_eq_true rfl, Nat.le_of_ble_eq_true rfl⟩ rfl rfl (Nat.le_of_ble_eq_true rfl) dX4_readField_45 ⟨Nat.le_of_ble_eq_true rfl, Nat.le_of_ble_eq_true rfl⟩ hl.1 [0, 1, 2, 3, 4] [] rfl rfl (by decide) (by decide) (by decide) hP 0 4 rfl rfl rfl (fun u_44 H locs hp_45 hP hD hS => ?_)
      refine W.widen (k := 0) (n := 0) (Nat.le_refl _) (Nat.le_refl _) ?_
      obtain ⟨r__40, y__41, s__42, g__43⟩ := u_44
      replace hP : va_P D vwCl ([(rd, .inr (4, [.ref tp, .ref d, .ref ft, .ref bl, .int (nI y__41), .int ca, .ref wk, .int (nI s__42), .ref fl, .ref sr, .int (nI cnt), cv, .ref cl, .int (nI rw)])), (tp, .inr (8, [.ref tb, .int (nI L)])), (tb, .inl (κ 0, 800, .inl tf)), (d, .inl (κ 0, 6, .inl dl)), (wk, .inl (κ 1, 20, .inl g__43))] ++ []) H := subP (C := [(rd, .inr (4, [.ref tp, .ref d, .ref ft, .ref bl, .int (nI y__41), .int ca, .ref wk, .int (nI s__42), .ref fl, .ref sr, .int (nI cnt), cv, .ref cl, .int (nI rw)])), (tp, .inr (8, [.ref tb, .int (nI L)])), (tb, .inl (κ 0, 800, .inl tf)), (d, .inl (κ 0, 6, .inl dl)), (wk, .inl (κ 1, 20, .inl g__43))]) hP [0, 1, 2, 3, 4] rfl
      replace hD : va_D A ([(rd, .inr (4, [.ref tp, .ref d, .ref ft, .ref bl, .int (nI y__41), .int ca, .ref wk, .int (nI s__42), .ref fl, .ref sr, .int (nI cnt), cv, .ref cl, .int (nI rw)])), (tp, .inr (8, [.ref tb, .int (nI L)])), (tb, .inl (κ 0, 800, .inl tf)), (d, .inl (κ 0, 6, .inl dl)), (wk, .inl (κ 1, 20, .inl g__43))] ++ []) := subD (C := [(rd, .inr (4, [.ref tp, .ref d, .ref ft, .ref bl, .int (nI y__41), .int ca, .ref wk, .int (nI s__42), .ref fl, .ref sr, .int (nI cnt), cv, .ref cl, .int (nI rw)])), (tp, .inr (8, [.ref tb, .int (nI L)])), (tb, .inl (κ 0, 800, .inl tf)), (d, .inl (κ 0, 6, .inl dl)), (wk, .inl (κ 1, 20, .inl g__43))]) hD [0, 1, 2, 3, 4] (by decide) rfl
      replace hp_45 : y__41 ≤ L ∧ y__1 ≤ y__41 ∧ s__42 ≤ 20 ∧ sb_Fit g__43 ∧ ((r__40 = 0 ∧ plF tf dl (L - y__1) y__1 0 [] = some (y__41, lsF g__43 s__42)) ∨ (¬ r__40 = 0 ∧ plF tf dl (L - y__1) y__1 0 [] = none)) := hp_45
      obtain ⟨h_46, h_47, h_48, h_49, h_50⟩ := hp_45
      refine W.eq (g2 := F0 m 48 ls [.int r__40]) rfl ?_
      exact et_iret hx hb hr hlk rfl hS (r__40, y__41, s__42, g__43) rfl ⟨(show y__41 ≤ L from (by first | assumption | omega | rfl | exact Or.inl (by assumption) | exact Or.inr (by assumption))), (show aq ≤ y__41 from (by first | assumption | omega | rfl | exact Or.inl (by assumption) | exact Or.inr (by assumption))), (show s__42 ≤ 20 from (by first | assumption | omega | rfl | exact Or.inl (by assumption) | exact Or.inr (by assumption))), (show sb_Fit g__43 from (by first | assumption | omega | rfl | exact Or.inl (by assumption) | exact Or.inr (by assumption))), (show (r__40 = 0 ∧ fdF tf dl L aq = some (y__41, lsF g__43 s__42)) ∨ (¬ r__40 = 0 ∧ fdF tf dl L aq = none) from (by rw [fd_p h_5 (Or.inr (fun h9 => c_20 ((ex_18.symm.trans h9).trans ex_19)))]; exact h_50))⟩ (subP0 hP [0, 1, 2, 3, 4] rfl) (hD.sub [0, 1, 2, 3, 4] (by decide) rfl) (Nat.le_of_ble_eq_true rfl) (Nat.le_of_ble_eq_true rfl) dX4_readField_48
