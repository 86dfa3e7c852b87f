/-! my own kit for the class: worlds with a tail that nobody opens, what lies there from the start, contracts over both -/
def tix (n : Nat) : Nat → List Nat
  | 0 => []
  | k + 1 => n :: tix (n + 1) k
theorem tix_ge : ∀ (k n i : Nat), i ∈ tix n k → n ≤ i
  | 0, _, _, h => by cases h
  | k + 1, n, i, h => by
    rcases List.mem_cons.mp h with rfl | h
    · exact Nat.le_refl _
    · have := tix_ge k (n + 1) i h
      omega
theorem tix_nd : ∀ (k n : Nat), va_nd (tix n k) = true
  | 0, _ => rfl
  | k + 1, n => by
    simp only [tix, va_nd, Bool.and_eq_true, decide_eq_true_eq]
    exact ⟨fun h => by have := tix_ge k (n + 1) n h; omega, tix_nd k (n + 1)⟩
theorem nd_app {n k : Nat} : ∀ (js : List Nat), va_nd js = true → (∀ i ∈ js, i < n) → va_nd (js ++ tix n k) = true
  | [], _, _ => tix_nd k n
  | a :: js, h, hl => by
    simp only [va_nd, Bool.and_eq_true, decide_eq_true_eq] at h
    simp only [List.cons_append, va_nd, Bool.and_eq_true, decide_eq_true_eq, List.mem_append, not_or]
    refine ⟨⟨h.1, fun q => ?_⟩, nd_app js h.2 (fun i hi => hl i (List.mem_cons_of_mem _ hi))⟩
    have h1 := tix_ge k n a q
    have h2 := hl a List.mem_cons_self
    omega
theorem tix_lt : ∀ (k n i : Nat), i ∈ tix n k → i < n + k
  | 0, _, _, h => by cases h
  | k + 1, n, i, h => by
    rcases List.mem_cons.mp h with rfl | h
    · omega
    · have := tix_lt k (n + 1) i h
      omega
theorem nd_two : ∀ (l1 l2 : List Nat), va_nd l1 = true → va_nd l2 = true → (∀ i ∈ l1, i ∉ l2) → va_nd (l1 ++ l2) = true
  | [], _, _, h, _ => h
  | a :: l1, l2, h1, h2, hd => by
    simp only [va_nd, Bool.and_eq_true, decide_eq_true_eq] at h1
    simp only [List.cons_append, va_nd, Bool.and_eq_true, decide_eq_true_eq, List.mem_append, not_or]
    exact ⟨⟨h1.1, hd a List.mem_cons_self⟩, nd_two l1 l2 h1.2 h2 (fun i hi => hd i (List.mem_cons_of_mem _ hi))⟩
theorem tix_mid : ∀ (im pre post : va_W), (tix pre.length im.length).map (fun i => (pre ++ (im ++ post))[i]?) = im.map some
  | [], pre, post => rfl
  | a :: im, pre, post => by
    have h := tix_mid im (pre ++ [a]) post
    rw [List.length_append, List.append_assoc] at h
    have e0 : (pre ++ ((a :: im) ++ post))[pre.length]? = some a := by
      rw [List.getElem?_append_right (Nat.le_refl _), Nat.sub_self]
      rfl
    simp only [List.length_cons, tix, List.map_cons]
    rw [e0]
    exact congrArg (List.cons (some a)) h
theorem tix_map (im pre : va_W) : (tix pre.length im.length).map (fun i => (pre ++ im)[i]?) = im.map some := by
  have h := tix_mid im pre []
  rw [List.append_nil] at h
  exact h
theorem pre_map {C C' : va_W} (im : va_W) {js : List Nat} (h : js.map (fun i => C[i]?) = C'.map some) : js.map (fun i => (C ++ im)[i]?) = C'.map some := by
  rw [← h]
  apply List.map_congr_left
  intro i hi
  have h1 : C[i]? ∈ C'.map some := by rw [← h]; exact List.mem_map_of_mem hi
  obtain ⟨q, -, e⟩ := List.mem_map.mp h1
  exact List.getElem?_append_left (List.getElem?_eq_some_iff.mp e.symm).1
theorem tl_map {C C' : va_W} (im : va_W) {js : List Nat} (h : js.map (fun i => C[i]?) = C'.map some) : (js ++ tix C.length im.length).map (fun i => (C ++ im)[i]?) = (C' ++ im).map some := by
  rw [List.map_append, List.map_append, pre_map im h, tix_map]
theorem js_lt {C C' : va_W} {js : List Nat} (h : js.map (fun i => C[i]?) = C'.map some) : ∀ i ∈ js, i < C.length := by
  intro i hi
  have h1 : C[i]? ∈ C'.map some := by rw [← h]; exact List.mem_map_of_mem hi
  obtain ⟨q, -, e⟩ := List.mem_map.mp h1
  exact (List.getElem?_eq_some_iff.mp e.symm).1
section TAILS
variable {D : va_G} {cl : List vw_C} {A : Nat → Prop} {C C' X im : va_W} {H : Heap} {js : List Nat}
theorem subP (hP : va_P D cl (C ++ im) H) (js : List Nat) (h : js.map (fun i => C[i]?) = C'.map some) : va_P D cl (C' ++ im) H := hP.sub _ (pm (tl_map im h))
theorem subD (hD : va_D A (C ++ im)) (js : List Nat) (hn : va_nd js = true) (h : js.map (fun i => C[i]?) = C'.map some) : va_D A (C' ++ im) := hD.sub _ (nd_app js hn (js_lt h)) (tl_map im h)
theorem subP0 (hP : va_P D cl (C ++ im) H) (js : List Nat) (h : js.map (fun i => C[i]?) = C'.map some) : va_P D cl C' H := hP.sub _ (pm (pre_map im h))
theorem oneP (hP : va_P D cl (C ++ im) H) {q : Nat × va_E} (hm : q ∈ im) : va_P D cl [q] H := by
  obtain ⟨k, hk⟩ := List.getElem?_of_mem (List.mem_append_right C hm)
  exact hP.sub [k] (by rw [List.filterMap_cons, hk]; rfl)
theorem mvP (hP : va_P D cl ((C ++ im) ++ X) H) : va_P D cl ((C ++ X) ++ im) H := by
  intro k q hk
  have h1 : q ∈ (C ++ im) ++ X := by
    have h2 := List.mem_of_getElem? hk
    simp only [List.mem_append] at h2 ⊢
    rcases h2 with (h | h) | h
    · exact Or.inl (Or.inl h)
    · exact Or.inr h
    · exact Or.inl (Or.inr h)
  obtain ⟨j, hj⟩ := List.getElem?_of_mem h1
  exact hP j q hj
theorem mvD (hD : va_D A ((C ++ im) ++ X)) : va_D A ((C ++ X) ++ im) := by
  have h1 := tix_mid C [] (im ++ X)
  have h2 := tix_mid im C X
  have h3 := tix_mid X (C ++ im) []
  rw [List.length_append, List.append_nil] at h3
  refine hD.sub ((tix 0 C.length ++ tix (C.length + im.length) X.length) ++ tix C.length im.length) ?_ ?_
  · refine nd_two _ _ (nd_two _ _ (tix_nd _ _) (tix_nd _ _) ?_) (tix_nd _ _) ?_
    · intro i hi h
      have q1 := tix_lt _ _ _ hi
      have q2 := tix_ge _ _ _ h
      omega
    · intro i hi h
      have q1 := tix_lt _ _ _ h
      have q2 := tix_ge _ _ _ h
      rcases List.mem_append.mp hi with hi | hi
      · have q3 := tix_lt _ _ _ hi
        omega
      · have q3 := tix_ge _ _ _ hi
        omega
  · rw [List.map_append, List.map_append, List.map_append, List.map_append]
    rw [List.append_assoc C im X]
    rw [show (tix 0 C.length).map (fun i => (C ++ (im ++ X))[i]?) = C.map some from h1]
    rw [show (tix C.length im.length).map (fun i => (C ++ (im ++ X))[i]?) = im.map some from h2]
    rw [← List.append_assoc C im X, h3]
theorem sb_r {im im2 : va_W} (h : ∀ q ∈ im, q ∈ im2) {q : Nat × va_E} (hq : q ∈ im) : q ∈ im2 := h q hq
/-- a place of the tail -/
theorem tl_at {q : Nat × va_E} (C : va_W) (hm : q ∈ im) : ∃ k : Nat, (C ++ im)[k]? = some q := List.getElem?_of_mem (List.mem_append_right C hm)
end TAILS
/-- one list of cells lies in another -/
def Sb (im im2 : va_W) : Prop := ∀ q ∈ im, q ∈ im2
theorem Sb.rf {im : va_W} : Sb im im := fun _ h => h
theorem Sb.tr {a b c : va_W} (h1 : Sb a b) (h2 : Sb b c) : Sb a c := fun q h => h2 q (h1 q h)
theorem Sb.app {a b : va_W} : Sb b (a ++ b) := fun _ h => List.mem_append_right _ h
def dA (j : Nat) : Int32 := ([0, 31, 59, 90, 120, 151, 181, 212, 243, 273, 304, 334] : List Int32).getD j 0
def mA (j : Nat) : Int32 := ([31, 28, 31, 30, 31, 30, 31, 31, 30, 31, 30, 31] : List Int32).getD j 0
def tL : List Nat := [3, 2, 4, 5]
def tB : List (List Int32) := [[121, 101, 115], [110, 111], [116, 114, 117, 101], [102, 97, 108, 115, 101]]
/-- what lies there from the start: two tables of numbers, four texts -/
def EV (κq : Nat → Nat) (A : Nat → Prop) (U : State) (H : Heap) : Prop :=
  (va_Z RX0 "DAYS_AHEAD" "[I" (.ref (κq 0)) A U H ∧ va_T .int (κq 0) 12 (fun j => .int (dA j)) A U H ∧ va_Z RX0 "MONTH_DAYS" "[I" (.ref (κq 1)) A U H ∧ va_T .int (κq 1) 12 (fun j => .int (mA j)) A U H ∧ va_Z "java/lang/String" "COMPACT_STRINGS" "Z" (.int 1) A U H ∧ vk_S 4 tL tB (fun i => κq (2 + i)) (fun i => κq (6 + i)) A U H ∧ va_Zq "jdk/internal/util/Preconditions" "SIOOBE_FORMATTER" "Ljava/util/function/BiFunction;" A U H) ∧ vk_R RX0 65 "yes" (κq 2) U ∧ vk_R RX0 71 "no" (κq 3) U ∧ vk_R RX0 73 "true" (κq 4) U ∧ vk_R RX0 75 "false" (κq 5) U ∧ va_Nw (.castable "[I" "java/lang/Cloneable") U ∧ va_Nw (.castable "[B" "java/lang/Cloneable") U
theorem EV.to {κq : Nat → Nat} {A B : Nat → Prop} {s U : State} {H H1 : Heap} (h : EV κq A s H) (hW : s.WarmedH U.vm) (hq : ∀ a : Nat, a < H.size → ¬ A a → H1[a]? = H[a]?) (hAB : ∀ q, B q → A q) : EV κq B U H1 := by
  obtain ⟨⟨h1, h2, h3, h4, h5, h6, h7⟩, r1, r2, r3, r4, c1, c2⟩ := h
  have ha := hW.alike
  exact ⟨⟨((h1.moved ha).kept hq).narrow hAB, ((h2.moved ha).kept hq).narrow hAB, ((h3.moved ha).kept hq).narrow hAB, ((h4.moved ha).kept hq).narrow hAB, ((h5.moved ha).kept hq).narrow hAB, ((h6.moved ha).kept hq).narrow hAB, va_Zq.narrow (va_Zq.kept (va_Zq.moved ha h7) hq) hAB⟩, r1.warm hW, r2.warm hW, r3.warm hW, r4.warm hW, c1.warmC hW, c2.warmC hW⟩
theorem EV.same {κq : Nat → Nat} {A : Nat → Prop} {u U : State} {H : Heap} (h : u.vm = U.vm) (hE : EV κq A u H) : EV κq A U H := by
  obtain ⟨⟨h1, h2, h3, h4, h5, h6, h7⟩, r1, r2, r3, r4, c1, c2⟩ := hE
  have ha : u.vm.Alike U.vm := by rw [h]; exact Vm.Alike.refl _
  exact ⟨⟨h1.moved ha, h2.moved ha, h3.moved ha, h4.moved ha, h5.moved ha, h6.moved ha, va_Zq.moved ha h7⟩, r1.same h.symm, r2.same h.symm, r3.same h.symm, r4.same h.symm, c1.same (by decide +kernel) h, c2.same (by decide +kernel) h⟩
/-- before a method of the class that writes -/
def eP (D : va_G) (κ : Nat → ClassId) (κq : Nat → Nat) (av : List Value) (w0 : va_W) (sz : Nat) : Array Value → State → Prop := va_Pc av (fun U => U.heap.size = sz ∧ va_P D vwCl w0 U.heap ∧ KK D κ U ∧ va_D (fun _ => True) w0 ∧ EV κq (va_A w0 sz) U U.heap)
abbrev tt1 {S : Type} : S → Heap → Prop := fun _ _ => True
def Et {S : Type} (l : Launch) (y : MethodName) (ws : List Cond) (rm : Room) (D : va_G) (κ : Nat → ClassId) (κq : Nat → Nat) (av : List Value) (w0 : va_W) (val : S → Option Value) (post : S → Prop) (w1 : S → va_W) : Prop := ∀ sz : Nat, Met l y ws rm (eP D κ κq av w0 sz) (cQ D val post w1 tt1 (va_A w0 sz)) rm.cells rm.slots (va_A w0 sz)
/-- before one that reads -/
def sP (D : va_G) (κ : Nat → ClassId) (κq : Nat → Nat) (av : List Value) (w : va_W) (A : Nat → Prop) : Array Value → State → Prop := va_Pc av (fun U => KK D κ U ∧ va_P D vwCl w U.heap ∧ EV κq A U U.heap)
def Er {S : Type} (l : Launch) (y : MethodName) (ws : List Cond) (rm : Room) (D : va_G) (κ : Nat → ClassId) (κq : Nat → Nat) (av : List Value) (w : va_W) (val : S → Option Value) (post : S → Prop) : Prop := ∀ A : Nat → Prop, Met l y ws rm (sP D κ κq av w A) (rQ val post) 0 0 (fun _ => False)
section MYE
variable {l : Launch} {y : MethodName} {cc : ByteArray} {maxL : Nat} {ret : Option FieldType} {rm : Room} {D : va_G} {κ : Nat → ClassId} {κq : Nat → Nat} {av : List Value} {w0 : va_W} {S : Type} {val : S → Option Value} {post : S → Prop} {w1 : S → va_W}
theorem et_of (hy : plainName y.cls = true) (hlen : (lg_sl av).length ≤ maxL)
    (body : ∀ (p : Program) (e : Env) (s : State) (m : MethodId) (args : Array Value) (below : List Frame) (meth : Method) (c : Code) (A : Nat → Prop) (ls : Array Slot), p.tables.exec = Jvm.exec → c.code = cc → meth.sig.returnType = ret → c.maxLocals = maxL → (∀ w ∈ wsL_law, w.before args s = true) → s.vm.findClass y.cls = some m.cls → meth.locks = false → meth.name = y.name → KK D κ s → va_K D vwCl (T0 κ) s → (∀ q : Nat, s.heap.size ≤ q → A q) → va_P D vwCl w0 s.heap → va_D A w0 → va_S A s.heap s.heap [] → EV κq A s s.heap → lv_has ls maxL (lv_args 0 av) → W p l e rm s m args below meth c s.heap [] 0 0 (MQ below (cQ D val post w1 tt1 A) args s rm.cells rm.slots A) (F0 m 0 ls [])) : Et l y (wl y cc maxL ret) rm D κ κq av w0 val post w1 := by
  intro sz
  refine Met.ofW (cc := cc) (maxL := maxL) (ret := ret) hy rfl ?_
  intro p e s m args below meth c s₁ B hml hv
  obtain ⟨rfl, hsz, hP, hK, hD0, hI⟩ := hv
  have hts := atoms_spec (ws := wl y cc maxL ret) B.pre
  subst hsz
  rw [lg_entry_eq]
  exact body p e s m av.toArray below meth c (va_A w0 s.heap.size) _ B.exec B.bytes B.returns hml (fun w h => hts w (List.mem_cons_of_mem _ h)) (findClass_of_methodNamed B.named) B.notSynchronized (name_of_methodNamed B.named B.method).1 hK hK.1 (fun q h => Or.inr h) hP hD0.self va_S.rf hI (lv_entry av hlen)
theorem er_of (hy : plainName y.cls = true) (hlen : (lg_sl av).length ≤ maxL)
    (body : ∀ (p : Program) (e : Env) (s : State) (m : MethodId) (args : Array Value) (below : List Frame) (meth : Method) (c : Code) (A : Nat → Prop) (ls : Array Slot), p.tables.exec = Jvm.exec → c.code = cc → meth.sig.returnType = ret → c.maxLocals = maxL → (∀ w ∈ wsL_law, w.before args s = true) → s.vm.findClass y.cls = some m.cls → meth.locks = false → KK D κ s → va_K D vwCl (T0 κ) s → va_P D vwCl w0 s.heap → EV κq A s s.heap → lv_has ls maxL (lv_args 0 av) → W p l e rm s m args below meth c s.heap [] 0 0 (MQ below (rQ val post) args s 0 0 (fun _ => False)) (F0 m 0 ls [])) : Er l y (wl y cc maxL ret) rm D κ κq av w0 val post := by
  intro A
  refine Met.ofW (cc := cc) (maxL := maxL) (ret := ret) hy rfl ?_
  intro p e s m args below meth c s₁ B hml hv
  obtain ⟨rfl, hK, hP, hE⟩ := hv
  have hts := atoms_spec (ws := wl y cc maxL ret) B.pre
  rw [lg_entry_eq]
  exact body p e s m av.toArray below meth c A _ B.exec B.bytes B.returns hml (fun w h => hts w (List.mem_cons_of_mem _ h)) (findClass_of_methodNamed B.named) B.notSynchronized hK hK.1 hP hE (lv_entry av hlen)
variable {p : Program} {e : Env} {R : Room} {s : State} {m : MethodId} {args : Array Value} {below : List Frame} {meth : Method} {c : Code} {H : Heap} {locs : List Loc} {cells slots pc : Nat} {ls : Array Slot} {A : Nat → Prop} {ws wc wr : va_W} {Q : State → Prop} {rest st0 : List Value}
theorem et_iret {v : Int32} {ty : FieldType} (hx : p.tables.exec = Jvm.exec) (hb : c.code = cc) (hr : meth.sig.returnType = some ty) (hlk : meth.locks = false) (hnr : narrow ty (.int v) = .int v) (hS : va_S A s.heap H locs) (u : S) (hv : val u = some (.int v)) (hp : post u) (hP : va_P D vwCl (w1 u) H) (hD : va_D A (w1 u)) (hc : cells ≤ rm.cells) (hs : slots ≤ rm.slots) (hdg : decode cc pc = .ok (.ireturn, 1)) :
    W p l e R s m args below meth c H locs cells slots (MQ below (cQ D val post w1 tt1 A) args s rm.cells rm.slots A) (F0 m pc ls [.int v]) := by
  refine W.widen hc hs ?_
  exact W.zret hx hb hr hnr (fun t ht hW => ⟨⟨u, by rw [hv], hp, by rw [ht]; exact hP, hD, trivial⟩, hS.F ht⟩) hS.2.2 hdg hlk
theorem et_lret {v : Int64} (hx : p.tables.exec = Jvm.exec) (hb : c.code = cc) (hr : meth.sig.returnType = some .long) (hlk : meth.locks = false) (hS : va_S A s.heap H locs) (u : S) (hv : val u = some (.long v)) (hp : post u) (hP : va_P D vwCl (w1 u) H) (hD : va_D A (w1 u)) (hc : cells ≤ rm.cells) (hs : slots ≤ rm.slots) (hdg : decode cc pc = .ok (.lreturn, 1)) :
    W p l e R s m args below meth c H locs cells slots (MQ below (cQ D val post w1 tt1 A) args s rm.cells rm.slots A) (F0 m pc ls [.long v]) := by
  refine W.widen hc hs ?_
  exact W.lret hx hb hr (fun t ht hW => ⟨⟨u, by rw [hv], hp, by rw [ht]; exact hP, hD, trivial⟩, hS.F ht⟩) hS.2.2 hdg hlk
theorem et_vret (hx : p.tables.exec = Jvm.exec) (hb : c.code = cc) (hr : meth.sig.returnType = none) (hlk : meth.locks = false) (hS : va_S A s.heap H locs) (u : S) (hv : val u = none) (hp : post u) (hP : va_P D vwCl (w1 u) H) (hD : va_D A (w1 u)) (hc : cells ≤ rm.cells) (hs : slots ≤ rm.slots) (hdg : decode cc pc = .ok (.return_, 1)) :
    W p l e R s m args below meth c H locs cells slots (MQ below (cQ D val post w1 tt1 A) args s rm.cells rm.slots A) (F0 m pc ls []) := by
  refine W.widen hc hs ?_
  exact W.vret hx hb hr (fun t ht hW => ⟨⟨u, by rw [hv], hp, by rw [ht]; exact hP, hD, trivial⟩, hS.F ht⟩) hS.2.2 hdg hlk
theorem et_aret {v : Value} {ty : FieldType} (hx : p.tables.exec = Jvm.exec) (hb : c.code = cc) (hr : meth.sig.returnType = some ty) (hrt : (∃ n, ty = .object n) ∨ ∃ t, ty = .array t) (hlk : meth.locks = false) (hvv : v = .null ∨ ∃ a, v = .ref a) (hS : va_S A s.heap H locs) (u : S) (hv : val u = some v) (hp : post u) (hP : va_P D vwCl (w1 u) H) (hD : va_D A (w1 u)) (hc : cells ≤ rm.cells) (hs : slots ≤ rm.slots) (hdg : decode cc pc = .ok (.areturn, 1)) :
    W p l e R s m args below meth c H locs cells slots (MQ below (cQ D val post w1 tt1 A) args s rm.cells rm.slots A) (F0 m pc ls [v]) := by
  refine W.widen hc hs ?_
  exact W.aret hx hb hr hrt hvv (fun t ht hW => ⟨⟨u, by rw [hv], hp, by rw [ht]; exact hP, hD, trivial⟩, hS.F ht⟩) hS.2.2 hdg hlk
theorem eP_blind {sz : Nat} : FrameBlind (eP D κ κq av w0 sz) := fun a U g mk q => by
  obtain ⟨q0, q1, q2, q3, q4, q5⟩ := q
  exact ⟨q0, q1, q2, KK.same (u := U) (U := U.calling g mk a) rfl q3, q4, EV.same (u := U) (U := U.calling g mk a) rfl q5⟩
theorem sP_blind : FrameBlind (sP D κ κq av w0 A) := fun a U g mk q => by
  obtain ⟨q0, q1, q2, q3⟩ := q
  exact ⟨q0, KK.same (u := U) (U := U.calling g mk a) rfl q1, q2, EV.same (u := U) (U := U.calling g mk a) rfl q3⟩
theorem eP_at {isC : List Nat} (hK : KK D κ s) (hP : va_P D vwCl ws H) (hD : va_D A ws) (hS : va_S A s.heap H locs) (hA : ∀ q : Nat, s.heap.size ≤ q → A q) (hE : EV κq A s s.heap) (hC : isC.map (fun i => ws[i]?) = wc.map some) (hnC : va_nd isC = true) : ∀ U : State, U.heap = H → s.WarmedH U.vm → eP D κ κq av wc H.size av.toArray U := fun U hU hW =>
  ⟨rfl, by rw [hU], by rw [hU]; exact hP.sub isC (pm hC), hK.warm hW, (hD.sub isC hnC hC).weaken (fun _ _ _ _ => trivial), by rw [hU]; exact hE.to hW (fun q h1 h2 => hS.2.1 q h1 h2) (va_free hD hS hA isC hC)⟩
theorem sP_at (hK : KK D κ s) (hP : va_P D vwCl wc H) (hS : va_S A s.heap H locs) (hE : EV κq A s s.heap) : ∀ U : State, U.heap = H → s.WarmedH U.vm → sP D κ κq av wc A av.toArray U := fun U hU hW =>
  ⟨rfl, hK.warm hW, by rw [hU]; exact hP, by rw [hU]; exact hE.to hW (fun q h1 h2 => hS.2.1 q h1 h2) (fun _ h => h)⟩
variable {own C : String} {bytes : ByteArray} {nL index : Nat} {b : Nat} {As : List Value} {C0 C1 CR im : va_W} {js ks : List Nat}
/-- a call into which the tail goes along -/
theorem et_goT {a : Array Value} (hr : va_Run p l e R s m args below meth c H locs cells slots rm.cells rm.slots (F0 m pc ls st0) rest (cQ D val post w1 tt1 (va_A (C1 ++ im) H.size) a) (va_A (C1 ++ im) H.size)) (hP : va_P D vwCl (C0 ++ im) H) (hD : va_D A (C0 ++ im)) (hS : va_S A s.heap H locs) (hA : ∀ q : Nat, s.heap.size ≤ q → A q) (hC : js.map (fun i => C0[i]?) = C1.map some) (hR : ks.map (fun i => C0[i]?) = CR.map some) (hnR : va_nd ks = true) (hdis : ∀ i ∈ ks, i ∉ js)
    (kk : ∀ (u : S) (H1 : Heap) (locs1 : List Loc), post u → va_P D vwCl (CR ++ w1 u) H1 → va_D A (CR ++ w1 u) → va_S A s.heap H1 locs1 → W p l e R s m args below meth c H1 locs1 (cells + rm.cells) (slots + rm.slots) Q (F0 m (pc + 3) ls ((val u).toList ++ rest))) : W p l e R s m args below meth c H locs cells slots Q (F0 m pc ls st0) :=
  ct_go hr hP hD hS hA (js ++ tix C0.length im.length) ks (tl_map im hC) (pre_map im hR) hnR (fun i hi h => by
    rcases List.mem_append.mp h with h | h
    · exact hdis i hi h
    · have h1 := tix_ge _ _ _ h
      have h2 := js_lt hR i hi
      omega) (fun u H1 locs1 h1 _ h3 h4 h5 _ _ => kk u H1 locs1 h1 h3 h4 h5)
/-- a call from which the tail stays away -/
theorem et_goN {a : Array Value} (hr : va_Run p l e R s m args below meth c H locs cells slots rm.cells rm.slots (F0 m pc ls st0) rest (cQ D val post w1 tt1 (va_A C1 H.size) a) (va_A C1 H.size)) (hP : va_P D vwCl (C0 ++ im) H) (hD : va_D A (C0 ++ im)) (hS : va_S A s.heap H locs) (hA : ∀ q : Nat, s.heap.size ≤ q → A q) (hC : js.map (fun i => C0[i]?) = C1.map some) (hR : ks.map (fun i => C0[i]?) = CR.map some) (hnR : va_nd ks = true) (hdis : ∀ i ∈ ks, i ∉ js)
    (kk : ∀ (u : S) (H1 : Heap) (locs1 : List Loc), post u → va_P D vwCl ((CR ++ w1 u) ++ im) H1 → va_D A ((CR ++ w1 u) ++ im) → va_S A s.heap H1 locs1 → W p l e R s m args below meth c H1 locs1 (cells + rm.cells) (slots + rm.slots) Q (F0 m (pc + 3) ls ((val u).toList ++ rest))) : W p l e R s m args below meth c H locs cells slots Q (F0 m pc ls st0) :=
  ct_go (wr := CR ++ im) hr hP hD hS hA js (ks ++ tix C0.length im.length) (pre_map im hC) (tl_map im hR) (nd_app ks hnR (js_lt hR)) (fun i hi h => by
    rcases List.mem_append.mp hi with h1 | h1
    · exact hdis i h1 h
    · have h2 := tix_ge _ _ _ h1
      have h3 := js_lt hC i h
      omega) (fun u H1 locs1 h1 _ h3 h4 h5 _ _ => kk u H1 locs1 h1 (mvP h3) (mvD h4) h5)
theorem et_VT (hF : FX p s m args c cc nL own) (hK : KK D κ s) (hE : EV κq A s s.heap) (hP : va_P D vwCl (C0 ++ im) H) (hD : va_D A (C0 ++ im)) (hS : va_S A s.heap H locs) (hA : ∀ q : Nat, s.heap.size ≤ q → A q)
    (hM : Et l y (wl y bytes maxL ret) rm D κ κq (.ref b :: As) (C1 ++ im) val post w1) (n : Nat) (hG : GoodIn wsL_law (wsV own index C y (wl y bytes maxL ret))) (hd : y.cls = C ∧ okD y n) (hRm : rm.frames + 1 ≤ R.frames ∧ 8 + (maxL + 11) + rm.locals ≤ R.locals)
    (hn : As.length = n) (hst : st0 = As.reverse ++ .ref b :: rest) (hW : (rest.map fun v => v.category).sum ≤ 8) (hdg : decode cc pc = .ok (.invokevirtual index, 3)) (hcs : cells + rm.cells ≤ R.cells ∧ slots + rm.slots ≤ R.slots) (hls : ls.size = nL)
    (js ks : List Nat) (hC : js.map (fun i => C0[i]?) = C1.map some) (hR : ks.map (fun i => C0[i]?) = CR.map some) (hnR : va_nd ks = true) (hnC : va_nd js = true) (hdis : ∀ i ∈ ks, i ∉ js) {wv : va_W} (hPv : va_P D vwCl wv H) (qr ci : Nat) {q : vw_C} {fs : List Value} (hc0 : vwCl[ci]? = some q) (hq : q.1 = C) (her : wv[qr]? = some (b, .inr (ci, fs)))
    (kk : ∀ (u : S) (H1 : Heap) (locs1 : List Loc), post u → va_P D vwCl (CR ++ w1 u) H1 → va_D A (CR ++ w1 u) → va_S A s.heap H1 locs1 → W p l e R s m args below meth c H1 locs1 (cells + rm.cells) (slots + rm.slots) Q (F0 m (pc + 3) ls ((val u).toList ++ rest))) : W p l e R s m args below meth c H locs cells slots Q (F0 m pc ls st0) := by
  subst hst; subst hq
  obtain ⟨hx, hb, hml, hown, hts⟩ := hF
  exact et_goT (va_runV (As := As) (rest := rest) ⟨hx, hb, hml, hown, hts⟩ (hM H.size) (cwV n hts hG rfl rfl rfl hd hRm) ⟨eP_blind, va_recv hK.1 hPv hc0 her, eP_at hK hP hD hS hA hE (tl_map im hC) (nd_app js hnC (js_lt hC))⟩ rfl hn hls rfl (lv_room hW) hdg hcs) hP hD hS hA hC hR hnR hdis kk
theorem et_VN (hF : FX p s m args c cc nL own) (hK : KK D κ s) (hE : EV κq A s s.heap) (hP : va_P D vwCl (C0 ++ im) H) (hD : va_D A (C0 ++ im)) (hS : va_S A s.heap H locs) (hA : ∀ q : Nat, s.heap.size ≤ q → A q)
    (hM : Et l y (wl y bytes maxL ret) rm D κ κq (.ref b :: As) C1 val post w1) (n : Nat) (hG : GoodIn wsL_law (wsV own index C y (wl y bytes maxL ret))) (hd : y.cls = C ∧ okD y n) (hRm : rm.frames + 1 ≤ R.frames ∧ 8 + (maxL + 11) + rm.locals ≤ R.locals)
    (hn : As.length = n) (hst : st0 = As.reverse ++ .ref b :: rest) (hW : (rest.map fun v => v.category).sum ≤ 8) (hdg : decode cc pc = .ok (.invokevirtual index, 3)) (hcs : cells + rm.cells ≤ R.cells ∧ slots + rm.slots ≤ R.slots) (hls : ls.size = nL)
    (js ks : List Nat) (hC : js.map (fun i => C0[i]?) = C1.map some) (hR : ks.map (fun i => C0[i]?) = CR.map some) (hnR : va_nd ks = true) (hnC : va_nd js = true) (hdis : ∀ i ∈ ks, i ∉ js) {wv : va_W} (hPv : va_P D vwCl wv H) (qr ci : Nat) {q : vw_C} {fs : List Value} (hc0 : vwCl[ci]? = some q) (hq : q.1 = C) (her : wv[qr]? = some (b, .inr (ci, fs)))
    (kk : ∀ (u : S) (H1 : Heap) (locs1 : List Loc), post u → va_P D vwCl ((CR ++ w1 u) ++ im) H1 → va_D A ((CR ++ w1 u) ++ im) → va_S A s.heap H1 locs1 → W p l e R s m args below meth c H1 locs1 (cells + rm.cells) (slots + rm.slots) Q (F0 m (pc + 3) ls ((val u).toList ++ rest))) : W p l e R s m args below meth c H locs cells slots Q (F0 m pc ls st0) := by
  subst hst; subst hq
  obtain ⟨hx, hb, hml, hown, hts⟩ := hF
  exact et_goN (va_runV (As := As) (rest := rest) ⟨hx, hb, hml, hown, hts⟩ (hM H.size) (cwV n hts hG rfl rfl rfl hd hRm) ⟨eP_blind, va_recv hK.1 hPv hc0 her, eP_at hK hP hD hS hA hE (pre_map im hC) hnC⟩ rfl hn hls rfl (lv_room hW) hdg hcs) hP hD hS hA hC hR hnR hdis kk
theorem et_ST (hF : FX p s m args c cc nL own) (hK : KK D κ s) (hE : EV κq A s s.heap) (hP : va_P D vwCl (C0 ++ im) H) (hD : va_D A (C0 ++ im)) (hS : va_S A s.heap H locs) (hA : ∀ q : Nat, s.heap.size ≤ q → A q)
    (hM : Et l y (wl y bytes maxL ret) rm D κ κq As (C1 ++ im) val post w1) (n : Nat) (hG : GoodIn wsL_law (va_wsS own index y (wl y bytes maxL ret))) (hd : okD y n) (hRm : rm.frames + 1 ≤ R.frames ∧ 8 + (maxL + 11) + rm.locals ≤ R.locals)
    (hn : As.length = n) (hst : st0 = As.reverse ++ rest) (hW : (rest.map fun v => v.category).sum ≤ 8) (hdg : decode cc pc = .ok (.invokestatic index, 3)) (hcs : cells + rm.cells ≤ R.cells ∧ slots + rm.slots ≤ R.slots) (hls : ls.size = nL)
    (js ks : List Nat) (hC : js.map (fun i => C0[i]?) = C1.map some) (hR : ks.map (fun i => C0[i]?) = CR.map some) (hnR : va_nd ks = true) (hnC : va_nd js = true) (hdis : ∀ i ∈ ks, i ∉ js)
    (kk : ∀ (u : S) (H1 : Heap) (locs1 : List Loc), post u → va_P D vwCl (CR ++ w1 u) H1 → va_D A (CR ++ w1 u) → va_S A s.heap H1 locs1 → W p l e R s m args below meth c H1 locs1 (cells + rm.cells) (slots + rm.slots) Q (F0 m (pc + 3) ls ((val u).toList ++ rest))) : W p l e R s m args below meth c H locs cells slots Q (F0 m pc ls st0) := by
  subst hst
  obtain ⟨hx, hb, hml, hown, hts⟩ := hF
  exact et_goT (va_runS (As := As) (rest := rest) ⟨hx, hb, hml, hown, hts⟩ (hM H.size) (va_cwS n hts hG rfl rfl rfl hd hRm) ⟨eP_blind, eP_at hK hP hD hS hA hE (tl_map im hC) (nd_app js hnC (js_lt hC))⟩ rfl hn hls rfl (lv_room hW) hdg hcs) hP hD hS hA hC hR hnR hdis kk
theorem et_IT (hF : FX p s m args c cc nL own) (hK : KK D κ s) (hE : EV κq A s s.heap) (hP : va_P D vwCl (C0 ++ im) H) (hD : va_D A (C0 ++ im)) (hS : va_S A s.heap H locs) (hA : ∀ q : Nat, s.heap.size ≤ q → A q)
    (hM : Et l y (wl y bytes maxL none) rm D κ κq (.ref b :: As) (C1 ++ im) val post w1) (n : Nat) (hm : Cond.methodLink own index y ∈ wsL_law) (him : Cond.instanceMethod y ∈ wsL_law) (hini : Cond.initialized y.cls ∈ wsL_law) (hco : Cond.code y bytes maxL none ∈ wsL_law) (hd : y.name = "<init>" ∧ okD y n) (hRm : rm.frames + 1 ≤ R.frames ∧ 8 + (maxL + 11) + rm.locals ≤ R.locals)
    (hn : As.length = n) (hst : st0 = As.reverse ++ .ref b :: rest) (hW : (rest.map fun v => v.category).sum ≤ 8) (hdg : decode cc pc = .ok (.invokespecial index, 3)) (hcs : cells + rm.cells ≤ R.cells ∧ slots + rm.slots ≤ R.slots) (hls : ls.size = nL)
    (js ks : List Nat) (hC : js.map (fun i => C0[i]?) = C1.map some) (hR : ks.map (fun i => C0[i]?) = CR.map some) (hnR : va_nd ks = true) (hnC : va_nd js = true) (hdis : ∀ i ∈ ks, i ∉ js)
    (kk : ∀ (u : S) (H1 : Heap) (locs1 : List Loc), post u → va_P D vwCl (CR ++ w1 u) H1 → va_D A (CR ++ w1 u) → va_S A s.heap H1 locs1 → W p l e R s m args below meth c H1 locs1 (cells + rm.cells) (slots + rm.slots) Q (F0 m (pc + 3) ls ((val u).toList ++ rest))) : W p l e R s m args below meth c H locs cells slots Q (F0 m pc ls st0) := by
  subst hst
  obtain ⟨hx, hb, hml, hown, hts⟩ := hF
  exact et_goT (va_runI (As := As) (rest := rest) ⟨hx, hb, hml, hown, hts⟩ (hM H.size) (cwI n hts (g_L hco) rfl rfl rfl (hts _ hini) (hts _ hm) (hts _ him) hd.1 hd.2 hRm) ⟨eP_blind, eP_at hK hP hD hS hA hE (tl_map im hC) (nd_app js hnC (js_lt hC))⟩ rfl hn hls rfl (lv_room hW) hdg hcs) hP hD hS hA hC hR hnR hdis kk
theorem er_V (hF : FX p s m args c cc nL own) (hK : KK D κ s) (hE : EV κq A s s.heap) (hS : va_S A s.heap H locs) (hM : Er l y (wl y bytes maxL ret) rm D κ κq (.ref b :: As) wc val post) (n : Nat) (hG : GoodIn wsL_law (wsV own index C y (wl y bytes maxL ret))) (hd : y.cls = C ∧ okD y n) (hrc : rm.cells = 0) (hrs : rm.slots = 0) (hRm : rm.frames + 1 ≤ R.frames ∧ 8 + (maxL + 11) + rm.locals ≤ R.locals)
    (hn : As.length = n) (hst : st0 = As.reverse ++ .ref b :: rest) (hW : (rest.map fun v => v.category).sum ≤ 8) (hdg : decode cc pc = .ok (.invokevirtual index, 3)) (hcs : cells ≤ R.cells ∧ slots ≤ R.slots) (hls : ls.size = nL)
    {wv : va_W} (hPv : va_P D vwCl wv H) (qr ci : Nat) {q : vw_C} {fs : List Value} (hc0 : vwCl[ci]? = some q) (hq : q.1 = C) (her : wv[qr]? = some (b, .inr (ci, fs))) (hPc : va_P D vwCl wc H)
    (kk : ∀ u : S, post u → W p l e R s m args below meth c H locs cells slots Q (F0 m (pc + 3) ls ((val u).toList ++ rest))) : W p l e R s m args below meth c H locs cells slots Q (F0 m pc ls st0) := by
  subst hst; subst hq
  obtain ⟨hx, hb, hml, hown, hts⟩ := hF
  exact cr_go (va_runV (As := As) (rest := rest) ⟨hx, hb, hml, hown, hts⟩ (hM A) (cwV n hts hG rfl hrc hrs hd hRm) ⟨sP_blind, va_recv hK.1 hPv hc0 her, sP_at hK hPc hS hE⟩ rfl hn hls rfl (lv_room hW) hdg hcs) kk
theorem er_K (hF : FX p s m args c cc nL own) (hK : KK D κ s) (hE : EV κq A s s.heap) (hS : va_S A s.heap H locs) (hM : Er l y (wl y bytes maxL ret) rm D κ κq (.ref b :: As) wc val post) (n : Nat) (hG : GoodIn wsL_law (wsV own index C y (wl y bytes maxL ret))) (hd : y.cls = C ∧ okD y n) (hrc : rm.cells = 0) (hrs : rm.slots = 0) (hRm : rm.frames + 1 ≤ R.frames ∧ 8 + (maxL + 11) + rm.locals ≤ R.locals)
    (hn : As.length = n) (hst : st0 = As.reverse ++ .ref b :: rest) (hW : (rest.map fun v => v.category).sum ≤ 8) (hdg : decode cc pc = .ok (.invokevirtual index, 3)) (hcs : cells ≤ R.cells ∧ slots ≤ R.slots) (hls : ls.size = nL)
    (hrv : ∃ cell : Cell, H[b]? = some cell ∧ cell.vm.isStatics = false ∧ s.vm.findClass C = some cell.cls) (hPc : va_P D vwCl wc H)
    (kk : ∀ u : S, post u → W p l e R s m args below meth c H locs cells slots Q (F0 m (pc + 3) ls ((val u).toList ++ rest))) : W p l e R s m args below meth c H locs cells slots Q (F0 m pc ls st0) := by
  subst hst
  obtain ⟨hx, hb, hml, hown, hts⟩ := hF
  exact cr_go (va_runV (As := As) (rest := rest) ⟨hx, hb, hml, hown, hts⟩ (hM A) (cwV n hts hG rfl hrc hrs hd hRm) ⟨sP_blind, hrv, sP_at hK hPc hS hE⟩ rfl hn hls rfl (lv_room hW) hdg hcs) kk
theorem er_S (hF : FX p s m args c cc nL own) (hK : KK D κ s) (hE : EV κq A s s.heap) (hS : va_S A s.heap H locs) (hM : Er l y (wl y bytes maxL ret) rm D κ κq As wc val post) (n : Nat) (hG : GoodIn wsL_law (va_wsS own index y (wl y bytes maxL ret))) (hd : okD y n) (hrc : rm.cells = 0) (hrs : rm.slots = 0) (hRm : rm.frames + 1 ≤ R.frames ∧ 8 + (maxL + 11) + rm.locals ≤ R.locals)
    (hn : As.length = n) (hst : st0 = As.reverse ++ rest) (hW : (rest.map fun v => v.category).sum ≤ 8) (hdg : decode cc pc = .ok (.invokestatic index, 3)) (hcs : cells ≤ R.cells ∧ slots ≤ R.slots) (hls : ls.size = nL) (hPc : va_P D vwCl wc H)
    (kk : ∀ u : S, post u → W p l e R s m args below meth c H locs cells slots Q (F0 m (pc + 3) ls ((val u).toList ++ rest))) : W p l e R s m args below meth c H locs cells slots Q (F0 m pc ls st0) := by
  subst hst
  obtain ⟨hx, hb, hml, hown, hts⟩ := hF
  exact cr_go (va_runS (As := As) (rest := rest) ⟨hx, hb, hml, hown, hts⟩ (hM A) (va_cwS n hts hG rfl hrc hrs hd hRm) ⟨sP_blind, sP_at hK hPc hS hE⟩ rfl hn hls rfl (lv_room hW) hdg hcs) kk
theorem et_IN (hF : FX p s m args c cc nL own) (hK : KK D κ s) (hE : EV κq A s s.heap) (hP : va_P D vwCl (C0 ++ im) H) (hD : va_D A (C0 ++ im)) (hS : va_S A s.heap H locs) (hA : ∀ q : Nat, s.heap.size ≤ q → A q)
    (hM : Et l y (wl y bytes maxL none) rm D κ κq (.ref b :: As) C1 val post w1) (n : Nat) (hm : Cond.methodLink own index y ∈ wsL_law) (him : Cond.instanceMethod y ∈ wsL_law) (hini : Cond.initialized y.cls ∈ wsL_law) (hco : Cond.code y bytes maxL none ∈ wsL_law) (hd : y.name = "<init>" ∧ okD y n) (hRm : rm.frames + 1 ≤ R.frames ∧ 8 + (maxL + 11) + rm.locals ≤ R.locals)
    (hn : As.length = n) (hst : st0 = As.reverse ++ .ref b :: rest) (hW : (rest.map fun v => v.category).sum ≤ 8) (hdg : decode cc pc = .ok (.invokespecial index, 3)) (hcs : cells + rm.cells ≤ R.cells ∧ slots + rm.slots ≤ R.slots) (hls : ls.size = nL)
    (js ks : List Nat) (hC : js.map (fun i => C0[i]?) = C1.map some) (hR : ks.map (fun i => C0[i]?) = CR.map some) (hnR : va_nd ks = true) (hnC : va_nd js = true) (hdis : ∀ i ∈ ks, i ∉ js)
    (kk : ∀ (u : S) (H1 : Heap) (locs1 : List Loc), post u → va_P D vwCl ((CR ++ w1 u) ++ im) H1 → va_D A ((CR ++ w1 u) ++ im) → va_S A s.heap H1 locs1 → W p l e R s m args below meth c H1 locs1 (cells + rm.cells) (slots + rm.slots) Q (F0 m (pc + 3) ls ((val u).toList ++ rest))) : W p l e R s m args below meth c H locs cells slots Q (F0 m pc ls st0) := by
  subst hst
  obtain ⟨hx, hb, hml, hown, hts⟩ := hF
  exact et_goN (va_runI (As := As) (rest := rest) ⟨hx, hb, hml, hown, hts⟩ (hM H.size) (cwI n hts (g_L hco) rfl rfl rfl (hts _ hini) (hts _ hm) (hts _ him) hd.1 hd.2 hRm) ⟨eP_blind, eP_at hK hP hD hS hA hE (pre_map im hC) hnC⟩ rfl hn hls rfl (lv_room hW) hdg hcs) hP hD hS hA hC hR hnR hdis kk
theorem et_INT (hF : FX p s m args c cc nL own) (hK : KK D κ s) (hE : EV κq A s s.heap) (hP : va_P D vwCl (C0 ++ im) H) (hD : va_D A (C0 ++ im)) (hS : va_S A s.heap H locs) (hA : ∀ q : Nat, s.heap.size ≤ q → A q)
    (hM : Et l y (wl y bytes maxL none) rm D κ κq (.ref b :: As) (C1 ++ im) val post w1) (n : Nat) {host : String} (hm : Cond.methodLinkNest own index y host ∈ nwL) (him : Cond.instanceMethod y ∈ wsL_law) (hini : Cond.initialized y.cls ∈ wsL_law) (hco : Cond.code y bytes maxL none ∈ wsL_law) (hd : y.name = "<init>" ∧ okD y n) (hRm : rm.frames + 1 ≤ R.frames ∧ 8 + (maxL + 11) + rm.locals ≤ R.locals)
    (hn : As.length = n) (hst : st0 = As.reverse ++ .ref b :: rest) (hW : (rest.map fun v => v.category).sum ≤ 8) (hdg : decode cc pc = .ok (.invokespecial index, 3)) (hcs : cells + rm.cells ≤ R.cells ∧ slots + rm.slots ≤ R.slots) (hls : ls.size = nL)
    (js ks : List Nat) (hC : js.map (fun i => C0[i]?) = C1.map some) (hR : ks.map (fun i => C0[i]?) = CR.map some) (hnR : va_nd ks = true) (hnC : va_nd js = true) (hdis : ∀ i ∈ ks, i ∉ js)
    (kk : ∀ (u : S) (H1 : Heap) (locs1 : List Loc), post u → va_P D vwCl (CR ++ w1 u) H1 → va_D A (CR ++ w1 u) → va_S A s.heap H1 locs1 → W p l e R s m args below meth c H1 locs1 (cells + rm.cells) (slots + rm.slots) Q (F0 m (pc + 3) ls ((val u).toList ++ rest))) : W p l e R s m args below meth c H locs cells slots Q (F0 m pc ls st0) := by
  subst hst
  obtain ⟨hx, hb, hml, hown, hts⟩ := hF
  exact et_goT (va_runIN (As := As) (rest := rest) ⟨hx, hb, hml, hown, hts⟩ (hM H.size) ⟨va_cnB n hts (g_L hco) rfl rfl rfl (hK.2.2.2.2.2 _ hm) (hts _ hini) hd.2 hRm, hd.1, hts _ him⟩ ⟨eP_blind, eP_at hK hP hD hS hA hE (tl_map im hC) (nd_app js hnC (js_lt hC))⟩ rfl hn hls rfl (lv_room hW) hdg hcs) hP hD hS hA hC hR hnR hdis kk
theorem et_INN (hF : FX p s m args c cc nL own) (hK : KK D κ s) (hE : EV κq A s s.heap) (hP : va_P D vwCl (C0 ++ im) H) (hD : va_D A (C0 ++ im)) (hS : va_S A s.heap H locs) (hA : ∀ q : Nat, s.heap.size ≤ q → A q)
    (hM : Et l y (wl y bytes maxL none) rm D κ κq (.ref b :: As) C1 val post w1) (n : Nat) {host : String} (hm : Cond.methodLinkNest own index y host ∈ nwL) (him : Cond.instanceMethod y ∈ wsL_law) (hini : Cond.initialized y.cls ∈ wsL_law) (hco : Cond.code y bytes maxL none ∈ wsL_law) (hd : y.name = "<init>" ∧ okD y n) (hRm : rm.frames + 1 ≤ R.frames ∧ 8 + (maxL + 11) + rm.locals ≤ R.locals)
    (hn : As.length = n) (hst : st0 = As.reverse ++ .ref b :: rest) (hW : (rest.map fun v => v.category).sum ≤ 8) (hdg : decode cc pc = .ok (.invokespecial index, 3)) (hcs : cells + rm.cells ≤ R.cells ∧ slots + rm.slots ≤ R.slots) (hls : ls.size = nL)
    (js ks : List Nat) (hC : js.map (fun i => C0[i]?) = C1.map some) (hR : ks.map (fun i => C0[i]?) = CR.map some) (hnR : va_nd ks = true) (hnC : va_nd js = true) (hdis : ∀ i ∈ ks, i ∉ js)
    (kk : ∀ (u : S) (H1 : Heap) (locs1 : List Loc), post u → va_P D vwCl ((CR ++ w1 u) ++ im) H1 → va_D A ((CR ++ w1 u) ++ im) → va_S A s.heap H1 locs1 → W p l e R s m args below meth c H1 locs1 (cells + rm.cells) (slots + rm.slots) Q (F0 m (pc + 3) ls ((val u).toList ++ rest))) : W p l e R s m args below meth c H locs cells slots Q (F0 m pc ls st0) := by
  subst hst
  obtain ⟨hx, hb, hml, hown, hts⟩ := hF
  exact et_goN (va_runIN (As := As) (rest := rest) ⟨hx, hb, hml, hown, hts⟩ (hM H.size) ⟨va_cnB n hts (g_L hco) rfl rfl rfl (hK.2.2.2.2.2 _ hm) (hts _ hini) hd.2 hRm, hd.1, hts _ him⟩ ⟨eP_blind, eP_at hK hP hD hS hA hE (pre_map im hC) hnC⟩ rfl hn hls rfl (lv_room hW) hdg hcs) hP hD hS hA hC hR hnR hdis kk
theorem et_SN (hF : FX p s m args c cc nL own) (hK : KK D κ s) (hE : EV κq A s s.heap) (hP : va_P D vwCl (C0 ++ im) H) (hD : va_D A (C0 ++ im)) (hS : va_S A s.heap H locs) (hA : ∀ q : Nat, s.heap.size ≤ q → A q)
    (hM : Et l y (wl y bytes maxL ret) rm D κ κq As C1 val post w1) (n : Nat) (hG : GoodIn wsL_law (va_wsS own index y (wl y bytes maxL ret))) (hd : okD y n) (hRm : rm.frames + 1 ≤ R.frames ∧ 8 + (maxL + 11) + rm.locals ≤ R.locals)
    (hn : As.length = n) (hst : st0 = As.reverse ++ rest) (hW : (rest.map fun v => v.category).sum ≤ 8) (hdg : decode cc pc = .ok (.invokestatic index, 3)) (hcs : cells + rm.cells ≤ R.cells ∧ slots + rm.slots ≤ R.slots) (hls : ls.size = nL)
    (js ks : List Nat) (hC : js.map (fun i => C0[i]?) = C1.map some) (hR : ks.map (fun i => C0[i]?) = CR.map some) (hnR : va_nd ks = true) (hnC : va_nd js = true) (hdis : ∀ i ∈ ks, i ∉ js)
    (kk : ∀ (u : S) (H1 : Heap) (locs1 : List Loc), post u → va_P D vwCl ((CR ++ w1 u) ++ im) H1 → va_D A ((CR ++ w1 u) ++ im) → va_S A s.heap H1 locs1 → W p l e R s m args below meth c H1 locs1 (cells + rm.cells) (slots + rm.slots) Q (F0 m (pc + 3) ls ((val u).toList ++ rest))) : W p l e R s m args below meth c H locs cells slots Q (F0 m pc ls st0) := by
  subst hst
  obtain ⟨hx, hb, hml, hown, hts⟩ := hF
  exact et_goN (va_runS (As := As) (rest := rest) ⟨hx, hb, hml, hown, hts⟩ (hM H.size) (va_cwS n hts hG rfl rfl rfl hd hRm) ⟨eP_blind, eP_at hK hP hD hS hA hE (pre_map im hC) hnC⟩ rfl hn hls rfl (lv_room hW) hdg hcs) hP hD hS hA hC hR hnR hdis kk
theorem er_SN {host : String} (hF : FX p s m args c cc nL own) (hK : KK D κ s) (hE : EV κq A s s.heap) (hS : va_S A s.heap H locs) (hM : Er l y (wl y bytes maxL ret) rm D κ κq As wc val post) (n : Nat) (hm : Cond.methodLinkNest own index y host ∈ nwL) (hst1 : Cond.static y ∈ wsL_law) (hini : Cond.initialized y.cls ∈ wsL_law) (hco : Cond.code y bytes maxL ret ∈ wsL_law) (hd : okD y n) (hrc : rm.cells = 0) (hrs : rm.slots = 0) (hRm : rm.frames + 1 ≤ R.frames ∧ 8 + (maxL + 11) + rm.locals ≤ R.locals)
    (hn : As.length = n) (hst : st0 = As.reverse ++ rest) (hW : (rest.map fun v => v.category).sum ≤ 8) (hdg : decode cc pc = .ok (.invokestatic index, 3)) (hcs : cells ≤ R.cells ∧ slots ≤ R.slots) (hls : ls.size = nL) (hPc : va_P D vwCl wc H)
    (kk : ∀ u : S, post u → W p l e R s m args below meth c H locs cells slots Q (F0 m (pc + 3) ls ((val u).toList ++ rest))) : W p l e R s m args below meth c H locs cells slots Q (F0 m pc ls st0) := by
  subst hst
  obtain ⟨hx, hb, hml, hown, hts⟩ := hF
  exact cr_go (va_runSN (As := As) (rest := rest) ⟨hx, hb, hml, hown, hts⟩ (hM A) ⟨va_cnB n hts (g_L hco) rfl hrc hrs (hK.2.2.2.2.2 _ hm) (hts _ hini) hd hRm, hts _ hst1, trivial⟩ ⟨sP_blind, sP_at hK hPc hS hE⟩ rfl hn hls rfl (lv_room hW) hdg hcs) kk
/-- a loop that makes: what it may make falls with its measure -/
theorem loop_mk {st : List Value} (K dc ds cE sE : Nat) (Inv : Nat → Heap → List Loc → Array Slot → Prop)
    (hstep : ∀ (k : Nat) (H : Heap) (locs : List Loc) (ls : Array Slot), k ≤ K → Inv k H locs ls → (∀ (k1 : Nat) (H1 : Heap) (locs1 : List Loc) (ls1 : Array Slot), k1 < k → Inv k1 H1 locs1 ls1 → W p l e R s m args below meth c H1 locs1 (cE - dc * k1) (sE - ds * k1) Q (F0 m pc ls1 st)) → W p l e R s m args below meth c H locs (cE - dc * k) (sE - ds * k) Q (F0 m pc ls st)) :
    ∀ (k : Nat) (H : Heap) (locs : List Loc) (ls : Array Slot), k ≤ K → Inv k H locs ls → W p l e R s m args below meth c H locs (cE - dc * k) (sE - ds * k) Q (F0 m pc ls st) := by
  intro k
  induction k using Nat.strongRecOn with
  | _ k ih => exact fun H locs ls hk hi => hstep k H locs ls hk hi (fun k1 H1 locs1 ls1 h h1 => ih k1 h H1 locs1 ls1 (by omega) h1)
end MYE
theorem min_n {a b : Nat} (ha : a < 2147483648) (hb : b < 2147483648) : ∃ r : Nat, r ≤ a ∧ r ≤ b ∧ (r = a ∨ r = b) ∧ (if nI b < nI a then nI b else nI a) = nI r := by
  by_cases h : b < a
  · exact ⟨b, by omega, by omega, Or.inr rfl, if_pos (nI_lt h ha)⟩
  · exact ⟨a, by omega, by omega, Or.inl rfl, if_neg (nI_nlt (by omega) hb)⟩
theorem max_n {a b : Nat} (ha : a < 2147483648) (hb : b < 2147483648) : ∃ r : Nat, a ≤ r ∧ b ≤ r ∧ (r = a ∨ r = b) ∧ (if nI a < nI b then nI b else nI a) = nI r := by
  by_cases h : a < b
  · exact ⟨b, by omega, by omega, Or.inr rfl, if_pos (nI_lt h hb)⟩
  · exact ⟨a, by omega, by omega, Or.inl rfl, if_neg (nI_nlt (by omega) ha)⟩
theorem nm_I {D : va_G} {κ : Nat → ClassId} {s : State} (hK : KK D κ s) : s.vm.findClass "[I" = some (κ 0) := (hK.1.2 0 _ rfl).2
theorem nm_B {D : va_G} {κ : Nat → ClassId} {s : State} (hK : KK D κ s) : s.vm.findClass "[B" = some (κ 1) := (hK.1.2 1 _ rfl).2
theorem fit_nar (x : Int32) : fits .byte (.int (vp_nar .byte x)) = true := pk_fb x
