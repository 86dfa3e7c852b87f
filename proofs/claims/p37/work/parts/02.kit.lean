/-! my own kit: the array classes by number, one bundle of what the tables say, two forms of contract, their calls and ends -/
abbrev T0 (κ : Nat → ClassId) : List (ClassId × FieldType) := [(κ 0, .int), (κ 1, .byte), (κ 2, .object RX0), (κ 3, .object RX1), (κ 4, .object RX5), (κ 5, .object RX9)]
def nwL : List Cond := [.methodLinkNest RX11 18 yX8_init RX11, .methodLinkNest RX11 25 yX2_init RX11, .methodLinkNest RX1 24 yX11_holds RX11, .methodLinkNest RX5 63 yX11_holds RX11, .methodLinkNest RX5 57 yX11_join RX11, .methodLinkNest RX3 24 yX11_common RX11, .methodLinkNest RX3 29 yX7_cellOf RX11]
theorem nwL_on : ∀ w ∈ nwL, w.onTables = true := by decide +kernel
theorem nwL_is : ∀ w ∈ nwL, ∃ (a : String) (i : Nat) (x : MethodName) (h : String), w = .methodLinkNest a i x h := by
  intro w hw
  simp only [nwL, List.mem_cons, List.not_mem_nil, or_false] at hw
  rcases hw with rfl | rfl | rfl | rfl | rfl | rfl | rfl <;> exact ⟨_, _, _, _, rfl⟩
def KK (D : va_G) (κ : Nat → ClassId) (U : State) : Prop := va_K D vwCl (T0 κ) U ∧ va_AO RX0 U ∧ va_AO RX1 U ∧ va_AO RX5 U ∧ va_AO RX9 U ∧ ∀ w ∈ nwL, va_Nw w U
theorem KK.same {D : va_G} {κ : Nat → ClassId} {u U : State} (h : u.vm = U.vm) (hK : KK D κ u) : KK D κ U := by
  obtain ⟨h1, h2, h3, h4, h5, h6⟩ := hK
  have ha : u.vm.Alike U.vm := by rw [h]; exact Vm.Alike.refl _
  exact ⟨va_K.moved ha h1, h2.moved ha, h3.moved ha, h4.moved ha, h5.moved ha, fun w hw => (h6 w hw).same (nwL_on w hw) h⟩
theorem KK.warm {D : va_G} {κ : Nat → ClassId} {s U : State} (hW : s.WarmedH U.vm) (hK : KK D κ s) : KK D κ U := by
  obtain ⟨h1, h2, h3, h4, h5, h6⟩ := hK
  have ha := hW.alike
  refine ⟨va_K.moved ha h1, h2.moved ha, h3.moved ha, h4.moved ha, h5.moved ha, fun w hw => ?_⟩
  have h7 := h6 w hw
  obtain ⟨a, i, x, h, rfl⟩ := nwL_is w hw
  exact va_Nw.warmM hW h7
abbrev wl (y : MethodName) (cc : ByteArray) (n : Nat) (ret : Option FieldType) : List Cond := Cond.code y cc n ret :: wsL_law
/-- before a writing method: its cells, the tables, a saying of the heap -/
def cP (D : va_G) (κ : Nat → ClassId) (av : List Value) (w0 : va_W) (I : Heap → Prop) (sz : Nat) : Array Value → State → Prop := va_Pc av (fun U => U.heap.size = sz ∧ va_P D vwCl w0 U.heap ∧ KK D κ U ∧ va_D (fun _ => True) w0 ∧ I U.heap)
def cQ {S : Type} (D : va_G) (val : S → Option Value) (post : S → Prop) (w1 : S → va_W) (J : S → Heap → Prop) (A : Nat → Prop) : Array Value → State → Outcome → State → Prop := fun _ st oc t => (∃ u : S, oc = .returned (val u) ∧ post u ∧ va_P D vwCl (w1 u) t.heap ∧ va_D A (w1 u) ∧ J u t.heap) ∧ va_F A st t
def Ct {S : Type} (l : Launch) (y : MethodName) (ws : List Cond) (rm : Room) (D : va_G) (κ : Nat → ClassId) (av : List Value) (w0 : va_W) (I : Heap → Prop) (val : S → Option Value) (post : S → Prop) (w1 : S → va_W) (J : S → Heap → Prop) : Prop := ∀ sz : Nat, Met l y ws rm (cP D κ av w0 I sz) (cQ D val post w1 J (va_A w0 sz)) rm.cells rm.slots (va_A w0 sz)
/-- a reading method: it leaves the heap as it is -/
def rP (D : va_G) (κ : Nat → ClassId) (av : List Value) (I : Heap → Prop) : Array Value → State → Prop := va_Pc av (fun U => KK D κ U ∧ I U.heap)
def rQ {S : Type} (val : S → Option Value) (post : S → Prop) : Array Value → State → Outcome → State → Prop := fun _ st oc t => (∃ u : S, oc = .returned (val u) ∧ post u) ∧ t.heap = st.heap
def Cr {S : Type} (l : Launch) (y : MethodName) (ws : List Cond) (rm : Room) (D : va_G) (κ : Nat → ClassId) (av : List Value) (I : Heap → Prop) (val : S → Option Value) (post : S → Prop) : Prop := Met l y ws rm (rP D κ av I) (rQ val post) 0 0 (fun _ => False)
theorem pm {ws ws' : va_W} {is : List Nat} (h : is.map (fun i => ws[i]?) = ws'.map some) : is.filterMap (fun i => ws[i]?) = ws' := by
  have h2 : (is.map (fun i => ws[i]?)).filterMap id = (ws'.map some).filterMap id := by rw [h]
  simpa [List.filterMap_map, Function.comp_def] using h2
theorem wl_in {c : Cond} {l : List Cond} : ∀ w ∈ l, w ∈ c :: l := fun _ h => List.mem_cons_of_mem _ h
section MYK
variable {l : Launch} {y : MethodName} {cc : ByteArray} {maxL : Nat} {ret : Option FieldType} {rm : Room} {D : va_G} {κ : Nat → ClassId} {av : List Value} {w0 : va_W} {S : Type} {I : Heap → Prop} {val : S → Option Value} {post : S → Prop} {w1 : S → va_W} {J : S → Heap → Prop}
theorem ct_of (hy : plainName y.cls = true) (hlen : (lg_sl av).length ≤ maxL)
    (body : ∀ (p : Program) (e : Env) (s : State) (m : MethodId) (args : Array Value) (below : List Frame) (meth : Method) (c : Code) (A : Nat → Prop) (ls : Array Slot), p.tables.exec = Jvm.exec → c.code = cc → meth.sig.returnType = ret → c.maxLocals = maxL → (∀ w ∈ wsL_law, w.before args s = true) → s.vm.findClass y.cls = some m.cls → meth.locks = false → meth.name = y.name → KK D κ s → va_K D vwCl (T0 κ) s → (∀ q : Nat, s.heap.size ≤ q → A q) → va_P D vwCl w0 s.heap → va_D A w0 → va_S A s.heap s.heap [] → I s.heap → lv_has ls maxL (lv_args 0 av) → W p l e rm s m args below meth c s.heap [] 0 0 (MQ below (cQ D val post w1 J A) args s rm.cells rm.slots A) (F0 m 0 ls [])) : Ct l y (wl y cc maxL ret) rm D κ av w0 I val post w1 J := by
  intro sz
  refine Met.ofW (cc := cc) (maxL := maxL) (ret := ret) hy rfl ?_
  intro p e s m args below meth c s₁ B hml hv
  obtain ⟨rfl, hsz, hP, hK, hD0, hI⟩ := hv
  have hts := atoms_spec (ws := wl y cc maxL ret) B.pre
  subst hsz
  rw [lg_entry_eq]
  exact body p e s m av.toArray below meth c (va_A w0 s.heap.size) _ B.exec B.bytes B.returns hml (fun w h => hts w (List.mem_cons_of_mem _ h)) (findClass_of_methodNamed B.named) B.notSynchronized (name_of_methodNamed B.named B.method).1 hK hK.1 (fun q h => Or.inr h) hP hD0.self va_S.rf hI (lv_entry av hlen)
theorem cr_of (hy : plainName y.cls = true) (hlen : (lg_sl av).length ≤ maxL)
    (body : ∀ (p : Program) (e : Env) (s : State) (m : MethodId) (args : Array Value) (below : List Frame) (meth : Method) (c : Code) (ls : Array Slot), p.tables.exec = Jvm.exec → c.code = cc → meth.sig.returnType = ret → c.maxLocals = maxL → (∀ w ∈ wsL_law, w.before args s = true) → s.vm.findClass y.cls = some m.cls → meth.locks = false → KK D κ s → va_K D vwCl (T0 κ) s → I s.heap → lv_has ls maxL (lv_args 0 av) → W p l e rm s m args below meth c s.heap [] 0 0 (MQ below (rQ val post) args s 0 0 (fun _ => False)) (F0 m 0 ls [])) : Cr l y (wl y cc maxL ret) rm D κ av I val post := by
  refine Met.ofW (cc := cc) (maxL := maxL) (ret := ret) hy rfl ?_
  intro p e s m args below meth c s₁ B hml hv
  obtain ⟨rfl, hK, hI⟩ := hv
  have hts := atoms_spec (ws := wl y cc maxL ret) B.pre
  rw [lg_entry_eq]
  exact body p e s m av.toArray below meth c _ B.exec B.bytes B.returns hml (fun w h => hts w (List.mem_cons_of_mem _ h)) (findClass_of_methodNamed B.named) B.notSynchronized hK hK.1 hI (lv_entry av hlen)
variable {p : Program} {e : Env} {R : Room} {s : State} {m : MethodId} {args : Array Value} {below : List Frame} {meth : Method} {c : Code} {H : Heap} {locs : List Loc} {cells slots pc : Nat} {ls : Array Slot} {A : Nat → Prop} {ws wc wr : va_W} {Q : State → Prop} {rest st0 : List Value}
theorem ki {x v : Int32} (h : x = v) (k : W p l e R s m args below meth c H locs cells slots Q (F0 m pc ls (.int v :: rest))) : W p l e R s m args below meth c H locs cells slots Q (F0 m pc ls (.int x :: rest)) := h ▸ k
theorem kl {x v : Int64} (h : x = v) (k : W p l e R s m args below meth c H locs cells slots Q (F0 m pc ls (.long v :: rest))) : W p l e R s m args below meth c H locs cells slots Q (F0 m pc ls (.long x :: rest)) := h ▸ k
theorem kv {x v : Value} (h : x = v) (k : W p l e R s m args below meth c H locs cells slots Q (F0 m pc ls (v :: rest))) : W p l e R s m args below meth c H locs cells slots Q (F0 m pc ls (x :: rest)) := h ▸ k
-- ends of a writing method
theorem ct_iret {v : Int32} {ty : FieldType} (hx : p.tables.exec = Jvm.exec) (hb : c.code = cc) (hr : meth.sig.returnType = some ty) (hlk : meth.locks = false) (hnr : narrow ty (.int v) = .int v) (hS : va_S A s.heap H locs) (hP : va_P D vwCl ws H) (hD : va_D A ws) (u : S) (hv : val u = some (.int v)) (hp : post u) (is : List Nat) (h1 : is.map (fun i => ws[i]?) = (w1 u).map some) (hn : va_nd is = true) (hJ : J u H) (hc : cells ≤ rm.cells) (hs : slots ≤ rm.slots) (hdg : decode cc pc = .ok (.ireturn, 1)) :
    W p l e R s m args below meth c H locs cells slots (MQ below (cQ D val post w1 J A) args s rm.cells rm.slots A) (F0 m pc ls [.int v]) := by
  refine W.widen hc hs ?_
  exact W.zret hx hb hr hnr (fun t ht hW => ⟨⟨u, by rw [hv], hp, by rw [ht]; exact hP.sub is (pm h1), hD.sub is hn h1, by rw [ht]; exact hJ⟩, hS.F ht⟩) hS.2.2 hdg hlk
theorem ct_lret {v : Int64} (hx : p.tables.exec = Jvm.exec) (hb : c.code = cc) (hr : meth.sig.returnType = some .long) (hlk : meth.locks = false) (hS : va_S A s.heap H locs) (hP : va_P D vwCl ws H) (hD : va_D A ws) (u : S) (hv : val u = some (.long v)) (hp : post u) (is : List Nat) (h1 : is.map (fun i => ws[i]?) = (w1 u).map some) (hn : va_nd is = true) (hJ : J u H) (hc : cells ≤ rm.cells) (hs : slots ≤ rm.slots) (hdg : decode cc pc = .ok (.lreturn, 1)) :
    W p l e R s m args below meth c H locs cells slots (MQ below (cQ D val post w1 J A) args s rm.cells rm.slots A) (F0 m pc ls [.long v]) := by
  refine W.widen hc hs ?_
  exact W.lret hx hb hr (fun t ht hW => ⟨⟨u, by rw [hv], hp, by rw [ht]; exact hP.sub is (pm h1), hD.sub is hn h1, by rw [ht]; exact hJ⟩, hS.F ht⟩) hS.2.2 hdg hlk
theorem ct_vret (hx : p.tables.exec = Jvm.exec) (hb : c.code = cc) (hr : meth.sig.returnType = none) (hlk : meth.locks = false) (hS : va_S A s.heap H locs) (hP : va_P D vwCl ws H) (hD : va_D A ws) (u : S) (hv : val u = none) (hp : post u) (is : List Nat) (h1 : is.map (fun i => ws[i]?) = (w1 u).map some) (hn : va_nd is = true) (hJ : J u H) (hc : cells ≤ rm.cells) (hs : slots ≤ rm.slots) (hdg : decode cc pc = .ok (.return_, 1)) :
    W p l e R s m args below meth c H locs cells slots (MQ below (cQ D val post w1 J A) args s rm.cells rm.slots A) (F0 m pc ls []) := by
  refine W.widen hc hs ?_
  exact W.vret hx hb hr (fun t ht hW => ⟨⟨u, by rw [hv], hp, by rw [ht]; exact hP.sub is (pm h1), hD.sub is hn h1, by rw [ht]; exact hJ⟩, hS.F ht⟩) hS.2.2 hdg hlk
theorem ct_aret {v : Value} {ty : FieldType} (hx : p.tables.exec = Jvm.exec) (hb : c.code = cc) (hr : meth.sig.returnType = some ty) (hrt : (∃ n, ty = .object n) ∨ ∃ t, ty = .array t) (hlk : meth.locks = false) (hvv : v = .null ∨ ∃ a, v = .ref a) (hS : va_S A s.heap H locs) (hP : va_P D vwCl ws H) (hD : va_D A ws) (u : S) (hv : val u = some v) (hp : post u) (is : List Nat) (h1 : is.map (fun i => ws[i]?) = (w1 u).map some) (hn : va_nd is = true) (hJ : J u H) (hc : cells ≤ rm.cells) (hs : slots ≤ rm.slots) (hdg : decode cc pc = .ok (.areturn, 1)) :
    W p l e R s m args below meth c H locs cells slots (MQ below (cQ D val post w1 J A) args s rm.cells rm.slots A) (F0 m pc ls [v]) := by
  refine W.widen hc hs ?_
  exact W.aret hx hb hr hrt hvv (fun t ht hW => ⟨⟨u, by rw [hv], hp, by rw [ht]; exact hP.sub is (pm h1), hD.sub is hn h1, by rw [ht]; exact hJ⟩, hS.F ht⟩) hS.2.2 hdg hlk
-- ends of a reading method
theorem cr_iret {v : Int32} {ty : FieldType} (hx : p.tables.exec = Jvm.exec) (hb : c.code = cc) (hr : meth.sig.returnType = some ty) (hlk : meth.locks = false) (hnr : narrow ty (.int v) = .int v) (u : S) (hv : val u = some (.int v)) (hp : post u) (hdg : decode cc pc = .ok (.ireturn, 1)) :
    W p l e R s m args below meth c s.heap [] 0 0 (MQ below (rQ val post) args s 0 0 (fun _ => False)) (F0 m pc ls [.int v]) :=
  W.zret hx hb hr hnr (fun t ht hW => ⟨⟨u, by rw [hv], hp⟩, ht⟩) (fun q h => by cases h) hdg hlk
theorem cr_lret {v : Int64} (hx : p.tables.exec = Jvm.exec) (hb : c.code = cc) (hr : meth.sig.returnType = some .long) (hlk : meth.locks = false) (u : S) (hv : val u = some (.long v)) (hp : post u) (hdg : decode cc pc = .ok (.lreturn, 1)) :
    W p l e R s m args below meth c s.heap [] 0 0 (MQ below (rQ val post) args s 0 0 (fun _ => False)) (F0 m pc ls [.long v]) :=
  W.lret hx hb hr (fun t ht hW => ⟨⟨u, by rw [hv], hp⟩, ht⟩) (fun q h => by cases h) hdg hlk
theorem cr_vret (hx : p.tables.exec = Jvm.exec) (hb : c.code = cc) (hr : meth.sig.returnType = none) (hlk : meth.locks = false) (u : S) (hv : val u = none) (hp : post u) (hdg : decode cc pc = .ok (.return_, 1)) :
    W p l e R s m args below meth c s.heap [] 0 0 (MQ below (rQ val post) args s 0 0 (fun _ => False)) (F0 m pc ls []) :=
  W.vret hx hb hr (fun t ht hW => ⟨⟨u, by rw [hv], hp⟩, ht⟩) (fun q h => by cases h) hdg hlk
theorem cr_aret {v : Value} {ty : FieldType} (hx : p.tables.exec = Jvm.exec) (hb : c.code = cc) (hr : meth.sig.returnType = some ty) (hrt : (∃ n, ty = .object n) ∨ ∃ t, ty = .array t) (hlk : meth.locks = false) (hvv : v = .null ∨ ∃ a, v = .ref a) (u : S) (hv : val u = some v) (hp : post u) (hdg : decode cc pc = .ok (.areturn, 1)) :
    W p l e R s m args below meth c s.heap [] 0 0 (MQ below (rQ val post) args s 0 0 (fun _ => False)) (F0 m pc ls [v]) :=
  W.aret hx hb hr hrt hvv (fun t ht hW => ⟨⟨u, by rw [hv], hp⟩, ht⟩) (fun q h => by cases h) hdg hlk
-- calls of a writing method
theorem ct_go {a : Array Value} (hr : va_Run p l e R s m args below meth c H locs cells slots rm.cells rm.slots (F0 m pc ls st0) rest (cQ D val post w1 J (va_A wc H.size) a) (va_A wc H.size)) (hP : va_P D vwCl ws H) (hD : va_D A ws) (hS : va_S A s.heap H locs) (hA : ∀ q : Nat, s.heap.size ≤ q → A q) (isC isR : List Nat) (hC : isC.map (fun i => ws[i]?) = wc.map some) (hR : isR.map (fun i => ws[i]?) = wr.map some) (hn : va_nd isR = true) (hdis : ∀ i ∈ isR, i ∉ isC)
    (kk : ∀ (u : S) (H1 : Heap) (locs1 : List Loc), post u → J u H1 → va_P D vwCl (wr ++ w1 u) H1 → va_D A (wr ++ w1 u) → va_S A s.heap H1 locs1 → H.size ≤ H1.size → (∀ q : Nat, q < H.size → ¬ va_A wc H.size q → H1[q]? = H[q]?) → W p l e R s m args below meth c H1 locs1 (cells + rm.cells) (slots + rm.slots) Q (F0 m (pc + 3) ls ((val u).toList ++ rest))) : W p l e R s m args below meth c H locs cells slots Q (F0 m pc ls st0) := by
  intro T hT X
  obtain ⟨v, st₀, t, T', L, h0, X', hL, e1, e2, ⟨⟨u, hv, hp, hP1, hD1, hJ⟩, hz, hk⟩, st⟩ := hr T hT X
  cases hv
  rw [h0] at hz hk
  have hF := va_free (wc := wc) hD hS hA isC hC
  have hk1 : ∀ q : Nat, q < H.size → ¬ va_A wc H.size q → T'.heap[q]? = H[q]? := fun q h1 h2 => by rw [e1]; exact hk q h1 h2
  obtain ⟨hP2, hD2⟩ := va_join (wr := wr) (w1 := w1 u) hP hD isC isR hC hR hn hdis hk1 hF (by rw [e1]; exact hP1) hD1
  obtain ⟨t2, a1, b1⟩ := kk u T'.heap (locs ++ L) hp (by rw [e1]; exact hJ) hP2 hD2
    ⟨Nat.le_trans hS.1 (by rw [e1]; exact hz), fun q h1 h2 => by rw [hk1 q (Nat.lt_of_lt_of_le h1 hS.1) (fun z => h2 (hF q z))]; exact hS.2.1 q h1 h2, fun q hq => by
      rcases List.mem_append.mp hq with h | h
      · exact hS.2.2 q h
      · exact hF _ (hL q h)⟩ (by rw [e1]; exact hz) hk1 T' rfl X'
  exact ⟨t2, st t2 a1, b1⟩
theorem cr_go {a : Array Value} (hr : va_Run p l e R s m args below meth c H locs cells slots 0 0 (F0 m pc ls st0) rest (rQ val post a) (fun _ => False))
    (kk : ∀ u : S, post u → W p l e R s m args below meth c H locs cells slots Q (F0 m (pc + 3) ls ((val u).toList ++ rest))) : W p l e R s m args below meth c H locs cells slots Q (F0 m pc ls st0) := by
  intro T hT X
  obtain ⟨v, st₀, t, T', L, h0, X', hL, e1, e2, ⟨⟨u, hv, hp⟩, hh⟩, st⟩ := hr T hT X
  cases hv
  obtain ⟨t2, a1, b1⟩ := kk u hp T' (by rw [e1, hh, h0]) (Stand.forget X' (fun q h => (hL q h).elim))
  exact ⟨t2, st t2 a1, b1⟩
theorem cP_blind {sz : Nat} : FrameBlind (cP D κ av w0 I sz) := fun a U g mk q => by
  obtain ⟨q0, q1, q2, q3, q4, q5⟩ := q
  exact ⟨q0, q1, q2, KK.same (u := U) (U := U.calling g mk a) rfl q3, q4, q5⟩
theorem rP_blind : FrameBlind (rP D κ av I) := fun a U g mk q => by
  obtain ⟨q0, q1, q2⟩ := q
  exact ⟨q0, KK.same (u := U) (U := U.calling g mk a) rfl q1, q2⟩
theorem cP_at {isC : List Nat} (hK : KK D κ s) (hP : va_P D vwCl ws H) (hD : va_D A ws) (hC : isC.map (fun i => ws[i]?) = wc.map some) (hnC : va_nd isC = true) (hI : I H) : ∀ U : State, U.heap = H → s.WarmedH U.vm → cP D κ av wc I H.size av.toArray U := fun U hU hW =>
  ⟨rfl, by rw [hU], by rw [hU]; exact hP.sub isC (pm hC), hK.warm hW, (hD.sub isC hnC hC).weaken (fun _ _ _ _ => trivial), by rw [hU]; exact hI⟩
theorem rP_at (hK : KK D κ s) (hI : I H) : ∀ U : State, U.heap = H → s.WarmedH U.vm → rP D κ av I av.toArray U := fun U hU hW => ⟨rfl, hK.warm hW, by rw [hU]; exact hI⟩
abbrev okD (y : MethodName) (n : Nat) : Prop := y.cls ≠ "java/lang/invoke/MethodHandle" ∧ y.cls ≠ "java/lang/invoke/VarHandle" ∧ (parseMethodDescriptor y.desc).map (fun d => d.parameters.length) = some n
theorem wGood : wsL_law.all goodWord = true := by decide +kernel
theorem wG {w : Cond} (h : w ∈ wsL_law) : w ∈ wsL_law ∧ ((w.onTables && w.keeps) = true ∨ ∃ ty, w = .arrayClass ty) := ⟨h, good_of_word (List.all_eq_true.mp wGood w h)⟩
theorem g_L {y : MethodName} {cc : ByteArray} {n : Nat} {ret : Option FieldType} (h : Cond.code y cc n ret ∈ wsL_law) : GoodIn wsL_law (wl y cc n ret) := fun w hw => by
  rcases List.mem_cons.mp hw with rfl | h2
  · exact wG h
  · exact wG h2
theorem g_V {own C : String} {idx : Nat} {y : MethodName} {cc : ByteArray} {n : Nat} {ret : Option FieldType} (h1 : Cond.methodLink own idx y ∈ wsL_law) (h2 : Cond.instanceMethod y ∈ wsL_law) (h3 : Cond.selects C y y ∈ wsL_law) (h4 : Cond.initialized C ∈ wsL_law) (h : Cond.code y cc n ret ∈ wsL_law) : GoodIn wsL_law (wsV own idx C y (wl y cc n ret)) := fun w hw => by
  unfold wsV at hw
  rcases List.mem_append.mp hw with h5 | h5
  · simp only [List.mem_cons, List.not_mem_nil, or_false] at h5
    rcases h5 with rfl | rfl | rfl | rfl
    · exact wG h1
    · exact wG h2
    · exact wG h3
    · exact wG h4
  · exact g_L h w h5
theorem g_S {own : String} {idx : Nat} {y : MethodName} {cc : ByteArray} {n : Nat} {ret : Option FieldType} (h1 : Cond.methodLink own idx y ∈ wsL_law) (h2 : Cond.static y ∈ wsL_law) (h4 : Cond.initialized y.cls ∈ wsL_law) (h : Cond.code y cc n ret ∈ wsL_law) : GoodIn wsL_law (va_wsS own idx y (wl y cc n ret)) := fun w hw => by
  unfold va_wsS at hw
  rcases List.mem_append.mp hw with h5 | h5
  · simp only [List.mem_cons, List.not_mem_nil, or_false] at h5
    rcases h5 with rfl | rfl | rfl
    · exact wG h1
    · exact wG h2
    · exact wG h4
  · exact g_L h w h5
/-- what a call in this frame rests on -/
abbrev FX (p : Program) (s : State) (m : MethodId) (args : Array Value) (c : Code) (cc : ByteArray) (nL : Nat) (own : String) : Prop := p.tables.exec = Jvm.exec ∧ c.code = cc ∧ c.maxLocals = nL ∧ s.vm.findClass own = some m.cls ∧ ∀ w ∈ wsL_law, w.before args s = true
variable {own C : String} {bytes : ByteArray} {nL index : Nat} {b : Nat} {As : List Value}
theorem ct_V (hF : FX p s m args c cc nL own) (hK : KK D κ s) (hP : va_P D vwCl ws H) (hD : va_D A ws) (hS : va_S A s.heap H locs) (hA : ∀ q : Nat, s.heap.size ≤ q → A q)
    (hM : Ct l y (wl y bytes maxL ret) rm D κ (.ref b :: As) wc I val post w1 J) (n : Nat) (hG : GoodIn wsL_law (wsV own index C y (wl y bytes maxL ret))) (hd : y.cls = C ∧ okD y n) (hRm : rm.frames + 1 ≤ R.frames ∧ 8 + (maxL + 11) + rm.locals ≤ R.locals)
    (hn : As.length = n) (hst : st0 = As.reverse ++ .ref b :: rest) (hW : (rest.map fun v => v.category).sum ≤ 8) (hdg : decode cc pc = .ok (.invokevirtual index, 3)) (hcs : cells + rm.cells ≤ R.cells ∧ slots + rm.slots ≤ R.slots) (hls : ls.size = nL)
    (isC isR : List Nat) (hC : isC.map (fun i => ws[i]?) = wc.map some) (hR : isR.map (fun i => ws[i]?) = wr.map some) (hnR : va_nd isR = true) (hnC : va_nd isC = true) (hdis : ∀ i ∈ isR, i ∉ isC) (qr ci : Nat) {q : vw_C} {fs : List Value} (hc0 : vwCl[ci]? = some q) (hq : q.1 = C) (her : ws[qr]? = some (b, .inr (ci, fs))) (hI : I H)
    (kk : ∀ (u : S) (H1 : Heap) (locs1 : List Loc), post u → J u H1 → va_P D vwCl (wr ++ w1 u) H1 → va_D A (wr ++ w1 u) → va_S A s.heap H1 locs1 → H.size ≤ H1.size → (∀ q : Nat, q < H.size → ¬ va_A wc H.size q → H1[q]? = H[q]?) → W p l e R s m args below meth c H1 locs1 (cells + rm.cells) (slots + rm.slots) Q (F0 m (pc + 3) ls ((val u).toList ++ rest))) : W p l e R s m args below meth c H locs cells slots Q (F0 m pc ls st0) := by
  subst hst; subst hq
  obtain ⟨hx, hb, hml, hown, hts⟩ := hF
  exact ct_go (va_runV (As := As) (rest := rest) ⟨hx, hb, hml, hown, hts⟩ (hM H.size) (cwV n hts hG rfl rfl rfl hd hRm) ⟨cP_blind, va_recv hK.1 hP hc0 her, cP_at hK hP hD hC hnC hI⟩ rfl hn hls rfl (lv_room hW) hdg hcs) hP hD hS hA isC isR hC hR hnR hdis kk
theorem ct_S (hF : FX p s m args c cc nL own) (hK : KK D κ s) (hP : va_P D vwCl ws H) (hD : va_D A ws) (hS : va_S A s.heap H locs) (hA : ∀ q : Nat, s.heap.size ≤ q → A q)
    (hM : Ct l y (wl y bytes maxL ret) rm D κ As wc I val post w1 J) (n : Nat) (hG : GoodIn wsL_law (va_wsS own index y (wl y bytes maxL ret))) (hd : okD y n) (hRm : rm.frames + 1 ≤ R.frames ∧ 8 + (maxL + 11) + rm.locals ≤ R.locals)
    (hn : As.length = n) (hst : st0 = As.reverse ++ rest) (hW : (rest.map fun v => v.category).sum ≤ 8) (hdg : decode cc pc = .ok (.invokestatic index, 3)) (hcs : cells + rm.cells ≤ R.cells ∧ slots + rm.slots ≤ R.slots) (hls : ls.size = nL)
    (isC isR : List Nat) (hC : isC.map (fun i => ws[i]?) = wc.map some) (hR : isR.map (fun i => ws[i]?) = wr.map some) (hnR : va_nd isR = true) (hnC : va_nd isC = true) (hdis : ∀ i ∈ isR, i ∉ isC) (hI : I H)
    (kk : ∀ (u : S) (H1 : Heap) (locs1 : List Loc), post u → J u H1 → va_P D vwCl (wr ++ w1 u) H1 → va_D A (wr ++ w1 u) → va_S A s.heap H1 locs1 → H.size ≤ H1.size → (∀ q : Nat, q < H.size → ¬ va_A wc H.size q → H1[q]? = H[q]?) → W p l e R s m args below meth c H1 locs1 (cells + rm.cells) (slots + rm.slots) Q (F0 m (pc + 3) ls ((val u).toList ++ rest))) : W p l e R s m args below meth c H locs cells slots Q (F0 m pc ls st0) := by
  subst hst
  obtain ⟨hx, hb, hml, hown, hts⟩ := hF
  exact ct_go (va_runS (As := As) (rest := rest) ⟨hx, hb, hml, hown, hts⟩ (hM H.size) (va_cwS n hts hG rfl rfl rfl hd hRm) ⟨cP_blind, cP_at hK hP hD hC hnC hI⟩ rfl hn hls rfl (lv_room hW) hdg hcs) hP hD hS hA isC isR hC hR hnR hdis kk
theorem ct_I (hF : FX p s m args c cc nL own) (hK : KK D κ s) (hP : va_P D vwCl ws H) (hD : va_D A ws) (hS : va_S A s.heap H locs) (hA : ∀ q : Nat, s.heap.size ≤ q → A q)
    (hM : Ct l y (wl y bytes maxL none) rm D κ (.ref b :: As) wc I val post w1 J) (n : Nat) (hm : Cond.methodLink own index y ∈ wsL_law) (him : Cond.instanceMethod y ∈ wsL_law) (hini : Cond.initialized y.cls ∈ wsL_law) (hco : Cond.code y bytes maxL none ∈ wsL_law) (hd : y.name = "<init>" ∧ okD y n) (hRm : rm.frames + 1 ≤ R.frames ∧ 8 + (maxL + 11) + rm.locals ≤ R.locals)
    (hn : As.length = n) (hst : st0 = As.reverse ++ .ref b :: rest) (hW : (rest.map fun v => v.category).sum ≤ 8) (hdg : decode cc pc = .ok (.invokespecial index, 3)) (hcs : cells + rm.cells ≤ R.cells ∧ slots + rm.slots ≤ R.slots) (hls : ls.size = nL)
    (isC isR : List Nat) (hC : isC.map (fun i => ws[i]?) = wc.map some) (hR : isR.map (fun i => ws[i]?) = wr.map some) (hnR : va_nd isR = true) (hnC : va_nd isC = true) (hdis : ∀ i ∈ isR, i ∉ isC) (hI : I H)
    (kk : ∀ (u : S) (H1 : Heap) (locs1 : List Loc), post u → J u H1 → va_P D vwCl (wr ++ w1 u) H1 → va_D A (wr ++ w1 u) → va_S A s.heap H1 locs1 → H.size ≤ H1.size → (∀ q : Nat, q < H.size → ¬ va_A wc H.size q → H1[q]? = H[q]?) → W p l e R s m args below meth c H1 locs1 (cells + rm.cells) (slots + rm.slots) Q (F0 m (pc + 3) ls ((val u).toList ++ rest))) : W p l e R s m args below meth c H locs cells slots Q (F0 m pc ls st0) := by
  subst hst
  obtain ⟨hx, hb, hml, hown, hts⟩ := hF
  exact ct_go (va_runI (As := As) (rest := rest) ⟨hx, hb, hml, hown, hts⟩ (hM H.size) (cwI n hts (g_L hco) rfl rfl rfl (hts _ hini) (hts _ hm) (hts _ him) hd.1 hd.2 hRm) ⟨cP_blind, cP_at hK hP hD hC hnC hI⟩ rfl hn hls rfl (lv_room hW) hdg hcs) hP hD hS hA isC isR hC hR hnR hdis kk
theorem ct_IN {host : String} (hF : FX p s m args c cc nL own) (hK : KK D κ s) (hP : va_P D vwCl ws H) (hD : va_D A ws) (hS : va_S A s.heap H locs) (hA : ∀ q : Nat, s.heap.size ≤ q → A q)
    (hM : Ct l y (wl y bytes maxL none) rm D κ (.ref b :: As) wc I val post w1 J) (n : Nat) (hm : Cond.methodLinkNest own index y host ∈ nwL) (him : Cond.instanceMethod y ∈ wsL_law) (hini : Cond.initialized y.cls ∈ wsL_law) (hco : Cond.code y bytes maxL none ∈ wsL_law) (hd : y.name = "<init>" ∧ okD y n) (hRm : rm.frames + 1 ≤ R.frames ∧ 8 + (maxL + 11) + rm.locals ≤ R.locals)
    (hn : As.length = n) (hst : st0 = As.reverse ++ .ref b :: rest) (hW : (rest.map fun v => v.category).sum ≤ 8) (hdg : decode cc pc = .ok (.invokespecial index, 3)) (hcs : cells + rm.cells ≤ R.cells ∧ slots + rm.slots ≤ R.slots) (hls : ls.size = nL)
    (isC isR : List Nat) (hC : isC.map (fun i => ws[i]?) = wc.map some) (hR : isR.map (fun i => ws[i]?) = wr.map some) (hnR : va_nd isR = true) (hnC : va_nd isC = true) (hdis : ∀ i ∈ isR, i ∉ isC) (hI : I H)
    (kk : ∀ (u : S) (H1 : Heap) (locs1 : List Loc), post u → J u H1 → va_P D vwCl (wr ++ w1 u) H1 → va_D A (wr ++ w1 u) → va_S A s.heap H1 locs1 → H.size ≤ H1.size → (∀ q : Nat, q < H.size → ¬ va_A wc H.size q → H1[q]? = H[q]?) → W p l e R s m args below meth c H1 locs1 (cells + rm.cells) (slots + rm.slots) Q (F0 m (pc + 3) ls ((val u).toList ++ rest))) : W p l e R s m args below meth c H locs cells slots Q (F0 m pc ls st0) := by
  subst hst
  obtain ⟨hx, hb, hml, hown, hts⟩ := hF
  exact ct_go (va_runIN (As := As) (rest := rest) ⟨hx, hb, hml, hown, hts⟩ (hM H.size) ⟨va_cnB n hts (g_L hco) rfl rfl rfl (hK.2.2.2.2.2 _ hm) (hts _ hini) hd.2 hRm, hd.1, hts _ him⟩ ⟨cP_blind, cP_at hK hP hD hC hnC hI⟩ rfl hn hls rfl (lv_room hW) hdg hcs) hP hD hS hA isC isR hC hR hnR hdis kk
-- calls of a reading method
theorem cr_V (hF : FX p s m args c cc nL own) (hK : KK D κ s) (hM : Cr l y (wl y bytes maxL ret) rm D κ (.ref b :: As) I val post) (n : Nat) (hG : GoodIn wsL_law (wsV own index C y (wl y bytes maxL ret))) (hd : y.cls = C ∧ okD y n) (hrc : rm.cells = 0) (hrs : rm.slots = 0) (hRm : rm.frames + 1 ≤ R.frames ∧ 8 + (maxL + 11) + rm.locals ≤ R.locals)
    (hn : As.length = n) (hst : st0 = As.reverse ++ .ref b :: rest) (hW : (rest.map fun v => v.category).sum ≤ 8) (hdg : decode cc pc = .ok (.invokevirtual index, 3)) (hcs : cells ≤ R.cells ∧ slots ≤ R.slots) (hls : ls.size = nL)
    (hP : va_P D vwCl ws H) (qr ci : Nat) {q : vw_C} {fs : List Value} (hc0 : vwCl[ci]? = some q) (hq : q.1 = C) (her : ws[qr]? = some (b, .inr (ci, fs))) (hI : I H)
    (kk : ∀ u : S, post u → W p l e R s m args below meth c H locs cells slots Q (F0 m (pc + 3) ls ((val u).toList ++ rest))) : W p l e R s m args below meth c H locs cells slots Q (F0 m pc ls st0) := by
  subst hst; subst hq
  obtain ⟨hx, hb, hml, hown, hts⟩ := hF
  exact cr_go (va_runV (As := As) (rest := rest) ⟨hx, hb, hml, hown, hts⟩ hM (cwV n hts hG rfl hrc hrs hd hRm) ⟨rP_blind, va_recv hK.1 hP hc0 her, rP_at hK hI⟩ rfl hn hls rfl (lv_room hW) hdg hcs) kk
theorem cr_S (hF : FX p s m args c cc nL own) (hK : KK D κ s) (hM : Cr l y (wl y bytes maxL ret) rm D κ As I val post) (n : Nat) (hG : GoodIn wsL_law (va_wsS own index y (wl y bytes maxL ret))) (hd : okD y n) (hrc : rm.cells = 0) (hrs : rm.slots = 0) (hRm : rm.frames + 1 ≤ R.frames ∧ 8 + (maxL + 11) + rm.locals ≤ R.locals)
    (hn : As.length = n) (hst : st0 = As.reverse ++ rest) (hW : (rest.map fun v => v.category).sum ≤ 8) (hdg : decode cc pc = .ok (.invokestatic index, 3)) (hcs : cells ≤ R.cells ∧ slots ≤ R.slots) (hls : ls.size = nL) (hI : I H)
    (kk : ∀ u : S, post u → W p l e R s m args below meth c H locs cells slots Q (F0 m (pc + 3) ls ((val u).toList ++ rest))) : W p l e R s m args below meth c H locs cells slots Q (F0 m pc ls st0) := by
  subst hst
  obtain ⟨hx, hb, hml, hown, hts⟩ := hF
  exact cr_go (va_runS (As := As) (rest := rest) ⟨hx, hb, hml, hown, hts⟩ hM (va_cwS n hts hG rfl hrc hrs hd hRm) ⟨rP_blind, rP_at hK hI⟩ rfl hn hls rfl (lv_room hW) hdg hcs) kk
-- new arrays, by the classes' numbers
theorem T0_one {κ : Nat → ClassId} {cA : ClassId} {ty : FieldType} {U : State} {t0 : Nat} {κ0 : ClassId} (h : va_K D vwCl (T0 κ ++ [(cA, ty)]) U) (ht : (T0 κ)[t0]? = some (κ0, ty)) : cA = κ0 := by
  have h1 := (h.2 t0 _ (by rw [List.getElem?_append_left (List.getElem?_eq_some_iff.mp ht).1]; exact ht)).2
  have h2 := (h.2 (T0 κ).length (cA, ty) (by rw [List.getElem?_append_right (Nat.le_refl _), Nat.sub_self]; rfl)).2
  cases ty with
  | object C =>
    obtain ⟨k1, c1, a1, a2, a3, a4⟩ := h1
    obtain ⟨k2, c2, b1, b2, b3, b4⟩ := h2
    exact Option.some.inj (b4.symm.trans a4)
  | _ => exact Option.some.inj (h2.symm.trans h1)
theorem my_newa (hx : p.tables.exec = Jvm.exec) (hb : c.code = cc) {atype : ArrayType} (harr : (Cond.arrayClass (newarray.typeOf atype)).before args s = true) {ty : FieldType} (hty : newarray.typeOf atype = ty) (hK : va_K D vwCl (T0 κ) s) (hP : va_P D vwCl ws H) (hD : va_D A ws) (hS : va_S A s.heap H locs) (hA : ∀ q : Nat, s.heap.size ≤ q → A q) (t0 : Nat) {κ0 : ClassId} (ht : (T0 κ)[t0]? = some (κ0, ty))
    {n : Int32} {N' : Nat} {a0 : vp_A} (ha : ∀ cA : ClassId, vp_cell cA a0 = arrV cA N' (fun _ => defaultValue ty)) (hn : ¬ n < 0) (hN : n.toNatClampNeg = N') (hbytes : N' * componentBytes ty ≤ 536870912) (hcells : cells + 1 ≤ R.cells) (hslots : slots + N' ≤ R.slots) (hdg : decode cc pc = .ok (.newarray atype, 2))
    (kk : ∀ (q : Nat) (H1 : Heap), va_P D vwCl (ws ++ [(q, .inl (κ0, a0))]) H1 → va_D A (ws ++ [(q, .inl (κ0, a0))]) → va_S A s.heap H1 locs → W p l e R s m args below meth c H1 locs (cells + 1) (slots + N') Q (F0 m (pc + 2) ls (.ref q :: rest))) : W p l e R s m args below meth c H locs cells slots Q (F0 m pc ls (.int n :: rest)) :=
  va_newa hx hb harr hty hK hP hD hS hA ha hn hN hbytes hcells hslots hdg (fun q cA H1 k1 p1 d1 s1 => by
    have e := T0_one k1 ht
    subst e
    exact kk q H1 p1 d1 s1)
theorem my_newq (hx : p.tables.exec = Jvm.exec) (hb : c.code = cc) (hown : s.vm.findClass own = some m.cls) (hcl : (Cond.classLink own index C).before args s = true) (hao : va_AO C s) (hK : va_K D vwCl (T0 κ) s) (hP : va_P D vwCl ws H) (hD : va_D A ws) (hS : va_S A s.heap H locs) (hA : ∀ q : Nat, s.heap.size ≤ q → A q) (t0 : Nat) {κ0 : ClassId} (ht : (T0 κ)[t0]? = some (κ0, .object C))
    {n : Int32} {N' : Nat} (hn : ¬ n < 0) (hN : n.toNatClampNeg = N') (hbytes : N' * 4 ≤ 536870912) (hcells : cells + 1 ≤ R.cells) (hslots : slots + N' ≤ R.slots) (hdg : decode cc pc = .ok (.anewarray index, 3))
    (kk : ∀ (q : Nat) (H1 : Heap), va_P D vwCl (ws ++ [(q, .inl (κ0, N', .inr (.inr (.inr (.inr (fun _ => none))))))]) H1 → va_D A (ws ++ [(q, .inl (κ0, N', .inr (.inr (.inr (.inr (fun _ => none))))))]) → va_S A s.heap H1 locs → W p l e R s m args below meth c H1 locs (cells + 1) (slots + N') Q (F0 m (pc + 3) ls (.ref q :: rest))) : W p l e R s m args below meth c H locs cells slots Q (F0 m pc ls (.int n :: rest)) :=
  va_newq hx hb hown hcl hao hK hP hD hS hA hn hN hbytes hcells hslots hdg (fun q cA H1 k1 p1 d1 s1 => by
    have e := T0_one k1 ht
    subst e
    exact kk q H1 p1 d1 s1)
end MYK
/-- an int that lies in a range is one of them -/
theorem fb0_rng (x : Int32) : -2147483648 ≤ x.toInt ∧ x.toInt < 2147483648 := ⟨Int32.le_toInt x, Int32.toInt_lt x⟩
theorem i_in {x : Int32} {n : Nat} (h1 : ¬ x.toInt < 0) (h2 : ¬ (n : Int) < x.toInt) : ∃ i : Nat, i ≤ n ∧ x = nI i ∧ x.toInt = i := by
  have h3 := fb0_rng x
  refine ⟨x.toInt.toNat, by omega, ?_, by omega⟩
  have h4 : (nI x.toInt.toNat).toInt = x.toInt := by rw [nI_toInt (by omega)]; omega
  exact (Int32.toInt_inj.mp h4).symm
theorem vp_k {i : Int32} {n : Nat} (h : 0 ≤ i.toInt ∧ i.toInt < (n : Int)) : vp_in i n := vp_in_iff.mpr h
theorem vp_of {t M : Int32} {n : Nat} (hM : M.toInt = n) (h0 : ¬ t < 0) (h1 : ¬ M ≤ t) : vp_in t n := by
  rw [Int32.lt_iff_toInt_lt, Int32.toInt_zero] at h0
  rw [Int32.le_iff_toInt_le, hM] at h1
  rw [vp_in_iff]
  omega
/-- a loop that counts up to N with an invariant of the count, the heap and the locals -/
theorem loop_up {p : Program} {l : Launch} {e : Env} {R : Room} {s : State} {m : MethodId} {args : Array Value} {below : List Frame} {meth : Method} {c : Code} {cells slots pc : Nat} {Q : State → Prop} (Inv : Nat → Heap → List Loc → Array Slot → Prop) (N : Nat)
    (hstep : ∀ (k : Nat) (H : Heap) (locs : List Loc) (ls : Array Slot), k < N → Inv k H locs ls → (∀ (H1 : Heap) (locs1 : List Loc) (ls1 : Array Slot), Inv (k + 1) H1 locs1 ls1 → W p l e R s m args below meth c H1 locs1 cells slots Q (F0 m pc ls1 [])) → W p l e R s m args below meth c H locs cells slots Q (F0 m pc ls []))
    (hend : ∀ (H : Heap) (locs : List Loc) (ls : Array Slot), Inv N H locs ls → W p l e R s m args below meth c H locs cells slots Q (F0 m pc ls [])) :
    ∀ (k : Nat) (H : Heap) (locs : List Loc) (ls : Array Slot), k ≤ N → Inv k H locs ls → W p l e R s m args below meth c H locs cells slots Q (F0 m pc ls []) := by
  have key : ∀ (n k : Nat), k + n = N → ∀ (H : Heap) (locs : List Loc) (ls : Array Slot), Inv k H locs ls → W p l e R s m args below meth c H locs cells slots Q (F0 m pc ls []) := by
    intro n
    induction n with
    | zero => intro k hk H locs ls hi; obtain rfl : k = N := by omega
              exact hend H locs ls hi
    | succ n ih => intro k hk H locs ls hi
                   exact hstep k H locs ls (by omega) hi (fun H1 locs1 ls1 h1 => ih (k + 1) (by omega) H1 locs1 ls1 h1)
  intro k H locs ls hk hi
  exact key (N - k) k (by omega) H locs ls hi
theorem out_ne {a v : Int32} {lo hi : Int} (h : a.toInt < lo ∨ hi < a.toInt) (h1 : lo ≤ v.toInt) (h2 : v.toInt ≤ hi) : ¬ a = v := by
  intro q
  rw [q] at h
  omega
