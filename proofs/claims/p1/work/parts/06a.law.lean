/-! THE CLAIM OUT OF ONE WALK OF THE LAW'S BODY. Your part is whole_start (and what it stands on); all else here is the same for every law, but numbers. -/
def R_law : String := "TypedTablesLaw"
def lw_P (b : Addr) (xs : List Int32) (args : Array Value) (s : State) : Prop := args = #[.ref b] ∧ s.IntsAt b xs ∧ xs.length ≤ 6 ∧ (Jvm.Cond.and given_1 narrow_1).before args s = true
def lw_Q (_ : Array Value) (s : State) (o : Outcome) (t : State) : Prop := o = .returned (some (.int 1)) ∧ Framed s o t [] 600000 7302250
def lw_Z (below : List Frame) (a : Array Value) (s : State) : State → Prop := fun t => ∃ o, t.status = .running ∧ Ended t below o ∧ lw_Q a s o t
/-- the law's own end, with 1 on the stack, nothing written that was there before, its room as the claim has it -/
theorem lw_ret {p : Program} {l : Launch} {e : Env} {s : State} {m : MethodId} {below : List Frame} {meth : Method} {c : Code} {b : Nat} (hx : p.tables.exec = Jvm.exec) (hb : c.code = code) (hr : meth.sig.returnType = ret) (hlocks : meth.locks = false) {pc : Nat} {H : Heap} {ls : Array Slot} (hdg : decode code pc = .ok (.ireturn, 1)) : W p l e room_1 s m #[Value.ref b] below meth c H [] 600000 7302250 (lw_Z below #[Value.ref b] s) (F0 m pc ls [.int 1]) := by
  intro T hT X
  obtain ⟨fs, hret, hrun, hended, hW, hframe⟩ := X.leave (v := some (.int 1)) (hlocks := hlocks) (fun h => by rw [hr] at h; cases h)
  have hmeth' : T.vm.method? m = some meth := X.method'
  refine ⟨T.setFrames fs, ?_, .returned (some (.int 1)), hrun, hended, rfl, ⟨_, rfl⟩, hW, hframe⟩
  jvm_step X.here [X.here.top, hx, hb, hdg, hmeth', hr, ret, narrow_b1]
  (try refine ⟨rfl, ?_⟩); (try refine ⟨rfl, ?_⟩)
  first | (intro acts; rw [hret _ acts rfl rfl rfl]) | rw [hret _ _ rfl rfl rfl]
  exact Steps.refl _
/-- what holds at the law's entry: the machine, the code, the tables' words (any of lw_tbl by 'hts w (by decide +kernel)'), the script of L ints xs at the cell b, what the Statement gives of the start (any of its parts by flat_of_before) -/
def lw_At (p : Program) (s : State) (m : MethodId) (meth : Method) (c : Code) (b L : Nat) (xs : Nat → Int32) : Prop :=
  p.tables.exec = Jvm.exec ∧ c.code = code ∧ meth.sig.returnType = ret ∧ c.maxLocals = 4 ∧ s.vm.findClass R_law = some m.cls ∧ (∀ w ∈ lw_tbl, w.before #[Value.ref b] s = true) ∧ va_X b L xs s s.heap ∧ b < s.heap.size ∧ meth.locks = false ∧ (Jvm.Cond.and given_1 narrow_1).before #[Value.ref b] s = true
theorem dL_law_1622 : decode cL_law 1622 = .ok (.iinc 3 6, 3) := by decide +kernel
theorem dL_law_1625 : decode cL_law 1625 = .ok (.goto (-1607), 3) := by decide +kernel
theorem dL_law_18 : decode cL_law 18 = .ok (.iload_n 3, 1) := by decide +kernel
theorem dL_law_19 : decode cL_law 19 = .ok (.aload_n 0, 1) := by decide +kernel
theorem dL_law_20 : decode cL_law 20 = .ok (.arraylength, 1) := by decide +kernel
theorem dL_law_21 : decode cL_law 21 = .ok (.bipush 6, 2) := by decide +kernel
theorem dL_law_23 : decode cL_law 23 = .ok (.isub, 1) := by decide +kernel
theorem dL_law_24 : decode cL_law 24 = .ok (.if_icmp .gt 1604, 3) := by decide +kernel
theorem dL_law_1628 : decode cL_law 1628 = .ok (.iconst 1, 1) := by decide +kernel
theorem dL_law_1629 : decode cL_law 1629 = .ok (.ireturn, 1) := by decide +kernel
theorem mw_330 : Cond.instantiable RX1 2 ∈ wsL_law := List.mem_of_getElem? (i := 330) (by decide +kernel)
theorem mw_786 : Cond.instantiable RX3 3 ∈ wsL_law := List.mem_of_getElem? (i := 786) (by decide +kernel)
theorem mw_376 : Cond.instantiable RX5 4 ∈ wsL_law := List.mem_of_getElem? (i := 376) (by decide +kernel)
theorem mw_793 : Cond.instantiable RX7 4 ∈ wsL_law := List.mem_of_getElem? (i := 793) (by decide +kernel)
theorem mw_386 : Cond.instantiable RX9 3 ∈ wsL_law := List.mem_of_getElem? (i := 386) (by decide +kernel)
theorem mw_1 : Cond.instantiable RX11 7 ∈ wsL_law := List.mem_of_getElem? (i := 1) (by decide +kernel)
theorem mw_4 : Cond.instantiable RX12 30 ∈ wsL_law := List.mem_of_getElem? (i := 4) (by decide +kernel)
theorem nwL_tbl : ∀ w ∈ nwL, w ∈ lw_tbl := by decide +kernel
theorem KK_start {s : State} {args : Array Value} (hts : ∀ w ∈ lw_tbl, w.before args s = true) : ∃ (D : va_G) (κ : Nat → ClassId), KK D κ s := by
  have hw : ∀ w ∈ wsL_law, w.before args s = true := fun w h => hts w (wsL_law_in w h)
  obtain ⟨c0, i0, hn0⟩ := u_known (C := RX0) (T := TX0) (N := 3) (n := 3) hw inlX0 (hw _ mw_67)
  obtain ⟨c1, i1, hn1⟩ := u_known (C := RX1) (T := TX1) (N := 2) (n := 2) hw inlX1 (hw _ mw_330)
  obtain ⟨c2, i2, hn2⟩ := u_known (C := RX2) (T := TX2) (N := 6) (n := 6) hw inlX2 (hw _ mw_21)
  obtain ⟨c3, i3, hn3⟩ := u_known (C := RX3) (T := TX3) (N := 3) (n := 3) hw inlX3 (hw _ mw_786)
  obtain ⟨c4, i4, hn4⟩ := u_known (C := RX4) (T := TX4) (N := 14) (n := 14) hw inlX4 (hw _ mw_25)
  obtain ⟨c5, i5, hn5⟩ := u_known (C := RX5) (T := TX5) (N := 4) (n := 4) hw inlX5 (hw _ mw_376)
  obtain ⟨c6, i6, hn6⟩ := u_known (C := RX6) (T := TX6) (N := 6) (n := 6) hw inlX6 (hw _ mw_13)
  obtain ⟨c7, i7, hn7⟩ := u_known (C := RX7) (T := TX7) (N := 4) (n := 4) hw inlX7 (hw _ mw_793)
  obtain ⟨c8, i8, hn8⟩ := u_known (C := RX8) (T := TX8) (N := 2) (n := 2) hw inlX8 (hw _ mw_17)
  obtain ⟨c9, i9, hn9⟩ := u_known (C := RX9) (T := TX9) (N := 3) (n := 3) hw inlX9 (hw _ mw_386)
  obtain ⟨c10, i10, hn10⟩ := u_known (C := RX10) (T := TX10) (N := 3) (n := 3) hw inlX10 (hw _ mw_30)
  obtain ⟨c11, i11, hn11⟩ := u_known (C := RX11) (T := TX11) (N := 7) (n := 7) hw inlX11 (hw _ mw_1)
  obtain ⟨c12, i12, hn12⟩ := u_known (C := RX12) (T := TX12) (N := 30) (n := 30) hw inlX12 (hw _ mw_4)
  obtain ⟨aI, kI, cI, fI, gI, hI⟩ := Cond.arrayClass_spec (hw (.arrayClass .int) mw_39)
  obtain ⟨aB, kB, cB, fB, gB, hB⟩ := Cond.arrayClass_spec (hw (.arrayClass .byte) mw_69)
  have hAO : ∀ C : String, Cond.arrayOver (.object C) ∈ lw_tbl → va_AO C s := fun C h => va_AO.of (hts _ h)
  have ao0 : va_AO RX0 s := hAO RX0 (List.mem_of_getElem? (i := 336) (by decide +kernel))
  have ao1 : va_AO RX1 s := hAO RX1 (List.mem_of_getElem? (i := 519) (by decide +kernel))
  have ao5 : va_AO RX5 s := hAO RX5 (List.mem_of_getElem? (i := 142) (by decide +kernel))
  have ao9 : va_AO RX9 s := hAO RX9 (List.mem_of_getElem? (i := 144) (by decide +kernel))
  have key : ∀ C : String, va_AO C s → ∃ cA : ClassId, ArrOfT s cA (.object C) ∧ va_RA s cA (.object C) := fun C h => by
    obtain ⟨comp, k1, k2, h1, h2, h3, h4, h5⟩ := Cond.arrayOver_spec h
    exact ⟨k1, fun N z => ⟨(fun k h => by cases h), k2, h3, comp, h4⟩, k2, comp, h3, h4, h1, h5⟩
  obtain ⟨a0, p0, r0⟩ := key RX0 ao0
  obtain ⟨a1, p1, r1⟩ := key RX1 ao1
  obtain ⟨a5, p5, r5⟩ := key RX5 ao5
  obtain ⟨a9, p9, r9⟩ := key RX9 ao9
  refine ⟨(fun k => if k = 0 then c0 else if k = 1 then c1 else if k = 2 then c2 else if k = 3 then c3 else if k = 4 then c4 else if k = 5 then c5 else if k = 6 then c6 else if k = 7 then c7 else if k = 8 then c8 else if k = 9 then c9 else if k = 10 then c10 else if k = 11 then c11 else c12, fun k => if k = 0 then i0 else if k = 1 then i1 else if k = 2 then i2 else if k = 3 then i3 else if k = 4 then i4 else if k = 5 then i5 else if k = 6 then i6 else if k = 7 then i7 else if k = 8 then i8 else if k = 9 then i9 else if k = 10 then i10 else if k = 11 then i11 else i12), fun k => if k = 0 then aI else if k = 1 then aB else if k = 2 then a0 else if k = 3 then a1 else if k = 4 then a5 else a9, ⟨fun k q hq => ?_, fun k q hk => ?_⟩, ao0, ao1, ao5, ao9, fun w hw2 => ?_⟩
  · match k, hq with
    | 0, hq => cases hq; exact hn0
    | 1, hq => cases hq; exact hn1
    | 2, hq => cases hq; exact hn2
    | 3, hq => cases hq; exact hn3
    | 4, hq => cases hq; exact hn4
    | 5, hq => cases hq; exact hn5
    | 6, hq => cases hq; exact hn6
    | 7, hq => cases hq; exact hn7
    | 8, hq => cases hq; exact hn8
    | 9, hq => cases hq; exact hn9
    | 10, hq => cases hq; exact hn10
    | 11, hq => cases hq; exact hn11
    | 12, hq => cases hq; exact hn12
    | k + 13, hq => simp [vwCl] at hq
  · match k, hk with
    | 0, hk => cases hk; exact ⟨fun n z => ⟨fun k h => (by cases h), kI, gI, cI, hI⟩, fI⟩
    | 1, hk => cases hk; exact ⟨fun n z => ⟨fun k h => (by cases h), kB, gB, cB, hB⟩, fB⟩
    | 2, hk => cases hk; exact ⟨p0, r0⟩
    | 3, hk => cases hk; exact ⟨p1, r1⟩
    | 4, hk => cases hk; exact ⟨p5, r5⟩
    | 5, hk => cases hk; exact ⟨p9, r9⟩
    | k + 6, hk => simp [T0] at hk
  · have h9 : w ∈ lw_tbl := nwL_tbl w hw2
    exact va_Nw.of (nwL_on w hw2) (hts w h9)

set_option maxHeartbeats 4000000 in
set_option maxRecDepth 100000 in
theorem law_tail {p : Program} {l : Launch} {e : Env} {s : State} {m : MethodId} {below : List Frame} {meth : Method} {c : Code} {b : Nat} {xs : Nat → Int32} (C0 : lw_At p s m meth c b 6 xs) {A : Nat → Prop} (hA : ∀ q : Nat, s.heap.size ≤ q → A q) (hAq : ∀ q : Nat, A q → s.heap.size ≤ q) {x0 m0 : Nat} {H : Heap} {locs : List Loc} {ls : Array Slot} {cells slots : Nat} (hS : va_S A s.heap H locs) (hl : lv_has ls 4 [(3, .int 0), (2, .ref m0), (1, .ref x0), (0, .ref b)]) (hc : cells ≤ 600000) (hs : slots ≤ 7302250) : W p l e room_1 s m #[Value.ref b] below meth c H locs cells slots (lw_Z below #[Value.ref b] s) (F0 m 1622 ls []) := by
  obtain ⟨hx, hb0, hr, hml, hown, hts0, hX, hbl, hlk, hgv⟩ := id C0
  have hb : c.code = cL_law := hb0
  have hbA : ¬ A b := fun h => absurd (hAq b h) (Nat.not_le.mpr hbl)
  refine lv_iinc (v := 6) (lv' := [(3, .int 6), (2, .ref m0), (1, .ref x0), (0, .ref b)]) hx hb dL_law_1622 hl (k := 0) rfl (by decide) (by decide) rfl (fun ls hl => ?_)
  refine lv_goto (tgt := 18) hx hb dL_law_1625 (by decide) ?_
  refine lv_iload_n hx hb dL_law_18 rfl (lv_at hl 0 rfl) ?_
  refine lv_aload_n hx hb dL_law_19 rfl (lv_at hl 3 rfl) ?_
  refine va_slen hx hb hX hbl hbA hS dL_law_20 ?_
  refine ki (v := 6) (by decide) ?_
  refine lv_bipush (v := 6) hx hb dL_law_21 (by decide) ?_
  refine lv_isub hx hb dL_law_23 ?_
  refine ki (v := 0) (by decide) ?_
  refine lv_icmp_gt (tgt := 1628) hx hb dL_law_24 (by decide) (fun c_1 => ?_) (fun c_1 => absurd (by decide) c_1)
  refine lv_iconst (v := 1) hx hb dL_law_1628 (by decide) ?_
  refine va_forget (fun q hq => hAq _ (hS.2.2 q hq)) ?_
  refine W.widen (k := 600000) (n := 7302250) hc hs ?_
  exact lw_ret hx hb0 hr hlk dL_law_1629
