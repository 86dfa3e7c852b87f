theorem nI_i (k : Nat) : nI k + Int32.ofInt 1 = nI (k + 1) := by
  rw [show Int32.ofInt 1 = 1 from by decide]
  exact nI_1 k
theorem nI_d {k : Nat} (h : 1 ≤ k) : nI k + Int32.ofInt (-1) = nI (k - 1) := by
  rw [show Int32.ofInt (-1) = (-1 : Int32) from by decide]
  exact sb_m1 h
theorem cv_lt {a b : Nat} (ha : a < 2 ^ 31) (hb : b < 2 ^ 31) (h : nI a < nI b) : a < b := (nI_ltI ha hb).mp h
theorem cv_nlt {a b : Nat} (ha : a < 2 ^ 31) (hb : b < 2 ^ 31) (h : ¬ nI a < nI b) : b ≤ a := Nat.le_of_not_lt (fun q => h ((nI_ltI ha hb).mpr q))
theorem cv_le {a b : Nat} (ha : a < 2 ^ 31) (hb : b < 2 ^ 31) (h : nI a ≤ nI b) : a ≤ b := (nI_leI ha hb).mp h
theorem cv_nle {a b : Nat} (ha : a < 2 ^ 31) (hb : b < 2 ^ 31) (h : ¬ nI a ≤ nI b) : b < a := Nat.lt_of_not_le (fun q => h ((nI_leI ha hb).mpr q))
theorem cv_eq {a b : Nat} (ha : a < 2 ^ 31) (hb : b < 2 ^ 31) (h : nI a = nI b) : a = b := (nI_eq ha hb).mp h
theorem cv_ne {a b : Nat} (ha : a < 2 ^ 31) (hb : b < 2 ^ 31) (h : ¬ nI a = nI b) : a ≠ b := fun q => h ((nI_eq ha hb).mpr q)
section MYL
variable {p : Program} {l : Launch} {e : Env} {R : Room} {s : State} {m : MethodId} {args : Array Value} {below : List Frame} {meth : Method} {c : Code} {cells slots pc : Nat} {Q : State → Prop}
/-- a loop with a measure that falls -/
theorem loop_dn {st : List Value} (Inv : Nat → Heap → List Loc → Array Slot → Prop)
    (hstep : ∀ (k : Nat) (H : Heap) (locs : List Loc) (ls : Array Slot), Inv k H locs ls → (∀ (k1 : Nat) (H1 : Heap) (locs1 : List Loc) (ls1 : Array Slot), k1 < k → Inv k1 H1 locs1 ls1 → W p l e R s m args below meth c H1 locs1 cells slots Q (F0 m pc ls1 st)) → W p l e R s m args below meth c H locs cells slots Q (F0 m pc ls st)) :
    ∀ (k : Nat) (H : Heap) (locs : List Loc) (ls : Array Slot), Inv k H locs ls → W p l e R s m args below meth c H locs cells slots Q (F0 m pc ls st) := by
  intro k
  induction k using Nat.strongRecOn with
  | _ k ih => exact fun H locs ls hi => hstep k H locs ls hi (fun k1 H1 locs1 ls1 h h1 => ih k1 h H1 locs1 ls1 h1)
theorem loop_r {st : List Value} {H : Heap} {locs : List Loc} (Inv : Nat → Array Slot → Prop)
    (hstep : ∀ (k : Nat) (ls : Array Slot), Inv k ls → (∀ (k1 : Nat) (ls1 : Array Slot), k1 < k → Inv k1 ls1 → W p l e R s m args below meth c H locs cells slots Q (F0 m pc ls1 st)) → W p l e R s m args below meth c H locs cells slots Q (F0 m pc ls st)) :
    ∀ (k : Nat) (ls : Array Slot), Inv k ls → W p l e R s m args below meth c H locs cells slots Q (F0 m pc ls st) := by
  intro k
  induction k using Nat.strongRecOn with
  | _ k ih => exact fun ls hi => hstep k ls hi (fun k1 ls1 h h1 => ih k1 h ls1 h1)
end MYL
