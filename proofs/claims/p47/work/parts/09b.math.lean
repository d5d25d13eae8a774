section MATH
def K_J9_max_7cf53 (fu : Nat) (x0 : Int32) (x1 : Int32) (mem : Mem) : Option Int32 := (if x0 < x1 then some x1 else some x0)
def K_J9_min_7cf53 (fu : Nat) (x0 : Int32) (x1 : Int32) (mem : Mem) : Option Int32 := (if x1 < x0 then some x1 else some x0)
variable {D : va_G} {tys : List (ClassId × FieldType)} {n : Nat} {ad : Nat → Nat} {cf : Nat → Row → va_E} {Z : (Nat → Prop) → State → Heap → Prop} {p : Program} {l : Launch} {e : Env} {R : Room} {s : State} {m : MethodId} {args : Array Value} {below : List Frame} {meth : Method} {c : Code} {cc : ByteArray} {nL : Nat} {own : String} {ret : Option FieldType} {cells slots : Nat} {Q : State → Prop} {mem : Mem} {pc : Nat} {lv : List (Nat × Value)} {st : List Value}
theorem w_mmin {ρ : Type} {F : Int32 → Option ρ} {res : ρ} {x y : Int32} {fu index : Nat} (X : CX D tys n ad Z p s m args meth c cc nL own ret) (hF : bd (K_J9_min_7cf53 fu x y mem) F = some res) (w1 : Cond.methodLink own index yJ9_min_7cf53 ∈ GW) (hR : 1 ≤ R.frames ∧ 21 ≤ R.locals) (hst : (st.map fun v => v.category).sum ≤ 8) (hcs : cells ≤ R.cells ∧ slots ≤ R.slots) (hdg : decode cc pc = .ok (.invokestatic index, 3)) (pc2 : Nat) (hp : pc + 3 = pc2) (kk : ∀ r : Int32, F r = some res → WW D n ad cf p l e R s m args below meth c nL cells slots Q mem pc2 lv (.int r :: st)) : WW D n ad cf p l e R s m args below meth c nL cells slots Q mem pc lv (.int y :: .int x :: st) := by
  subst hp
  intro H locs ls hP hS hl
  have h2 := X.1.2.2.2.2
  refine va_mmin X.1.1 X.1.2.1 (X.1.2.2.1.trans hl.1.symm) X.1.2.2.2.1 (h2 _ w1) (h2 _ kB_J9_min_7cf53.1) (h2 _ kB_J9_min_7cf53.2.1) (h2 _ kB_J9_min_7cf53.2.2.1) hR.1 (by have := hR.2; omega) hcs.1 hcs.2 hdg ?_
  refine kk _ ?_ H locs ls hP hS hl
  rw [K_J9_min_7cf53] at hF
  by_cases hc : y < x
  · rw [if_pos hc] at hF ⊢
    exact hF
  · rw [if_neg hc] at hF ⊢
    exact hF
theorem w_mmax {ρ : Type} {F : Int32 → Option ρ} {res : ρ} {x y : Int32} {fu index : Nat} (X : CX D tys n ad Z p s m args meth c cc nL own ret) (hF : bd (K_J9_max_7cf53 fu x y mem) F = some res) (w1 : Cond.methodLink own index yJ9_max_7cf53 ∈ GW) (hR : 1 ≤ R.frames ∧ 21 ≤ R.locals) (hst : (st.map fun v => v.category).sum ≤ 8) (hcs : cells ≤ R.cells ∧ slots ≤ R.slots) (hdg : decode cc pc = .ok (.invokestatic index, 3)) (pc2 : Nat) (hp : pc + 3 = pc2) (kk : ∀ r : Int32, F r = some res → WW D n ad cf p l e R s m args below meth c nL cells slots Q mem pc2 lv (.int r :: st)) : WW D n ad cf p l e R s m args below meth c nL cells slots Q mem pc lv (.int y :: .int x :: st) := by
  subst hp
  intro H locs ls hP hS hl
  have h2 := X.1.2.2.2.2
  refine va_mmax X.1.1 X.1.2.1 (X.1.2.2.1.trans hl.1.symm) X.1.2.2.2.1 (h2 _ w1) (h2 _ kB_J9_max_7cf53.1) (h2 _ kB_J9_max_7cf53.2.1) (h2 _ kB_J9_max_7cf53.2.2.1) hR.1 (by have := hR.2; omega) hcs.1 hcs.2 hdg ?_
  refine kk _ ?_ H locs ls hP hS hl
  rw [K_J9_max_7cf53] at hF
  by_cases hc : x < y
  · rw [if_pos hc] at hF ⊢
    exact hF
  · rw [if_neg hc] at hF ⊢
    exact hF
end MATH
