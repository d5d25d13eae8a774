section TS3
set_option maxRecDepth 100000 in
theorem zu_18 {args : Array Value} {s : State} {A : Nat → Prop} (h : (Jvm.Cond.and given_1 narrow_1).before args s = true) (hA : ∀ a : Nat, a < s.heap.size → ¬ A a) : ∃ a v : Nat, (Term.string "PawnRaceLaw$World" 146).eval args s none [] s = some (.ref a) ∧ zt a v (tcs 18).length (txf (tcs 18)) A s s.heap := by
  obtain ⟨a, v, h1, h2⟩ := zs_one (s := s) (args := args) (A := A) (tm := .string "PawnRaceLaw$World" 146) (len := 10) (byt := txf (tcs 18)) (by decide) (st_in h (by decide +kernel)) (st_in h (by decide +kernel)) (st_in h (by decide +kernel)) (st_in h (by decide +kernel)) (fun j hj => by
    rcases (show j = 0 ∨ j = 1 ∨ j = 2 ∨ j = 3 ∨ j = 4 ∨ j = 5 ∨ j = 6 ∨ j = 7 ∨ j = 8 ∨ j = 9 from by omega) with rfl | rfl | rfl | rfl | rfl | rfl | rfl | rfl | rfl | rfl <;> exact st_in h (by decide +kernel)) hA
  exact ⟨a, v, h1, h2⟩
set_option maxRecDepth 100000 in
theorem zu_19 {args : Array Value} {s : State} {A : Nat → Prop} (h : (Jvm.Cond.and given_1 narrow_1).before args s = true) (hA : ∀ a : Nat, a < s.heap.size → ¬ A a) : ∃ a v : Nat, (Term.string "PawnRaceLaw" 225).eval args s none [] s = some (.ref a) ∧ zt a v (tcs 19).length (txf (tcs 19)) A s s.heap := by
  obtain ⟨a, v, h1, h2⟩ := zs_one (s := s) (args := args) (A := A) (tm := .string "PawnRaceLaw" 225) (len := 5) (byt := txf (tcs 19)) (by decide) (st_in h (by decide +kernel)) (st_in h (by decide +kernel)) (st_in h (by decide +kernel)) (st_in h (by decide +kernel)) (fun j hj => by
    rcases (show j = 0 ∨ j = 1 ∨ j = 2 ∨ j = 3 ∨ j = 4 from by omega) with rfl | rfl | rfl | rfl | rfl <;> exact st_in h (by decide +kernel)) hA
  exact ⟨a, v, h1, h2⟩
set_option maxRecDepth 100000 in
theorem zu_20 {args : Array Value} {s : State} {A : Nat → Prop} (h : (Jvm.Cond.and given_1 narrow_1).before args s = true) (hA : ∀ a : Nat, a < s.heap.size → ¬ A a) : ∃ a v : Nat, (Term.string "PawnRaceLaw" 227).eval args s none [] s = some (.ref a) ∧ zt a v (tcs 20).length (txf (tcs 20)) A s s.heap := by
  obtain ⟨a, v, h1, h2⟩ := zs_one (s := s) (args := args) (A := A) (tm := .string "PawnRaceLaw" 227) (len := 4) (byt := txf (tcs 20)) (by decide) (st_in h (by decide +kernel)) (st_in h (by decide +kernel)) (st_in h (by decide +kernel)) (st_in h (by decide +kernel)) (fun j hj => by
    rcases (show j = 0 ∨ j = 1 ∨ j = 2 ∨ j = 3 from by omega) with rfl | rfl | rfl | rfl <;> exact st_in h (by decide +kernel)) hA
  exact ⟨a, v, h1, h2⟩
set_option maxRecDepth 100000 in
theorem zu_21 {args : Array Value} {s : State} {A : Nat → Prop} (h : (Jvm.Cond.and given_1 narrow_1).before args s = true) (hA : ∀ a : Nat, a < s.heap.size → ¬ A a) : ∃ a v : Nat, (Term.string "PawnRaceLaw" 229).eval args s none [] s = some (.ref a) ∧ zt a v (tcs 21).length (txf (tcs 21)) A s s.heap := by
  obtain ⟨a, v, h1, h2⟩ := zs_one (s := s) (args := args) (A := A) (tm := .string "PawnRaceLaw" 229) (len := 5) (byt := txf (tcs 21)) (by decide) (st_in h (by decide +kernel)) (st_in h (by decide +kernel)) (st_in h (by decide +kernel)) (st_in h (by decide +kernel)) (fun j hj => by
    rcases (show j = 0 ∨ j = 1 ∨ j = 2 ∨ j = 3 ∨ j = 4 from by omega) with rfl | rfl | rfl | rfl | rfl <;> exact st_in h (by decide +kernel)) hA
  exact ⟨a, v, h1, h2⟩
set_option maxRecDepth 100000 in
theorem zu_22 {args : Array Value} {s : State} {A : Nat → Prop} (h : (Jvm.Cond.and given_1 narrow_1).before args s = true) (hA : ∀ a : Nat, a < s.heap.size → ¬ A a) : ∃ a v : Nat, (Term.string "PawnRaceLaw" 231).eval args s none [] s = some (.ref a) ∧ zt a v (tcs 22).length (txf (tcs 22)) A s s.heap := by
  obtain ⟨a, v, h1, h2⟩ := zs_one (s := s) (args := args) (A := A) (tm := .string "PawnRaceLaw" 231) (len := 4) (byt := txf (tcs 22)) (by decide) (st_in h (by decide +kernel)) (st_in h (by decide +kernel)) (st_in h (by decide +kernel)) (st_in h (by decide +kernel)) (fun j hj => by
    rcases (show j = 0 ∨ j = 1 ∨ j = 2 ∨ j = 3 from by omega) with rfl | rfl | rfl | rfl <;> exact st_in h (by decide +kernel)) hA
  exact ⟨a, v, h1, h2⟩
end TS3
