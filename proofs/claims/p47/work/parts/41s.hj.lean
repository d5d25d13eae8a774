section TS1
set_option maxRecDepth 100000 in
theorem zu_8 {args : Array Value} {s : State} {A : Nat → Prop} (h : (Jvm.Cond.and given_1 narrow_1).before args s = true) (hA : ∀ a : Nat, a < s.heap.size → ¬ A a) : ∃ a v : Nat, (Term.string "PawnRaceLaw$World" 119).eval args s none [] s = some (.ref a) ∧ zt a v (tcs 8).length (txf (tcs 8)) A s s.heap := by
  obtain ⟨a, v, h1, h2⟩ := zs_one (s := s) (args := args) (A := A) (tm := .string "PawnRaceLaw$World" 119) (len := 7) (byt := txf (tcs 8)) (by decide) (st_in h (by decide +kernel)) (st_in h (by decide +kernel)) (st_in h (by decide +kernel)) (st_in h (by decide +kernel)) (fun j hj => by
    rcases (show j = 0 ∨ j = 1 ∨ j = 2 ∨ j = 3 ∨ j = 4 ∨ j = 5 ∨ j = 6 from by omega) with rfl | rfl | rfl | rfl | rfl | rfl | rfl <;> exact st_in h (by decide +kernel)) hA
  exact ⟨a, v, h1, h2⟩
set_option maxRecDepth 100000 in
theorem zu_9 {args : Array Value} {s : State} {A : Nat → Prop} (h : (Jvm.Cond.and given_1 narrow_1).before args s = true) (hA : ∀ a : Nat, a < s.heap.size → ¬ A a) : ∃ a v : Nat, (Term.string "PawnRaceLaw$World" 125).eval args s none [] s = some (.ref a) ∧ zt a v (tcs 9).length (txf (tcs 9)) A s s.heap := by
  obtain ⟨a, v, h1, h2⟩ := zs_one (s := s) (args := args) (A := A) (tm := .string "PawnRaceLaw$World" 125) (len := 4) (byt := txf (tcs 9)) (by decide) (st_in h (by decide +kernel)) (st_in h (by decide +kernel)) (st_in h (by decide +kernel)) (st_in h (by decide +kernel)) (fun j hj => by
    rcases (show j = 0 ∨ j = 1 ∨ j = 2 ∨ j = 3 from by omega) with rfl | rfl | rfl | rfl <;> exact st_in h (by decide +kernel)) hA
  exact ⟨a, v, h1, h2⟩
set_option maxRecDepth 100000 in
theorem zu_10 {args : Array Value} {s : State} {A : Nat → Prop} (h : (Jvm.Cond.and given_1 narrow_1).before args s = true) (hA : ∀ a : Nat, a < s.heap.size → ¬ A a) : ∃ a v : Nat, (Term.string "PawnRaceLaw$World" 127).eval args s none [] s = some (.ref a) ∧ zt a v (tcs 10).length (txf (tcs 10)) A s s.heap := by
  obtain ⟨a, v, h1, h2⟩ := zs_one (s := s) (args := args) (A := A) (tm := .string "PawnRaceLaw$World" 127) (len := 5) (byt := txf (tcs 10)) (by decide) (st_in h (by decide +kernel)) (st_in h (by decide +kernel)) (st_in h (by decide +kernel)) (st_in h (by decide +kernel)) (fun j hj => by
    rcases (show j = 0 ∨ j = 1 ∨ j = 2 ∨ j = 3 ∨ j = 4 from by omega) with rfl | rfl | rfl | rfl | rfl <;> exact st_in h (by decide +kernel)) hA
  exact ⟨a, v, h1, h2⟩
set_option maxRecDepth 100000 in
theorem zu_11 {args : Array Value} {s : State} {A : Nat → Prop} (h : (Jvm.Cond.and given_1 narrow_1).before args s = true) (hA : ∀ a : Nat, a < s.heap.size → ¬ A a) : ∃ a v : Nat, (Term.string "PawnRaceLaw$World" 129).eval args s none [] s = some (.ref a) ∧ zt a v (tcs 11).length (txf (tcs 11)) A s s.heap := by
  obtain ⟨a, v, h1, h2⟩ := zs_one (s := s) (args := args) (A := A) (tm := .string "PawnRaceLaw$World" 129) (len := 6) (byt := txf (tcs 11)) (by decide) (st_in h (by decide +kernel)) (st_in h (by decide +kernel)) (st_in h (by decide +kernel)) (st_in h (by decide +kernel)) (fun j hj => by
    rcases (show j = 0 ∨ j = 1 ∨ j = 2 ∨ j = 3 ∨ j = 4 ∨ j = 5 from by omega) with rfl | rfl | rfl | rfl | rfl | rfl <;> exact st_in h (by decide +kernel)) hA
  exact ⟨a, v, h1, h2⟩
set_option maxRecDepth 100000 in
theorem zu_12 {args : Array Value} {s : State} {A : Nat → Prop} (h : (Jvm.Cond.and given_1 narrow_1).before args s = true) (hA : ∀ a : Nat, a < s.heap.size → ¬ A a) : ∃ a v : Nat, (Term.string "PawnRaceLaw$World" 131).eval args s none [] s = some (.ref a) ∧ zt a v (tcs 12).length (txf (tcs 12)) A s s.heap := by
  obtain ⟨a, v, h1, h2⟩ := zs_one (s := s) (args := args) (A := A) (tm := .string "PawnRaceLaw$World" 131) (len := 7) (byt := txf (tcs 12)) (by decide) (st_in h (by decide +kernel)) (st_in h (by decide +kernel)) (st_in h (by decide +kernel)) (st_in h (by decide +kernel)) (fun j hj => by
    rcases (show j = 0 ∨ j = 1 ∨ j = 2 ∨ j = 3 ∨ j = 4 ∨ j = 5 ∨ j = 6 from by omega) with rfl | rfl | rfl | rfl | rfl | rfl | rfl <;> exact st_in h (by decide +kernel)) hA
  exact ⟨a, v, h1, h2⟩
end TS1
