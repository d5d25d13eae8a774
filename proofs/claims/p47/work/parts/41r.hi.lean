section TS0
set_option maxRecDepth 100000 in
theorem zu_0 {args : Array Value} {s : State} {A : Nat → Prop} (h : (Jvm.Cond.and given_1 narrow_1).before args s = true) (hA : ∀ a : Nat, a < s.heap.size → ¬ A a) : ∃ a v : Nat, (Term.string "PawnRaceLaw$World" 31).eval args s none [] s = some (.ref a) ∧ zt a v (tcs 0).length (txf (tcs 0)) A s s.heap := by
  obtain ⟨a, v, h1, h2⟩ := zs_one (s := s) (args := args) (A := A) (tm := .string "PawnRaceLaw$World" 31) (len := 0) (byt := txf (tcs 0)) (by decide) (st_in h (by decide +kernel)) (st_in h (by decide +kernel)) (st_in h (by decide +kernel)) (st_in h (by decide +kernel)) (fun j hj => by
    exact absurd hj (Nat.not_lt_zero j)) hA
  exact ⟨a, v, h1, h2⟩
set_option maxRecDepth 100000 in
theorem zu_1 {args : Array Value} {s : State} {A : Nat → Prop} (h : (Jvm.Cond.and given_1 narrow_1).before args s = true) (hA : ∀ a : Nat, a < s.heap.size → ¬ A a) : ∃ a v : Nat, (Term.string "PawnRaceLaw$World" 58).eval args s none [] s = some (.ref a) ∧ zt a v (tcs 1).length (txf (tcs 1)) A s s.heap := by
  obtain ⟨a, v, h1, h2⟩ := zs_one (s := s) (args := args) (A := A) (tm := .string "PawnRaceLaw$World" 58) (len := 6) (byt := txf (tcs 1)) (by decide) (st_in h (by decide +kernel)) (st_in h (by decide +kernel)) (st_in h (by decide +kernel)) (st_in h (by decide +kernel)) (fun j hj => by
    rcases (show j = 0 ∨ j = 1 ∨ j = 2 ∨ j = 3 ∨ j = 4 ∨ j = 5 from by omega) with rfl | rfl | rfl | rfl | rfl | rfl <;> exact st_in h (by decide +kernel)) hA
  exact ⟨a, v, h1, h2⟩
set_option maxRecDepth 100000 in
theorem zu_2 {args : Array Value} {s : State} {A : Nat → Prop} (h : (Jvm.Cond.and given_1 narrow_1).before args s = true) (hA : ∀ a : Nat, a < s.heap.size → ¬ A a) : ∃ a v : Nat, (Term.string "PawnRaceLaw$World" 67).eval args s none [] s = some (.ref a) ∧ zt a v (tcs 2).length (txf (tcs 2)) A s s.heap := by
  obtain ⟨a, v, h1, h2⟩ := zs_one (s := s) (args := args) (A := A) (tm := .string "PawnRaceLaw$World" 67) (len := 1) (byt := txf (tcs 2)) (by decide) (st_in h (by decide +kernel)) (st_in h (by decide +kernel)) (st_in h (by decide +kernel)) (st_in h (by decide +kernel)) (fun j hj => by
    rcases (show j = 0 from by omega) with rfl <;> exact st_in h (by decide +kernel)) hA
  exact ⟨a, v, h1, h2⟩
set_option maxRecDepth 100000 in
theorem zu_3 {args : Array Value} {s : State} {A : Nat → Prop} (h : (Jvm.Cond.and given_1 narrow_1).before args s = true) (hA : ∀ a : Nat, a < s.heap.size → ¬ A a) : ∃ a v : Nat, (Term.string "PawnRaceLaw$World" 69).eval args s none [] s = some (.ref a) ∧ zt a v (tcs 3).length (txf (tcs 3)) A s s.heap := by
  obtain ⟨a, v, h1, h2⟩ := zs_one (s := s) (args := args) (A := A) (tm := .string "PawnRaceLaw$World" 69) (len := 1) (byt := txf (tcs 3)) (by decide) (st_in h (by decide +kernel)) (st_in h (by decide +kernel)) (st_in h (by decide +kernel)) (st_in h (by decide +kernel)) (fun j hj => by
    rcases (show j = 0 from by omega) with rfl <;> exact st_in h (by decide +kernel)) hA
  exact ⟨a, v, h1, h2⟩
set_option maxRecDepth 100000 in
theorem zu_4 {args : Array Value} {s : State} {A : Nat → Prop} (h : (Jvm.Cond.and given_1 narrow_1).before args s = true) (hA : ∀ a : Nat, a < s.heap.size → ¬ A a) : ∃ a v : Nat, (Term.string "PawnRaceLaw$World" 71).eval args s none [] s = some (.ref a) ∧ zt a v (tcs 4).length (txf (tcs 4)) A s s.heap := by
  obtain ⟨a, v, h1, h2⟩ := zs_one (s := s) (args := args) (A := A) (tm := .string "PawnRaceLaw$World" 71) (len := 6) (byt := txf (tcs 4)) (by decide) (st_in h (by decide +kernel)) (st_in h (by decide +kernel)) (st_in h (by decide +kernel)) (st_in h (by decide +kernel)) (fun j hj => by
    rcases (show j = 0 ∨ j = 1 ∨ j = 2 ∨ j = 3 ∨ j = 4 ∨ j = 5 from by omega) with rfl | rfl | rfl | rfl | rfl | rfl <;> exact st_in h (by decide +kernel)) hA
  exact ⟨a, v, h1, h2⟩
set_option maxRecDepth 100000 in
theorem zu_5 {args : Array Value} {s : State} {A : Nat → Prop} (h : (Jvm.Cond.and given_1 narrow_1).before args s = true) (hA : ∀ a : Nat, a < s.heap.size → ¬ A a) : ∃ a v : Nat, (Term.string "PawnRaceLaw$World" 73).eval args s none [] s = some (.ref a) ∧ zt a v (tcs 5).length (txf (tcs 5)) A s s.heap := by
  obtain ⟨a, v, h1, h2⟩ := zs_one (s := s) (args := args) (A := A) (tm := .string "PawnRaceLaw$World" 73) (len := 3) (byt := txf (tcs 5)) (by decide) (st_in h (by decide +kernel)) (st_in h (by decide +kernel)) (st_in h (by decide +kernel)) (st_in h (by decide +kernel)) (fun j hj => by
    rcases (show j = 0 ∨ j = 1 ∨ j = 2 from by omega) with rfl | rfl | rfl <;> exact st_in h (by decide +kernel)) hA
  exact ⟨a, v, h1, h2⟩
set_option maxRecDepth 100000 in
theorem zu_6 {args : Array Value} {s : State} {A : Nat → Prop} (h : (Jvm.Cond.and given_1 narrow_1).before args s = true) (hA : ∀ a : Nat, a < s.heap.size → ¬ A a) : ∃ a v : Nat, (Term.string "PawnRaceLaw$World" 104).eval args s none [] s = some (.ref a) ∧ zt a v (tcs 6).length (txf (tcs 6)) A s s.heap := by
  obtain ⟨a, v, h1, h2⟩ := zs_one (s := s) (args := args) (A := A) (tm := .string "PawnRaceLaw$World" 104) (len := 5) (byt := txf (tcs 6)) (by decide) (st_in h (by decide +kernel)) (st_in h (by decide +kernel)) (st_in h (by decide +kernel)) (st_in h (by decide +kernel)) (fun j hj => by
    rcases (show j = 0 ∨ j = 1 ∨ j = 2 ∨ j = 3 ∨ j = 4 from by omega) with rfl | rfl | rfl | rfl | rfl <;> exact st_in h (by decide +kernel)) hA
  exact ⟨a, v, h1, h2⟩
set_option maxRecDepth 100000 in
theorem zu_7 {args : Array Value} {s : State} {A : Nat → Prop} (h : (Jvm.Cond.and given_1 narrow_1).before args s = true) (hA : ∀ a : Nat, a < s.heap.size → ¬ A a) : ∃ a v : Nat, (Term.string "PawnRaceLaw$World" 113).eval args s none [] s = some (.ref a) ∧ zt a v (tcs 7).length (txf (tcs 7)) A s s.heap := by
  obtain ⟨a, v, h1, h2⟩ := zs_one (s := s) (args := args) (A := A) (tm := .string "PawnRaceLaw$World" 113) (len := 3) (byt := txf (tcs 7)) (by decide) (st_in h (by decide +kernel)) (st_in h (by decide +kernel)) (st_in h (by decide +kernel)) (st_in h (by decide +kernel)) (fun j hj => by
    rcases (show j = 0 ∨ j = 1 ∨ j = 2 from by omega) with rfl | rfl | rfl <;> exact st_in h (by decide +kernel)) hA
  exact ⟨a, v, h1, h2⟩
end TS0
