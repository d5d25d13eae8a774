section TS2
set_option maxRecDepth 100000 in
theorem zu_13 {args : Array Value} {s : State} {A : Nat → Prop} (h : (Jvm.Cond.and given_1 narrow_1).before args s = true) (hA : ∀ a : Nat, a < s.heap.size → ¬ A a) : ∃ a v : Nat, (Term.string "PawnRaceLaw$World" 133).eval args s none [] s = some (.ref a) ∧ zt a v (tcs 13).length (txf (tcs 13)) A s s.heap := by
  obtain ⟨a, v, h1, h2⟩ := zs_one (s := s) (args := args) (A := A) (tm := .string "PawnRaceLaw$World" 133) (len := 4) (byt := txf (tcs 13)) (by decide) (st_in h (by decide +kernel)) (st_in h (by decide +kernel)) (st_in h (by decide +kernel)) (st_in h (by decide +kernel)) (fun j hj => by
    rcases (show j = 0 ∨ j = 1 ∨ j = 2 ∨ j = 3 from by omega) with rfl | rfl | rfl | rfl <;> exact st_in h (by decide +kernel)) hA
  exact ⟨a, v, h1, h2⟩
set_option maxRecDepth 100000 in
theorem zu_14 {args : Array Value} {s : State} {A : Nat → Prop} (h : (Jvm.Cond.and given_1 narrow_1).before args s = true) (hA : ∀ a : Nat, a < s.heap.size → ¬ A a) : ∃ a v : Nat, (Term.string "PawnRaceLaw$World" 135).eval args s none [] s = some (.ref a) ∧ zt a v (tcs 14).length (txf (tcs 14)) A s s.heap := by
  obtain ⟨a, v, h1, h2⟩ := zs_one (s := s) (args := args) (A := A) (tm := .string "PawnRaceLaw$World" 135) (len := 6) (byt := txf (tcs 14)) (by decide) (st_in h (by decide +kernel)) (st_in h (by decide +kernel)) (st_in h (by decide +kernel)) (st_in h (by decide +kernel)) (fun j hj => by
    rcases (show j = 0 ∨ j = 1 ∨ j = 2 ∨ j = 3 ∨ j = 4 ∨ j = 5 from by omega) with rfl | rfl | rfl | rfl | rfl | rfl <;> exact st_in h (by decide +kernel)) hA
  exact ⟨a, v, h1, h2⟩
set_option maxRecDepth 100000 in
theorem zu_15 {args : Array Value} {s : State} {A : Nat → Prop} (h : (Jvm.Cond.and given_1 narrow_1).before args s = true) (hA : ∀ a : Nat, a < s.heap.size → ¬ A a) : ∃ a v : Nat, (Term.string "PawnRaceLaw$World" 137).eval args s none [] s = some (.ref a) ∧ zt a v (tcs 15).length (txf (tcs 15)) A s s.heap := by
  obtain ⟨a, v, h1, h2⟩ := zs_one (s := s) (args := args) (A := A) (tm := .string "PawnRaceLaw$World" 137) (len := 4) (byt := txf (tcs 15)) (by decide) (st_in h (by decide +kernel)) (st_in h (by decide +kernel)) (st_in h (by decide +kernel)) (st_in h (by decide +kernel)) (fun j hj => by
    rcases (show j = 0 ∨ j = 1 ∨ j = 2 ∨ j = 3 from by omega) with rfl | rfl | rfl | rfl <;> exact st_in h (by decide +kernel)) hA
  exact ⟨a, v, h1, h2⟩
set_option maxRecDepth 100000 in
theorem zu_16 {args : Array Value} {s : State} {A : Nat → Prop} (h : (Jvm.Cond.and given_1 narrow_1).before args s = true) (hA : ∀ a : Nat, a < s.heap.size → ¬ A a) : ∃ a v : Nat, (Term.string "PawnRaceLaw$World" 142).eval args s none [] s = some (.ref a) ∧ zt a v (tcs 16).length (txf (tcs 16)) A s s.heap := by
  obtain ⟨a, v, h1, h2⟩ := zs_one (s := s) (args := args) (A := A) (tm := .string "PawnRaceLaw$World" 142) (len := 6) (byt := txf (tcs 16)) (by decide) (st_in h (by decide +kernel)) (st_in h (by decide +kernel)) (st_in h (by decide +kernel)) (st_in h (by decide +kernel)) (fun j hj => by
    rcases (show j = 0 ∨ j = 1 ∨ j = 2 ∨ j = 3 ∨ j = 4 ∨ j = 5 from by omega) with rfl | rfl | rfl | rfl | rfl | rfl <;> exact st_in h (by decide +kernel)) hA
  exact ⟨a, v, h1, h2⟩
set_option maxRecDepth 100000 in
theorem zu_17 {args : Array Value} {s : State} {A : Nat → Prop} (h : (Jvm.Cond.and given_1 narrow_1).before args s = true) (hA : ∀ a : Nat, a < s.heap.size → ¬ A a) : ∃ a v : Nat, (Term.string "PawnRaceLaw$World" 144).eval args s none [] s = some (.ref a) ∧ zt a v (tcs 17).length (txf (tcs 17)) A s s.heap := by
  obtain ⟨a, v, h1, h2⟩ := zs_one (s := s) (args := args) (A := A) (tm := .string "PawnRaceLaw$World" 144) (len := 7) (byt := txf (tcs 17)) (by decide) (st_in h (by decide +kernel)) (st_in h (by decide +kernel)) (st_in h (by decide +kernel)) (st_in h (by decide +kernel)) (fun j hj => by
    rcases (show j = 0 ∨ j = 1 ∨ j = 2 ∨ j = 3 ∨ j = 4 ∨ j = 5 ∨ j = 6 from by omega) with rfl | rfl | rfl | rfl | rfl | rfl | rfl <;> exact st_in h (by decide +kernel)) hA
  exact ⟨a, v, h1, h2⟩
end TS2
