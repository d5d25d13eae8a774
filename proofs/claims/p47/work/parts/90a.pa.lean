section PAT
theorem gi_in {α : Type} {k n : Nat} {o : Option α} (h : k < n) (hn : n < 2 ^ 31) : gi (nI k) n o = o := by
  unfold gi
  rw [if_neg (pk_in k n h rfl hn)]
/-- the pawn i stands on x, y and is not at its side yet -/
def onC (mem : Mem) (x y : Int32) (i : Nat) : Prop := rd mem (13 + i) 6 = 0 ∧ rd mem (13 + i) 0 = x ∧ rd mem (13 + i) 1 = y
theorem pat_some {np nb fu : Nat} {mem : Mem} {x y : Int32} (hnp : np ≤ 4) : ∀ (f i : Nat), i ≤ np → np < i + f → ∃ r, KW_pawnAt_2 np nb fu mem f x y (nI i) = some r ∧ ((r = -1 ∧ ∀ j, i ≤ j → j < np → ¬ onC mem x y j) ∨ ∃ j, i ≤ j ∧ j < np ∧ r = nI j ∧ onC mem x y j) := by
  intro f
  induction f with
  | zero =>
    intro i h0 h
    omega
  | succ f ih =>
    intro i h0 h
    rw [KW_pawnAt_2]
    by_cases hi : i < np
    · have hlt : nI i < Int32.ofNat np := nI_lt hi (by omega)
      have hcl : Int32.toNatClampNeg (nI i) = i := nI_clamp (by omega)
      rw [if_pos hlt, gi_in hi (by omega), gi_in hi (by omega), gi_in hi (by omega), hcl, nI_1]
      obtain ⟨r, h1, h2⟩ := ih (i + 1) (by omega) (by omega)
      have next : ¬ onC mem x y i → ((r = -1 ∧ ∀ j, i ≤ j → j < np → ¬ onC mem x y j) ∨ ∃ j, i ≤ j ∧ j < np ∧ r = nI j ∧ onC mem x y j) := fun hno => by
        rcases h2 with ⟨a, b⟩ | ⟨j, a, b, c, d⟩
        · refine Or.inl ⟨a, fun j hj hj2 => ?_⟩
          by_cases e : j = i
          · rw [e]
            exact hno
          · exact b j (by omega) hj2
        · exact Or.inr ⟨j, by omega, b, c, d⟩
      by_cases c1 : rd mem (13 + i) 6 = 0
      · rw [if_pos c1]
        by_cases c2 : rd mem (13 + i) 0 = x
        · rw [if_pos c2]
          by_cases c3 : rd mem (13 + i) 1 = y
          · rw [if_pos c3]
            exact ⟨_, rfl, Or.inr ⟨i, Nat.le_refl _, hi, rfl, c1, c2, c3⟩⟩
          · rw [if_neg c3]
            exact ⟨r, h1, next (fun q => c3 q.2.2)⟩
        · rw [if_neg c2]
          exact ⟨r, h1, next (fun q => c2 q.2.1)⟩
      · rw [if_neg c1]
        exact ⟨r, h1, next (fun q => c1 q.1)⟩
    · have hlt : ¬ nI i < Int32.ofNat np := fun q => by
        exact hi ((nI_ltI (by omega) (by omega)).mp q)
      rw [if_neg hlt]
      exact ⟨_, rfl, Or.inl ⟨rfl, fun j a b => by omega⟩⟩
theorem side_some {np nb fu : Nat} {mem : Mem} (x y d : Int32) : ∃ r, KW_isAtSide np nb fu x y d mem = some r ∧ (r = 0 ∨ r = 1) := by
  unfold KW_isAtSide KW_isAtSide_14 KW_isAtSide_38
  repeat' split
  all_goals first
    | exact ⟨_, rfl, Or.inl rfl⟩
    | exact ⟨_, rfl, Or.inr rfl⟩
end PAT
