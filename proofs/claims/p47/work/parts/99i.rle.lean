section RLEM
theorem wKl_n (s : Nat → Int) : ∀ (q k : Nat) (t : RLt), (wKl s q k t).2 ≤ t.2 + 3 * q + 1 := by
  intro q
  induction q with
  | zero => exact fun k t => Nat.le_refl _
  | succ q ih =>
    intro k t
    rw [wKl]
    have h1 := ih (k + 1) (stW s k t)
    have h2 := stW_n s k t
    omega
theorem rpS_le (s : Nat → Int) (hI : Inv s) : (rpS s).2 ≤ 283 := by
  have h1 := wKl_n s 64 0 (rY s (s 1).toNat (fun _ => 0, 0))
  have h2 := rY_n s (s 1).toNat (fun _ => 0, 0)
  have h3 := hw_le hI.1
  unfold rpS
  rw [h2] at h1
  have h4 : ((fun _ => 0, 0) : RLt).2 = 0 := rfl
  rw [h4] at h1
  omega
theorem case39' (fu : Nat) (hfu : 40000 ≤ fu) (a : Nat → Int32) {mem : Mem} (h : JJ mem (mMp mem)) : ∃ mem2, K_case_39 fu a mem = some mem2 ∧ JJ mem2 (mMp mem2) := case39 fu hfu rpS_le a h
end RLEM
