section NXT
theorem mw_same (mem : Mem) (k j : Nat) (x : Int32) : rd (mw mem k j x) k j = x := by
  unfold rd mw
  rw [mr_n]
  exact (pk_us : upd (mem k).1 j x j = x)
theorem cell_some (L : Nat) (xs : Nat → Int32) (fu : Nat) {a : Nat} (ha : a < 2 ^ 31) (hL : L ≤ 260) : ∃ x, KL_cell L xs fu (nI a) = some x := by
  unfold KL_cell
  by_cases h : nI a < Int32.ofNat L
  · rw [if_pos h]
    have h2 : a < L := by
      have := (nI_ltI ha (show L < 2 ^ 31 by omega)).mp h
      exact this
    have h3 : ¬ (nI a < 0 ∨ L ≤ (nI a).toNatClampNeg) := pk_in a L h2 rfl (by omega)
    unfold gi
    rw [if_neg h3]
    exact ⟨_, rfl⟩
  · rw [if_neg h]
    exact ⟨_, rfl⟩
theorem pick_some (L : Nat) (xs : Nat → Int32) (fu : Nat) {a k : Nat} (ha : a < 2 ^ 31) (hL : L ≤ 260) (hk : 0 < k) (hk2 : k < 2 ^ 31) : ∃ r, r < k ∧ KL_pick L xs fu (nI a) (nI k) = some (nI r) := by
  obtain ⟨x, hx⟩ := cell_some L xs fu ha hL
  unfold KL_pick
  rw [hx]
  have hy : x &&& 2147483647 = nI (x.toBitVec.toNat % 2 ^ 31) := pk_and x 31 (by decide +kernel)
  have hlt : x.toBitVec.toNat % 2 ^ 31 < 2 ^ 31 := Nat.mod_lt _ (by decide)
  refine ⟨(x.toBitVec.toNat % 2 ^ 31) % k, Nat.mod_lt _ hk, ?_⟩
  show gz (nI k) (some ((x &&& 2147483647) - (x &&& 2147483647) / nI k * nI k)) = _
  unfold gz
  rw [if_neg (nI_ne0 hk hk2), hy, pk_rem hlt hk hk2]
/-- the next number of the script, below k -/
theorem nx_some (L : Nat) (xs : Nat → Int32) (fu : Nat) {a k : Nat} {mem : Mem} (h : rd mem 0 10 = nI a) (ha : a + 1 < 2 ^ 31) (hL : L ≤ 260) (hk : 0 < k) (hk2 : k < 2 ^ 31) : ∃ r, r < k ∧ KW_nx L xs fu (nI k) mem = some (nI r, mw mem 0 10 (nI (a + 1))) := by
  obtain ⟨r, hr, hp⟩ := pick_some L xs fu ha hL hk hk2
  refine ⟨r, hr, ?_⟩
  have e1 : rd mem 0 10 + 1 = nI (a + 1) := by
    rw [h]
    exact nI_1 a
  unfold KW_nx
  rw [e1, mw_same, hp]
  rfl
end NXT
