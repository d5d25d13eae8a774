section REPM
theorem case39 (fu : Nat) (hfu : 40000 ≤ fu) (hle : ∀ s, Inv s → (rpS s).2 ≤ 283) (a : Nat → Int32) {mem : Mem} (h : JJ mem (mMp mem)) : ∃ mem2, K_case_39 fu a mem = some mem2 ∧ JJ mem2 (mMp mem2) := by
  obtain ⟨s, sv, u, ps, L, T, e, p, hv, rp, ⟨⟨a1, a2, a3⟩, ⟨b1, b2⟩, d1, d3, d4⟩, ⟨e1, e2, e3, e4⟩, ⟨⟨f1, f2, f3⟩, _, x, y, h1, h2, h3⟩⟩ := h
  obtain ⟨c2, k1, k2, k3, k4⟩ := c_report fu (by omega) a3.1 a1
  obtain ⟨m2, n1, n2, n3, n4, n5⟩ := m_report fu (by omega) a3.1 a2
  have lc : ∀ k j, k ≠ 1 → ¬ (k = 0 ∧ j = 13) → rd c2 k j = rd mem k j := fun k j q1 q2 => k4.1 _ _ (by
    unfold PRc
    simp only [Bool.or_eq_false_iff, Bool.and_eq_false_iff, beq_eq_false_iff_ne, ne_eq]
    omega)
  have lm : ∀ k j, k ≠ 22 → ¬ (k = 0 ∧ (j = 0 ∨ j = 48 ∨ j = 49)) → rd m2 k j = rd (mMp mem) k j := fun k j q1 q2 => n5.1 _ _ (by
    unfold PRn PRm
    simp only [Bool.or_eq_false_iff, Bool.and_eq_false_iff, beq_eq_false_iff_ne, ne_eq]
    omega)
  have hiP : ∀ k j, 2 ≤ k → PRc k j = false := fun k j q => by
    unfold PRc
    simp only [Bool.or_eq_false_iff, Bool.and_eq_false_iff, beq_eq_false_iff_ne, ne_eq]
    omega
  refine ⟨_, call_B k1 n1, aft_JJ ⟨s, sv, u, ps, L, T, e, p, hv, rpS s, ⟨⟨k2, fun j => (lm _ _ (by decide) (by omega)).trans (a2 j), a3⟩, ⟨⟨b1.1, b1.2.1, (lc _ _ (by decide) (by omega)).trans b1.2.2.1, fun i hi => (lc _ _ (by decide) (by omega)).trans (b1.2.2.2 i hi)⟩, b2.1, b2.2.1, (lm _ _ (by decide) (by omega)).trans b2.2.2.1, fun i hi => (lm _ _ (by decide) (by omega)).trans (b2.2.2.2 i hi)⟩, ⟨(lc _ _ (by decide) (by omega)).trans d1.1, (lc _ _ (by decide) (by omega)).trans d1.2⟩, (lm _ _ (by decide) (by omega)).trans d3, (lm _ _ (by decide) (by omega)).trans d4⟩, ⟨e1, HSc_fr e2 k4 (fun k j q => hiP k j (by omega)), ⟨(lm _ _ (by decide) (by omega)).trans e3.1, fun i j q1 q2 => (lm _ _ (by decide) (by omega)).trans (e3.2 i j q1 q2)⟩, e4⟩, ⟨(lc _ _ (by decide) (by omega)).trans f1, (lm _ _ (by decide) (by omega)).trans f2, fun q => ?_⟩, ⟨k3, hle s a3.1, Or.inl ⟨n3, n2⟩⟩, x, y, (lc _ _ (by decide) (by omega)).trans h1, (lc _ _ (by decide) (by omega)).trans h2, h3⟩⟩
  obtain ⟨q1, q2, q3⟩ := f3 q
  exact ⟨RC_fr2 k4 (fun k j z1 z2 => hiP k j (by omega)) q1, q2, fun j hj => (lm _ _ (by decide) (by omega)).trans (q3 j hj)⟩
end REPM
