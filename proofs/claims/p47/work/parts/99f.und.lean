section UNDM
theorem case41 (fu : Nat) (hfu : 40000 ≤ fu) (a : Nat → Int32) {mem : Mem} (h : JJ mem (mMp mem)) : ∃ mem2, K_case_41 fu a mem = some mem2 ∧ JJ mem2 (mMp mem2) := by
  have h' := h
  obtain ⟨s, sv, u, ps, L, T, e, p, hv, rp, ⟨⟨a1, a2, a3⟩, ⟨b1, b2⟩, ⟨d1, d2⟩, d3, d4⟩, ⟨e1, e2, e3, e4⟩, hK⟩ := h'
  have hK' : KPs mem (mMp mem) hv sv rp := hK
  have f0 : Fr (fun k j => k == 0 && j == 0) (mMp mem) (mw (mMp mem) 0 0 0) := Fr_mw _ _ rfl
  have r18 : rd (mw (mMp mem) 0 0 0) 0 18 = zi (u : Int) := (f0.1 _ _ rfl).trans e3.1
  have iu : (zi (u : Int) = (0 : Int32)) = ((u : Int) = 0) := zi_inj (b_ := 0) (by omega) (by omega) (by decide) (by decide)
  rcases c_takeB fu (by omega) e1 e2 with ⟨q0, q1⟩ | ⟨q0, c2, q1, q2, q3, q4⟩
  · have hA : K_X11_undo fu mem = some (zi (-1), mem) := by
      unfold K_X11_undo
      rw [q1, bd_s, if_pos (show (0 : Int32) = 0 from rfl)]
      rfl
    have hB : K_X12_undo fu (mMp mem) = some (zi (-1), mw (mMp mem) 0 0 0) := by
      unfold K_X12_undo
      rw [ltf, r18, if_pos (iu.mpr (by omega))]
      rfl
    exact ⟨_, call_B hA hB, aft_JJ (JJ_m0 h f0)⟩
  · obtain ⟨v, hv1⟩ : ∃ v, u = v + 1 := ⟨u - 1, by omega⟩
    have hv2 : u - 1 = v := by omega
    rw [hv2] at q2 q3
    have hA : K_X11_undo fu mem = some (zi (v : Int), c2) := by
      obtain ⟨nx, w1, w2, w3, w4⟩ := q2
      unfold K_X11_undo
      rw [q1, bd_s, if_neg z10, w3]
    obtain ⟨m1, hm1⟩ : ∃ m1, m1 = mw (mw (mMp mem) 0 0 0) 0 18 (zi (v : Int)) := ⟨_, rfl⟩
    have r18b : rd m1 0 18 = zi (v : Int) := by rw [hm1, rd_mw, if_pos ⟨rfl, rfl⟩]
    obtain ⟨m2, n1, n2, n3⟩ := m_un26 fu (u := v) (by omega) 184 fu 0 m1 (by omega) (by omega) r18b (fun j hj => absurd hj (Nat.not_lt_zero j))
    have hB : K_X12_undo fu (mMp mem) = some (zi (v : Int), m2) := by
      have e1' : zi (u : Int) - 1 = zi (v : Int) := by
        rw [show (1 : Int32) = zi 1 from rfl, zi_sub]
        exact congrArg zi (by omega)
      unfold K_X12_undo
      rw [ltf, r18, if_neg (fun q => absurd (iu.mp q) (by omega)), e1', ltf, ← hm1]
      exact n1
    have fm : Fr (fun k j => k == 2 || (k == 0 && (j == 0 || j == 18))) (mMp mem) m2 := by
      refine Fr_tr (m2 := m1) ?_ (Fr_mono n3 (fun k j q => ?_))
      · rw [hm1]
        exact Fr_tr (Fr_mw _ _ rfl) (Fr_mw _ _ rfl)
      · unfold PR1
        simp only [Bool.or_eq_false_iff, Bool.and_eq_false_iff, beq_eq_false_iff_ne, ne_eq] at q ⊢
        exact Or.inl q.1
    have hIv := e4 v (by omega)
    have hm0 : ∀ k j, k ≠ 0 → rd m1 k j = rd (mMp mem) k j := fun k j q => by
      rw [hm1, rd_mw, if_neg (fun z => q z.1), rd_mw, if_neg (fun z => q z.1)]
    have hS2 : MS m2 (ps v) := MS_row (fun j hj => ((n2 j hj).trans (hm0 _ _ (by decide))).trans (e3.2 v j (by omega) hj)) (fun j hj => by
      rw [n3.1 2 j (by unfold PR1; rw [decide_eq_false (by omega)]; rfl), hm0 _ _ (by decide), a2 j, a3.2 j hj]) hIv.2
    have lc : ∀ k j, k ≤ 32 → rd c2 k j = rd mem k j := fun k j q => q4.1 _ _ (by
      unfold PU ZR
      simp only [Bool.or_eq_false_iff, Bool.and_eq_false_iff, beq_eq_false_iff_ne, ne_eq, decide_eq_false_iff_not]
      omega)
    have hK2 : KPs c2 m2 hv sv rp := KP_fr hK' (Fr_mono q4 (fun k j q => by
      have := PJc_k q
      unfold PU ZR
      simp only [Bool.or_eq_false_iff, Bool.and_eq_false_iff, beq_eq_false_iff_ne, ne_eq, decide_eq_false_iff_not]
      omega)) (Fr_mono fm (fun k j q => by
      have := PJm_k q
      simp only [Bool.or_eq_false_iff, Bool.and_eq_false_iff, beq_eq_false_iff_ne, ne_eq]
      omega))
    refine ⟨_, call_B hA hB, aft_JJ ⟨ps v, sv, v, ps, L, T, e, p, hv, rp, ⟨⟨q3, hS2, hIv⟩, ⟨⟨b1.1, b1.2.1, (lc _ _ (by decide)).trans b1.2.2.1, fun i hi => (lc _ _ (by decide)).trans (b1.2.2.2 i hi)⟩, b2.1, b2.2.1, (fm.1 _ _ rfl).trans b2.2.2.1, fun i hi => (fm.1 _ _ rfl).trans (b2.2.2.2 i hi)⟩, ⟨(lc _ _ (by decide)).trans d1, (lc _ _ (by decide)).trans d2⟩, (fm.1 _ _ rfl).trans d3, (fm.1 _ _ rfl).trans d4⟩, ⟨by omega, q2, ⟨?_, fun i j q5 q6 => (fm.1 _ _ rfl).trans (e3.2 i j (by omega) q6)⟩, fun i hi => e4 i (by omega)⟩, hK2⟩⟩
    rw [n3.1 _ _ rfl]
    exact r18b
theorem case29 (fu : Nat) (hfu : 40000 ≤ fu) (a : Nat → Int32) {mem : Mem} (h : JJ mem (mMp mem)) : ∃ mem2, K_case_29 fu a mem = some mem2 ∧ JJ mem2 (mMp mem2) := by
  have h' := h
  obtain ⟨s, sv, u, ps, L, T, e, p, hv, rp, ⟨⟨a1, a2, a3⟩, _⟩, _⟩ := h'
  have f0 : Fr (fun k j => k == 0 && j == 0) (mMp mem) (mw (mMp mem) 0 0 0) := Fr_mw _ _ rfl
  have hS : MS (mw (mMp mem) 0 0 0) s := MS_P a2 f0 (fun _ => rfl)
  obtain ⟨iz, ic, iW, ip, _⟩ := a3.1
  obtain ⟨c2, k1, k2⟩ := c_nearest fu 0 (by omega) iz ic iW ip (but := -1) (by decide) (by decide) a1
  obtain ⟨m2, n1, n2⟩ := m_nearest fu (by omega) iz ic iW ip (but := -1) (by decide) (by decide) hS
  have k1' : K_X5_nearest fu 0 (-1) mem = some (zi (nrS s (-1)), c2) := k1
  have n1' : K_X12_nearest fu (-1) (mw (mMp mem) 0 0 0) = some (zi (nrS s (-1)), m2) := n1
  have hA : K_X11_leader fu mem = some (zi (nrS s (-1)), c2) := by
    unfold K_X11_leader
    rw [k1', bd_s]
  have hB : K_X12_leader fu (mMp mem) = some (zi (nrS s (-1)), m2) := by
    unfold K_X12_leader
    rw [ltf, n1', bd_s]
  have hPC : ∀ k j, k < 20 ∨ 23 ≤ k → PC 0 k j = false := fun k j q => by
    unfold PC pDist pQueue pWays
    simp only [Bool.or_eq_false_iff, Bool.and_eq_false_iff, beq_eq_false_iff_ne, ne_eq]
    omega
  refine ⟨_, call_B hA hB, aft_JJ (JJ_sc (JJ_m0 h f0) (Fr_mono k2 (fun k j q => ?_)) (Fr_mono n2 (fun k j q => ?_)) (fun s1 _ hR => RC_fr2 k2 (fun k j q1 q2 => hPC k j (by omega)) hR) (fun hB2 => ?_))⟩
  · refine hPC k j ?_
    have q1 := (Bool.or_eq_false_iff.mp q).1
    unfold PSk at q1
    simp only [Bool.not_eq_false', Bool.or_eq_true, Bool.and_eq_true, beq_iff_eq, decide_eq_true_iff] at q1
    omega
  · unfold PSn at q
    unfold PB
    simp only [Bool.not_eq_false', Bool.or_eq_true, Bool.and_eq_true, beq_iff_eq] at q
    simp only [Bool.or_eq_false_iff, Bool.and_eq_false_iff, beq_eq_false_iff_ne, ne_eq]
    omega
  · obtain ⟨x, y, h1, h2, h3⟩ := hB2
    exact ⟨x, y, (k2.1 _ _ (hPC _ _ (by decide))).trans h1, (k2.1 _ _ (hPC _ _ (by decide))).trans h2, h3⟩
end UNDM
