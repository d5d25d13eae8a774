section SAVM
theorem case42 (fu : Nat) (hfu : 40000 ≤ fu) (a : Nat → Int32) {mem : Mem} (h : JJ mem (mMp mem)) : ∃ mem2, K_case_42 fu a mem = some mem2 ∧ JJ mem2 (mMp mem2) := by
  obtain ⟨s, sv, u, ps, L, T, e, p, hv, rp, ⟨⟨a1, a2, a3⟩, ⟨⟨x1, x2, x3, x4⟩, b5, b6, b7, b8⟩, ⟨d1, d2⟩, d3, d4⟩, ⟨e1, e2, e3, e4⟩, ⟨f1, f2, f3⟩, ⟨⟨g1, g2⟩, g3, g4⟩, bx, bye, h1, h2, h3⟩ := h
  obtain ⟨c1, k1, k2, k3⟩ := c_copy fu (by omega) (r := 3) (r1 := 0) (by decide) a1
  have hR0 := RC_o (r := 3) (a := 0) (by decide) k3 a1
  have lc : ∀ k j, k < 101 ∨ 123 ≤ k → rd c1 k j = rd mem k j := fun k j q => k3.1 _ _ (by
    unfold ZR
    simp only [Bool.and_eq_false_iff, decide_eq_false_iff_not]
    omega)
  have r5 : rd (mw c1 0 10 1) (pRace 3) 5 = zi (s 4) := by
    rw [rd_mw, if_neg (fun q => absurd q.1 (by decide))]
    exact k2.2.1.2.2.1
  have hA : K_X11_save fu mem = some (zi (s 4), mw c1 0 10 1) := by
    unfold K_X11_save
    rw [k1, bd_s, ltf, r5]
  have f0 : Fr (fun k j => k == 0 && j == 0) (mMp mem) (mw (mMp mem) 0 0 0) := Fr_mw _ _ rfl
  obtain ⟨m2, n1, n2, n3⟩ := m_sv7 fu 184 fu 0 (mw (mMp mem) 0 0 0) (by omega) (by omega) (fun j hj => absurd hj (Nat.not_lt_zero j))
  have hS2 : MS m2 s := MS_P (MS_P a2 f0 (fun _ => rfl)) n3 (fun _ => rfl)
  have hB : K_X12_save fu (mMp mem) = some (zi (s 4), mw m2 0 19 (zi 1)) := by
    unfold K_X12_save
    rw [ltf]
    have e4 : rd m2 2 4 = zi (s 4) := hS2 4
    rw [← e4]
    exact n1
  have lm : ∀ k j, k ≠ 3 → ¬ (k = 0 ∧ (j = 0 ∨ j = 19)) → rd (mw m2 0 19 (zi 1)) k j = rd (mMp mem) k j := fun k j q1 q2 => by
    rw [rd_mw, if_neg (fun q => q2 ⟨q.1, Or.inr q.2⟩), n3.1 _ _ (by
      unfold PR1
      simp only [Bool.and_eq_false_iff, beq_eq_false_iff_ne, ne_eq]
      exact Or.inl q1), rd_mw, if_neg (fun q => q2 ⟨q.1, Or.inl q.2⟩)]
  have lcc : ∀ k j, k < 101 ∨ 123 ≤ k → ¬ (k = 0 ∧ j = 10) → rd (mw c1 0 10 1) k j = rd mem k j := fun k j q1 q2 => by
    rw [rd_mw, if_neg q2]
    exact lc k j q1
  have fcc : Fr (fun k j => (k == 0 && j == 10) || ZR 3 k j) mem (mw c1 0 10 1) := Fr_tr (Fr_mono k3 (fun k j q => (Bool.or_eq_false_iff.mp q).2)) (Fr_mw _ _ rfl)
  have f10 : Fr (fun k _ => k == 0) c1 (mw c1 0 10 1) := Fr_mw _ _ rfl
  refine ⟨_, call_B hA hB, aft_JJ ⟨s, s, u, ps, L, T, e, p, true, rp, ⟨⟨RC_fr2 f10 (fun k j q1 q2 => by simp only [beq_eq_false_iff_ne, ne_eq]; omega) hR0, fun j => (lm _ _ (by decide) (by omega)).trans (a2 j), a3⟩, ⟨⟨x1, x2, (lcc _ _ (by omega) (by omega)).trans x3, fun i hi => (lcc _ _ (by omega) (by omega)).trans (x4 i hi)⟩, b5, b6, (lm _ _ (by decide) (by omega)).trans b7, fun i hi => (lm _ _ (by decide) (by omega)).trans (b8 i hi)⟩, ⟨(lcc _ _ (by omega) (by omega)).trans d1, (lcc _ _ (by omega) (by omega)).trans d2⟩, (lm _ _ (by decide) (by omega)).trans d3, (lm _ _ (by decide) (by omega)).trans d4⟩, ⟨e1, HSc_fr e2 fcc (fun k j q => ?_), ⟨(lm _ _ (by decide) (by omega)).trans e3.1, fun i j q1 q2 => (lm _ _ (by decide) (by omega)).trans (e3.2 i j q1 q2)⟩, e4⟩, ⟨by rw [rd_mw, if_pos ⟨rfl, rfl⟩]; rfl, by rw [rd_mw, if_pos ⟨rfl, rfl⟩]; rfl, fun _ => ⟨RC_fr2 f10 (fun k j q1 q2 => by simp only [beq_eq_false_iff_ne, ne_eq]; omega) k2, a3, fun j hj => ?_⟩⟩, ⟨⟨(lcc _ _ (by omega) (by omega)).trans g1, fun i hi => (lcc _ _ (by omega) (by omega)).trans (g2 i hi)⟩, g3, ?_⟩, bx, bye, (lcc _ _ (by omega) (by omega)).trans h1, (lcc _ _ (by omega) (by omega)).trans h2, h3⟩⟩
  · unfold ZR
    simp only [Bool.or_eq_false_iff, Bool.and_eq_false_iff, beq_eq_false_iff_ne, ne_eq, decide_eq_false_iff_not]
    omega
  · rw [rd_mw, if_neg (fun q => absurd q.1 (by decide)), n2 j hj, rd_mw, if_neg (fun q => absurd q.1 (by decide))]
    exact a2 j
  · rcases g4 with ⟨q1, q2, q3⟩ | ⟨q1, q2⟩
    · exact Or.inl ⟨(lm _ _ (by decide) (by omega)).trans q1, (lm _ _ (by decide) (by omega)).trans q2, fun i hi => (lm _ _ (by decide) (by omega)).trans (q3 i hi)⟩
    · exact Or.inr ⟨(lm _ _ (by decide) (by omega)).trans q1, q2⟩
theorem m_goes (fu : Nat) (m : Mem) (b : Bool) : ∃ m2, K_X12_goes fu (zi (bi b)) m = some (zi (bi b), m2) ∧ rd m2 0 0 = zi (bi (!b)) ∧ Fr (fun k j => k == 0 && j == 0) m m2 := by
  unfold K_X12_goes K_X12_goes_10
  cases b with
  | true =>
    rw [if_neg (show ¬ zi (bi true) = 0 by decide), show K_X12_truth fu 0 m = some (zi 0) from rfl, bd_s, ltf]
    exact ⟨mw m 0 0 (zi 0), rfl, by rw [rd_mw, if_pos ⟨rfl, rfl⟩]; rfl, Fr_mw _ _ rfl⟩
  | false =>
    rw [if_pos (show zi (bi false) = 0 from rfl), show K_X12_truth fu 1 m = some (zi 1) from rfl, bd_s, ltf]
    exact ⟨mw m 0 0 (zi 1), rfl, by rw [rd_mw, if_pos ⟨rfl, rfl⟩]; rfl, Fr_mw _ _ rfl⟩
theorem case43 (fu : Nat) (hfu : 40000 ≤ fu) (a : Nat → Int32) {mem : Mem} (h : JJ mem (mMp mem)) : ∃ mem2, K_case_43 fu a mem = some mem2 ∧ JJ mem2 (mMp mem2) := by
  have hJ := h
  obtain ⟨s, sv, u, ps, L, T, e, p, hv, rp, ⟨⟨a1, a2, a3⟩, ⟨b1, b2⟩, ⟨d1, d2⟩, d3, d4⟩, ⟨e1, e2, e3, e4⟩, hK⟩ := h
  have hK' : KPs mem (mMp mem) hv sv rp := hK
  obtain ⟨⟨f1, f2, f3⟩, _⟩ := hK
  obtain ⟨m1, n1, n2, n3⟩ := m_goes fu (mMp mem) hv
  cases hv with
  | false =>
    have hA : K_L_restore fu mem = some (1, mset 0 255 mem mem) := by
      unfold K_L_restore K_X11_restore
      rw [f1, if_pos (show zi (bi false) = 0 from rfl)]
      rfl
    have hB : K_X12_restore fu (mMp mem) = some (zi 0, m1) := by
      unfold K_X12_restore
      rw [f2, n1, bd_s, if_pos (show zi (bi false) = 0 from rfl)]
      rfl
    exact ⟨_, rowA_no fu (by decide) hA hB n2, rowA_JJ (P_no mem mem) (JJ_m0 hJ n3)⟩
  | true =>
    obtain ⟨q1, q2, q3⟩ := f3 rfl
    obtain ⟨c1, k1, k2, k3⟩ := c_copy fu (by omega) (r := 0) (r1 := 3) (by decide) q1
    have f33 : Fr (fun k _ => k == 33) c1 (mw c1 33 2 0) := Fr_mw _ _ rfl
    have hR3 : RC (mw c1 33 2 0) 0 sv := RC_fr2 f33 (fun k j h1 h2 => by simp only [beq_eq_false_iff_ne, ne_eq]; omega) k2
    have hA : K_L_restore fu mem = some (0, ml (mset 0 255 mem (mw c1 33 2 0)) 255 0 (Int32.toInt64 (zi (sv 4)))) := by
      have hr5 : rd (mw c1 33 2 0) (pRace 0) 5 = zi (sv 4) := hR3.2.1.2.2.1
      unfold K_L_restore K_X11_restore K_X3_forget
      rw [f1, if_neg (show ¬ zi (bi true) = 0 by decide), k1, bd_s, ltf, bd_s, hr5]
      rfl
    obtain ⟨m2, o1, o2, o3⟩ := m_rs15 fu 184 fu 0 m1 (by omega) (by omega) (fun j hj => absurd hj (Nat.not_lt_zero j))
    have hS2 : MS m2 sv := MS_row (fun j hj => ((o2 j hj).trans (n3.1 _ _ rfl)).trans (q3 j hj)) (fun j hj => by
      rw [o3.1 2 j (by unfold PR1; rw [decide_eq_false (by omega)]; rfl), n3.1 _ _ rfl, a2 j, a3.2 j hj]) q2.2
    have hB : K_X12_restore fu (mMp mem) = some (zi (sv 4), mw m2 0 18 (zi 0)) := by
      unfold K_X12_restore
      have e4' : rd m2 2 4 = zi (sv 4) := hS2 4
      rw [f2, n1, bd_s, if_neg (show ¬ zi (bi true) = 0 by decide), ← e4']
      exact o1
    have fm : Fr (fun k j => k == 2 || (k == 0 && (j == 0 || j == 18))) (mMp mem) (mw m2 0 18 (zi 0)) := Fr_tr (Fr_tr (Fr_mono n3 (fun k j q => by
      simp only [Bool.or_eq_false_iff, Bool.and_eq_false_iff, beq_eq_false_iff_ne, ne_eq] at q ⊢
      omega)) (Fr_mono o3 (fun k j q => by
      unfold PR1
      simp only [Bool.or_eq_false_iff, Bool.and_eq_false_iff, beq_eq_false_iff_ne, ne_eq] at q ⊢
      exact Or.inl q.1))) (Fr_mw _ _ rfl)
    have fc : Fr (fun k j => k == 33 || ZR 0 k j) mem (mw c1 33 2 0) := Fr_tr (Fr_mono k3 (fun k j q => (Bool.or_eq_false_iff.mp q).2)) (Fr_mw _ _ rfl)
    have lc : ∀ k j, k ≤ 32 → rd (mw c1 33 2 0) k j = rd mem k j := fun k j q => fc.1 _ _ (by
      unfold ZR
      simp only [Bool.or_eq_false_iff, Bool.and_eq_false_iff, beq_eq_false_iff_ne, ne_eq, decide_eq_false_iff_not]
      omega)
    have hK2 : KPs (mw c1 33 2 0) (mw m2 0 18 (zi 0)) true sv rp := KP_fr hK' (Fr_mono fc (fun k j q => by
      have := PJc_k q
      unfold ZR
      simp only [Bool.or_eq_false_iff, Bool.and_eq_false_iff, beq_eq_false_iff_ne, ne_eq, decide_eq_false_iff_not]
      omega)) (Fr_mono fm (fun k j q => by
      have := PJm_k q
      simp only [Bool.or_eq_false_iff, Bool.and_eq_false_iff, beq_eq_false_iff_ne, ne_eq]
      omega))
    refine ⟨_, rowA_ok fu hA P_ok.2 hB ?_, rowA_JJ P_ok.1 ⟨sv, sv, 0, ps, L, T, e, p, true, rp, ⟨⟨hR3, MS_P (P := fun k _ => k == 0) hS2 (Fr_mw _ _ rfl) (fun _ => rfl), q2⟩, ⟨⟨b1.1, b1.2.1, (lc _ _ (by decide)).trans b1.2.2.1, fun i hi => (lc _ _ (by decide)).trans (b1.2.2.2 i hi)⟩, b2.1, b2.2.1, (fm.1 _ _ rfl).trans b2.2.2.1, fun i hi => (fm.1 _ _ rfl).trans (b2.2.2.2 i hi)⟩, ⟨(lc _ _ (by decide)).trans d1, (lc _ _ (by decide)).trans d2⟩, (fm.1 _ _ rfl).trans d3, (fm.1 _ _ rfl).trans d4⟩, ⟨by decide, ?_, ⟨by rw [rd_mw, if_pos ⟨rfl, rfl⟩]; rfl, fun i j hi => absurd hi (Nat.not_lt_zero i)⟩, fun i hi => absurd hi (Nat.not_lt_zero i)⟩, hK2⟩⟩
    · rw [rd_mw, if_neg (by decide), o3.1 _ _ rfl]
      exact n2
    · obtain ⟨nx, w1, w2, w3, w4⟩ := e2
      refine ⟨nx, w1, ?_, by rw [rd_mw, if_pos ⟨rfl, rfl⟩]; rfl, fun i hi => absurd hi (Nat.not_lt_zero i)⟩
      rw [rd_mw, if_neg (by decide), k3.1 _ _ (ZR_lo (by decide))]
      exact w2
end SAVM
