section RDSM
/-- what reading, running and going leave alone -/
def KPs (c m : Mem) (hv : Bool) (sv : Nat → Int) (rp : RLt) : Prop := (rd c 0 10 = zi (bi hv) ∧ rd m 0 19 = zi (bi hv) ∧ (hv = true → RC c 3 sv ∧ InvH sv ∧ ∀ j, j < 184 → rd m 3 j = zi (sv j))) ∧ (RWc c rp ∧ rp.2 ≤ 283 ∧ ((rd m 0 49 = zi 1 ∧ RWm m rp) ∨ (rd m 0 49 = zi 0 ∧ rp.2 = 0))) ∧ BWok c
theorem KP_fr {c m c2 m2 : Mem} {hv : Bool} {sv : Nat → Int} {rp : RLt} (h : KPs c m hv sv rp) (f : Fr PJc c c2) (g : Fr PJm m m2) : KPs c2 m2 hv sv rp := by
  obtain ⟨⟨f1, f2, f3⟩, ⟨⟨g1, g2⟩, g3, g4⟩, x, y, h1, h2, h3⟩ := h
  refine ⟨⟨(f.1 _ _ rfl).trans f1, (g.1 _ _ rfl).trans f2, fun q => ?_⟩, ⟨⟨(f.1 _ _ rfl).trans g1, fun i hi => (f.1 _ _ rfl).trans (g2 i hi)⟩, g3, ?_⟩, x, y, (f.1 _ _ rfl).trans h1, (f.1 _ _ rfl).trans h2, h3⟩
  · obtain ⟨q1, q2, q3⟩ := f3 q
    refine ⟨RC_fr2 f (fun k j x1 x2 => ?_) q1, q2, fun j hj => (g.1 _ _ rfl).trans (q3 j hj)⟩
    unfold PJc
    simp only [Bool.not_eq_false', Bool.or_eq_true, Bool.and_eq_true, decide_eq_true_iff]
    omega
  · rcases g4 with ⟨q1, q2, q3⟩ | ⟨q1, q2⟩
    · exact Or.inl ⟨(g.1 _ _ rfl).trans q1, (g.1 _ _ rfl).trans q2, fun i hi => (g.1 _ _ rfl).trans (q3 i hi)⟩
    · exact Or.inr ⟨(g.1 _ _ rfl).trans q1, q2⟩
theorem TX_0 {c : Mem} (T : Nat → Int) (hT : ∀ i, 0 ≤ T i ∧ T i ≤ 255) (h : rd c 2 1 = zi 0) : TXc c T 0 := ⟨hT, by decide, h, fun i hi => absurd hi (Nat.not_lt_zero i)⟩
theorem TR_0 {m : Mem} (T : Nat → Int) (hT : ∀ i, 0 ≤ T i ∧ T i ≤ 255) (h : rd m 0 2 = zi 0) : TXr m T 0 := ⟨hT, by decide, h, fun i hi => absurd hi (Nat.not_lt_zero i)⟩
theorem case2 (fu : Nat) (hfu : 40000 ≤ fu) (a : Nat → Int32) {mem : Mem} (h : JJ mem (mMp mem)) : ∃ mem2, K_case_2 fu a mem = some mem2 ∧ JJ mem2 (mMp mem2) := by
  obtain ⟨s, sv, u, ps, L, T, e, p, hv, rp, ⟨⟨a1, a2, a3⟩, ⟨b1, b2⟩, b3⟩, ⟨e1, e2, e3, e4⟩, hK⟩ := h
  obtain ⟨c2, m2, k1, k2, k3, k4, k5⟩ := p_readS fu hfu b1 b2 a1 a2 a3 e2 e3
  have hK2 : KPs c2 m2 hv sv rp := KP_fr hK k1 k2
  rcases k5 with ⟨s2, l1, l2, l3, l4, l5, l6, l7, l8, l9, l10, l11⟩ | ⟨er, pr, h1, h2, l1, l2, l3, l4, l5, l7, l8, l9, l10, l11⟩
  · have hJ : JJ c2 m2 := ⟨s2, sv, 0, ps, 0, T, 0, -1, hv, rp, ⟨⟨l4, l5, l6⟩, ⟨TX_0 T b1.1 k3, TR_0 T b1.1 k4⟩, l7, l8, l9⟩, ⟨by decide, l10, l11, fun i hi => absurd hi (Nat.not_lt_zero i)⟩, hK2⟩
    have hA : K_L_readText fu mem = some (0, ml (mset 0 255 mem c2) 255 0 (Int32.toInt64 (zi (s2 2)))) := by
      unfold K_L_readText
      rw [l1]
      rfl
    exact ⟨_, rowA_ok fu hA P_ok.2 l2 l3, rowA_JJ P_ok.1 hJ⟩
  · have hJ : JJ c2 m2 := ⟨s, sv, u, ps, 0, T, er, pr, hv, rp, ⟨⟨l4, l5, a3⟩, ⟨TX_0 T b1.1 k3, TR_0 T b1.1 k4⟩, l7, l8, l9⟩, ⟨e1, l10, l11, e4⟩, hK2⟩
    have hA : K_L_readText fu mem = some (1, mset 0 255 mem c2) := by
      unfold K_L_readText
      rw [l1]
      rfl
    exact ⟨_, rowA_no fu (by decide) hA l2 l3, rowA_JJ (P_no mem c2) hJ⟩
theorem case3 (fu : Nat) (hfu : 40000 ≤ fu) (a : Nat → Int32) {mem : Mem} (h : JJ mem (mMp mem)) : ∃ mem2, K_case_3 fu a mem = some mem2 ∧ JJ mem2 (mMp mem2) := by
  obtain ⟨s, sv, u, ps, L, T, e, p, hv, rp, ⟨⟨a1, a2, a3⟩, ⟨b1, b2⟩, b3⟩, ⟨e1, e2, e3, e4⟩, hK⟩ := h
  obtain ⟨c2, m2, k1, k2, k3, k4, k5⟩ := p_runS fu hfu b1 b2 a1 a2 a3 e1 e2 e3
  have hK2 : KPs c2 m2 hv sv rp := KP_fr hK k1 k2
  rcases k5 with ⟨d, s2, l0, l1, l2, l3, l4, l5, l6, l7, l8, l9, l10, l11⟩ | ⟨er, pr, h1, h2, l1, l2, l3, l4, l5, l7, l8, l9, l10, l11⟩
  · have hJ : JJ c2 m2 := ⟨s2, sv, kpU u, kpP u ps s, 0, T, 0, -1, hv, rp, ⟨⟨l4, l5, l6⟩, ⟨TX_0 T b1.1 k3, TR_0 T b1.1 k4⟩, l7, l8, l9⟩, ⟨by unfold kpU; split <;> omega, l10, l11, kp_inv e1 e4 a3⟩, hK2⟩
    have hA : K_L_runScript fu mem = some (0, ml (mset 0 255 mem c2) 255 0 (Int32.toInt64 (zi (d : Int)))) := by
      unfold K_L_runScript
      rw [l1]
      rfl
    exact ⟨_, rowA_ok fu hA P_ok.2 l2 l3, rowA_JJ P_ok.1 hJ⟩
  · have hJ : JJ c2 m2 := ⟨s, sv, u, ps, 0, T, er, pr, hv, rp, ⟨⟨l4, l5, a3⟩, ⟨TX_0 T b1.1 k3, TR_0 T b1.1 k4⟩, l7, l8, l9⟩, ⟨e1, l10, l11, e4⟩, hK2⟩
    have hA : K_L_runScript fu mem = some (1, mset 0 255 mem c2) := by
      unfold K_L_runScript
      rw [l1]
      rfl
    exact ⟨_, rowA_no fu (by decide) hA l2 l3, rowA_JJ (P_no mem c2) hJ⟩
/-- the reference's mark of what was thrown, changed -/
theorem JJ_m0 {c m m2 : Mem} (h : JJ c m) (f : Fr (fun k j => k == 0 && j == 0) m m2) : JJ c m2 := by
  obtain ⟨s, sv, u, ps, L, T, e, p, hv, rp, ⟨⟨a1, a2, a3⟩, ⟨b1, b5, b6, b7, b8⟩, d1, d3, d4⟩, ⟨e1, e2, e3, e4⟩, hK⟩ := h
  refine ⟨s, sv, u, ps, L, T, e, p, hv, rp, ⟨⟨a1, MS_P a2 f (fun _ => rfl), a3⟩, ⟨b1, b5, b6, (f.1 _ _ rfl).trans b7, fun i hi => (f.1 _ _ rfl).trans (b8 i hi)⟩, d1, (f.1 _ _ rfl).trans d3, (f.1 _ _ rfl).trans d4⟩, ⟨e1, e2, HSm_fr e3 f rfl (fun _ => rfl), e4⟩, KP_fr hK (Fr_rf _ _) (Fr_mono f (fun k j q => ?_))⟩
  have := PJm_k q
  simp only [Bool.and_eq_false_iff, beq_eq_false_iff_ne, ne_eq]
  omega
theorem case4 (fu : Nat) (a : Nat → Int32) {mem : Mem} (h : JJ mem (mMp mem)) : ∃ mem2, K_case_4 fu a mem = some mem2 ∧ JJ mem2 (mMp mem2) := by
  have h' := h
  obtain ⟨s, sv, u, ps, L, T, e, p, hv, rp, ⟨_, _, ⟨d1, d2⟩, d3, d4⟩, _⟩ := h'
  have hA : K_X11_errorCode fu mem = some (zi e) := congrArg some d1
  have hB : K_X12_errorCode fu (mMp mem) = some (zi e, mw (mMp mem) 0 0 0) := by
    unfold K_X12_errorCode
    rw [ltf, show rd (mw (mMp mem) 0 0 0) 0 10 = zi e by rw [rd_mw, if_neg (by decide)]; exact d3]
  exact ⟨_, call_C hA hB, aft_JJ (JJ_m0 h (Fr_mw _ _ rfl))⟩
theorem case5 (fu : Nat) (a : Nat → Int32) {mem : Mem} (h : JJ mem (mMp mem)) : ∃ mem2, K_case_5 fu a mem = some mem2 ∧ JJ mem2 (mMp mem2) := by
  have h' := h
  obtain ⟨s, sv, u, ps, L, T, e, p, hv, rp, ⟨_, _, ⟨d1, d2⟩, d3, d4⟩, _⟩ := h'
  have hA : K_X11_errorPosition fu mem = some (zi p) := congrArg some d2
  have hB : K_X12_errorPosition fu (mMp mem) = some (zi p, mw (mMp mem) 0 0 0) := by
    unfold K_X12_errorPosition
    rw [ltf, show rd (mw (mMp mem) 0 0 0) 0 11 = zi p by rw [rd_mw, if_neg (by decide)]; exact d4]
  exact ⟨_, call_C hA hB, aft_JJ (JJ_m0 h (Fr_mw _ _ rfl))⟩
end RDSM
