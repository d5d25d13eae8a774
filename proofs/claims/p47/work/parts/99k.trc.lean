section TRCM
/-- another text, and nothing else -/
theorem JJ_tx {c m c2 m2 : Mem} (h : JJ c m) (f : Fr (fun k j => (k == 2 && j == 1) || k == 3) c c2) (g : Fr (fun k j => (k == 0 && (j == 0 || j == 2)) || k == 1) m m2) {T : Nat → Int} {L : Nat} (hX : TXc c2 T L) (hM : TXr m2 T L) : JJ c2 m2 := by
  obtain ⟨s, sv, u, ps, L0, T0, e, p, hv, rp, ⟨⟨a1, a2, a3⟩, _, d1, d3, d4⟩, ⟨e1, e2, e3, e4⟩, hK⟩ := h
  have hi : ∀ k j, 4 ≤ k → (fun k j => (k == 2 && j == 1) || k == 3 : Nat → Nat → Bool) k j = false := fun k j q => by
    simp only [Bool.or_eq_false_iff, Bool.and_eq_false_iff, beq_eq_false_iff_ne, ne_eq]
    omega
  refine ⟨s, sv, u, ps, L, T, e, p, hv, rp, ⟨⟨RC_fr2 f (fun k j q1 q2 => hi k j (by omega)) a1, MS_P a2 g (fun _ => rfl), a3⟩, ⟨hX, hM⟩, ⟨(f.1 _ _ rfl).trans d1.1, (f.1 _ _ rfl).trans d1.2⟩, (g.1 _ _ rfl).trans d3, (g.1 _ _ rfl).trans d4⟩, ⟨e1, HSc_fr e2 f (fun k j q => hi k j (by omega)), HSm_fr e3 g rfl (fun _ => rfl), e4⟩, KP_fr hK (Fr_mono f (fun k j q => ?_)) (Fr_mono g (fun k j q => ?_))⟩
  · have := PJc_k q
    simp only [Bool.or_eq_false_iff, Bool.and_eq_false_iff, beq_eq_false_iff_ne, ne_eq]
    omega
  · have := PJm_k q
    simp only [Bool.or_eq_false_iff, Bool.and_eq_false_iff, beq_eq_false_iff_ne, ne_eq]
    omega
theorem case1 (fu : Nat) (a : Nat → Int32) {mem : Mem} (h : JJ mem (mMp mem)) : ∃ mem2, K_case_1 fu a mem = some mem2 ∧ JJ mem2 (mMp mem2) := by
  have h' := h
  obtain ⟨s, sv, u, ps, L, T, e, p, hv, rp, ⟨_, ⟨⟨b1, b2, b3, b4⟩, b5, b6, b7, b8⟩, _⟩, _⟩ := h'
  obtain ⟨x, hx1, hx2, ex⟩ := zi_ex (a 1)
  have i0 : (zi x < (0 : Int32)) = (x < 0) := zi_lt (b_ := 0) hx1 hx2 (by decide) (by decide)
  have i1 : (zi (L : Int) < zi x) = ((L : Int) < x) := zi_lt (by omega) (by omega) hx1 hx2
  have key : K_case_1 fu a mem = rowA fu (K_L_truncate fu (a 1) mem) (K_X12_truncate fu (a 1)) mem := rfl
  have hin : K_X12_isIn fu (zl x) 0 (zl (L : Int)) (mMp mem) = _ := k_isIn fu (mMp mem) (v_ := x) (a_ := 0) (b_ := (L : Int)) (by omega) (by omega) (by decide) (by decide) (by omega) (by omega)
  obtain ⟨m1, n1, n2, n3⟩ := m_goes fu (mMp mem) (decide (0 ≤ x ∧ x ≤ (L : Int)))
  rw [key, ex]
  by_cases q : 0 ≤ x ∧ x ≤ (L : Int)
  · rw [decide_eq_true q] at hin n1 n2
    have hA : K_L_truncate fu (zi x) mem = some (0, ml (mset 0 255 mem (mw mem 2 1 (zi x))) 255 0 (Int32.toInt64 (zi x))) := by
      unfold K_L_truncate K_X11_truncate
      rw [if_neg (fun z => by have := i0.mp z; omega), b3, if_neg (fun z => by have := i1.mp z; omega)]
      rfl
    have hB : K_X12_truncate fu (zi x) (mMp mem) = some (zi x, mw m1 0 2 (zi x)) := by
      unfold K_X12_truncate
      rw [b7, zl_of hx1 hx2, zl_of (by omega) (by omega), hin, bd_s, n1, bd_s, if_neg (show ¬ zi (bi true) = 0 by decide), ltf]
    obtain ⟨v, hv1⟩ : ∃ v : Nat, x = v := ⟨x.toNat, by omega⟩
    have fm : Fr (fun k j => (k == 0 && (j == 0 || j == 2)) || k == 1) (mMp mem) (mw m1 0 2 (zi x)) := Fr_tr (Fr_mono n3 (fun k j z => by
      simp only [Bool.or_eq_false_iff, Bool.and_eq_false_iff, beq_eq_false_iff_ne, ne_eq] at z ⊢
      omega)) (Fr_mw _ _ rfl)
    refine ⟨_, rowA_ok fu hA P_ok.2 hB ?_, rowA_JJ P_ok.1 (JJ_tx h (Fr_mw _ _ rfl) fm (T := T) (L := v) ⟨b1, by omega, by rw [rd_mw, if_pos ⟨rfl, rfl⟩, hv1], fun i hi => ?_⟩ ⟨b5, by omega, by rw [rd_mw, if_pos ⟨rfl, rfl⟩, hv1], fun i hi => ?_⟩)⟩
    · rw [rd_mw, if_neg (by decide)]
      exact n2
    · rw [rd_mw, if_neg (fun z => absurd z.1 (by decide))]
      exact b4 i (by omega)
    · rw [rd_mw, if_neg (fun z => absurd z.1 (by decide)), n3.1 _ _ rfl]
      exact b8 i (by omega)
  · rw [decide_eq_false q] at hin n1 n2
    have hA : K_L_truncate fu (zi x) mem = some (1, mset 0 255 mem mem) := by
      unfold K_L_truncate K_X11_truncate
      by_cases z : x < 0
      · rw [if_pos (i0.mpr z)]
        rfl
      · rw [if_neg (fun y => z (i0.mp y)), b3, if_pos (i1.mpr (by omega))]
        rfl
    have hB : K_X12_truncate fu (zi x) (mMp mem) = some (zi 0, m1) := by
      unfold K_X12_truncate
      rw [b7, zl_of hx1 hx2, zl_of (by omega) (by omega), hin, bd_s, n1, bd_s, if_pos (show zi (bi false) = 0 from rfl)]
      rfl
    exact ⟨_, rowA_no fu (by decide) hA hB n2, rowA_JJ (P_no mem mem) (JJ_m0 h n3)⟩
end TRCM
