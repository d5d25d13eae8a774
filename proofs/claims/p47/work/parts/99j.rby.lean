section RBYM
theorem case40 (fu : Nat) (hfu : 40000 ≤ fu) (a : Nat → Int32) {mem : Mem} (h : JJ mem (mMp mem)) : ∃ mem2, K_case_40 fu a mem = some mem2 ∧ JJ mem2 (mMp mem2) := by
  have h' := h
  obtain ⟨s, sv, u, ps, L, T, e, p, hv, rp, _, _, _, ⟨⟨g1, g2⟩, g3, g4⟩, _⟩ := h'
  obtain ⟨x, hx1, hx2, ex⟩ := zi_ex (a 1)
  have i0 : (zi x < (0 : Int32)) = (x < 0) := zi_lt (b_ := 0) hx1 hx2 (by decide) (by decide)
  have i1 : (zi x < zi (rp.2 : Int)) = (x < (rp.2 : Int)) := zi_lt hx1 hx2 (by omega) (by omega)
  have key : K_case_40 fu a mem = rowA fu (K_L_reportByte fu (a 1) mem) (K_X12_reportByte fu (a 1)) mem := rfl
  rw [key, ex]
  by_cases q : 0 ≤ x ∧ x < (rp.2 : Int)
  · obtain ⟨v, hv1⟩ : ∃ v : Nat, x = v := ⟨x.toNat, by omega⟩
    have cv : (zi x).toNatClampNeg = v := by
      rw [zi_clamp hx1 hx2]
      omega
    have hA : K_L_reportByte fu (zi x) mem = some (0, ml (mset 0 255 mem mem) 255 0 (Int32.toInt64 (zi (rp.1 v)))) := by
      unfold K_L_reportByte K_X11_reportByte
      rw [if_neg (fun z => by have := i0.mp z; omega), g1, if_pos (i1.mpr q.2), gi_zi (by omega) (by omega) (by decide), cv, g2 v (by omega)]
      rfl
    rcases g4 with ⟨q1, q2, q3⟩ | ⟨q1, q2⟩
    · obtain ⟨m1, n1, n2, n3⟩ := m_goes fu (mMp mem) true
      have n1' : K_X12_goes fu 1 (mMp mem) = some (zi 1, m1) := n1
      have hin : K_X12_isIn fu (zl x) 0 (zl ((rp.2 : Int) - 1)) (mMp mem) = _ := k_isIn fu (mMp mem) (v_ := x) (a_ := 0) (b_ := (rp.2 : Int) - 1) (by omega) (by omega) (by decide) (by decide) (by omega) (by omega)
      have hB : K_X12_reportByte fu (zi x) (mMp mem) = some (zi (rp.1 v), m1) := by
        have e48 : (rd (mMp mem) 0 48 - 1).toInt64 = zl ((rp.2 : Int) - 1) := by
          rw [q2, show (1 : Int32) = zi 1 from rfl, zi_sub, zl_of (by omega) (by omega)]
        unfold K_X12_reportByte K_X12_reportByte_29
        rw [q1, if_neg z10, zl_of hx1 hx2, e48, hin, bd_s, decide_eq_true (show 0 ≤ x ∧ x ≤ (rp.2 : Int) - 1 by omega), if_neg (show ¬ zi (bi true) = 0 by decide), n1', bd_s, if_neg z10, gi_zi (by omega) (by omega) (by decide), cv, n3.1 _ _ rfl, q3 v (by omega)]
      exact ⟨_, rowA_ok fu hA P_ok.2 hB n2, rowA_JJ P_ok.1 (JJ_m0 h n3)⟩
    · omega
  · obtain ⟨m1, n1, n2, n3⟩ := m_goes fu (mMp mem) false
    have n1' : K_X12_goes fu 0 (mMp mem) = some (zi 0, m1) := n1
    have hA : K_L_reportByte fu (zi x) mem = some (1, mset 0 255 mem mem) := by
      unfold K_L_reportByte K_X11_reportByte
      by_cases z : x < 0
      · rw [if_pos (i0.mpr z)]
        rfl
      · rw [if_neg (fun y => z (i0.mp y)), g1, if_neg (fun y => by have := i1.mp y; omega)]
        rfl
    have h28 : K_X12_reportByte_28 fu (zi x) (mMp mem) = some (zi 0, m1) := by
      unfold K_X12_reportByte_28 K_X12_reportByte_29
      rw [n1', bd_s, if_pos z00]
      rfl
    have hB : K_X12_reportByte fu (zi x) (mMp mem) = some (zi 0, m1) := by
      unfold K_X12_reportByte
      rcases g4 with ⟨q1, q2, q3⟩ | ⟨q1, q2⟩
      · have hin : K_X12_isIn fu (zl x) 0 (zl ((rp.2 : Int) - 1)) (mMp mem) = _ := k_isIn fu (mMp mem) (v_ := x) (a_ := 0) (b_ := (rp.2 : Int) - 1) (by omega) (by omega) (by decide) (by decide) (by omega) (by omega)
        have e48 : (rd (mMp mem) 0 48 - 1).toInt64 = zl ((rp.2 : Int) - 1) := by
          rw [q2, show (1 : Int32) = zi 1 from rfl, zi_sub, zl_of (by omega) (by omega)]
        rw [q1, if_neg z10, zl_of hx1 hx2, e48, hin, bd_s, decide_eq_false (show ¬ (0 ≤ x ∧ x ≤ (rp.2 : Int) - 1) by omega), if_pos (show zi (bi false) = 0 from rfl)]
        exact h28
      · rw [q1, if_pos z00]
        exact h28
    exact ⟨_, rowA_no fu (by decide) hA hB n2, rowA_JJ (P_no mem mem) (JJ_m0 h n3)⟩
end RBYM
