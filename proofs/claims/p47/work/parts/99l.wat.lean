section WATM
theorem case12 (fu : Nat) (a : Nat → Int32) {mem : Mem} (h : JJ mem (mMp mem)) : ∃ mem2, K_case_12 fu a mem = some mem2 ∧ JJ mem2 (mMp mem2) := by
  have h' := h
  obtain ⟨s, sv, u, ps, L, T, e, p, hv, rp, ⟨⟨a1, a2, a3⟩, _⟩, _⟩ := h'
  obtain ⟨x, hx1, hx2, ex⟩ := zi_ex (a 1)
  obtain ⟨y, hy1, hy2, ey⟩ := zi_ex (a 2)
  have hz := a3.1.1
  have hp := c_hasPlace fu 0 a1.1 hz hx1 hx2 hy1 hy2
  have hw := c_wallOn fu 0 a1.1 hz hx1 hx2 hy1 hy2
  have hq := k_isPlace fu a2 hz hx1 hx2 hy1 hy2
  have key : K_case_12 fu a mem = rowA fu (K_L_wallAt fu (a 1) (a 2) mem) (K_X12_wallAt fu (a 1) (a 2)) mem := rfl
  obtain ⟨m1, n1, n2, n3⟩ := m_goes fu (mMp mem) (isPl s x y)
  have hS := MS_P a2 n3 (fun _ => rfl)
  have hm := k_wall fu hS hz hx1 hx2 hy1 hy2
  rw [key, ex, ey]
  cases q : isPl s x y with
  | true =>
    rw [q] at hp hq n1 n2
    have hA : K_L_wallAt fu (zi x) (zi y) mem = some (0, ml (mset 0 255 mem mem) 255 0 (Int32.toInt64 (zi (wg s x y - 1)))) := by
      unfold K_L_wallAt K_X11_wallAt K_X11_checkPlace
      rw [hp, bd_s, if_neg (show ¬ zi (bi true) = 0 by decide), hw]
      rfl
    have hB : K_X12_wallAt fu (zi x) (zi y) (mMp mem) = some (zi (wg s x y - 1), m1) := by
      unfold K_X12_wallAt
      rw [hq, bd_s, n1, bd_s, if_neg (show ¬ zi (bi true) = 0 by decide), hm, bd_s, show (1 : Int32) = zi 1 from rfl, zi_sub]
    exact ⟨_, rowA_ok fu hA P_ok.2 hB n2, rowA_JJ P_ok.1 (JJ_m0 h n3)⟩
  | false =>
    rw [q] at hp hq n1 n2
    have hA : K_L_wallAt fu (zi x) (zi y) mem = some (1, mset 0 255 mem mem) := by
      unfold K_L_wallAt K_X11_wallAt K_X11_checkPlace
      rw [hp, bd_s, if_pos (show zi (bi false) = 0 from rfl)]
      rfl
    have hB : K_X12_wallAt fu (zi x) (zi y) (mMp mem) = some (zi 0, m1) := by
      unfold K_X12_wallAt
      rw [hq, bd_s, n1, bd_s, if_pos (show zi (bi false) = 0 from rfl)]
      rfl
    exact ⟨_, rowA_no fu (by decide) hA hB n2, rowA_JJ (P_no mem mem) (JJ_m0 h n3)⟩
end WATM
