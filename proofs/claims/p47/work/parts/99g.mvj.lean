section MVJM
/-- frames of a call that goes on in the race -/
def PGc (k _ : Nat) : Bool := !(decide (k ≤ 16) || ((decide (28 ≤ k) && decide (k ≤ 32)) || (decide (101 ≤ k) && decide (k ≤ 122))))
def PGm (k j : Nat) : Bool := !((k == 1 || (k == 3 || k == 22)) || (k == 0 && ((j == 2 || j == 10) || ((j == 11 || j == 19) || (j == 48 || j == 49)))))
theorem PGc_k {k j : Nat} (h : PGc k j = false) : k ≤ 16 ∨ (28 ≤ k ∧ k ≤ 32) ∨ (101 ≤ k ∧ k ≤ 122) := by
  unfold PGc at h
  simp only [Bool.not_eq_false', Bool.or_eq_true, Bool.and_eq_true, decide_eq_true_iff] at h
  omega
theorem PGm_k {k j : Nat} (h : PGm k j = false) : (k = 1 ∨ k = 3 ∨ k = 22) ∨ (k = 0 ∧ (j = 2 ∨ j = 10 ∨ j = 11 ∨ j = 19 ∨ j = 48 ∨ j = 49)) := by
  unfold PGm at h
  simp only [Bool.not_eq_false', Bool.or_eq_true, Bool.and_eq_true, beq_iff_eq] at h
  omega
theorem JJ_mv {c m c2 m2 : Mem} {T : Nat → Int} {L : Nat} {e p : Int} {hv : Bool} {sv : Nat → Int} {rp : RLt} (hX : TXc c T L) (hM : TXr m T L) (hE : ECc c e p) (h10 : rd m 0 10 = zi e) (h11 : rd m 0 11 = zi p) (hK : KPs c m hv sv rp) {s2 : Nat → Int} {u2 : Nat} {ps2 : Nat → Nat → Int} (hR : RC c2 0 s2) (hS : MS m2 s2) (hI : InvH s2) (hu : u2 ≤ 6) (hc : HSc c2 u2 ps2) (hm : HSm m2 u2 ps2) (hp : ∀ i, i < u2 → InvH (ps2 i)) (f : Fr PGc c c2) (g : Fr PGm m m2) : JJ c2 m2 :=
  ⟨s2, sv, u2, ps2, L, T, e, p, hv, rp, ⟨⟨hR, hS, hI⟩, ⟨⟨hX.1, hX.2.1, (f.1 _ _ rfl).trans hX.2.2.1, fun i hi => (f.1 _ _ rfl).trans (hX.2.2.2 i hi)⟩, hM.1, hM.2.1, (g.1 _ _ rfl).trans hM.2.2.1, fun i hi => (g.1 _ _ rfl).trans (hM.2.2.2 i hi)⟩, ⟨(f.1 _ _ rfl).trans hE.1, (f.1 _ _ rfl).trans hE.2⟩, (g.1 _ _ rfl).trans h10, (g.1 _ _ rfl).trans h11⟩, ⟨hu, hc, hm, hp⟩, KP_fr hK (Fr_mono f (fun k j q => by
    have := PJc_k q
    unfold PGc
    simp only [Bool.not_eq_false', Bool.or_eq_true, Bool.and_eq_true, decide_eq_true_iff]
    omega)) (Fr_mono g (fun k j q => by
    have := PJm_k q
    unfold PGm
    simp only [Bool.not_eq_false', Bool.or_eq_true, Bool.and_eq_true, beq_iff_eq]
    omega))⟩
theorem G_K {k j : Nat} (h : PGc k j = false) : PK k j = false := by
  have := PGc_k h
  unfold PK
  simp only [Bool.or_eq_false_iff, beq_eq_false_iff_ne, ne_eq, decide_eq_false_iff_not]
  omega
theorem G_R0 {k j : Nat} (h : PGc k j = false) : ZR 0 k j = false := by
  have := PGc_k h
  unfold ZR
  simp only [Bool.and_eq_false_iff, decide_eq_false_iff_not]
  omega
theorem G_H {k j : Nat} (h : PGm k j = false) : PH k j = false := by
  have := PGm_k h
  unfold PH
  simp only [Bool.or_eq_false_iff, Bool.and_eq_false_iff, beq_eq_false_iff_ne, ne_eq]
  omega
theorem G_Mp {k j : Nat} (h : PGm k j = false) : PMp k j = false := by
  have := PGm_k h
  unfold PMp PB
  simp only [Bool.or_eq_false_iff, Bool.and_eq_false_iff, beq_eq_false_iff_ne, ne_eq]
  omega
theorem G_15 {k j : Nat} (h : PGm k j = false) : PR1 5 k j = false := by
  have := PGm_k h
  unfold PR1
  simp only [Bool.and_eq_false_iff, beq_eq_false_iff_ne, ne_eq, decide_eq_false_iff_not]
  omega
theorem G_00 {k j : Nat} (h : PGm k j = false) : (fun k j => k == 0 && j == 0 : Nat → Nat → Bool) k j = false := by
  have := PGm_k h
  simp only [Bool.and_eq_false_iff, beq_eq_false_iff_ne, ne_eq]
  omega
/-- the reference lays the race aside -/
theorem m_layS (fu : Nat) (hfu : 1000 ≤ fu) {m : Mem} {s : Nat → Int} (hS : MS m s) : ∃ m2, K_X12_laysAside fu m = some m2 ∧ (∀ j, j < 184 → rd m2 5 j = zi (s j)) ∧ MS m2 s ∧ Fr (PR1 5) m m2 := by
  obtain ⟨m3, d1, d2, d3⟩ := m_la2 fu 184 fu 0 m (by omega) (by omega) (fun j hj => absurd hj (Nat.not_lt_zero j))
  exact ⟨m3, d1, fun j hj => (d2 j hj).trans (hS j), MS_P hS d3 (fun _ => rfl), d3⟩
theorem case37 (fu : Nat) (hfu : 40000 ≤ fu) (a : Nat → Int32) {mem : Mem} (h : JJ mem (mMp mem)) : ∃ mem2, K_case_37 fu a mem = some mem2 ∧ JJ mem2 (mMp mem2) := by
  obtain ⟨s, sv, u, ps, L, T, e, p, hv, rp, ⟨⟨a1, a2, a3⟩, ⟨b1, b2⟩, d1, d3, d4⟩, ⟨e1, e2, e3, e4⟩, hK⟩ := h
  have hlv := lv_I a3.1
  have hcm := c_mayPass fu 0 (by omega) hlv a1
  obtain ⟨m1, n1, n2⟩ := m_mayPass fu (by omega) hlv a2
  have hS1 := MS_P a2 n2 (fun _ => rfl)
  obtain ⟨m2, o1, o2, o3⟩ := m_goes fu m1 (psB s)
  have hS2 := MS_P hS1 o3 (fun _ => rfl)
  have hm2 : HSm m2 u ps := HSm_fr (HSm_fr e3 n2 rfl (fun _ => rfl)) o3 rfl (fun _ => rfl)
  have g2 : Fr PGm (mMp mem) m2 := Fr_tr (Fr_mono n2 (fun _ _ q => P27_Mp (G_Mp q))) (Fr_mono o3 (fun _ _ q => G_00 q))
  cases hps : psB s with
  | false =>
    rw [hps] at hcm n1 o1 o2
    have hA : K_L_pass fu mem = some (1, mset 0 255 mem mem) := by
      unfold K_L_pass K_X11_pass
      rw [hcm, bd_s, if_pos (show zi (bi false) = 0 from rfl)]
      rfl
    have hB : K_X12_pass fu (mMp mem) = some (zi 0, m2) := by
      unfold K_X12_pass
      rw [n1, bd_s, o1, bd_s, if_pos (show zi (bi false) = 0 from rfl)]
      rfl
    exact ⟨_, rowA_no fu (by decide) hA hB o2, rowA_JJ (P_no mem mem) (JJ_mv b1 b2 d1 d3 d4 hK a1 hS2 a3 e1 e2 hm2 e4 (Fr_rf _ _) g2)⟩
  | true =>
    rw [hps] at hcm n1 o1 o2
    have ho : ovB s = false := by
      unfold psB at hps
      rw [Bool.and_eq_true] at hps
      have := hps.1
      cases hh : ovB s with
      | true =>
        rw [hh] at this
        exact absurd this (by decide)
      | false => rfl
    have hov := ov_2 a3.1.2.1 ho
    have heO := etO_of a3.1.2.1 a3.1.2.2.2.1 (by omega)
    have hI2 := InvH_et a3 ho
    obtain ⟨c1, k1, k2, k3, k4⟩ := c_keep fu (by omega) e1 e2 a1
    obtain ⟨c2, l1, l2, l3⟩ := c_endTurn fu 0 (by omega) heO k3
    obtain ⟨m3, p1, p2, p3, p4⟩ := m_layS fu (by omega) hS2
    obtain ⟨m4, q1, q2, q3⟩ := m_endsTurn fu (by omega) heO p3
    have h5 : ∀ j, j < 184 → rd m4 5 j = zi (s j) := fun j hj => (q3.1 _ _ rfl).trans (p2 j hj)
    have hm4 : HSm m4 u ps := HSm_fr (HSm_fr hm2 p4 rfl (fun _ => rfl)) q3 rfl (fun _ => rfl)
    obtain ⟨m5, r1, r2, r3⟩ := m_keeps fu (by omega) e1 hm4 h5
    have hS5 : MS m5 (etS s) := MS_P q2 r3 (fun _ => rfl)
    have hmv : K_X6_mover fu 0 c2 = some (if ovB (etS s) = true then zi (-1) else zi (etS s 7)) := by
      unfold K_X6_mover
      rw [c_hasEnded fu 0 l2 hI2.1.2.1, bd_s, l2.2.1.2.2.2.1]
      cases ovB (etS s) with
      | true => rfl
      | false => rfl
    have htn : K_X12_turnNow fu m5 = some (if ovB (etS s) = true then zi (-1) else zi (etS s 7)) := by
      have e7 : rd m5 2 (Int32.toNatClampNeg 7) = zi (etS s 7) := hS5 7
      have g7 : ∀ o : Option Int32, gi 7 184 o = o := fun o => gi_zi (a_ := 7) (by decide) (by decide) (by decide)
      unfold K_X12_turnNow
      rw [m_over fu hS5 hI2.1.2.1, bd_s, g7, e7]
      cases ovB (etS s) with
      | true => rfl
      | false => rfl
    have hA : K_L_pass fu mem = some (0, ml (mset 0 255 mem c2) 255 0 (Int32.toInt64 (if ovB (etS s) = true then zi (-1) else zi (etS s 7)))) := by
      unfold K_L_pass K_X11_pass
      rw [hcm, bd_s, if_neg (show ¬ zi (bi true) = 0 by decide), k1, bd_s, l1, bd_s, hmv]
      rfl
    have hB : K_X12_pass fu (mMp mem) = some (if ovB (etS s) = true then zi (-1) else zi (etS s 7), m5) := by
      unfold K_X12_pass
      rw [n1, bd_s, o1, bd_s, if_neg (show ¬ zi (bi true) = 0 by decide), p1, bd_s, q1, bd_s, r1, bd_s, htn, bd_s]
    have fPE : ∀ k j, ¬ (35 ≤ k ∧ k < 57) → PEt 0 k j = false := fun k j q => by
      unfold PEt pRace
      simp only [Bool.and_eq_false_iff, beq_eq_false_iff_ne, ne_eq]
      omega
    have h00 : rd m5 0 0 = zi 0 := ((r3.1 _ _ rfl).trans ((q3.1 _ _ rfl).trans (p4.1 _ _ rfl))).trans o2
    refine ⟨_, rowA_ok fu hA P_ok.2 hB h00, rowA_JJ P_ok.1 (JJ_mv b1 b2 d1 d3 d4 hK l2 hS5 hI2 (by unfold kpU; split <;> omega) (HSc_fr k2 l3 (fun k j q => fPE k j (by omega))) r2 (kp_inv e1 e4 a3) (Fr_tr (Fr_mono k4 (fun _ _ q => G_K q)) (Fr_mono l3 (fun k j q => fPE k j (by have := PGc_k q; omega)))) (Fr_tr (Fr_tr (Fr_tr g2 (Fr_mono p4 (fun _ _ q => G_15 q))) (Fr_mono q3 (fun _ _ q => PMt_Mp (G_Mp q)))) (Fr_mono r3 (fun _ _ q => G_H q))))⟩
end MVJM
