section WHOM
/-- what a text leaves alone -/
def PJc (k _ : Nat) : Bool := !(decide (k ≤ 1) || ((decide (28 ≤ k) && decide (k ≤ 32)) || (decide (101 ≤ k) && decide (k ≤ 122))))
def PJm (k j : Nat) : Bool := !((k == 3 || k == 22) || (k == 0 && (j == 19 || (j == 48 || j == 49))))
theorem PJc_k {k j : Nat} (h : PJc k j = false) : k ≤ 1 ∨ (28 ≤ k ∧ k ≤ 32) ∨ (101 ≤ k ∧ k ≤ 122) := by
  unfold PJc at h
  simp only [Bool.not_eq_false', Bool.or_eq_true, Bool.and_eq_true, decide_eq_true_iff] at h
  omega
theorem PJm_k {k j : Nat} (h : PJm k j = false) : k = 3 ∨ k = 22 ∨ (k = 0 ∧ (j = 19 ∨ j = 48 ∨ j = 49)) := by
  unfold PJm at h
  simp only [Bool.not_eq_false', Bool.or_eq_true, Bool.and_eq_true, beq_iff_eq] at h
  omega
theorem J_Sc {k j : Nat} (h : PJc k j = false) : PSc k j = false := by
  have := PJc_k h
  unfold PSc ZR
  simp only [Bool.or_eq_false_iff, Bool.and_eq_false_iff, beq_eq_false_iff_ne, ne_eq, decide_eq_false_iff_not]
  omega
theorem J_Tk {k j : Nat} (h : PJc k j = false) : PTk k j = false := by
  have := PJc_k h
  unfold PTk
  simp only [Bool.or_eq_false_iff, beq_eq_false_iff_ne, ne_eq]
  omega
theorem J_Zc {k j : Nat} (h : PJc k j = false) : PZc k j = false := by
  have := PJc_k h
  unfold PZc P2t
  simp only [Bool.or_eq_false_iff, Bool.and_eq_false_iff, beq_eq_false_iff_ne, ne_eq, decide_eq_false_iff_not]
  omega
theorem J_Vc {k j : Nat} (h : PJc k j = false) : PVc k j = false := by
  have := PJc_k h
  unfold PVc ZP PL PQ FT PWl PC ZR pDist pQueue pWays pOpen pBuilt pBoard
  simp only [Bool.or_eq_false_iff, Bool.and_eq_false_iff, beq_eq_false_iff_ne, ne_eq, decide_eq_false_iff_not]
  omega
theorem J_K {k j : Nat} (h : PJc k j = false) : PK k j = false := by
  have := PJc_k h
  unfold PK
  simp only [Bool.or_eq_false_iff, beq_eq_false_iff_ne, ne_eq, decide_eq_false_iff_not]
  omega
theorem J_R {r k j : Nat} (hr : r = 0 ∨ r = 1) (h : PJc k j = false) : ZR r k j = false := by
  have := PJc_k h
  unfold ZR
  simp only [Bool.and_eq_false_iff, decide_eq_false_iff_not]
  omega
theorem J_Zm {k j : Nat} (h : PJm k j = false) : PZm k j = false := by
  have := PJm_k h
  unfold PZm PGe
  simp only [Bool.or_eq_false_iff, Bool.and_eq_false_iff, beq_eq_false_iff_ne, ne_eq, decide_eq_false_iff_not]
  omega
theorem J_Vm {k j : Nat} (h : PJm k j = false) : PVm k j = false := by
  have := PJm_k h
  unfold PVm PMp PB
  simp only [Bool.or_eq_false_iff, Bool.and_eq_false_iff, beq_eq_false_iff_ne, ne_eq]
  omega
theorem J_Xm {k j : Nat} (h : PJm k j = false) : PXm k j = false := by
  have := PJm_k h
  unfold PXm PSm
  simp only [Bool.or_eq_false_iff, Bool.and_eq_false_iff, beq_eq_false_iff_ne, ne_eq, decide_eq_false_iff_not]
  omega
theorem J_H {k j : Nat} (h : PJm k j = false) : PH k j = false := by
  have := PJm_k h
  unfold PH
  simp only [Bool.or_eq_false_iff, Bool.and_eq_false_iff, beq_eq_false_iff_ne, ne_eq]
  omega
theorem J_1 {D k j : Nat} (hD : D = 2 ∨ D = 5) (h : PJm k j = false) : PR1 D k j = false := by
  have := PJm_k h
  unfold PR1
  simp only [Bool.and_eq_false_iff, beq_eq_false_iff_ne, ne_eq, decide_eq_false_iff_not]
  omega
theorem HSc_fr {c c2 : Mem} {u : Nat} {ps : Nat → Nat → Int} {P : Nat → Nat → Bool} (h : HSc c u ps) (f : Fr P c c2) (hP : ∀ k j, k = 33 ∨ 123 ≤ k → P k j = false) : HSc c2 u ps := by
  obtain ⟨nx, h1, h2, h3, h4⟩ := h
  exact ⟨nx, h1, (f.1 _ _ (hP _ _ (Or.inl rfl))).trans h2, (f.1 _ _ (hP _ _ (Or.inl rfl))).trans h3, fun i hi => RC_fr2 f (fun k j a b => hP k j (Or.inr (by omega))) (h4 i hi)⟩
theorem HSm_fr {m m2 : Mem} {u : Nat} {ps : Nat → Nat → Int} {P : Nat → Nat → Bool} (h : HSm m u ps) (f : Fr P m m2) (h0 : P 0 18 = false) (h4 : ∀ j, P 4 j = false) : HSm m2 u ps := ⟨(f.1 _ _ h0).trans h.1, fun i j a b => (f.1 _ _ (h4 _)).trans (h.2 i j a b)⟩
theorem kp_inv {u : Nat} {ps : Nat → Nat → Int} {s : Nat → Int} (hu : u ≤ 6) (h : ∀ i, i < u → InvH (ps i)) (hs : InvH s) : ∀ i, i < kpU u → InvH (kpP u ps s i) := fun i hi => by
  unfold kpP
  by_cases q : i + 1 = kpU u
  · rw [if_pos q]
    exact hs
  · rw [if_neg q]
    refine h _ ?_
    unfold kpU at hi q ⊢
    by_cases q2 : u < 6
    · rw [if_pos q2] at hi q ⊢
      omega
    · rw [if_neg q2] at hi q ⊢
      omega
/-- a script is read and run, in both -/
theorem p_runS (fu : Nat) (hfu : 40000 ≤ fu) {c m : Mem} {T : Nat → Int} {L u : Nat} {s : Nat → Int} {ps : Nat → Nat → Int} (hX : TXc c T L) (hM : TXr m T L) (hR : RC c 0 s) (hS : MS m s) (hI : InvH s) (hu : u ≤ 6) (hHc : HSc c u ps) (hHm : HSm m u ps) : ∃ c2 m2, Fr PJc c c2 ∧ Fr PJm m m2 ∧ rd c2 2 1 = zi 0 ∧ rd m2 0 2 = zi 0 ∧ ((∃ (d : Nat) (s2 : Nat → Int), d ≤ 40 ∧ K_X11_runScript fu c = some (0, zi (d : Int), c2) ∧ K_X12_runScript fu m = some (zi (d : Int), m2) ∧ rd m2 0 0 = zi 0 ∧ RC c2 0 s2 ∧ MS m2 s2 ∧ InvH s2 ∧ ECc c2 0 (-1) ∧ rd m2 0 10 = zi 0 ∧ rd m2 0 11 = zi (-1) ∧ HSc c2 (kpU u) (kpP u ps s) ∧ HSm m2 (kpU u) (kpP u ps s)) ∨ (∃ (e : Int) (p : Nat), (1 ≤ e ∧ e ≤ 6) ∧ p ≤ 700 ∧ K_X11_runScript fu c = some (1, 0, c2) ∧ K_X12_runScript fu m = some (zi 0, m2) ∧ rd m2 0 0 = zi 1 ∧ RC c2 0 s ∧ MS m2 s ∧ ECc c2 e p ∧ rd m2 0 10 = zi e ∧ rd m2 0 11 = zi (p : Int) ∧ HSc c2 u ps ∧ HSm m2 u ps)) := by
  obtain ⟨c1, m1, a1, a2, a3, a4, a5⟩ := p_script fu (by omega) hX hM
  have z0 : Fr PJc c c1 := Fr_mono a2 (fun k j h => by rw [J_Zc h, J_Tk h]; rfl)
  have z0m : Fr PJm m m1 := Fr_mono a3 (fun k j h => by
    have := PJm_k h
    rw [J_Zm h, Bool.false_or]
    simp only [Bool.or_eq_false_iff, Bool.and_eq_false_iff, beq_eq_false_iff_ne, ne_eq]
    omega)
  have z1 : Fr PJc c1 (mw c1 2 1 0) := Fr_mw _ _ rfl
  have nc : ∀ k j, 23 ≤ k → (fun k j => PZc k j || PTk k j : Nat → Nat → Bool) k j = false := fun k j h => by
    have e1 : PZc k j = false := by
      unfold PZc P2t
      simp only [Bool.or_eq_false_iff, Bool.and_eq_false_iff, beq_eq_false_iff_ne, ne_eq, decide_eq_false_iff_not]
      omega
    have e2 : PTk k j = false := by
      unfold PTk
      simp only [Bool.or_eq_false_iff, beq_eq_false_iff_ne, ne_eq]
      omega
    simp only [e1, e2]
    rfl
  have hR1 : RC (mw c1 2 1 0) 0 s := RC_fr2 (P := fun k _ => k == 2) (Fr_mw _ _ rfl) (fun k j h1 h2 => by simp only [beq_eq_false_iff_ne, ne_eq]; omega) (RC_fr2 a2 (fun k j h1 h2 => nc k j (by omega)) hR)
  have hH1 : HSc (mw c1 2 1 0) u ps := HSc_fr (P := fun k _ => k == 2) (HSc_fr hHc a2 (fun k j h => nc k j (by omega))) (Fr_mw _ _ rfl) (fun k j h => by simp only [beq_eq_false_iff_ne, ne_eq]; omega)
  have hS1 : MS m1 s := MS_P hS a3 (fun _ => rfl)
  have hHm1 : HSm m1 u ps := HSm_fr hHm a3 rfl (fun _ => rfl)
  have ec1 : ∀ e p, ECc c1 e p → ECc (mw c1 2 1 0) e p := fun e p h => ⟨by rw [rd_mw, if_neg (by decide)]; exact h.1, by rw [rd_mw, if_neg (by decide)]; exact h.2⟩
  have fend : ∀ mm mm2, Fr (fun k j => k == 0 && (j == 0 || (j == 10 || j == 11)) : Nat → Nat → Bool) mm mm2 → Fr PJm mm mm2 := fun mm mm2 f => Fr_mono f (fun k j h => by
    have := PJm_k h
    simp only [Bool.or_eq_false_iff, Bool.and_eq_false_iff, beq_eq_false_iff_ne, ne_eq]
    omega)
  unfold K_X11_runScript
  rw [a1]
  unfold K_X12_runScript_82
  rcases a5 with ⟨k1, ⟨k2, k3, k4⟩, R, C, kd, a, b, w, dp, op, k5, k6⟩ | ⟨k1, e, p, hp, hE, hD⟩
  · obtain ⟨m2, l1, l2, l3, l4, l5⟩ := m_endsText fu k3 k4 ⟨by decide, by decide⟩
    have hz : (zi (bi (decide ((0 : Int) = 0)))) = zi 1 := rfl
    rw [hz] at l1
    obtain ⟨⟨⟨x1, x2, x3⟩, x4, x5⟩, ⟨⟨y1, y2, y3⟩, y4⟩, w3, w4, w5⟩ := k5
    obtain ⟨c2, g1, g2, g3, g4⟩ := c_keep fu (by omega) hu hH1 hR1
    obtain ⟨m3, d1, d2, d3⟩ := m_la2 fu 184 fu 0 m2 (by omega) (by omega) (fun j hj => absurd hj (Nat.not_lt_zero j))
    have d1' : K_X12_laysAside fu m2 = some m3 := d1
    have hS2 : MS m2 s := MS_P hS1 l5 (fun _ => rfl)
    have hS3 : MS m3 s := MS_P hS2 d3 (fun _ => rfl)
    have cK : ∀ k j, k ≤ 32 → rd c2 k j = rd (mw c1 2 1 0) k j := fun k j h => g4.1 _ _ (by
      unfold PK
      simp only [Bool.or_eq_false_iff, beq_eq_false_iff_ne, ne_eq, decide_eq_false_iff_not]
      omega)
    have c2k : ∀ k j, k ≤ 32 → k ≠ 2 → rd c2 k j = rd c1 k j := fun k j h h2 => (cK k j h).trans (by rw [rd_mw, if_neg (fun q => h2 q.1)])
    have m3k : ∀ k j, 10 ≤ k → rd m3 k j = rd m1 k j := fun k j h => (d3.1 _ _ (by
      unfold PR1
      simp only [Bool.and_eq_false_iff, beq_eq_false_iff_ne, ne_eq]
      omega)).trans (l5.1 _ _ (by
      simp only [Bool.and_eq_false_iff, beq_eq_false_iff_ne, ne_eq]
      omega))
    have hRow : ROWs c2 m3 R kd a b w := by
      refine ⟨⟨(c2k _ _ (by decide) (by decide)).trans x1, ((d3.1 _ _ rfl).trans (l5.1 _ _ rfl)).trans y1⟩, fun i hi => ?_⟩
      obtain ⟨t1, t2, t3, t4⟩ := x4 i hi
      obtain ⟨u1, u2, u3, u4⟩ := y4 i hi
      exact ⟨⟨(c2k _ _ (by decide) (by decide)).trans t1, (c2k _ _ (by decide) (by decide)).trans t2, fun h => (c2k _ _ (by decide) (by decide)).trans (t3 h), fun h => (c2k _ _ (by decide) (by decide)).trans (t4 h)⟩, (m3k _ _ (by decide)).trans u1, fun h => (m3k _ _ (by decide)).trans (u2 h), fun h => (m3k _ _ (by decide)).trans (u3 h), fun h => (m3k _ _ (by decide)).trans (u4 h)⟩
    have hmu : mu R dp op (fun _ => 0) 0 0 0 ≤ 27000 := by
      rw [mu_0 w3.1]
      omega
    obtain ⟨d, s2, c3, m4, v0, v1, v2, v3, v4, v5, v6, v7⟩ := p_run fu (by omega) w3 k6 (by omega) 27000 fu fu 0 0 0 0 0 (fun _ => 0) c2 m3 s hmu (by omega) (by omega) (by decide) (by decide) (Nat.zero_le _) hRow ⟨fun q => by rw [w3.1] at q; omega, fun q => by rw [w3.1] at q; omega⟩ (fun k hk => by rw [w3.1] at hk; omega) g3 hS3 hI
    have v1' : K_X8_run fu 0 c2 = some (zi (d : Int), c3) := v1
    rw [w3.1] at v2
    have v2' : K_X12_runs fu m3 = some (zi (d : Int), m4) := v2
    have hHm4 : HSm m4 u ps := HSm_fr (HSm_fr (HSm_fr hHm1 l5 rfl (fun _ => rfl)) d3 rfl (fun _ => rfl)) v7 rfl (fun j => by
      unfold PVm PMp PB
      rfl)
    have h5 : ∀ j, j < 184 → rd m4 5 j = zi (s j) := fun j hj => (v7.1 _ _ rfl).trans ((d2 j hj).trans (hS2 j))
    obtain ⟨m5, n1, n2, n3⟩ := m_keeps fu (by omega) hu hHm4 h5
    have cV : ∀ j, rd c3 2 j = rd c2 2 j := fun j => v6.1 _ _ (PVc_row (by decide) (by decide))
    refine ⟨c3, m5, Fr_tr (Fr_tr (Fr_tr z0 z1) (Fr_mono g4 (fun _ _ h => J_K h))) (Fr_mono v6 (fun _ _ h => J_Vc h)), Fr_tr (Fr_tr (Fr_tr (Fr_tr z0m (fend _ _ l5)) (Fr_mono d3 (fun _ _ h => J_1 (Or.inr rfl) h))) (Fr_mono v7 (fun _ _ h => J_Vm h))) (Fr_mono n3 (fun _ _ h => J_H h)), ?_, ?_, Or.inl ⟨d, s2, v0, ?_, ?_, ?_, v3, MS_P v4 n3 (fun _ => rfl), v5, ?_, ?_, ?_, ?_, n2⟩⟩
    · rw [cV, cK _ _ (by decide), rd_mw, if_pos ⟨rfl, rfl⟩]
      rfl
    · rw [n3.1 _ _ rfl, v7.1 _ _ rfl, d3.1 _ _ rfl, l5.1 _ _ rfl]
      exact a4
    · rw [k1, bd_s, ltf, if_neg z10, g1, bd_s, v1', bd_s]
    · rw [l1, bd_s, if_neg z10, d1', bd_s, v2', bd_s, ltf, n1, bd_s]
    · rw [n3.1 _ _ rfl, v7.1 _ _ rfl, d3.1 _ _ rfl, l4]
      rfl
    · have e0 := ec1 _ _ k2
      exact ⟨(cV _).trans ((cK _ _ (by decide)).trans e0.1), (cV _).trans ((cK _ _ (by decide)).trans e0.2)⟩
    · rw [n3.1 _ _ rfl, v7.1 _ _ rfl, d3.1 _ _ rfl]
      exact l2
    · rw [n3.1 _ _ rfl, v7.1 _ _ rfl, d3.1 _ _ rfl]
      exact l3
    · refine HSc_fr g2 v6 (fun k j h => ?_)
      unfold PVc ZP PL PQ FT PWl PC ZR pDist pQueue pWays pOpen pBuilt pBoard
      simp only [Bool.or_eq_false_iff, Bool.and_eq_false_iff, beq_eq_false_iff_ne, ne_eq, decide_eq_false_iff_not]
      omega
  · obtain ⟨m2, l1, l2, l3, l4, l5⟩ := m_endsText fu hD.2.1 hD.2.2 ⟨by have := hD.1; omega, by have := hD.1; omega⟩
    have he0 : ¬ e = 0 := by
      have := hD.1
      omega
    rw [decide_eq_false he0] at l1 l4
    refine ⟨mw c1 2 1 0, m2, Fr_tr z0 z1, Fr_tr z0m (fend _ _ l5), by rw [rd_mw, if_pos ⟨rfl, rfl⟩]; rfl, (l5.1 _ _ rfl).trans a4, Or.inr ⟨e, p, hD.1, hp, ?_, ?_, l4, hR1, MS_P hS1 l5 (fun _ => rfl), ec1 _ _ hE, l2, l3, hH1, HSm_fr hHm1 l5 rfl (fun _ => rfl)⟩⟩
    · rw [k1, bd_s, ltf, if_pos z00]
    · rw [l1, bd_s, if_pos (show zi (bi false) = 0 from rfl)]
      rfl
/-- a race is read, in both -/
theorem p_readS (fu : Nat) (hfu : 40000 ≤ fu) {c m : Mem} {T : Nat → Int} {L u : Nat} {s : Nat → Int} {ps : Nat → Nat → Int} (hX : TXc c T L) (hM : TXr m T L) (hR : RC c 0 s) (hS : MS m s) (hI : InvH s) (hHc : HSc c u ps) (hHm : HSm m u ps) : ∃ c2 m2, Fr PJc c c2 ∧ Fr PJm m m2 ∧ rd c2 2 1 = zi 0 ∧ rd m2 0 2 = zi 0 ∧ ((∃ (s2 : Nat → Int), K_X11_readText fu c = some (0, zi (s2 2), c2) ∧ K_X12_readText fu m = some (zi (s2 2), m2) ∧ rd m2 0 0 = zi 0 ∧ RC c2 0 s2 ∧ MS m2 s2 ∧ InvH s2 ∧ ECc c2 0 (-1) ∧ rd m2 0 10 = zi 0 ∧ rd m2 0 11 = zi (-1) ∧ HSc c2 0 ps ∧ HSm m2 0 ps) ∨ (∃ (e : Int) (p : Nat), (1 ≤ e ∧ e ≤ 6) ∧ p ≤ 700 ∧ K_X11_readText fu c = some (1, 0, c2) ∧ K_X12_readText fu m = some (zi 0, m2) ∧ rd m2 0 0 = zi 1 ∧ RC c2 0 s ∧ MS m2 s ∧ ECc c2 e p ∧ rd m2 0 10 = zi e ∧ rd m2 0 11 = zi (p : Int) ∧ HSc c2 u ps ∧ HSm m2 u ps)) := by
  obtain ⟨c1, m1, a1, a2, a3, a4⟩ := p_read fu (by omega) hX hM hS hI.2
  have z0 : Fr PJc c c1 := Fr_mono a1 (fun k j h => by unfold PXc; rw [J_Sc h, J_Tk h]; rfl)
  have z0m : Fr PJm m m1 := Fr_mono a2 (fun k j h => J_Xm h)
  have z1 : Fr PJc c1 (mw c1 2 1 0) := Fr_mw _ _ rfl
  have nc : ∀ k j, (23 ≤ k ∧ k < 57) ∨ 79 ≤ k → PXc k j = false := fun k j h => by
    unfold PXc PSc PTk ZR
    simp only [Bool.or_eq_false_iff, Bool.and_eq_false_iff, beq_eq_false_iff_ne, ne_eq, decide_eq_false_iff_not]
    omega
  have hH1 : HSc (mw c1 2 1 0) u ps := HSc_fr (P := fun k _ => k == 2) (HSc_fr hHc a1 (fun k j h => nc k j (by omega))) (Fr_mw _ _ rfl) (fun k j h => by simp only [beq_eq_false_iff_ne, ne_eq]; omega)
  have ec1 : ∀ e p, ECc c1 e p → ECc (mw c1 2 1 0) e p := fun e p h => ⟨by rw [rd_mw, if_neg (by decide)]; exact h.1, by rw [rd_mw, if_neg (by decide)]; exact h.2⟩
  unfold K_X11_readText
  rcases a4 with ⟨k1, s2, k2, k3, k4, k5, k6, k7, k8, k9, k10⟩ | ⟨k1, k2, k3, k4, k5, e, p, he, hp, hE, h10, h11⟩
  · have hR1 : RC (mw c1 2 1 0) 1 s2 := RC_fr2 (P := fun k _ => k == 2) (Fr_mw _ _ rfl) (fun k j h1 h2 => by simp only [beq_eq_false_iff_ne, ne_eq]; omega) k3
    obtain ⟨c2, b1, b2, b3⟩ := c_copy fu (by omega) (r := 0) (r1 := 1) (by decide) hR1
    have f33 : Fr (fun k _ => k == 33) c2 (mw c2 33 2 0) := Fr_mw _ _ rfl
    have hR3 : RC (mw c2 33 2 0) 0 s2 := RC_fr2 f33 (fun k j h1 h2 => by simp only [beq_eq_false_iff_ne, ne_eq]; omega) b2
    have c2l : ∀ k j, k ≤ 32 → rd (mw c2 33 2 0) k j = rd (mw c1 2 1 0) k j := fun k j h => (f33.1 _ _ (by simp only [beq_eq_false_iff_ne, ne_eq]; omega)).trans (b3.1 _ _ (ZR_lo (by omega)))
    refine ⟨mw c2 33 2 0, m1, Fr_tr (Fr_tr (Fr_tr z0 z1) (Fr_mono b3 (fun _ _ h => J_R (Or.inl rfl) h))) (Fr_mw _ _ rfl), z0m, ?_, a3, Or.inl ⟨s2, ?_, k2, k9, hR3, k5, k4.1, ?_, k7, k8, ?_, k10, fun i j hi => absurd hi (Nat.not_lt_zero i)⟩⟩
    · rw [c2l _ _ (by decide), rd_mw, if_pos ⟨rfl, rfl⟩]
      rfl
    · have hr2 : rd (mw c2 33 2 0) (pRace 0) 2 = zi (s2 2) := hR3.2.1.1
      rw [k1, bd_s, ltf, if_neg z10, b1, bd_s]
      unfold K_X3_forget
      rw [ltf, bd_s, hr2]
    · have e0 := ec1 _ _ k6
      exact ⟨(c2l _ _ (by decide)).trans e0.1, (c2l _ _ (by decide)).trans e0.2⟩
    · obtain ⟨nx, n1, n2, n3, n4⟩ := hH1
      refine ⟨nx, n1, ?_, by rw [rd_mw, if_pos ⟨rfl, rfl⟩]; rfl, fun i hi => absurd hi (Nat.not_lt_zero i)⟩
      rw [rd_mw, if_neg (by decide), b3.1 _ _ (ZR_lo (by decide))]
      exact n2
  · have hR1 : RC (mw c1 2 1 0) 0 s := RC_fr2 (P := fun k _ => k == 2) (Fr_mw _ _ rfl) (fun k j h1 h2 => by simp only [beq_eq_false_iff_ne, ne_eq]; omega) (RC_fr2 a1 (fun k j h1 h2 => nc k j (by omega)) hR)
    refine ⟨mw c1 2 1 0, m1, Fr_tr z0 z1, z0m, by rw [rd_mw, if_pos ⟨rfl, rfl⟩]; rfl, a3, Or.inr ⟨e, p, he, hp, ?_, k2, k3, hR1, k4, ec1 _ _ hE, h10, h11, hH1, ⟨k5.trans hHm.1, fun i j hi hj => ?_⟩⟩⟩
    · rw [k1, bd_s, ltf, if_pos z00]
    · rw [a2.1 _ _ rfl]
      exact hHm.2 i j hi hj
end WHOM
