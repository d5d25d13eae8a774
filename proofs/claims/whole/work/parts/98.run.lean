section RUNM
def PVc (k j : Nat) : Bool := ZP 0 k j || k == 15
def PVm (k j : Nat) : Bool := PMp k j || (k == 20 || k == 21)
theorem ZP_row {k j : Nat} (h1 : k ≤ 16) : ZP 0 k j = false := by
  unfold ZP PL PQ FT PWl PC ZR pDist pQueue pWays pOpen pBuilt pBoard
  simp only [Bool.or_eq_false_iff, Bool.and_eq_false_iff, beq_eq_false_iff_ne, ne_eq, decide_eq_false_iff_not]
  omega
theorem PMp_row {k j : Nat} (h1 : 10 ≤ k) : PMp k j = false := by
  unfold PMp PB
  simp only [Bool.or_eq_false_iff, Bool.and_eq_false_iff, beq_eq_false_iff_ne, ne_eq]
  omega
theorem PVc_row {k j : Nat} (h1 : k ≤ 16) (h2 : k ≠ 15) : PVc k j = false := by
  unfold PVc
  rw [ZP_row h1]
  simp only [Bool.false_or, beq_eq_false_iff_ne, ne_eq]
  exact h2
theorem PVm_row {k j : Nat} (h1 : 10 ≤ k) (h2 : k ≠ 20) (h3 : k ≠ 21) : PVm k j = false := by
  unfold PVm
  rw [PMp_row h1]
  simp only [Bool.false_or, Bool.or_eq_false_iff, beq_eq_false_iff_ne, ne_eq]
  exact ⟨h2, h3⟩
theorem PVm_43 {j : Nat} (h1 : 43 ≤ j) (h2 : j ≤ 45) : PVm 0 j = false := by
  unfold PVm PMp PB
  simp only [Bool.or_eq_false_iff, Bool.and_eq_false_iff, beq_eq_false_iff_ne, ne_eq]
  omega
/-- the rows, while they are run -/
def ROWs (c m : Mem) (R : Nat) (kd : Nat → Nat) (a b w : Nat → Int) : Prop := (rd c 10 6 = zi (R : Int) ∧ rd m 0 43 = zi (R : Int)) ∧ ∀ i, i < R → (rd c 11 i = zi (kd i : Int) ∧ rd c 12 i = zi (a i) ∧ (kd i = 1 ∨ kd i = 3 → rd c 13 i = zi (b i)) ∧ (kd i = 1 → rd c 14 i = zi (w i))) ∧ rd m 16 i = zi (kd i : Int) ∧ ((kd i = 0 ∨ kd i = 1 ∨ kd i = 3 ∨ kd i = 4) → rd m 17 i = zi (a i)) ∧ (kd i = 1 ∨ kd i = 3 → rd m 18 i = zi (b i)) ∧ (kd i = 1 → rd m 19 i = zi (w i + 1))
theorem ROW_fr {c m c2 m2 : Mem} {R : Nat} {kd : Nat → Nat} {a b w : Nat → Int} (h : ROWs c m R kd a b w) (f : Fr PVc c c2) (g : Fr PVm m m2) : ROWs c2 m2 R kd a b w := by
  obtain ⟨⟨h1, h2⟩, h3⟩ := h
  have fc : ∀ k j, k ≤ 16 → k ≠ 15 → rd c2 k j = rd c k j := fun k j q1 q2 => f.1 _ _ (PVc_row q1 q2)
  have fm : ∀ k j, 10 ≤ k → k ≤ 19 → rd m2 k j = rd m k j := fun k j q1 q2 => g.1 _ _ (PVm_row q1 (by omega) (by omega))
  refine ⟨⟨(fc _ _ (by decide) (by decide)).trans h1, (g.1 _ _ (PVm_43 (by decide) (by decide))).trans h2⟩, fun i hi => ?_⟩
  obtain ⟨⟨t1, t2, t3, t4⟩, u1, u2, u3, u4⟩ := h3 i hi
  exact ⟨⟨(fc _ _ (by decide) (by decide)).trans t1, (fc _ _ (by decide) (by decide)).trans t2, fun q => (fc _ _ (by decide) (by decide)).trans (t3 q), fun q => (fc _ _ (by decide) (by decide)).trans (t4 q)⟩, (fm _ _ (by decide) (by decide)).trans u1, fun q => (fm _ _ (by decide) (by decide)).trans (u2 q), fun q => (fm _ _ (by decide) (by decide)).trans (u3 q), fun q => (fm _ _ (by decide) (by decide)).trans (u4 q)⟩
/-- the open repeats, while they are run -/
def STk (c m : Mem) (dp : Nat → Nat) (op : Nat → Nat → Nat) (cn : Nat → Nat) (x : Nat) : Prop := ∀ k, k < dp x → (1 ≤ cn k ∧ cn k ≤ 20) ∧ rd c 15 (op x k) = zi (cn k : Int) ∧ rd m 20 k = zi (op x k : Int) ∧ rd m 21 k = zi (cn k : Int)
theorem p_run (fu : Nat) (hfu : 1000 ≤ fu) {R : Nat} {kd : Nat → Nat} {a b w : Nat → Int} {dp : Nat → Nat} {op : Nat → Nat → Nat} (hW : WFs R kd a b w dp op) (hR0 : dp R = 0) (hR60 : R ≤ 60) : ∀ (r f g t d x e0 e1 : Nat) (cn : Nat → Nat) (c m : Mem) (s : Nat → Int), mu R dp op cn x e0 e1 ≤ r → r + 1 < f → r + 1 < g → t + r ≤ 30000 → d ≤ 40 → x ≤ R → ROWs c m R kd a b w → STn R kd dp op x e0 e1 → STk c m dp op cn x → RC c 0 s → MS m s → InvH s → ∃ (d2 : Nat) (s2 : Nat → Int) (c2 m2 : Mem), d2 ≤ 40 ∧ K_X8_run_8 fu 0 f (zi (d : Int)) (zi (x : Int)) (zi (t : Int)) c = some (zi (d2 : Int), c2) ∧ K_X12_runs_9 fu g (zi (d : Int)) (zi (dp x : Int)) (zi (x : Int)) (zi 1) m = some (zi (d2 : Int), m2) ∧ RC c2 0 s2 ∧ MS m2 s2 ∧ InvH s2 ∧ Fr PVc c c2 ∧ Fr PVm m m2 := by
  intro r
  induction r with
  | zero =>
    intro f g t d x e0 e1 cn c m s hmu hf hg ht hd hx hRow hSt hSk hRC hMS hIH
    -- no row is left
    have hx2 : x = R := by
      by_cases q : x = R
      · exact q
      · exfalso
        have hd2 := (hW.2.2 x hx).1
        have hc : dp x = 0 ∨ dp x = 1 ∨ dp x = 2 := by omega
        rcases hc with e | e | e
        · rw [mu_0 e] at hmu
          omega
        · rw [mu_1 e] at hmu
          omega
        · rw [mu_2 e] at hmu
          omega
    obtain ⟨f, rfl⟩ : ∃ k, f = k + 1 := ⟨f - 1, by omega⟩
    obtain ⟨g, rfl⟩ : ∃ k, g = k + 1 := ⟨g - 1, by omega⟩
    refine ⟨d, s, c, m, hd, ?_, ?_, hRC, hMS, hIH, Fr_rf _ _, Fr_rf _ _⟩
    · rw [K_X8_run_8, hRow.1.1, hx2]
      simp (disch := omega) only [zi_lit, zl_lit, zi_add, zi_sub, zi_mul, zi_neg, zi_lt, zi_inj, zi_clamp, zl_of, gi_zi, bd_s, ltf, bi_0, bi_1, gb_bi, Int.reduceToNat, Int.reduceNeg, Int.toNat_natCast]
      rw [if_pos (by omega), if_neg (by omega), if_neg (by omega)]
    · rw [K_X12_runs_9, hRow.1.2, hx2, if_neg z10]
      have : ¬ (zi (R : Int) < zi (R : Int)) := by
        rw [zi_lt (by omega) (by omega) (by omega) (by omega)]
        omega
      rw [if_neg this]
  | succ r ih =>
    intro f g t d x e0 e1 cn c m s hmu hf hg ht hd hx hRow hSt hSk hRC hMS hIH
    obtain ⟨f, rfl⟩ : ∃ k, f = k + 1 := ⟨f - 1, by omega⟩
    obtain ⟨g, rfl⟩ : ∃ k, g = k + 1 := ⟨g - 1, by omega⟩
    have hd2 := (hW.2.2 x hx).1
    have it : zi (t : Int) < (1000000 : Int32) := by
      have : (zi (t : Int) < zi 1000000) = ((t : Int) < 1000000) := zi_lt (by omega) (by omega) (by decide) (by decide)
      exact this.mpr (by omega)
    have ix0 : ¬ (zi (x : Int) < (0 : Int32)) := by
      have : (zi (x : Int) < (0 : Int32)) = ((x : Int) < 0) := zi_lt (b_ := 0) (by omega) (by omega) (by decide) (by decide)
      rw [this]
      omega
    have ixR : (zi (x : Int) < zi (R : Int)) = ((x : Int) < (R : Int)) := zi_lt (by omega) (by omega) (by omega) (by omega)
    have id40 : (zi (d : Int) < (40 : Int32)) = ((d : Int) < 40) := zi_lt (b_ := 40) (by omega) (by omega) (by decide) (by decide)
    rw [K_X8_run_8, K_X12_runs_9, if_pos it, if_neg ix0, hRow.1.1, hRow.1.2, if_neg z10]
    by_cases q : x < R
    · rw [if_pos (ixR.mpr (by omega)), if_pos (ixR.mpr (by omega))]
      by_cases q40 : d < 40
      · have hx60 : x < 60 := by omega
        obtain ⟨⟨t1, t2, t3, t4⟩, u1, u2, u3, u4⟩ := hRow.2 x q
        obtain ⟨r5, r0, r1, r3, rr4, rr5, r9⟩ := hW.2.1 x q
        have gx : ∀ o : Option (Int32 × Mem), gi (zi (x : Int)) 60 o = o := fun o => gi_zi (by omega) (by omega) (by decide)
        have cx : (zi (x : Int)).toNatClampNeg = x := cl60 hx60
        have ex : zi (x : Int) + 1 = zi ((x + 1 : Nat) : Int) := zi_add (x : Int) 1
        have et : zi (t : Int) + 1 = zi ((t + 1 : Nat) : Int) := zi_add (t : Int) 1
        have j4 : (zi (kd x : Int) = (4 : Int32)) = ((kd x : Int) = 4) := zi_inj (b_ := 4) (by omega) (by omega) (by decide) (by decide)
        have j5 : (zi (kd x : Int) = (5 : Int32)) = ((kd x : Int) = 5) := zi_inj (b_ := 5) (by omega) (by omega) (by decide) (by decide)
        rw [if_pos (id40.mpr (by omega)), if_pos (id40.mpr (by omega)), gx, gx, cx, t1, u1, ex, et]
        by_cases k4 : kd x = 4
        · obtain ⟨ra, d1, dd2, d3⟩ := rr4 k4
          obtain ⟨v, hv⟩ : ∃ v : Nat, a x = v := ⟨(a x).toNat, by omega⟩
          have hd1 := (hW.2.2 (x + 1) (by omega)).1
          obtain ⟨f0, f1, s1, s2⟩ := M_rep hW hR0 (cn := cn) q k4 (v := v) (by omega) hSt
          have gD : ∀ o : Option (Int32 × Mem), gi (zi (dp x : Int)) 2 o = o := fun o => gi_zi (by omega) (by omega) (by decide)
          have cD : (zi (dp x : Int)).toNatClampNeg = dp x := by
            rw [zi_clamp (by omega) (by omega)]
            exact Int.toNat_natCast _
          have eD : zi (dp x : Int) + 1 = zi (dp (x + 1) : Int) := by
            rw [d1]
            exact zi_add (dp x : Int) 1
          have e17 : rd (mw m 20 (dp x) (zi (x : Int))) 17 x = zi (v : Int) := by
            rw [rd_mw, if_neg (fun h => absurd h.1 (by decide)), u2 (by omega), hv]
          rw [if_pos (j4.mpr (by omega)), if_pos (j4.mpr (by omega)), gx, gx, t2, hv, ltf, gD, cD, ltf, gx, gD, e17, ltf, eD]
          have fc1 : Fr PVc c (mw c 15 x (zi (v : Int))) := Fr_mw _ _ (by unfold PVc; simp)
          have fm1 : Fr PVm m (mw (mw m 20 (dp x) (zi (x : Int))) 21 (dp x) (zi (v : Int))) := Fr_tr (Fr_mw _ _ (by unfold PVm; simp)) (Fr_mw _ _ (by unfold PVm; simp))
          have hSk2 : STk (mw c 15 x (zi (v : Int))) (mw (mw m 20 (dp x) (zi (x : Int))) 21 (dp x) (zi (v : Int))) dp op (upN cn (dp x) v) (x + 1) := fun k hk => by
            by_cases e : k = dp x
            · rw [e, upN_eq, dd2]
              refine ⟨by omega, by rw [rd_mw, if_pos ⟨rfl, rfl⟩], ?_, by rw [rd_mw, if_pos ⟨rfl, rfl⟩]⟩
              rw [rd_mw, if_neg (fun h => absurd h.1 (by decide)), rd_mw, if_pos ⟨rfl, rfl⟩]
            · obtain ⟨k1, k2, k3, k5⟩ := hSk k (by omega)
              have ho := ((hW.2.2 x hx).2 k (by omega)).1
              rw [upN_ne e, d3 k (by omega)]
              refine ⟨k1, by rw [rd_mw, if_neg (fun h => absurd h.2 (by omega))]; exact k2, ?_, ?_⟩
              · rw [rd_mw, if_neg (fun h => absurd h.1 (by decide)), rd_mw, if_neg (fun h => e h.2)]
                exact k3
              · rw [rd_mw, if_neg (fun h => e h.2), rd_mw, if_neg (fun h => absurd h.1 (by decide))]
                exact k5
          obtain ⟨d', s', c', m', z1, z2, z3, z4, z5, z6, z7, z8⟩ := ih f g (t + 1) d (x + 1) f0 f1 (upN cn (dp x) v) _ _ s (by omega) (by omega) (by omega) (by omega) hd (by omega) (ROW_fr hRow fc1 fm1) s1 hSk2 (RC_fr2 (P := fun k _ => k == 15) (Fr_mw _ _ rfl) (fun k j h1 h2 => by simp only [beq_eq_false_iff_ne, ne_eq]; omega) hRC) (MS_P (P := fun k _ => k == 20 || k == 21) hMS (Fr_tr (Fr_mw _ _ rfl) (Fr_mw _ _ rfl)) (fun j => rfl)) hIH
          exact ⟨d', s', c', m', z1, z2, z3, z4, z5, z6, Fr_tr fc1 z7, Fr_tr fm1 z8⟩
        · have nk4 : ¬ (zi (kd x : Int) = (4 : Int32)) := fun h => k4 (by have := j4.mp h; omega)
          rw [if_neg nk4, if_neg nk4]
          simp only [gx]
          by_cases k5 : kd x = 5
          · obtain ⟨ra, a9, d1, d3⟩ := rr5 k5
            obtain ⟨k, hk⟩ : ∃ k, dp x = k + 1 := ⟨dp x - 1, by omega⟩
            have hk1 : dp x - 1 = k := by omega
            rw [hk1] at a9 d1 d3
            obtain ⟨⟨n1, n2⟩, n3, n4, n5⟩ := hSk k (by omega)
            obtain ⟨o1, o2, o3, o4⟩ := (hW.2.2 x hx).2 k (by omega)
            obtain ⟨j, hj⟩ : ∃ j, op x k = j := ⟨_, rfl⟩
            obtain ⟨v, hv⟩ : ∃ v, cn k = v + 1 := ⟨cn k - 1, by omega⟩
            rw [hj] at a9 n3 n4 o1 o2 o3 o4
            rw [hv] at n3 n5
            have gj : ∀ o : Option (Int32 × Mem), gi (zi (j : Int)) 60 o = o := fun o => gi_zi (by omega) (by omega) (by decide)
            have cj : (zi (j : Int)).toNatClampNeg = j := cl60 (by omega)
            have gk : ∀ o : Option (Int32 × Mem), gi (zi (k : Int)) 2 o = o := fun o => gi_zi (by omega) (by omega) (by decide)
            have ck : (zi (k : Int)).toNatClampNeg = k := by
              rw [zi_clamp (by omega) (by omega)]
              exact Int.toNat_natCast _
            have ij0 : ¬ (zi (j : Int) < (0 : Int32)) := by
              have : (zi (j : Int) < (0 : Int32)) = ((j : Int) < 0) := zi_lt (b_ := 0) (by omega) (by omega) (by decide) (by decide)
              rw [this]
              omega
            have ijR : zi (j : Int) < zi (R : Int) := by
              rw [zi_lt (by omega) (by omega) (by omega) (by omega)]
              omega
            have ev : zi ((v + 1 : Nat) : Int) - 1 = zi (v : Int) := by
              rw [show (1 : Int32) = zi 1 from rfl, zi_sub]
              exact congrArg zi (by omega)
            have ek : zi (dp x : Int) - 1 = zi (k : Int) := by
              rw [show (1 : Int32) = zi 1 from rfl, zi_sub]
              exact congrArg zi (by omega)
            have ej : zi (j : Int) + 1 = zi ((j + 1 : Nat) : Int) := zi_add (j : Int) 1
            have iv : ((0 : Int32) < zi (v : Int)) = ((0 : Int) < (v : Int)) := zi_lt (a_ := 0) (by decide) (by decide) (by omega) (by omega)
            have r15 : rd (mw c 15 j (zi (v : Int))) 15 j = zi (v : Int) := by rw [rd_mw, if_pos ⟨rfl, rfl⟩]
            have r21 : rd (mw m 21 k (zi (v : Int))) 21 k = zi (v : Int) := by rw [rd_mw, if_pos ⟨rfl, rfl⟩]
            have r20 : rd (mw m 21 k (zi (v : Int))) 20 k = zi (j : Int) := by
              rw [rd_mw, if_neg (fun h => absurd h.1 (by decide))]
              exact n4
            have fc1 : Fr PVc c (mw c 15 j (zi (v : Int))) := Fr_mw _ _ (by unfold PVc; simp)
            have fm1 : Fr PVm m (mw m 21 k (zi (v : Int))) := Fr_mw _ _ (by unfold PVm; simp)
            have hRC1 := RC_fr2 (P := fun k _ => k == 15) (m2 := mw c 15 j (zi (v : Int))) (Fr_mw _ _ rfl) (fun k j h1 h2 => by simp only [beq_eq_false_iff_ne, ne_eq]; omega) hRC
            have hMS1 := MS_P (P := fun k _ => k == 21) (m2 := mw m 21 k (zi (v : Int))) hMS (Fr_mw _ _ rfl) (fun j => rfl)
            have hRow1 := ROW_fr hRow fc1 fm1
            have neq : ∀ i, i < k → op x i ≠ j := fun i hi hh => by
              have h1 := ((hW.2.2 x hx).2 i (by omega)).2.2.1
              rw [hh] at h1
              omega
            rw [if_pos (j5.mpr (by omega)), if_pos (j5.mpr (by omega))]
            unfold K_X8_rowBehind
            rw [gx, cx, t2, a9, ltf, if_neg ij0, hRow.1.1, if_pos ijR, gj, gj, cj, n3, ev, ltf, gj, r15, ek, gk, gk, ck, n5, ev, ltf, gk, r21]
            by_cases qv : 0 < v
            · rw [if_pos (iv.mpr (by omega)), if_pos (iv.mpr (by omega)), ej, bd_s, ltf]
              unfold K_X12_runs_104 K_X12_runs_127 K_X12_runs_139
              rw [if_neg (show ¬ (1 : Int32) = 0 by decide), ek, gk, ck, r20, ej, if_neg (show ¬ (1 : Int32) = 0 by decide), show K_X12_truth fu 0 (mw m 21 k (zi (v : Int))) = some (zi 0) from rfl, bd_s, ltf, zi_sub, Int.sub_zero]
              obtain ⟨s1, s2, s3, s4⟩ := M_back hW (cn := cn) q k5 hk (by omega) hSt
              rw [hj] at s1 s2 s3 s4
              rw [show cn k - 1 = v by omega] at s2
              have hSk2 : STk (mw c 15 j (zi (v : Int))) (mw m 21 k (zi (v : Int))) dp op (upN cn k v) (j + 1) := fun i hi => by
                rw [s3] at hi
                rw [s4 i hi]
                by_cases e : i = k
                · rw [e, upN_eq, hj]
                  exact ⟨by omega, r15, r20, r21⟩
                · obtain ⟨k1, k2, k3, k6⟩ := hSk i hi
                  have hn := neq i (by omega)
                  rw [upN_ne e]
                  exact ⟨k1, by rw [rd_mw, if_neg (fun h => hn h.2)]; exact k2, by rw [rd_mw, if_neg (fun h => absurd h.1 (by decide))]; exact k3, by rw [rd_mw, if_neg (fun h => e h.2)]; exact k6⟩
              obtain ⟨d', s', c', m', z1, z2, z3, z4, z5, z6, z7, z8⟩ := ih f g (t + 1) d (j + 1) e0 e1 (upN cn k v) _ _ s (by omega) (by omega) (by omega) (by omega) hd (by omega) hRow1 s1 hSk2 hRC1 hMS1 hIH
              rw [s3] at z3
              exact ⟨d', s', c', m', z1, z2, z3, z4, z5, z6, Fr_tr fc1 z7, Fr_tr fm1 z8⟩
            · rw [if_neg (fun h => qv (by have := iv.mp h; omega)), if_neg (fun h => qv (by have := iv.mp h; omega)), ex, bd_s, ltf]
              unfold K_X12_runs_104 K_X12_runs_127 K_X12_runs_139
              rw [if_pos (show (0 : Int32) = 0 from rfl), if_pos (show (0 : Int32) = 0 from rfl), ex, show K_X12_truth fu 1 (mw m 21 k (zi (v : Int))) = some 1 from rfl, bd_s, ltf, ek]
              obtain ⟨s1, s2, s3, s4⟩ := M_out hW (cn := cn) q k5 hk hSt
              have hSk2 : STk (mw c 15 j (zi (v : Int))) (mw m 21 k (zi (v : Int))) dp op cn (x + 1) := fun i hi => by
                rw [s3] at hi
                rw [s4 i hi]
                obtain ⟨k1, k2, k3, k6⟩ := hSk i (by omega)
                have hn := neq i hi
                exact ⟨k1, by rw [rd_mw, if_neg (fun h => hn h.2)]; exact k2, by rw [rd_mw, if_neg (fun h => absurd h.1 (by decide))]; exact k3, by rw [rd_mw, if_neg (fun h => absurd h.2 (by omega))]; exact k6⟩
              obtain ⟨d', s', c', m', z1, z2, z3, z4, z5, z6, z7, z8⟩ := ih f g (t + 1) d (x + 1) e0 e1 cn _ _ s (by omega) (by omega) (by omega) (by omega) hd (by omega) hRow1 s1 hSk2 hRC1 hMS1 hIH
              rw [s3] at z3
              exact ⟨d', s', c', m', z1, z2, z3, z4, z5, z6, Fr_tr fc1 z7, Fr_tr fm1 z8⟩
          · have nk5 : ¬ (zi (kd x : Int) = (5 : Int32)) := fun h => k5 (by have := j5.mp h; omega)
            rw [if_neg nk5, if_neg nk5]
            obtain ⟨ok, s2, c2, m2, y1, y2, y3, y4, y5, y6, y7⟩ := p_do fu hfu hIH hRC hMS (x := x) hx60 (k := kd x) (a := a x) (b := b x) (w := w x) (by omega) r0 r1 r3 t1 t2 t3 t4 (fun c2 f => f.1 _ _ (ZP_row (by decide))) (v17 := rd m 17 x) (v18 := rd m 18 x) (v19 := rd m 19 x) (fun h => u2 (by omega)) u3 u4
            have fc1 : Fr PVc c c2 := Fr_mono y6 (fun k j h => (Bool.or_eq_false_iff.mp h).1)
            have fm1 : Fr PVm m m2 := Fr_mono y7 (fun k j h => (Bool.or_eq_false_iff.mp h).1)
            rw [y1, bd_s, y2, bd_s, ltf]
            have etr : K_X12_truth fu (zi (bi ok)) m2 = some (zi (bi ok)) := k_truth fu m2 ok
            rw [etr, bd_s, ltf]
            cases ok with
            | false =>
              obtain ⟨g, rfl⟩ : ∃ k, g = k + 1 := ⟨g - 1, by omega⟩
              rw [if_pos (show zi (bi false) = 0 from rfl), K_X12_runs_9, if_pos (show zi (bi false) = 0 from rfl)]
              refine ⟨d, s2, c2, m2, hd, rfl, ?_, y3, y4, y5, fc1, fm1⟩
              have e0 : zi (d : Int) + zi (bi false) = zi (d : Int) := by
                rw [zi_add, show bi false = 0 from rfl, Int.add_zero]
              rw [e0]
            | true =>
              have ed : zi (d : Int) + zi (bi true) = zi ((d + 1 : Nat) : Int) := zi_add (d : Int) 1
              have ed1 : zi (d : Int) + 1 = zi ((d + 1 : Nat) : Int) := zi_add (d : Int) 1
              rw [if_neg (show ¬ zi (bi true) = 0 by decide), ed, ed1]
              obtain ⟨s1, s3, s4, s5⟩ := M_plain hW (cn := cn) q (by omega) hSt
              have hSk2 : STk c2 m2 dp op cn (x + 1) := fun i hi => by
                rw [s4] at hi
                rw [s5 i hi]
                obtain ⟨k1, k2, k3, k6⟩ := hSk i hi
                exact ⟨k1, (y6.1 _ _ (ZP_row (by decide))).trans k2, (y7.1 _ _ (PMp_row (by decide))).trans k3, (y7.1 _ _ (PMp_row (by decide))).trans k6⟩
              obtain ⟨d', s', c', m', z1, z2, z3, z4, z5, z6, z7, z8⟩ := ih f g (t + 1) (d + 1) (x + 1) e0 e1 cn c2 m2 s2 (by omega) (by omega) (by omega) (by omega) (by omega) (by omega) (ROW_fr hRow fc1 fm1) s1 hSk2 y3 y4 y5
              rw [s4] at z3
              exact ⟨d', s', c', m', z1, z2, z3, z4, z5, z6, Fr_tr fc1 z7, Fr_tr fm1 z8⟩
      · rw [if_neg (fun h => q40 (by have := id40.mp h; omega)), if_neg (fun h => q40 (by have := id40.mp h; omega))]
        exact ⟨d, s, c, m, hd, rfl, rfl, hRC, hMS, hIH, Fr_rf _ _, Fr_rf _ _⟩
    · rw [if_neg (fun h => q (by have := ixR.mp h; omega)), if_neg (fun h => q (by have := ixR.mp h; omega))]
      exact ⟨d, s, c, m, hd, rfl, rfl, hRC, hMS, hIH, Fr_rf _ _, Fr_rf _ _⟩
end RUNM
