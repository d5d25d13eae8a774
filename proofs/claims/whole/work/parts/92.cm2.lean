section CM2M
/-- two numbers of a command, in both -/
theorem p_two (fu : Nat) (hfu : 1000 ≤ fu) {c m c1 m1 : Mem} {T : Nat → Int} {L N n R C k D : Nat} (hR : R < 60) (hk : k = 1 ∨ k = 3) (hA : CAr c1 T L N n) (hG : GMr m1 T L n) (hn : n ≤ 800) (hM : CM1 c m c1 m1 R C k D) : (∃ c2 c3 m2 x y, K_X9_needNumber fu 0 99 c1 = some (zi 1, c2) ∧ rd c2 2 10 = zi x ∧ K_X9_needNumber fu 0 99 c2 = some (zi 1, c3) ∧ rd c3 2 10 = zi y ∧ K_X12_command_96 fu (zi (k : Int)) (zi (R : Int)) m1 = K_X12_command_142 fu (zi (k : Int)) (zi (R : Int)) m2 ∧ CBr c3 T L N (n + 1) ∧ GMr m2 T L (n + 2) ∧ CM1 c m c3 m2 R C k D ∧ ((0 ≤ x ∧ x ≤ 99) ∧ 0 ≤ y ∧ y ≤ 99) ∧ rd m2 17 R = zi x ∧ rd m2 18 R = zi y) ∨ (∃ c2 c3 m2, ((K_X9_needNumber fu 0 99 c1 = some (zi 0, c3)) ∨ (K_X9_needNumber fu 0 99 c1 = some (zi 1, c2) ∧ K_X9_needNumber fu 0 99 c2 = some (zi 0, c3))) ∧ K_X12_command_96 fu (zi (k : Int)) (zi (R : Int)) m1 = some m2 ∧ EBr c3 m2 ∧ Fr PZc c c3 ∧ Fr PZm m m2) := by
  have e96 : K_X12_command_96 fu (zi (k : Int)) (zi (R : Int)) m1 = K_X12_command_106 fu (zi (k : Int)) (zi (R : Int)) m1 := by
    unfold K_X12_command_96
    rcases hk with e | e
    · rw [e, if_pos (show zi ((1 : Nat) : Int) = 1 from rfl)]
    · rw [e, if_neg (by decide), if_pos (show zi ((3 : Nat) : Int) = 3 from rfl)]
  have e119 : ∀ mm, K_X12_command_119 fu (zi (k : Int)) (zi (R : Int)) mm = K_X12_command_129 fu (zi (k : Int)) (zi (R : Int)) mm := fun mm => by
    unfold K_X12_command_119
    rcases hk with e | e
    · rw [e, if_pos (show zi ((1 : Nat) : Int) = 1 from rfl)]
    · rw [e, if_neg (by decide), if_pos (show zi ((3 : Nat) : Int) = 3 from rfl)]
  rw [e96]
  unfold K_X12_command_106
  have fc0 : Fr PZc c c1 := Fr_mono hM.2.2.2.1 (fun _ _ => PZr_Zc)
  have fm0 : Fr PZm m m1 := Fr_mono hM.2.2.2.2.1 (fun _ _ => PRw_Zm)
  rcases p_num fu hfu hA hG (by omega) (a := 0) (b := 99) (by decide) with ⟨c2, m2, x, u1, u2, u3, u4, u5, u6, u7, u8⟩ | ⟨c2, m2, x, u1, u5, u6, u7, u8⟩
  · have u1' : K_X9_needNumber fu 0 99 c1 = some (zi 1, c2) := u1
    have u5' : K_X12_number fu 0 99 m1 = some (zi x, m2) := u5
    have hM2 := CM_r (CM_fr hM u7 u8) (j := 17) (by decide) (by decide) (zi x)
    have hG2 := GM_r u6 (k := 17) (by decide) R (zi x)
    rw [u5', bd_s, gi60 hR, ltf, cl60 hR, e119]
    unfold K_X12_command_129
    rcases p_num fu hfu (CB_A u2) hG2 (by omega) (a := 0) (b := 99) (by decide) with ⟨c3, m3, y, v1, v2, v3, v4, v5, v6, v7, v8⟩ | ⟨c3, m3, y, v1, v5, v6, v7, v8⟩
    · have v1' : K_X9_needNumber fu 0 99 c2 = some (zi 1, c3) := v1
      have v5' : K_X12_number fu 0 99 (mw m2 17 R (zi x)) = some (zi y, m3) := v5
      rw [v5', bd_s, gi60 hR, ltf, cl60 hR]
      refine Or.inl ⟨c2, c3, mw m3 18 R (zi y), x, y, u1', u3, v1', v3, rfl, v2, GM_r v6 (k := 18) (by decide) R (zi y), CM_r (CM_fr hM2 v7 v8) (j := 18) (by decide) (by decide) (zi y), ⟨by omega, by omega⟩, ?_, ?_⟩
      · rw [rd_mw, if_neg (fun q => absurd q.1 (by decide)), v8.1 _ _ rfl, rd_mw, if_pos ⟨rfl, rfl⟩]
      · rw [rd_mw, if_pos ⟨rfl, rfl⟩]
    · have v1' : K_X9_needNumber fu 0 99 c2 = some (zi 0, c3) := v1
      have v5' : K_X12_number fu 0 99 (mw m2 17 R (zi x)) = some (y, m3) := v5
      obtain ⟨e, p, hp, hE, hD⟩ := v6
      rw [v5', bd_s, gi60 hR, ltf, cl60 hR]
      obtain ⟨m4, b1, b2, b3⟩ := b_142 fu (BD_r hD (k := 18) (by decide) R y) (zi (k : Int)) hR
      exact Or.inr ⟨c2, c3, m4, Or.inr ⟨u1', v1'⟩, b1, ⟨e, p, hp, hE, b2⟩, Fr_tr (Fr_tr fc0 (FZc u7)) (FZc v7), Fr_tr (Fr_tr (Fr_tr (Fr_tr (Fr_tr fm0 (FZm u8)) (FZr (by decide) (by decide) _)) (FZm v8)) (FZr (by decide) (by decide) _)) b3⟩
  · have u1' : K_X9_needNumber fu 0 99 c1 = some (zi 0, c2) := u1
    have u5' : K_X12_number fu 0 99 m1 = some (x, m2) := u5
    obtain ⟨e, p, hp, hE, hD⟩ := u6
    rw [u5', bd_s, gi60 hR, ltf, cl60 hR]
    obtain ⟨m4, b1, b2, b3⟩ := b_119 fu (BD_r hD (k := 17) (by decide) R x) (zi (k : Int)) hR
    exact Or.inr ⟨c2, c2, m4, Or.inl u1', b1, ⟨e, p, hp, hE, b2⟩, Fr_tr fc0 (FZc u7), Fr_tr (Fr_tr (Fr_tr fm0 (FZm u8)) (FZr (by decide) (by decide) _)) b3⟩
theorem pass_157 (fu : Nat) (k : Nat) (hk : k = 1 ∨ k = 3) (x2 : Int32) (m : Mem) : K_X12_command_157 fu (zi (k : Int)) x2 m = K_X12_command_186 fu (zi (k : Int)) m := by
  unfold K_X12_command_157 K_X12_command_175
  rcases hk with e | e
  · rw [e, if_neg (by decide), if_neg (by decide)]
  · rw [e, if_neg (by decide), if_neg (by decide)]
theorem p_play (fu : Nat) (hfu : 1000 ≤ fu) {c m c1 m1 : Mem} {T : Nat → Int} {L N n n0 R C : Nat} {kd : Nat → Nat} {a b w : Nat → Int} {dp : Nat → Nat} {op : Nat → Nat → Nat} (hS : SCR c m R C kd a b w dp op) (hC : C < 30) (hA : CAr c1 T L N n) (hG : GMr m1 T L n) (hn : n ≤ 800) (hn0 : n0 ≤ n) (hM : CM1 c m c1 m1 R C 3 (dp R)) : OUTs (K_X8_readPlay fu c1) (bd (K_X12_command_96 fu (zi ((3 : Nat) : Int)) (zi (R : Int)) m1) (ySg fu (zi (dp R : Int)))) c m T L N n0 := by
  have hR : R < 60 := by
    have := hS.2.2.2.2
    omega
  unfold K_X8_readPlay
  rcases p_two fu hfu hR (Or.inr rfl) hA hG hn hM with ⟨c2, c3, m2, x, y, u1, u2, u3, u4, u5, u6, u7, u8, u9, u10, u11⟩ | ⟨c2, c3, m2, u1, u2, u3, u4, u5⟩
  · obtain ⟨c4, a1, a2⟩ := s_add fu hfu hS hC (k := 3) (x := x) (y := y) (z := 0) (by decide) (fun h => absurd h (by decide)) (fun h => absurd h (by decide)) (fun _ => u9) (CB_A u6) u7 (by omega) (show n0 ≤ n + 1 + 1 by omega) u8 ⟨fun _ => u10, fun _ => u11, fun h => by omega⟩
    have a1' : K_X8_addRow fu 3 (zi x) (zi y) 0 c3 = some c4 := a1
    have e142 : K_X12_command_142 fu (zi ((3 : Nat) : Int)) (zi (R : Int)) m2 = K_X12_command_186 fu (zi ((3 : Nat) : Int)) m2 := by
      unfold K_X12_command_142
      rw [if_neg (by decide), pass_157 fu 3 (Or.inr rfl)]
    rw [u1, bd_s, if_neg z10, ltf, u2, u3, bd_s, if_neg z10, u4, a1', bd_s, u5, e142]
    exact OUTs_gb a2
  · obtain ⟨e, p, hp, hE, hD⟩ := u3
    rw [u2, bd_s]
    rcases u1 with u1 | ⟨u1, u1b⟩
    · rw [u1, bd_s, if_pos z00]
      exact OUTs_bad (R := R) rfl (b_ySg fu hD _) ⟨e, p, hp, hE, hD⟩ u4 u5
    · rw [u1, bd_s, if_neg z10, ltf, u1b, bd_s, if_pos z00]
      exact OUTs_bad (R := R) rfl (b_ySg fu hD _) ⟨e, p, hp, hE, hD⟩ u4 u5
theorem p_wall (fu : Nat) (hfu : 1000 ≤ fu) {c m c1 m1 : Mem} {T : Nat → Int} {L N n n0 R C : Nat} {kd : Nat → Nat} {a b w : Nat → Int} {dp : Nat → Nat} {op : Nat → Nat → Nat} (hS : SCR c m R C kd a b w dp op) (hC : C < 30) (hA : CAr c1 T L N n) (hG : GMr m1 T L n) (hn : n ≤ 800) (hn0 : n0 ≤ n) (hM : CM1 c m c1 m1 R C 1 (dp R)) : OUTs (K_X8_readWall fu c1) (bd (K_X12_command_96 fu (zi ((1 : Nat) : Int)) (zi (R : Int)) m1) (ySg fu (zi (dp R : Int)))) c m T L N n0 := by
  have hR : R < 60 := by
    have := hS.2.2.2.2
    omega
  unfold K_X8_readWall
  rcases p_two fu hfu hR (Or.inl rfl) hA hG hn hM with ⟨c2, c3, m2, x, y, u1, u2, u3, u4, u5, u6, u7, u8, u9, u10, u11⟩ | ⟨c2, c3, m2, u1, u2, u3, u4, u5⟩
  · rw [u1, bd_s, if_neg z10, ltf, u2, u3, bd_s, if_neg z10, ltf, u4, u5]
    unfold K_X12_command_142
    rw [if_pos (show zi ((1 : Nat) : Int) = 1 from rfl)]
    rcases p_way fu hfu (CB_A u6) u7 (by omega) with ⟨c4, m4, z, t1, t2, t3, t4, t5, t6, t7⟩ | ⟨c4, m4, t1, t4, t5, t6, t7⟩
    · have hM4 := CM_r (CM_fr u8 t6 t7) (j := 19) (by decide) (by decide) (zi (z + 1))
      have hw1 : ¬ (zi z = (-1 : Int32)) := by
        have : (zi z = (-1 : Int32)) = (z = -1) := zi_inj (b_ := -1) (by omega) (by omega) (by decide) (by decide)
        rw [this]
        omega
      obtain ⟨c5, a1, a2⟩ := s_add fu hfu hS hC (k := 1) (x := x) (y := y) (z := z) (by decide) (fun h => absurd h (by decide)) (fun _ => ⟨u9.1, u9.2, t2⟩) (fun h => absurd h (by decide)) (CB_A t3) (GM_r t5 (k := 19) (by decide) R (zi (z + 1))) (by omega) (show n0 ≤ n + 1 + 1 + 1 by omega) hM4 ⟨fun _ => by rw [rd_mw, if_neg (fun q => absurd q.1 (by decide)), t7.1 _ _ rfl]; exact u10, fun _ => by rw [rd_mw, if_neg (fun q => absurd q.1 (by decide)), t7.1 _ _ rfl]; exact u11, fun _ => by rw [rd_mw, if_pos ⟨rfl, rfl⟩]⟩
      have a1' : K_X8_addRow fu 1 (zi x) (zi y) (zi z) c4 = some c5 := a1
      rw [t1, bd_s, ltf, a1', bd_s, if_neg hw1, t4, bd_s, gi60 hR, ltf, cl60 hR, pass_157 fu 1 (Or.inl rfl)]
      exact OUTs_if a2
    · obtain ⟨e, p, hp, hE, hD⟩ := t5
      obtain ⟨c5, a1, a2, a3, a4⟩ := c_addRow fu (R := R) ((t6.1 _ _ rfl).trans u8.2.1) hR 1 x y (-1)
      have a1' : K_X8_addRow fu 1 (zi x) (zi y) (zi (-1)) c4 = some c5 := a1
      have hE3 : ECc c5 e p := ⟨(a4.1 _ _ (PAr_ne (by omega) (by omega))).trans hE.1, (a4.1 _ _ (PAr_ne (by omega) (by omega))).trans hE.2⟩
      obtain ⟨m5, b1, b2, b3⟩ := b_157 fu (BD_r hD (k := 19) (by decide) R (zi 0)) (zi ((1 : Nat) : Int)) hR
      rw [t1, bd_s, ltf, a1', bd_s, if_pos (show zi (-1) = -1 from rfl), t4, bd_s, gi60 hR, ltf, cl60 hR, b1, bd_s]
      refine OUTs_bad (R := R) rfl (b_ySg fu b2 _) ⟨e, p, hp, hE3, b2⟩ (Fr_tr (Fr_tr (Fr_mono u8.2.2.2.1 (fun _ _ => PZr_Zc)) (FZc t6)) (Fr_mono a4 (fun i j h => ?_))) (Fr_tr (Fr_tr (Fr_tr (Fr_mono u8.2.2.2.2.1 (fun _ _ => PRw_Zm)) (FZm t7)) (FZr (by decide) (by decide) _)) b3)
      unfold PZc at h
      simp only [Bool.or_eq_false_iff, Bool.and_eq_false_iff, beq_eq_false_iff_ne, ne_eq, decide_eq_false_iff_not] at h
      exact PAr_ne (by omega) (by omega)
  · obtain ⟨e, p, hp, hE, hD⟩ := u3
    rw [u2, bd_s]
    rcases u1 with u1 | ⟨u1, u1b⟩
    · rw [u1, bd_s, if_pos z00]
      exact OUTs_bad (R := R) rfl (b_ySg fu hD _) ⟨e, p, hp, hE, hD⟩ u4 u5
    · rw [u1, bd_s, if_neg z10, ltf, u1b, bd_s, if_pos z00]
      exact OUTs_bad (R := R) rfl (b_ySg fu hD _) ⟨e, p, hp, hE, hD⟩ u4 u5
/-- a repeat, up to its bracket -/
theorem p_rept (fu : Nat) (hfu : 1000 ≤ fu) {c m c1 m1 : Mem} {T : Nat → Int} {L N n n0 R C : Nat} {kd : Nat → Nat} {a b w : Nat → Int} {dp : Nat → Nat} {op : Nat → Nat → Nat} (hS : SCR c m R C kd a b w dp op) (hC : C < 30) (hD2 : dp R < 2) (hA : CAr c1 T L N n) (hG : GMr m1 T L n) (hn : n ≤ 800) (hn0 : n0 ≤ n) (hM : CM1 c m c1 m1 R C 4 (dp R)) : OUTs (K_X8_readRepeat fu c1) (bd (K_X12_command_96 fu (zi ((4 : Nat) : Int)) (zi (R : Int)) m1) (ySg fu (zi (dp R : Int)))) c m T L N n0 := by
  have hR : R < 60 := by
    have := hS.2.2.2.2
    omega
  have e96 : K_X12_command_96 fu (zi ((4 : Nat) : Int)) (zi (R : Int)) m1 = bd (K_X12_number fu 1 20 m1) (fun p_23 => gi (zi (R : Int)) 60 (lt_ (mw p_23.2 17 (Int32.toNatClampNeg (zi (R : Int))) p_23.1) (fun m_25 => (K_X12_command_175 fu (zi ((4 : Nat) : Int)) m_25)))) := by
    unfold K_X12_command_96 K_X12_command_119 K_X12_command_142 K_X12_command_157
    rw [if_neg (by decide), if_neg (by decide), if_neg (by decide), if_neg (by decide), if_neg (by decide), if_pos (show zi ((4 : Nat) : Int) = 4 from rfl)]
  have fc0 : Fr PZc c c1 := Fr_mono hM.2.2.2.1 (fun _ _ => PZr_Zc)
  have fm0 : Fr PZm m m1 := Fr_mono hM.2.2.2.2.1 (fun _ _ => PRw_Zm)
  unfold K_X8_readRepeat
  rw [e96]
  rcases p_num fu hfu hA hG (by omega) (a := 1) (b := 20) (by decide) with ⟨c2, m2, v, u1, u2, u3, u4, u5, u6, u7, u8⟩ | ⟨c2, m2, v, u1, u5, u6, u7, u8⟩
  · have u1' : K_X9_needNumber fu 1 20 c1 = some (zi 1, c2) := u1
    have u5' : K_X12_number fu 1 20 m1 = some (zi v, m2) := u5
    obtain ⟨g1, g2, g3, g4, g5, ⟨g6, g7, g8⟩, g9⟩ := CM_r (CM_fr hM u7 u8) (j := 17) (by decide) (by decide) (zi v)
    have i0 : ¬ (zi (dp R : Int) < (0 : Int32)) := by
      have : (zi (dp R : Int) < (0 : Int32)) = ((dp R : Int) < 0) := zi_lt (b_ := 0) (by omega) (by omega) (by decide) (by decide)
      rw [this]
      omega
    have i2 : zi (dp R : Int) < (2 : Int32) := by
      have : (zi (dp R : Int) < (2 : Int32)) = ((dp R : Int) < 2) := zi_lt (b_ := 2) (by omega) (by omega) (by decide) (by decide)
      rw [this]
      omega
    have gD : ∀ o : Option (Int32 × Mem), gi (zi (dp R : Int)) 2 o = o := fun o => gi_zi (by omega) (by omega) (by decide)
    have cD : (zi (dp R : Int)).toNatClampNeg = dp R := by
      rw [zi_clamp (by omega) (by omega)]
      exact Int.toNat_natCast _
    have eD : zi (dp R : Int) + 1 = zi ((dp R + 1 : Nat) : Int) := zi_add (dp R : Int) 1
    have r9 : rd (mw c2 16 (dp R) (zi (R : Int))) 10 9 = zi (dp R : Int) := by
      rw [rd_mw, if_neg (fun q => absurd q.1 (by decide))]
      exact g3
    obtain ⟨c3, hc3⟩ : ∃ c3, c3 = mw (mw c2 16 (dp R) (zi (R : Int))) 10 9 (zi ((dp R + 1 : Nat) : Int)) := ⟨_, rfl⟩
    have r63 : rd c3 10 6 = zi (R : Int) := by
      rw [hc3, rd_mw, if_neg (by decide), rd_mw, if_neg (fun q => absurd q.1 (by decide))]
      exact g2
    have r210 : rd c3 2 10 = zi v := by
      rw [hc3, rd_mw, if_neg (by decide), rd_mw, if_neg (fun q => absurd q.1 (by decide))]
      exact u3
    obtain ⟨c4, a1, a2, a3, a4⟩ := c_addRow fu r63 hR 4 v 0 0
    have a1' : K_X8_addRow fu 4 (zi v) 0 0 c3 = some c4 := a1
    have f3 : Fr (fun k j => (k == 10 && j == 9) || k == 16) c2 c3 := by
      rw [hc3]
      exact Fr_tr (Fr_mw _ _ rfl) (Fr_mw _ _ rfl)
    have f3n : ∀ k j, k < 10 → (fun k j => (k == 10 && j == 9) || k == 16 : Nat → Nat → Bool) k j = false := fun k j h => by
      simp only [Bool.or_eq_false_iff, Bool.and_eq_false_iff, beq_eq_false_iff_ne, ne_eq]
      omega
    have hA4 : CAr c4 T L N (n + 1) := CA_fr (CA_fr (CB_A u2) f3 (fun k j _ h => f3n k j (by omega))) a4 (fun k j _ h => PAr_ne (by omega) (by omega))
    have hG4 := GM_r u6 (k := 17) (by decide) R (zi v)
    have fcc4 : Fr PZc c c4 := by
      refine Fr_tr (Fr_tr (Fr_mono g4 (fun _ _ => PZr_Zc)) (Fr_mono f3 (fun k j h => ?_))) (Fr_mono a4 (fun k j h => ?_))
      · unfold PZc at h
        simp only [Bool.or_eq_false_iff, Bool.and_eq_false_iff, beq_eq_false_iff_ne, ne_eq, decide_eq_false_iff_not] at h ⊢
        omega
      · unfold PZc at h
        simp only [Bool.or_eq_false_iff, Bool.and_eq_false_iff, beq_eq_false_iff_ne, ne_eq, decide_eq_false_iff_not] at h
        exact PAr_ne (by omega) (by omega)
    unfold K_X8_readRepeat_53 K_X12_command_175
    rw [u1', bd_s, if_neg z10, g3, if_neg i0, if_pos i2, gD, cD, g2, ltf, r9, eD, ltf, ← hc3, r210, a1', bd_s, u5', bd_s, gi60 hR, ltf, cl60 hR, if_pos (show zi ((4 : Nat) : Int) = 4 from rfl)]
    rcases p_sign fu hfu hA4 hG4 (by omega) (x := 40) ⟨by decide, by decide⟩ with ⟨c5, m5, h1, h2, h3, h4, h5, h6, h7, h8⟩ | ⟨c5, m5, h1, h2, h3, h4, h5, h6, h7⟩
    · have h1' : K_X9_needSign fu 40 c4 = some (zi 1, c5) := h1
      have h5' : K_X12_mustSign fu 40 (mw m2 17 R (zi v)) = some m5 := h5
      have ht := tok_700 h2.1 (by rw [sg_k h3]; decide)
      have fm0' : ∀ j, 43 ≤ j → rd m5 0 j = rd (mw m2 17 R (zi v)) 0 j := fun j hj => h8.1 _ _ (by unfold PGe; simp only [Bool.and_eq_false_iff, Bool.or_eq_false_iff, beq_eq_false_iff_ne, ne_eq, decide_eq_false_iff_not]; omega)
      obtain ⟨m6, hm6⟩ : ∃ m6, m6 = mw (mw m5 0 43 (zi ((R + 1 : Nat) : Int))) 0 45 (zi ((dp R + 1 : Nat) : Int)) := ⟨_, rfl⟩
      have h186 : K_X12_command_186 fu (zi ((4 : Nat) : Int)) m5 = some m6 := by
        have e45 : rd (mw m5 0 43 (zi ((R + 1 : Nat) : Int))) 0 45 = zi (dp R : Int) := by
          rw [rd_mw, if_neg (by decide)]
          exact (fm0' _ (by decide)).trans g8
        have e43 : rd m5 0 43 + 1 = zi ((R + 1 : Nat) : Int) := by
          rw [fm0' _ (by decide), g6]
          exact zi_add (R : Int) 1
        unfold K_X12_command_186 K_X12_command_219
        rw [g_isGood fu h6.2.1, bd_s, if_neg z10, e43, ltf, if_pos (show zi ((4 : Nat) : Int) = 4 from rfl), e45, show K_X12_truth fu 1 (mw m5 0 43 (zi ((R + 1 : Nat) : Int))) = some 1 from rfl, bd_s, eD, ltf, hm6]
      have r45 : rd m6 0 45 = zi ((dp R + 1 : Nat) : Int) := by rw [hm6, rd_mw, if_pos ⟨rfl, rfl⟩]
      have hne45 : ¬ (zi ((dp R + 1 : Nat) : Int) = zi (dp R : Int)) := by
        rw [zi_inj (by omega) (by omega) (by omega) (by omega)]
        omega
      have f6 : Fr (fun k j => k == 0 && (decide (43 ≤ j) && decide (j ≤ 45))) m5 m6 := by
        rw [hm6]
        exact Fr_tr (Fr_mw _ _ rfl) (Fr_mw _ _ rfl)
      have f6n : ∀ k j, k ≠ 0 ∨ j < 43 → (fun k j => k == 0 && (decide (43 ≤ j) && decide (j ≤ 45)) : Nat → Nat → Bool) k j = false := fun k j h => by
        simp only [Bool.and_eq_false_iff, beq_eq_false_iff_ne, ne_eq, decide_eq_false_iff_not]
        omega
      have hG6 : GMr m6 T L (n + 1 + 1) := GM_fr h6 f6 (fun j hj => f6n 0 j (Or.inr (by omega))) (fun j => f6n 1 j (Or.inl (by decide)))
      have y6 : ySg fu (zi (dp R : Int)) m6 = some m6 := by
        unfold ySg
        rw [r45, if_neg hne45]
      rw [h1', bd_s, h5', bd_s, h186, bd_s, y6]
      obtain ⟨s1, s2, s3, s4, s5⟩ := hS
      have rowC : ∀ k j, 11 ≤ k → k ≤ 14 → j ≠ R → rd c5 k j = rd c k j := fun k j k1 k2 hj => by
        rw [h7.1 _ _ (by unfold P2t; simp only [Bool.and_eq_false_iff, beq_eq_false_iff_ne, ne_eq]; omega), a4.1 _ _ (PAr_ne (by omega) (by omega)), f3.1 _ _ (by simp only [Bool.or_eq_false_iff, Bool.and_eq_false_iff, beq_eq_false_iff_ne, ne_eq]; omega), g4.1 _ _ (PZr_row k1 (Or.inl hj))]
      have c5l : ∀ k j, 10 ≤ k → rd c5 k j = rd c4 k j := fun k j hk => h7.1 _ _ (by unfold P2t; simp only [Bool.and_eq_false_iff, beq_eq_false_iff_ne, ne_eq]; omega)
      have c4l : ∀ k j, ¬ (k = 10 ∧ j = 6) → ¬ (11 ≤ k ∧ k ≤ 14) → rd c4 k j = rd c3 k j := fun k j q1 q2 => a4.1 _ _ (PAr_ne q1 (by omega))
      refine ⟨c5, m6, Fr_tr fcc4 (FZc h7), ?_, rfl, Or.inl ⟨gb_zi _ (Or.inr rfl), n + 1 + 1, R + 1, C + 1, upN kd R 4, upN a R v, upN b R 0, upN w R 0, upN dp (R + 1) (dp R + 1), upN op (R + 1) (upN (op R) (dp R) R), by omega, by omega, CB_A h2, hG6, ⟨⟨⟨?_, ?_, ?_⟩, fun i hi => ?_, fun kk hkk => ?_⟩, ?_, ?_, by omega, ?_⟩⟩⟩
      · refine Fr_tr (Fr_tr (Fr_mono g5 (fun _ _ => PRw_Zm)) (FZm h8)) (Fr_mono f6 (fun k j h => ?_))
        exact (Bool.or_eq_false_iff.mp (Bool.or_eq_false_iff.mp h).2).2
      · rw [c5l _ _ (by decide)]
        exact a2
      · rw [c5l _ _ (by decide), c4l _ _ (by decide) (by decide), hc3, rd_mw, if_neg (by decide), rd_mw, if_neg (fun q => absurd q.1 (by decide))]
        exact g1
      · rw [c5l _ _ (by decide), c4l _ _ (by decide) (by decide), hc3, rd_mw, if_pos ⟨rfl, rfl⟩, upN_eq]
      · by_cases q : i = R
        · rw [q, upN_eq, upN_eq, upN_eq, upN_eq, c5l _ _ (by decide), c5l _ _ (by decide), c5l _ _ (by decide), c5l _ _ (by decide)]
          exact ⟨a3.1, a3.2.1, fun _ => a3.2.2.1, fun _ => a3.2.2.2⟩
        · rw [upN_ne q, upN_ne q, upN_ne q, upN_ne q]
          obtain ⟨t1, t2, t3, t4⟩ := s1.2.1 i (by omega)
          exact ⟨(rowC _ _ (by decide) (by decide) q).trans t1, (rowC _ _ (by decide) (by decide) q).trans t2, fun h => (rowC _ _ (by decide) (by decide) q).trans (t3 h), fun h => (rowC _ _ (by decide) (by decide) q).trans (t4 h)⟩
      · rw [upN_eq] at hkk ⊢
        rw [c5l _ _ (by decide), c4l _ _ (fun q => absurd q.1 (by decide)) (fun q => absurd q.2 (by decide)), hc3, rd_mw, if_neg (fun q => absurd q.1 (by decide)), rd_mw]
        by_cases q : kk = dp R
        · rw [if_pos ⟨rfl, q⟩, q, upN_eq]
        · rw [if_neg (fun h => q h.2), upN_ne q, g4.1 _ _ (PZr_row (by decide) (Or.inr (by decide)))]
          exact s1.2.2 kk (by omega)
      · rw [upN_eq]
        refine SRm_add s2 ?_ ?_ r45 ?_ (fun k j a1 a2 a3 => ?_)
        · rw [hm6, rd_mw, if_neg (by decide), rd_mw, if_pos ⟨rfl, rfl⟩]
        · rw [hm6, rd_mw, if_neg (by decide), rd_mw, if_neg (by decide)]
          exact (fm0' _ (by decide)).trans g7
        · have l1 : ∀ k j, 16 ≤ k → rd m6 k j = rd (mw m2 17 R (zi v)) k j := fun k j hk => (f6.1 _ _ (f6n k j (Or.inl (by omega)))).trans (h8.1 _ _ (by unfold PGe; simp only [Bool.and_eq_false_iff, beq_eq_false_iff_ne, ne_eq]; omega))
          rw [l1 _ _ (by decide), l1 _ _ (by decide), l1 _ _ (by decide), l1 _ _ (by decide)]
          exact ⟨g9, fun _ => by rw [rd_mw, if_pos ⟨rfl, rfl⟩], fun h => by omega, fun h => by omega⟩
        · exact ((f6.1 _ _ (f6n k j (Or.inl (by omega)))).trans (h8.1 _ _ (by unfold PGe; simp only [Bool.and_eq_false_iff, beq_eq_false_iff_ne, ne_eq]; omega))).trans (g5.1 _ _ (PRw_row a1 a3))
      · refine WF_add s3 (by omega) (fun h => absurd h (by decide)) (fun h => absurd h (by decide)) (fun h => absurd h (by decide)) (fun _ => ⟨by omega, hD2, rfl, upN_eq _ _ _, fun i hi => upN_ne (by omega)⟩) (fun h => absurd h (by decide)) (fun h => absurd h (by decide))
      · rw [upN_eq]
        omega
    · have h1' : K_X9_needSign fu 40 c4 = some (zi 0, c5) := h1
      have h4' : K_X12_mustSign fu 40 (mw m2 17 R (zi v)) = some m5 := h4
      obtain ⟨e, p, hp, hE, hD⟩ := h5
      rw [h1', bd_s, h4', bd_s, b_186 fu hD, bd_s]
      exact OUTs_bad (R := R) (gb_zi _ (Or.inl rfl)) (b_ySg fu hD _) ⟨e, p, hp, hE, hD⟩ (Fr_tr fcc4 (FZc h6)) (Fr_tr (Fr_mono g5 (fun _ _ => PRw_Zm)) (FZm h7))
  · have u1' : K_X9_needNumber fu 1 20 c1 = some (zi 0, c2) := u1
    have u5' : K_X12_number fu 1 20 m1 = some (v, m2) := u5
    obtain ⟨e, p, hp, hE, hD⟩ := u6
    have hD4 := BD_r hD (k := 17) (by decide) R v
    rw [u1', bd_s, if_pos z00, u5', bd_s, gi60 hR, ltf, cl60 hR, b_175 fu hD4, bd_s]
    exact OUTs_bad (R := R) rfl (b_ySg fu hD4 _) ⟨e, p, hp, hE, hD4⟩ (Fr_tr fc0 (FZc u7)) (Fr_tr (Fr_tr fm0 (FZm u8)) (FZr (by decide) (by decide) _))
end CM2M
