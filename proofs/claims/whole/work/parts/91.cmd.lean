section CMDM
def BDz (m m2 : Mem) (e p : Int) : Prop := BDr m2 e p ∧ Fr PZm m m2
theorem FZr {m : Mem} {k R : Nat} (h1 : 16 ≤ k) (h2 : k ≤ 19) (v : Int32) : Fr PZm m (mw m k R v) := Fr_mw _ _ (by unfold PZm; simp [h1, h2])
theorem BD_r {m : Mem} {e p : Int} (h : BDr m e p) {k : Nat} (hk : 16 ≤ k) (j : Nat) (v : Int32) : BDr (mw m k j v) e p := ⟨h.1, by rw [rd_mw, if_neg (fun q => absurd q.1 (by omega))]; exact h.2.1, by rw [rd_mw, if_neg (fun q => absurd q.1 (by omega))]; exact h.2.2⟩
theorem gi60 {R : Nat} (h : R < 60) (o : Option Mem) : gi (zi (R : Int)) 60 o = o := gi_zi (by omega) (by omega) (by decide)
theorem cl60 {R : Nat} (h : R < 60) : (zi (R : Int)).toNatClampNeg = R := by
  rw [zi_clamp (by omega) (by omega)]
  exact Int.toNat_natCast R
theorem b_186 (fu : Nat) {m : Mem} {e p : Int} (h : BDr m e p) (x1 : Int32) : K_X12_command_186 fu x1 m = some m := by
  unfold K_X12_command_186
  rw [b_isGood fu h, bd_s, if_pos z00]
theorem b_175 (fu : Nat) {m : Mem} {e p : Int} (h : BDr m e p) (x1 : Int32) : K_X12_command_175 fu x1 m = some m := by
  unfold K_X12_command_175
  by_cases q : x1 = 4
  · rw [if_pos q, b_mustSign fu h, bd_s, b_186 fu h]
  · rw [if_neg q, b_186 fu h]
theorem b_157 (fu : Nat) {m : Mem} {e p : Int} (h : BDr m e p) (x1 : Int32) {R : Nat} (hR : R < 60) : ∃ m2, K_X12_command_157 fu x1 (zi (R : Int)) m = some m2 ∧ BDz m m2 e p := by
  unfold K_X12_command_157
  by_cases q : x1 = 4
  · rw [if_pos q, b_number fu h, bd_s, gi60 hR, ltf, cl60 hR, b_175 fu (BD_r h (by decide) _ _)]
    exact ⟨_, rfl, BD_r h (by decide) _ _, FZr (by decide) (by decide) _⟩
  · rw [if_neg q, b_175 fu h]
    exact ⟨_, rfl, h, Fr_rf _ _⟩
theorem b_142 (fu : Nat) {m : Mem} {e p : Int} (h : BDr m e p) (x1 : Int32) {R : Nat} (hR : R < 60) : ∃ m2, K_X12_command_142 fu x1 (zi (R : Int)) m = some m2 ∧ BDz m m2 e p := by
  unfold K_X12_command_142
  by_cases q : x1 = 1
  · rw [if_pos q, b_wayHere fu h, bd_s, gi60 hR, ltf, cl60 hR]
    obtain ⟨m2, a1, a2, a3⟩ := b_157 fu (BD_r h (k := 19) (by decide) R (zi 0)) x1 hR
    exact ⟨m2, a1, a2, Fr_tr (FZr (by decide) (by decide) _) a3⟩
  · rw [if_neg q]
    exact b_157 fu h x1 hR
theorem b_129 (fu : Nat) {m : Mem} {e p : Int} (h : BDr m e p) (x1 : Int32) {R : Nat} (hR : R < 60) : ∃ m2, K_X12_command_129 fu x1 (zi (R : Int)) m = some m2 ∧ BDz m m2 e p := by
  unfold K_X12_command_129
  rw [b_number fu h, bd_s, gi60 hR, ltf, cl60 hR]
  obtain ⟨m2, a1, a2, a3⟩ := b_142 fu (BD_r h (k := 18) (by decide) R (rd m 0 7)) x1 hR
  exact ⟨m2, a1, a2, Fr_tr (FZr (by decide) (by decide) _) a3⟩
theorem b_119 (fu : Nat) {m : Mem} {e p : Int} (h : BDr m e p) (x1 : Int32) {R : Nat} (hR : R < 60) : ∃ m2, K_X12_command_119 fu x1 (zi (R : Int)) m = some m2 ∧ BDz m m2 e p := by
  unfold K_X12_command_119
  by_cases q : x1 = 1
  · rw [if_pos q]
    exact b_129 fu h x1 hR
  · rw [if_neg q]
    by_cases q3 : x1 = 3
    · rw [if_pos q3]
      exact b_129 fu h x1 hR
    · rw [if_neg q3]
      exact b_142 fu h x1 hR
theorem b_106 (fu : Nat) {m : Mem} {e p : Int} (h : BDr m e p) (x1 : Int32) {R : Nat} (hR : R < 60) : ∃ m2, K_X12_command_106 fu x1 (zi (R : Int)) m = some m2 ∧ BDz m m2 e p := by
  unfold K_X12_command_106
  rw [b_number fu h, bd_s, gi60 hR, ltf, cl60 hR]
  obtain ⟨m2, a1, a2, a3⟩ := b_119 fu (BD_r h (k := 17) (by decide) R (rd m 0 7)) x1 hR
  exact ⟨m2, a1, a2, Fr_tr (FZr (by decide) (by decide) _) a3⟩
theorem b_96 (fu : Nat) {m : Mem} {e p : Int} (h : BDr m e p) (x1 : Int32) {R : Nat} (hR : R < 60) : ∃ m2, K_X12_command_96 fu x1 (zi (R : Int)) m = some m2 ∧ BDz m m2 e p := by
  unfold K_X12_command_96
  by_cases q : x1 = 1
  · rw [if_pos q]
    exact b_106 fu h x1 hR
  · rw [if_neg q]
    by_cases q3 : x1 = 3
    · rw [if_pos q3]
      exact b_106 fu h x1 hR
    · rw [if_neg q3]
      exact b_119 fu h x1 hR
theorem b_48 (fu : Nat) {m : Mem} {e p : Int} (h : BDr m e p) (x1 : Int32) : K_X12_command_48 fu x1 m = some m := by
  unfold K_X12_command_48
  rw [b_isGood fu h, bd_s, if_pos z00]
theorem b_33 (fu : Nat) {m : Mem} {e p : Int} (h : BDr m e p) (x1 : Int32) : K_X12_command_33 fu x1 m = some m := by
  unfold K_X12_command_33
  by_cases q : rd m 0 44 = 30
  · rw [if_pos q, b_wrong fu h, bd_s, b_48 fu h]
  · rw [if_neg q, b_48 fu h]
theorem b_15 (fu : Nat) {m : Mem} {e p : Int} (h : BDr m e p) (x1 : Int32) : K_X12_command_15 fu x1 m = some m := by
  unfold K_X12_command_15
  by_cases q : x1 = 4
  · rw [if_pos q]
    by_cases q2 : rd m 0 45 = 2
    · rw [if_pos q2, b_wrong fu h, bd_s, b_33 fu h]
    · rw [if_neg q2, b_33 fu h]
  · rw [if_neg q, b_33 fu h]
/-- both behind the word of a command, where it is one -/
def CM1 (c m c1 m1 : Mem) (R C k D : Nat) : Prop := rd c1 10 7 = zi ((C + 1 : Nat) : Int) ∧ rd c1 10 6 = zi (R : Int) ∧ rd c1 10 9 = zi (D : Int) ∧ Fr (PZr R) c c1 ∧ Fr (PRw R) m m1 ∧ (rd m1 0 43 = zi (R : Int) ∧ rd m1 0 44 = zi ((C + 1 : Nat) : Int) ∧ rd m1 0 45 = zi (D : Int)) ∧ rd m1 16 R = zi (k : Int)
theorem CM_fr {c m c1 m1 c2 m2 : Mem} {R C k D : Nat} (h : CM1 c m c1 m1 R C k D) (f : Fr P2t c1 c2) (g : Fr PGe m1 m2) : CM1 c m c2 m2 R C k D := by
  obtain ⟨h1, h2, h3, h4, h5, ⟨h6, h7, h8⟩, h9⟩ := h
  have fc : ∀ j, rd c2 10 j = rd c1 10 j := fun j => f.1 _ _ rfl
  have fm0 : ∀ j, 43 ≤ j → rd m2 0 j = rd m1 0 j := fun j hj => g.1 _ _ (by unfold PGe; simp only [Bool.and_eq_false_iff, Bool.or_eq_false_iff, beq_eq_false_iff_ne, ne_eq, decide_eq_false_iff_not]; omega)
  exact ⟨(fc _).trans h1, (fc _).trans h2, (fc _).trans h3, Fr_tr h4 (Fr_mono f (fun _ _ => P2_Zr)), Fr_tr h5 (Fr_mono g (fun _ _ => PGe_Rw)), ⟨(fm0 _ (by decide)).trans h6, (fm0 _ (by decide)).trans h7, (fm0 _ (by decide)).trans h8⟩, (g.1 _ _ rfl).trans h9⟩
theorem CM_r {c m c1 m1 : Mem} {R C k D : Nat} (h : CM1 c m c1 m1 R C k D) {j : Nat} (h1 : 17 ≤ j) (h2 : j ≤ 19) (v : Int32) : CM1 c m c1 (mw m1 j R v) R C k D := by
  obtain ⟨g1, g2, g3, g4, g5, ⟨g6, g7, g8⟩, g9⟩ := h
  exact ⟨g1, g2, g3, g4, Fr_tr g5 (FRw (by omega) h2 v), ⟨by rw [rd_mw, if_neg (fun q => absurd q.1 (by omega))]; exact g6, by rw [rd_mw, if_neg (fun q => absurd q.1 (by omega))]; exact g7, by rw [rd_mw, if_neg (fun q => absurd q.1 (by omega))]; exact g8⟩, by rw [rd_mw, if_neg (fun q => absurd q.1 (by omega))]; exact g9⟩
theorem GM_r {m : Mem} {T : Nat → Int} {L n : Nat} (h : GMr m T L n) {k : Nat} (hk : 16 ≤ k) (j : Nat) (v : Int32) : GMr (mw m k j v) T L n := GM_fr h (P := fun k2 _ => decide (16 ≤ k2)) (Fr_mw _ _ (decide_eq_true hk)) (fun _ _ => rfl) (fun _ => rfl)
/-- a command's row and its sign -/
theorem s_add (fu : Nat) (hfu : 1000 ≤ fu) {c m c1 m1 : Mem} {T : Nat → Int} {L N n n0 R C : Nat} {kd : Nat → Nat} {a b w : Nat → Int} {dp : Nat → Nat} {op : Nat → Nat → Nat} (hS : SCR c m R C kd a b w dp op) (hC : C < 30) {k : Nat} (hk : k ≤ 3) {x y z : Int} (h0 : k = 0 → 0 ≤ x ∧ x ≤ 3) (h1 : k = 1 → (0 ≤ x ∧ x ≤ 99) ∧ (0 ≤ y ∧ y ≤ 99) ∧ (z = 0 ∨ z = 1)) (h3 : k = 3 → (0 ≤ x ∧ x ≤ 99) ∧ 0 ≤ y ∧ y ≤ 99) (hA : CAr c1 T L N n) (hG : GMr m1 T L n) (hn : n ≤ 900) (hn0 : n0 ≤ n) (hM : CM1 c m c1 m1 R C k (dp R)) (hv : (k = 0 ∨ k = 1 ∨ k = 3 ∨ k = 4 → rd m1 17 R = zi x) ∧ (k = 1 ∨ k = 3 → rd m1 18 R = zi y) ∧ (k = 1 → rd m1 19 R = zi (z + 1))) : ∃ c2, K_X8_addRow fu (zi (k : Int)) (zi x) (zi y) (zi z) c1 = some c2 ∧ OUTs (K_X9_needSign fu 59 c2) (bd (K_X12_command_186 fu (zi (k : Int)) m1) (ySg fu (zi (dp R : Int)))) c m T L N n0 := by
  obtain ⟨g1, g2, g3, g4, g5, g6, g9⟩ := hM
  have hR : R < 60 := by
    have := hS.2.2.2.2
    omega
  obtain ⟨c2, a1, a2, a3, a4⟩ := c_addRow fu g2 hR k x y z
  have nP : ∀ i j, i < 10 → PAr R i j = false := fun i j h => PAr_ne (by omega) (by omega)
  have f2 : Fr (PZr R) c c2 := Fr_tr g4 (Fr_mono a4 (fun i j h => by
    unfold PZr at h
    simp only [Bool.or_eq_false_iff, Bool.and_eq_false_iff, beq_eq_false_iff_ne, ne_eq, decide_eq_false_iff_not] at h
    exact PAr_ne (by omega) (by omega)))
  refine ⟨c2, a1, s_fin fu hfu hS hC hk h0 h1 h3 (CA_fr hA a4 (fun i j _ h => nP i j (by omega))) hG hn hn0 a2 a3 ((a4.1 _ _ (PAr_ne (by omega) (by omega))).trans g1) f2 g6 ⟨g9, hv⟩ g5⟩
theorem pass_96 (fu : Nat) (k : Nat) (hk : k = 0 ∨ k = 2) (x2 : Int32) (m : Mem) : K_X12_command_96 fu (zi (k : Int)) x2 m = K_X12_command_186 fu (zi (k : Int)) m := by
  unfold K_X12_command_96 K_X12_command_119 K_X12_command_142 K_X12_command_157 K_X12_command_175
  rcases hk with e | e
  · rw [e, if_neg (by decide), if_neg (by decide), if_neg (by decide), if_neg (by decide), if_neg (by decide), if_neg (by decide), if_neg (by decide)]
  · rw [e, if_neg (by decide), if_neg (by decide), if_neg (by decide), if_neg (by decide), if_neg (by decide), if_neg (by decide), if_neg (by decide)]
theorem OUTs_bad {x : Option (Int32 × Mem)} {y : Option Mem} {c m c2 m2 : Mem} {T : Nat → Int} {L N n R : Nat} (hx : x = some (zi 0, c2)) (hy : y = some m2) (hE : EBr c2 m2) (fc : Fr PZc c c2) (fm : Fr PZm m m2) : OUTs x y c m T L N n := ⟨c2, m2, fc, fm, hy, Or.inr ⟨hx, hE⟩⟩
theorem p_step (fu : Nat) (hfu : 1000 ≤ fu) {c m c1 m1 : Mem} {T : Nat → Int} {L N n n0 R C : Nat} {kd : Nat → Nat} {a b w : Nat → Int} {dp : Nat → Nat} {op : Nat → Nat → Nat} (hS : SCR c m R C kd a b w dp op) (hC : C < 30) (hA : CAr c1 T L N n) (hG : GMr m1 T L n) (hn : n ≤ 800) (hn0 : n0 ≤ n) (hM : CM1 c m c1 m1 R C 0 (dp R)) : OUTs (K_X8_readStep fu c1) (bd (bd (K_X12_sideTold fu m1) (fun p_11 => gi (zi (R : Int)) 60 (lt_ (mw p_11.2 17 (Int32.toNatClampNeg (zi (R : Int))) p_11.1) (fun m_13 => (K_X12_command_96 fu (zi ((0 : Nat) : Int)) (zi (R : Int)) m_13))))) (ySg fu (zi (dp R : Int)))) c m T L N n0 := by
  have hR : R < 60 := by
    have := hS.2.2.2.2
    omega
  unfold K_X8_readStep K_X12_sideTold K_X12_sideTold_22
  rcases p_side fu hfu hA hG (by omega) with ⟨c2, d, u1, u2, u3, u4, u5, u6⟩ | ⟨c2, m2, u1, u2, u3, u4, u5, u6⟩
  · obtain ⟨m2, g1, g2, g3⟩ := p_go fu hfu hG
    have hd1 : ¬ (zi d = (-1 : Int32)) := by
      have : (zi d = (-1 : Int32)) = (d = -1) := zi_inj (b_ := -1) (by omega) (by omega) (by decide) (by decide)
      rw [this]
      omega
    have hM2 := CM_r (CM_fr hM u6 g3) (j := 17) (by decide) (by decide) (zi d)
    obtain ⟨c3, a1, a2⟩ := s_add fu hfu hS hC (k := 0) (x := d) (y := 0) (z := 0) (by decide) (fun _ => u2) (fun h => absurd h (by decide)) (fun h => absurd h (by decide)) (CB_A u3) (GM_r g2 (k := 17) (by decide) R (zi d)) (by omega) (show n0 ≤ n + 1 by omega) hM2 ⟨fun _ => by rw [rd_mw, if_pos ⟨rfl, rfl⟩], fun h => by omega, fun h => by omega⟩
    have a1' : K_X8_addRow fu 0 (zi d) 0 0 c2 = some c3 := a1
    rw [u1, bd_s, ltf, a1', bd_s, if_neg hd1, u4, bd_s, g_isGood fu hG.2.1, bd_s, if_neg z10, if_neg hd1, bd_s, if_neg z10, g1, bd_s, bd_s, gi60 hR, ltf, cl60 hR, pass_96 fu 0 (Or.inl rfl)]
    exact OUTs_if a2
  · obtain ⟨c3, a1, a2, a3, a4⟩ := c_addRow fu (R := R) ((u5.1 _ _ rfl).trans hM.2.1) hR 0 (-1) 0 0
    have a1' : K_X8_addRow fu 0 (zi (-1)) 0 0 c2 = some c3 := a1
    have u3' : K_X12_wrong fu 1 m1 = some m2 := u3
    obtain ⟨e, p, hp, hE, hD⟩ := u4
    obtain ⟨m4, b1, b2, b3⟩ := b_96 fu (BD_r hD (k := 17) (by decide) R (zi (-1))) (zi ((0 : Nat) : Int)) hR
    have hE3 : ECc c3 e p := ⟨(a4.1 _ _ (PAr_ne (by omega) (by omega))).trans hE.1, (a4.1 _ _ (PAr_ne (by omega) (by omega))).trans hE.2⟩
    rw [u1, bd_s, ltf, a1', bd_s, if_pos (show zi (-1) = -1 from rfl), u2, bd_s, g_isGood fu hG.2.1, bd_s, if_neg z10, if_pos (show zi (-1) = -1 from rfl), u3', bd_s, b_isGood fu hD, bd_s, if_pos z00, bd_s, gi60 hR, ltf, cl60 hR, b1, bd_s]
    refine OUTs_bad (R := R) rfl (b_ySg fu b2 _) ⟨e, p, hp, hE3, b2⟩ (Fr_tr (Fr_tr (Fr_mono hM.2.2.2.1 (fun _ _ => PZr_Zc)) (FZc u5)) (Fr_mono a4 (fun i j h => ?_))) (Fr_tr (Fr_tr (Fr_tr (Fr_mono hM.2.2.2.2.1 (fun _ _ => PRw_Zm)) (FZm u6)) (FZr (by decide) (by decide) _)) b3)
    unfold PZc at h
    simp only [Bool.or_eq_false_iff, Bool.and_eq_false_iff, beq_eq_false_iff_ne, ne_eq, decide_eq_false_iff_not] at h
    exact PAr_ne (by omega) (by omega)
theorem p_pass (fu : Nat) (hfu : 1000 ≤ fu) {c m c1 m1 : Mem} {T : Nat → Int} {L N n n0 R C : Nat} {kd : Nat → Nat} {a b w : Nat → Int} {dp : Nat → Nat} {op : Nat → Nat → Nat} (hS : SCR c m R C kd a b w dp op) (hC : C < 30) (hA : CAr c1 T L N n) (hG : GMr m1 T L n) (hn : n ≤ 800) (hn0 : n0 ≤ n) (hM : CM1 c m c1 m1 R C 2 (dp R)) : OUTs (K_X8_readPass fu c1) (bd (K_X12_command_96 fu (zi ((2 : Nat) : Int)) (zi (R : Int)) m1) (ySg fu (zi (dp R : Int)))) c m T L N n0 := by
  obtain ⟨c3, a1, a2⟩ := s_add fu hfu hS hC (k := 2) (x := 0) (y := 0) (z := 0) (by decide) (fun h => absurd h (by decide)) (fun h => absurd h (by decide)) (fun h => absurd h (by decide)) hA hG (by omega) hn0 hM ⟨fun h => by omega, fun h => by omega, fun h => by omega⟩
  have a1' : K_X8_addRow fu 2 0 0 0 c1 = some c3 := a1
  unfold K_X8_readPass
  rw [a1', bd_s, pass_96 fu 2 (Or.inr rfl)]
  exact OUTs_gb a2
end CMDM
