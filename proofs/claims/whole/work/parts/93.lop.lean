section LOPM
def kdW (T : Nat → Int) (L p : Nat) : Int := if wB T L p 643248 = true then 0 else if wB T L p 755084 = true then 1 else if wB T L p 525939 = true then 2 else if wB T L p 536633 = true then 3 else if wB T L p 609752116 = true then 4 else -1
theorem kd_le (T : Nat → Int) (L p : Nat) : -1 ≤ kdW T L p ∧ kdW T L p ≤ 4 ∧ (kdW T L p ≠ -1 → kkP T L p = 1) := by
  unfold kdW
  by_cases q0 : wB T L p 643248 = true
  · rw [if_pos q0]
    exact ⟨by decide, by decide, fun _ => wB_k q0⟩
  · rw [if_neg q0]
    by_cases q1 : wB T L p 755084 = true
    · rw [if_pos q1]
      exact ⟨by decide, by decide, fun _ => wB_k q1⟩
    · rw [if_neg q1]
      by_cases q2 : wB T L p 525939 = true
      · rw [if_pos q2]
        exact ⟨by decide, by decide, fun _ => wB_k q2⟩
      · rw [if_neg q2]
        by_cases q3 : wB T L p 536633 = true
        · rw [if_pos q3]
          exact ⟨by decide, by decide, fun _ => wB_k q3⟩
        · rw [if_neg q3]
          by_cases q4 : wB T L p 609752116 = true
          · rw [if_pos q4]
            exact ⟨by decide, by decide, fun _ => wB_k q4⟩
          · rw [if_neg q4]
            exact ⟨by decide, by decide, fun h => absurd rfl h⟩
theorem c_kind (fu : Nat) (hfu : 1000 ≤ fu) {c : Mem} {T : Nat → Int} {L N n : Nat} (h : CBr c T L N n) : K_X8_kindOfWord fu c = some (zi (kdW T L (tpo T L n)), c) := by
  obtain ⟨w17, w18, w19, w20, w21⟩ := Wt_al2
  unfold K_X8_kindOfWord kdW
  rw [c_isWord fu hfu h.1 h.2.1 (t := 17) (by decide) w17, bd_s, c_isWord fu hfu h.1 h.2.1 (t := 18) (by decide) w18, bd_s, c_isWord fu hfu h.1 h.2.1 (t := 19) (by decide) w19, bd_s, c_isWord fu hfu h.1 h.2.1 (t := 20) (by decide) w20, bd_s, c_isWord fu hfu h.1 h.2.1 (t := 21) (by decide) w21, bd_s]
  simp only [ifbi]
  by_cases q0 : wB T L (tpo T L n) 643248 = true
  · rw [if_pos q0, if_pos q0]
    rfl
  · rw [if_neg q0, if_neg q0]
    by_cases q1 : wB T L (tpo T L n) 755084 = true
    · rw [if_pos q1, if_pos q1]
      rfl
    · rw [if_neg q1, if_neg q1]
      by_cases q2 : wB T L (tpo T L n) 525939 = true
      · rw [if_pos q2, if_pos q2]
        rfl
      · rw [if_neg q2, if_neg q2]
        by_cases q3 : wB T L (tpo T L n) 536633 = true
        · rw [if_pos q3, if_pos q3]
          rfl
        · rw [if_neg q3, if_neg q3]
          by_cases q4 : wB T L (tpo T L n) 609752116 = true
          · rw [if_pos q4, if_pos q4]
            rfl
          · rw [if_neg q4, if_neg q4]
            rfl
theorem m_kind (fu : Nat) {m : Mem} {T : Nat → Int} {L n : Nat} (h : GMr m T L n) : K_X12_commandHere fu m = some (zi (kdW T L (tpo T L n))) := by
  have w0 : K_X12_isWord fu 643248 m = _ := m_isWord fu h (W := 643248) (by decide)
  have w1 : K_X12_isWord fu 755084 m = _ := m_isWord fu h (W := 755084) (by decide)
  have w2 : K_X12_isWord fu 525939 m = _ := m_isWord fu h (W := 525939) (by decide)
  have w3 : K_X12_isWord fu 536633 m = _ := m_isWord fu h (W := 536633) (by decide)
  have w4 : K_X12_isWord fu 609752116 m = _ := m_isWord fu h (W := 609752116) (by decide)
  unfold K_X12_commandHere kdW
  rw [w0, bd_s, w1, bd_s, w2, bd_s, w3, bd_s, w4, bd_s]
  simp only [ifbi]
  by_cases q0 : wB T L (tpo T L n) 643248 = true
  · rw [if_pos q0, if_pos q0]
    rfl
  · rw [if_neg q0, if_neg q0]
    by_cases q1 : wB T L (tpo T L n) 755084 = true
    · rw [if_pos q1, if_pos q1]
      rfl
    · rw [if_neg q1, if_neg q1]
      by_cases q2 : wB T L (tpo T L n) 525939 = true
      · rw [if_pos q2, if_pos q2]
        rfl
      · rw [if_neg q2, if_neg q2]
        by_cases q3 : wB T L (tpo T L n) 536633 = true
        · rw [if_pos q3, if_pos q3]
          rfl
        · rw [if_neg q3, if_neg q3]
          by_cases q4 : wB T L (tpo T L n) 609752116 = true
          · rw [if_pos q4, if_pos q4]
            rfl
          · rw [if_neg q4, if_neg q4]
            rfl
/-- a command that may come here -/
theorem p_cmd41 (fu : Nat) (hfu : 1000 ≤ fu) {c m : Mem} {T : Nat → Int} {L N n R C : Nat} {kd : Nat → Nat} {a b w : Nat → Int} {dp : Nat → Nat} {op : Nat → Nat → Nat} (hB : CBr c T L N n) (hG : GMr m T L n) (hn : n ≤ 700) (hS : SCR c m R C kd a b w dp op) {k : Nat} (hk : k ≤ 4) (hkk : kkP T L (tpo T L n) = 1) (h4 : k = 4 → dp R < 2) : OUTs (K_X8_readCommand_41 fu (zi (k : Int)) c) (bd (K_X12_command_33 fu (zi (k : Int)) m) (ySg fu (zi (dp R : Int)))) c m T L N n := by
  have hS' := hS
  obtain ⟨⟨⟨x1, x2, x3⟩, x4, x5⟩, ⟨⟨y1, y2, y3⟩, y4⟩, s3, s4, s5⟩ := hS'
  have i30 : (zi (C : Int) < (30 : Int32)) = ((C : Int) < 30) := zi_lt (b_ := 30) (by omega) (by omega) (by decide) (by decide)
  have j30 : (zi (C : Int) = (30 : Int32)) = ((C : Int) = 30) := zi_inj (b_ := 30) (by omega) (by omega) (by decide) (by decide)
  unfold K_X8_readCommand_41 K_X12_command_33
  rw [x2, y2]
  by_cases q : C = 30
  · rw [if_neg (fun h => by have := i30.mp h; omega), if_pos (j30.mpr (by omega))]
    obtain ⟨c4, m4, f1, f2, f3, f4, f5⟩ := p_fail fu hB hG (e := 6) ⟨by decide, by decide⟩ (fun h => by omega)
    have f1' : K_X9_fail fu 6 c = some (zi 0, c4) := f1
    have f2' : K_X12_wrong fu 6 m = some m4 := f2
    obtain ⟨e, p, hp, hE, hD⟩ := f3
    rw [f1', bd_s, f2', bd_s, b_48 fu hD, bd_s]
    exact OUTs_bad (R := R) (gb_zi _ (Or.inl rfl)) (b_ySg fu hD _) ⟨e, p, hp, hE, hD⟩ (FZc f4) (FZm f5)
  · have hC : C < 30 := by omega
    have hR : R < 60 := by omega
    have eC : zi (C : Int) + 1 = zi ((C + 1 : Nat) : Int) := zi_add (C : Int) 1
    rw [if_pos (i30.mpr (by omega)), if_neg (fun h => q (by have := j30.mp h; omega)), eC, ltf]
    obtain ⟨c1, hc1⟩ : ∃ c1, c1 = mw c 10 7 (zi ((C + 1 : Nat) : Int)) := ⟨_, rfl⟩
    have f1 : Fr (fun k j => k == 10 && j == 7) c c1 := by
      rw [hc1]
      exact Fr_mw _ _ rfl
    have f1n : ∀ k j, k ≠ 10 ∨ j ≠ 7 → (fun k j => k == 10 && j == 7 : Nat → Nat → Bool) k j = false := fun k j h => by
      simp only [Bool.and_eq_false_iff, beq_eq_false_iff_ne, ne_eq]
      omega
    have hA1 : CAr c1 T L N (n + 1) := CA_fr (CB_A hB) f1 (fun i j _ h => f1n i j (Or.inl (by omega)))
    obtain ⟨m1, hm1⟩ : ∃ m1, m1 = mw m 0 44 (zi ((C + 1 : Nat) : Int)) := ⟨_, rfl⟩
    have g1 : Fr (fun k j => k == 0 && j == 44) m m1 := by
      rw [hm1]
      exact Fr_mw _ _ rfl
    have g1n : ∀ k j, k ≠ 0 ∨ j ≠ 44 → (fun k j => k == 0 && j == 44 : Nat → Nat → Bool) k j = false := fun k j h => by
      simp only [Bool.and_eq_false_iff, beq_eq_false_iff_ne, ne_eq]
      omega
    have hG1 : GMr m1 T L n := GM_fr hG g1 (fun j hj => g1n 0 j (Or.inr (by omega))) (fun j => g1n 1 j (Or.inl (by decide)))
    obtain ⟨m2, h1, h2, h3⟩ := p_go fu hfu hG1
    have fm0' : ∀ j, 43 ≤ j → rd m2 0 j = rd m1 0 j := fun j hj => h3.1 _ _ (by unfold PGe; simp only [Bool.and_eq_false_iff, Bool.or_eq_false_iff, beq_eq_false_iff_ne, ne_eq, decide_eq_false_iff_not]; omega)
    have r43 : rd m2 0 43 = zi (R : Int) := (fm0' _ (by decide)).trans ((g1.1 _ _ (g1n _ _ (Or.inr (by decide)))).trans y1)
    have r44 : rd m2 0 44 = zi ((C + 1 : Nat) : Int) := (fm0' _ (by decide)).trans (by rw [hm1, rd_mw, if_pos ⟨rfl, rfl⟩])
    have r45 : rd m2 0 45 = zi (dp R : Int) := (fm0' _ (by decide)).trans ((g1.1 _ _ (g1n _ _ (Or.inr (by decide)))).trans y3)
    have hG2 : GMr (mw m2 16 R (zi (k : Int))) T L (n + 1) := GM_r h2 (k := 16) (by decide) R (zi (k : Int))
    have hM : CM1 c m c1 (mw m2 16 R (zi (k : Int))) R C k (dp R) := by
      refine ⟨by rw [hc1, rd_mw, if_pos ⟨rfl, rfl⟩], (f1.1 _ _ (f1n _ _ (Or.inr (by decide)))).trans x1, (f1.1 _ _ (f1n _ _ (Or.inr (by decide)))).trans x3, ?_, ?_, ⟨?_, ?_, ?_⟩, by rw [rd_mw, if_pos ⟨rfl, rfl⟩]⟩
      · rw [hc1]
        exact Fr_mw _ _ (by unfold PZr; rfl)
      · refine Fr_tr (Fr_tr (m2 := m1) ?_ (Fr_mono h3 (fun _ _ => PGe_Rw))) (FRw (by decide) (by decide) _)
        rw [hm1]
        exact F43 (by decide) (by decide) _
      · rw [rd_mw, if_neg (fun q => absurd q.1 (by decide))]
        exact r43
      · rw [rd_mw, if_neg (fun q => absurd q.1 (by decide))]
        exact r44
      · rw [rd_mw, if_neg (fun q => absurd q.1 (by decide))]
        exact r45
    unfold K_X12_command_48
    rw [g_isGood fu hG.2.1, bd_s, if_neg z10, y2, eC, ltf, ← hm1, ← hc1, h1, bd_s, r43, ltf, gi60 hR, ltf, cl60 hR]
    have hkc : k = 0 ∨ k = 1 ∨ k = 2 ∨ k = 3 ∨ k = 4 := by omega
    rcases hkc with e | e | e | e | e
    · rw [e] at hM hG2 ⊢
      rw [if_pos (show zi ((0 : Nat) : Int) = 0 from rfl), if_pos (show zi ((0 : Nat) : Int) = 0 from rfl)]
      have := p_step fu hfu hS hC hA1 hG2 (by omega) (show n ≤ n + 1 by omega) hM
      rw [cl60 hR] at this
      obtain ⟨o1, o2, o3, o4, o5, o6⟩ := OUTs_gb this
      refine ⟨o1, o2, o3, o4, o5, ?_⟩
      rcases o6 with ⟨z1, n', R', C', kd', a', b', w', dp', op', z2, z3⟩ | z1
      · exact Or.inl ⟨z1, n', R', C', kd', a', b', w', dp', op', by omega, z3⟩
      · exact Or.inr z1
    · rw [e] at hM hG2 ⊢
      rw [if_neg (by decide), if_pos (show zi ((1 : Nat) : Int) = 1 from rfl), if_neg (by decide)]
      exact OUTs_gb (p_wall fu hfu hS hC hA1 hG2 (by omega) (show n ≤ n + 1 by omega) hM)
    · rw [e] at hM hG2 ⊢
      rw [if_neg (by decide), if_neg (by decide), if_pos (show zi ((2 : Nat) : Int) = 2 from rfl), if_neg (by decide)]
      exact OUTs_gb (p_pass fu hfu hS hC hA1 hG2 (by omega) (show n ≤ n + 1 by omega) hM)
    · rw [e] at hM hG2 ⊢
      rw [if_neg (by decide), if_neg (by decide), if_neg (by decide), if_pos (show zi ((3 : Nat) : Int) = 3 from rfl), if_neg (by decide)]
      exact OUTs_gb (p_play fu hfu hS hC hA1 hG2 (by omega) (show n ≤ n + 1 by omega) hM)
    · rw [e] at hM hG2 ⊢
      rw [if_neg (by decide), if_neg (by decide), if_neg (by decide), if_neg (by decide), if_neg (by decide)]
      exact OUTs_gb (p_rept fu hfu hS hC (h4 e) hA1 hG2 (by omega) (show n ≤ n + 1 by omega) hM)
/-- a command -/
theorem p_cmd (fu : Nat) (hfu : 1000 ≤ fu) {c m : Mem} {T : Nat → Int} {L N n R C : Nat} {kd : Nat → Nat} {a b w : Nat → Int} {dp : Nat → Nat} {op : Nat → Nat → Nat} (hB : CBr c T L N n) (hG : GMr m T L n) (hn : n ≤ 700) (hS : SCR c m R C kd a b w dp op) : OUTs (K_X8_readCommand fu c) (bd (K_X12_command fu m) (ySg fu (zi (dp R : Int)))) c m T L N n := by
  have hS' := hS
  obtain ⟨⟨⟨x1, x2, x3⟩, x4, x5⟩, ⟨⟨y1, y2, y3⟩, y4⟩, s3, s4, s5⟩ := hS'
  have hd2 := (s3.2.2 R (Nat.le_refl R)).1
  obtain ⟨k1, k2, k3⟩ := kd_le T L (tpo T L n)
  have e1 : (zi (kdW T L (tpo T L n)) = (-1 : Int32)) = (kdW T L (tpo T L n) = -1) := zi_inj (b_ := -1) (by omega) (by omega) (by decide) (by decide)
  have e4 : (zi (kdW T L (tpo T L n)) = (4 : Int32)) = (kdW T L (tpo T L n) = 4) := zi_inj (b_ := 4) (by omega) (by omega) (by decide) (by decide)
  unfold K_X8_readCommand K_X12_command
  rw [c_kind fu hfu hB, bd_s, ltf, m_kind fu hG, bd_s]
  by_cases q : kdW T L (tpo T L n) = -1
  · rw [if_pos (e1.mpr q), if_pos (e1.mpr q)]
    obtain ⟨c4, m4, f1, f2, f3, f4, f5⟩ := p_fail fu hB hG (e := 1) ⟨by decide, by decide⟩ (fun _ => rfl)
    have f1' : K_X9_fail fu 1 c = some (zi 0, c4) := f1
    have f2' : K_X12_wrong fu 1 m = some m4 := f2
    obtain ⟨e, p, hp, hE, hD⟩ := f3
    rw [f1', bd_s, f2', bd_s, b_15 fu hD, bd_s]
    exact OUTs_bad (R := R) (gb_zi _ (Or.inl rfl)) (b_ySg fu hD _) ⟨e, p, hp, hE, hD⟩ (FZc f4) (FZm f5)
  · rw [if_neg (fun h => q (e1.mp h)), if_neg (fun h => q (e1.mp h))]
    obtain ⟨k, hk⟩ : ∃ k : Nat, kdW T L (tpo T L n) = k := ⟨(kdW T L (tpo T L n)).toNat, by omega⟩
    have hkk := k3 q
    unfold K_X12_command_15
    rw [hk] at e4 ⊢
    by_cases q4 : k = 4
    · rw [if_pos (e4.mpr (by omega)), if_pos (e4.mpr (by omega)), x3, y3]
      have i2 : (zi (dp R : Int) < (2 : Int32)) = ((dp R : Int) < 2) := zi_lt (b_ := 2) (by omega) (by omega) (by decide) (by decide)
      have j2 : (zi (dp R : Int) = (2 : Int32)) = ((dp R : Int) = 2) := zi_inj (b_ := 2) (by omega) (by omega) (by decide) (by decide)
      by_cases d2 : dp R = 2
      · rw [if_neg (fun h => by have := i2.mp h; omega), if_pos (j2.mpr (by omega))]
        obtain ⟨c4, m4, f1, f2, f3, f4, f5⟩ := p_fail fu hB hG (e := 3) ⟨by decide, by decide⟩ (fun h => by omega)
        have f1' : K_X9_fail fu 3 c = some (zi 0, c4) := f1
        have f2' : K_X12_wrong fu 3 m = some m4 := f2
        obtain ⟨e, p, hp, hE, hD⟩ := f3
        rw [f1', bd_s, f2', bd_s, b_33 fu hD, bd_s]
        exact OUTs_bad (R := R) (gb_zi _ (Or.inl rfl)) (b_ySg fu hD _) ⟨e, p, hp, hE, hD⟩ (FZc f4) (FZm f5)
      · rw [if_pos (i2.mpr (by omega)), if_neg (fun h => d2 (by have := j2.mp h; omega))]
        exact p_cmd41 fu hfu hB hG hn hS (by omega) hkk (fun _ => by omega)
    · rw [if_neg (fun h => q4 (by have := e4.mp h; omega)), if_neg (fun h => q4 (by have := e4.mp h; omega))]
      exact p_cmd41 fu hfu hB hG hn hS (by omega) hkk (fun h => absurd h q4)
end LOPM
