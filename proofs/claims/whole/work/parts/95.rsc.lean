section RSCM
theorem p_sloop (fu : Nat) (hfu : 1000 ≤ fu) {T : Nat → Int} {L N : Nat} : ∀ (r f g e x1 n : Nat) (c m : Mem) (R C : Nat) (kd : Nat → Nat) (a b w : Nat → Int) (dp : Nat → Nat) (op : Nat → Nat → Nat), n ≤ 700 → 701 ≤ n + r → r ≤ 701 → r + 1 < f → r + 1 < g → r + 1 < e → x1 ≤ n → CAr c T L N n → GMr m T L n → SCR c m R C kd a b w dp op → ∃ c2 m2, bd (K_X12_ends_0 fu e m) (fun m_11 => K_X12_runScript_19 fu g m_11) = K_X12_runScript_82 fu m2 ∧ Fr PZc c c2 ∧ Fr PZm m m2 ∧ ((K_X8_readCommands_24 fu f (zi (x1 : Int)) c = some (zi 1, c2) ∧ ENDr c2 m2 ∧ ∃ (R' C' : Nat) (kd' : Nat → Nat) (a' b' w' : Nat → Int) (dp' : Nat → Nat) (op' : Nat → Nat → Nat), SCR c2 m2 R' C' kd' a' b' w' dp' op' ∧ dp' R' = 0) ∨ (K_X8_readCommands_24 fu f (zi (x1 : Int)) c = some (zi 0, c2) ∧ EBr c2 m2)) := by
  intro r
  induction r with
  | zero =>
    intro f g e x1 n c m R C kd a b w dp op h700 hn
    exact absurd hn (by omega)
  | succ r ih =>
    intro f g e x1 n c m R C kd a b w dp op h700 hn hr hf hg he hx hA hG hS
    obtain ⟨f, rfl⟩ : ∃ k, f = k + 1 := ⟨f - 1, by omega⟩
    obtain ⟨g, rfl⟩ : ∃ k, g = k + 1 := ⟨g - 1, by omega⟩
    obtain ⟨e, rfl⟩ : ∃ k, e = k + 1 := ⟨e - 1, by omega⟩
    obtain ⟨c1, a1, hB, a3⟩ := p_adv fu hA (by omega)
    have hS1 := SCR_fr hS a3 (Fr_rf PGe m)
    have hS1' := hS1
    obtain ⟨⟨⟨x1', x2, x3⟩, x4, x5⟩, ⟨⟨y1, y2, y3⟩, y4⟩, s3, s4, s5⟩ := hS1'
    have hd2 := (s3.2.2 R (Nat.le_refl R)).1
    have hkk := kk_n T L n
    have i7 : ¬ ((700 : Int32) < zi (x1 : Int)) := by
      have : (zi 700 < zi (x1 : Int)) = ((700 : Int) < (x1 : Int)) := zi_lt (by decide) (by decide) (by omega) (by omega)
      exact fun h => absurd (this.mp h) (by omega)
    have h7 : (zi (kkP T L (tpo T L n) : Int) = (5 : Int32)) = ((kkP T L (tpo T L n) : Int) = 5) := zi_inj (b_ := 5) (by omega) (by omega) (by decide) (by decide)
    have d0 : (zi (dp R : Int) = (0 : Int32)) = ((dp R : Int) = 0) := zi_inj (b_ := 0) (by omega) (by omega) (by decide) (by decide)
    have dp0 : ((0 : Int32) < zi (dp R : Int)) = ((0 : Int) < (dp R : Int)) := zi_lt (a_ := 0) (by decide) (by decide) (by omega) (by omega)
    have hs := c_isSign fu hB (x := 41) ⟨by decide, by decide⟩
    have hs' : K_X9_isSign fu 41 c1 = _ := hs
    have hs2 := m_isSign fu hG (x := 41) ⟨by decide, by decide⟩
    have hs2' : K_X12_isSign fu 41 m = _ := hs2
    have ex : zi (x1 : Int) + 1 = zi ((x1 + 1 : Nat) : Int) := zi_add (x1 : Int) 1
    -- the class: to a command or to a bracket
    have c58 : K_X8_readCommands_58 fu (K_X8_readCommands_24 fu f) (zi (x1 : Int)) c1 = (if 0 < dp R ∧ sgB T L (tpo T L n) 41 = true then bd (K_X8_closeRepeat fu c1) (fun p_8 => (if p_8.1 = 0 then some (0, p_8.2) else (K_X8_readCommands_24 fu f (zi ((x1 + 1 : Nat) : Int)) p_8.2))) else bd (K_X8_readCommand fu c1) (fun p_7 => (if p_7.1 = 0 then some (0, p_7.2) else (K_X8_readCommands_24 fu f (zi ((x1 + 1 : Nat) : Int)) p_7.2)))) := by
      unfold K_X8_readCommands_58 K_X8_readCommands_81 K_X8_readCommands_82
      rw [x3, hs', bd_s, ex]
      by_cases q1 : 0 < dp R
      · rw [if_pos (dp0.mpr (by omega))]
        by_cases q2 : sgB T L (tpo T L n) 41 = true
        · rw [q2, if_neg (show ¬ zi (bi true) = 0 by decide), if_neg (show ¬ (1 : Int32) = 0 by decide), if_pos ⟨q1, rfl⟩]
        · rw [bo_f q2, if_pos (show zi (bi false) = 0 from rfl), if_pos (show (0 : Int32) = 0 from rfl), if_neg (fun h => absurd h.2 (by decide))]
      · rw [if_neg (fun h => q1 (by have := dp0.mp h; omega)), if_pos (show (0 : Int32) = 0 from rfl), if_neg (fun h => q1 h.1)]
    -- one more command or bracket, and on
    have go : ∀ (X : Option (Int32 × Mem)) (Y : Option Mem), OUTs X Y c1 m T L N n → ∀ g2 e2 : Nat, r + 1 < g2 → r + 1 < e2 → ∃ c2 m2, bd (bd Y (fun m_7 => K_X12_ends_0 fu e2 m_7)) (fun m_11 => K_X12_runScript_19 fu g2 m_11) = K_X12_runScript_82 fu m2 ∧ Fr PZc c c2 ∧ Fr PZm m m2 ∧ ((bd X (fun p_8 => (if p_8.1 = 0 then some (0, p_8.2) else (K_X8_readCommands_24 fu f (zi ((x1 + 1 : Nat) : Int)) p_8.2))) = some (zi 1, c2) ∧ ENDr c2 m2 ∧ ∃ (R' C' : Nat) (kd' : Nat → Nat) (a' b' w' : Nat → Int) (dp' : Nat → Nat) (op' : Nat → Nat → Nat), SCR c2 m2 R' C' kd' a' b' w' dp' op' ∧ dp' R' = 0) ∨ (bd X (fun p_8 => (if p_8.1 = 0 then some (0, p_8.2) else (K_X8_readCommands_24 fu f (zi ((x1 + 1 : Nat) : Int)) p_8.2))) = some (zi 0, c2) ∧ EBr c2 m2)) := fun X Y hO g2 e2 hg2 he2 => by
      obtain ⟨c2, m2, o1, o2, o3, o4⟩ := hO
      rw [o3, bd_s]
      rcases o4 with ⟨o5, n', R', C', kd', a', b', w', dp', op', z1, z2, z3, z4, z5⟩ | ⟨o5, o6⟩
      · rw [o5, bd_s, if_neg z10]
        obtain ⟨c3, m3, v1, v2, v3, v4⟩ := ih f g2 e2 (x1 + 1) n' c2 m2 R' C' kd' a' b' w' dp' op' z2 (by omega) (by omega) (by omega) hg2 he2 (by omega) z3 z4 z5
        exact ⟨c3, m3, v1, Fr_tr (Fr_tr (FZc a3) o1) v2, Fr_tr o2 v3, v4⟩
      · rw [o5, bd_s, if_pos z00]
        obtain ⟨er, p, hp, hE, hD⟩ := o6
        obtain ⟨g3, rfl⟩ : ∃ k, g2 = k + 1 := ⟨g2 - 1, by omega⟩
        obtain ⟨e3, rfl⟩ : ∃ k, e2 = k + 1 := ⟨e2 - 1, by omega⟩
        rw [b_ends fu hD, bd_s, b_19 fu hD]
        exact ⟨c2, m2, rfl, Fr_tr (FZc a3) o1, o2, Or.inr ⟨rfl, er, p, hp, hE, hD⟩⟩
    rw [ends_S, y3, K_X8_readCommands_24, if_neg i7, a1, bd_s, hB.2.1.2.1, x3, hs2', bd_s, c58]
    by_cases qc : 0 < dp R ∧ sgB T L (tpo T L n) 41 = true
    · have k3 := sg_k qc.2
      rw [if_pos (dp0.mpr (by omega)), qc.2, if_neg (show ¬ zi (bi true) = 0 by decide), if_neg (show ¬ (zi (kkP T L (tpo T L n) : Int) = (5 : Int32)) from fun h => by have := h7.mp h; omega), if_pos ⟨qc.1, rfl⟩]
      exact go _ _ (p_close fu hfu hB hG h700 hS1 qc.1) (g + 1) e (by omega) (by omega)
    · have hend : (if (0 : Int32) < zi (dp R : Int) then (if zi (bi (sgB T L (tpo T L n) 41)) = 0 then some m else bd (yCl fu m) (fun m_7 => K_X12_ends_0 fu e m_7)) else some m) = some m := by
        by_cases q1 : 0 < dp R
        · rw [if_pos (dp0.mpr (by omega)), bo_f (fun h => qc ⟨q1, h⟩), if_pos (show zi (bi false) = 0 from rfl)]
        · rw [if_neg (fun h => q1 (by have := dp0.mp h; omega))]
      rw [hend, bd_s, if_neg qc, K_X12_runScript_19, g_isGood fu hG.2.1, bd_s, if_neg z10, hG.1.2.2.2.1]
      by_cases q : kkP T L (tpo T L n) = 5
      · rw [if_pos (h7.mpr (by omega)), if_pos q, if_pos (show zi 0 = 0 from rfl)]
        unfold K_X12_runScript_63
        rw [g_isGood fu hG.2.1, bd_s, if_neg z10, y3]
        by_cases q1 : dp R = 0
        · rw [if_pos (d0.mpr (by omega)), if_neg (fun h => absurd (dp0.mp h) (by omega))]
          exact ⟨c1, m, rfl, FZc a3, Fr_rf _ _, Or.inl ⟨rfl, ⟨hB.2.2, hG.2⟩, R, C, kd, a, b, w, dp, op, hS1, q1⟩⟩
        · rw [if_neg (show ¬ (zi (dp R : Int) = (0 : Int32)) from fun h => q1 (by have := d0.mp h; omega)), if_pos (dp0.mpr (by omega))]
          -- the text ends within brackets
          obtain ⟨c4, m4, f1, f2, f3, f4, f5⟩ := p_fail fu hB hG (e := 1) ⟨by decide, by decide⟩ (fun _ => rfl)
          have f1' : K_X9_fail fu 1 c1 = some (zi 0, c4) := f1
          have f2' : K_X12_wrong fu 1 m = some m4 := f2
          have hkd : kdW T L (tpo T L n) = -1 := by
            by_cases hh : kdW T L (tpo T L n) = -1
            · exact hh
            · have := (kd_le T L (tpo T L n)).2.2 hh
              omega
          have hrc : K_X8_readCommand fu c1 = some (zi 0, c4) := by
            unfold K_X8_readCommand
            rw [c_kind fu hfu hB, bd_s, ltf, hkd, if_pos (show zi (-1) = -1 from rfl), f1', bd_s]
            exact gb_zi _ (Or.inl rfl)
          rw [hrc, bd_s, if_pos z00, f2', bd_s]
          exact ⟨c4, m4, rfl, Fr_tr (FZc a3) (FZc f4), FZm f5, Or.inr ⟨rfl, f3⟩⟩
      · have hne : ¬ (zi (kkP T L (tpo T L n) : Int) = 0) := by
          have : (zi (kkP T L (tpo T L n) : Int) = (0 : Int32)) = ((kkP T L (tpo T L n) : Int) = 0) := zi_inj (b_ := 0) (by omega) (by omega) (by decide) (by decide)
          exact fun h => absurd (this.mp h) (by omega)
        rw [if_neg (show ¬ (zi (kkP T L (tpo T L n) : Int) = (5 : Int32)) from fun h => q (by have := h7.mp h; omega)), if_neg q, if_neg hne, y3, ltf, run_S]
        have h56 : ∀ Y : Option Mem, bd Y (fun m_8 => K_X12_runScript_56 fu (K_X12_runScript_19 fu g) m_8) = bd (bd Y (fun m_7 => K_X12_ends_0 fu fu m_7)) (fun m_11 => K_X12_runScript_19 fu g m_11) := fun Y => by
          cases Y with
          | none => rfl
          | some m7 => rfl
        rw [h56]
        exact go _ _ (p_cmd fu hfu hB hG h700 hS1) g fu (by omega) (by omega)
/-- a script is read, in both -/
theorem p_script (fu : Nat) (hfu : 1000 ≤ fu) {c m : Mem} {T : Nat → Int} {L : Nat} (hX : TXc c T L) (hM : TXr m T L) : ∃ c2 m2, K_X12_runScript fu m = K_X12_runScript_82 fu m2 ∧ Fr (fun k j => PZc k j || PTk k j) c c2 ∧ Fr (fun k j => PZm k j || (k == 0 && (j == 2 || j == 3))) m m2 ∧ rd m2 0 2 = zi 0 ∧ ((K_X8_readCommands fu c = some (zi 1, c2) ∧ ENDr c2 m2 ∧ ∃ (R C : Nat) (kd : Nat → Nat) (a b w : Nat → Int) (dp : Nat → Nat) (op : Nat → Nat → Nat), SCR c2 m2 R C kd a b w dp op ∧ dp R = 0) ∨ (K_X8_readCommands fu c = some (zi 0, c2) ∧ EBr c2 m2)) := by
  obtain ⟨c1, hc1⟩ : ∃ c1, c1 = mw (mw (mw c 10 6 0) 10 7 0) 10 9 0 := ⟨_, rfl⟩
  have f1 : Fr (fun k _ => k == 10) c c1 := by
    rw [hc1]
    exact Fr_tr (Fr_tr (Fr_mw _ _ rfl) (Fr_mw _ _ rfl)) (Fr_mw _ _ rfl)
  have hX1 : TXc c1 T L := by
    obtain ⟨x1, x2, x3, x4⟩ := hX
    exact ⟨x1, x2, (f1.1 _ _ rfl).trans x3, fun i hi => (f1.1 _ _ rfl).trans (x4 i hi)⟩
  obtain ⟨c2, N, b1, b2, b3, b4, b5, b6, b7⟩ := c_beginT fu hfu hX1
  obtain ⟨m1, d1, d2, d3, d4⟩ := m_beginsText fu hfu hM
  obtain ⟨m2, hm2⟩ : ∃ m2, m2 = mw (mw (mw m1 0 43 0) 0 44 0) 0 45 0 := ⟨_, rfl⟩
  have g2 : Fr (fun k j => k == 0 && (decide (43 ≤ j) && decide (j ≤ 45))) m1 m2 := by
    rw [hm2]
    exact Fr_tr (Fr_tr (Fr_mw _ _ rfl) (Fr_mw _ _ rfl)) (Fr_mw _ _ rfl)
  have g2n : ∀ j, j < 43 → (fun k j => k == 0 && (decide (43 ≤ j) && decide (j ≤ 45)) : Nat → Nat → Bool) 0 j = false := fun j h => by
    simp only [Bool.and_eq_false_iff, beq_eq_false_iff_ne, ne_eq, decide_eq_false_iff_not]
    omega
  have hA : CAr c2 T L N 0 := by
    refine ⟨⟨b2, b3⟩, ?_, b5, b6⟩
    unfold PcA
    rw [b4, if_pos (Nat.zero_le _)]
    rfl
  have hG : GMr m2 T L 0 := GM_fr d2 g2 (fun j hj => g2n j (by omega)) (fun j => rfl)
  have c10 : ∀ j, rd c2 10 j = rd c1 10 j := fun j => b7.1 _ _ rfl
  have hS : SCR c2 m2 0 0 (fun _ => 0) (fun _ => 0) (fun _ => 0) (fun _ => 0) (fun _ => 0) (fun _ _ => 0) := by
    refine ⟨⟨⟨?_, ?_, ?_⟩, fun i hi => absurd hi (Nat.not_lt_zero i), fun k hk => absurd hk (Nat.not_lt_zero k)⟩, ⟨⟨?_, ?_, ?_⟩, fun i hi => absurd hi (Nat.not_lt_zero i)⟩, ⟨rfl, fun x hx => absurd hx (Nat.not_lt_zero x), fun x hx => ⟨Nat.zero_le 2, fun k hk => absurd hk (Nat.not_lt_zero k)⟩⟩, by decide, by decide⟩
    · rw [c10, hc1, rd_mw, if_neg (by decide), rd_mw, if_neg (by decide), rd_mw, if_pos ⟨rfl, rfl⟩]
      rfl
    · rw [c10, hc1, rd_mw, if_neg (by decide), rd_mw, if_pos ⟨rfl, rfl⟩]
      rfl
    · rw [c10, hc1, rd_mw, if_pos ⟨rfl, rfl⟩]
      rfl
    · rw [hm2, rd_mw, if_neg (by decide), rd_mw, if_neg (by decide), rd_mw, if_pos ⟨rfl, rfl⟩]
      rfl
    · rw [hm2, rd_mw, if_neg (by decide), rd_mw, if_pos ⟨rfl, rfl⟩]
      rfl
    · rw [hm2, rd_mw, if_pos ⟨rfl, rfl⟩]
      rfl
  obtain ⟨c3, m3, l1, l2, l3, l4⟩ := p_sloop fu hfu (T := T) (L := L) (N := N) 701 fu fu fu 0 0 c2 m2 0 0 (fun _ => 0) (fun _ => 0) (fun _ => 0) (fun _ => 0) (fun _ => 0) (fun _ _ => 0) (by decide) (by decide) (by decide) (by omega) (by omega) (by omega) (Nat.le_refl 0) hA hG hS
  have e0 : K_X12_ends_0 fu fu m2 = some m2 := by
    obtain ⟨k, rfl⟩ : ∃ k, fu = k + 1 := ⟨fu - 1, by omega⟩
    have r45 : rd m2 0 45 = 0 := by rw [hm2, rd_mw, if_pos ⟨rfl, rfl⟩]
    rw [K_X12_ends_0, r45, if_neg (by decide)]
  rw [e0, bd_s] at l1
  have hread : K_X8_readCommands fu c = K_X8_readCommands_24 fu fu (zi ((0 : Nat) : Int)) c2 := by
    unfold K_X8_readCommands
    rw [ltf, ltf, ltf, ← hc1, b1, bd_s]
    rfl
  refine ⟨c3, m3, ?_, ?_, ?_, ?_, ?_⟩
  · unfold K_X12_runScript
    rw [d1, bd_s, ltf, ltf, ltf, ← hm2]
    exact l1
  · refine Fr_tr (Fr_tr (Fr_mono f1 (fun k j h => ?_)) (Fr_mono b7 (fun k j h => (Bool.or_eq_false_iff.mp h).2))) (Fr_mono l2 (fun k j h => (Bool.or_eq_false_iff.mp h).1))
    have h1 := (Bool.or_eq_false_iff.mp h).1
    unfold PZc at h1
    simp only [Bool.or_eq_false_iff] at h1
    exact h1.2.1
  · refine Fr_tr (Fr_tr (Fr_mono d4 (fun k j h => ?_)) (Fr_mono g2 (fun k j h => ?_))) (Fr_mono l3 (fun k j h => (Bool.or_eq_false_iff.mp h).1))
    · have h1 := (Bool.or_eq_false_iff.mp h).1
      have h2 := (Bool.or_eq_false_iff.mp h).2
      unfold PZm at h1
      have h3 := (Bool.or_eq_false_iff.mp h1).1
      rw [h3, h2]
      rfl
    · have h1 := (Bool.or_eq_false_iff.mp h).1
      unfold PZm at h1
      exact (Bool.or_eq_false_iff.mp (Bool.or_eq_false_iff.mp h1).2).2
  · rw [l3.1 _ _ rfl, g2.1 _ _ (g2n 2 (by decide))]
    exact d3
  · rw [hread]
    exact l4
end RSCM
