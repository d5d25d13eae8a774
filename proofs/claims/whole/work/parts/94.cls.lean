section CLSM
def yCl (fu : Nat) (mem : Mem) : Option Mem := lt_ (mw mem 0 45 ((rd mem 0 45) - 1)) (fun m_2 => gi (rd m_2 0 43) 60 (lt_ (mw m_2 16 (Int32.toNatClampNeg (rd m_2 0 43)) 5) (fun m_4 => lt_ (mw m_4 0 43 ((rd m_4 0 43) + 1)) (fun m_5 => bd (K_X12_goOn fu m_5) (fun m_6 => K_X12_mustSign fu 59 m_6)))))
theorem bd_as {α β γ : Type} (x : Option α) (f : α → Option β) (g : β → Option γ) : bd (bd x f) g = bd x (fun a => bd (f a) g) := by
  cases x
  · rfl
  · rfl
theorem p_close (fu : Nat) (hfu : 1000 ≤ fu) {c m : Mem} {T : Nat → Int} {L N n R C : Nat} {kd : Nat → Nat} {a b w : Nat → Int} {dp : Nat → Nat} {op : Nat → Nat → Nat} (hB : CBr c T L N n) (hG : GMr m T L n) (hn : n ≤ 700) (hS : SCR c m R C kd a b w dp op) (hD : 0 < dp R) : OUTs (K_X8_closeRepeat fu c) (yCl fu m) c m T L N n := by
  have hS' := hS
  obtain ⟨⟨⟨x1, x2, x3⟩, x4, x5⟩, ⟨⟨y1, y2, y3⟩, y4⟩, s3, s4, s5⟩ := hS'
  have hd2 := (s3.2.2 R (Nat.le_refl R)).1
  have hR : R < 60 := by omega
  have hor := ((s3.2.2 R (Nat.le_refl R)).2 (dp R - 1) (by omega)).1
  obtain ⟨c1, hc1⟩ : ∃ c1, c1 = mw c 10 9 (zi ((dp R - 1 : Nat) : Int)) := ⟨_, rfl⟩
  have f1 : Fr (fun k j => k == 10 && j == 9) c c1 := by
    rw [hc1]
    exact Fr_mw _ _ rfl
  have f1n : ∀ k j, k ≠ 10 ∨ j ≠ 9 → (fun k j => k == 10 && j == 9 : Nat → Nat → Bool) k j = false := fun k j h => by
    simp only [Bool.and_eq_false_iff, beq_eq_false_iff_ne, ne_eq]
    omega
  have r9 : rd c1 10 9 = zi ((dp R - 1 : Nat) : Int) := by rw [hc1, rd_mw, if_pos ⟨rfl, rfl⟩]
  have eD : zi (dp R : Int) - 1 = zi ((dp R - 1 : Nat) : Int) := by
    rw [show (1 : Int32) = zi 1 from rfl, zi_sub]
    exact congrArg zi (by omega)
  have i0 : ¬ (zi ((dp R - 1 : Nat) : Int) < (0 : Int32)) := by
    have : (zi ((dp R - 1 : Nat) : Int) < (0 : Int32)) = (((dp R - 1 : Nat) : Int) < 0) := zi_lt (b_ := 0) (by omega) (by omega) (by decide) (by decide)
    rw [this]
    omega
  have i2 : zi ((dp R - 1 : Nat) : Int) < (2 : Int32) := by
    have : (zi ((dp R - 1 : Nat) : Int) < (2 : Int32)) = (((dp R - 1 : Nat) : Int) < 2) := zi_lt (b_ := 2) (by omega) (by omega) (by decide) (by decide)
    rw [this]
    omega
  have gD : ∀ o : Option (Int32 × Mem), gi (zi ((dp R - 1 : Nat) : Int)) 2 o = o := fun o => gi_zi (by omega) (by omega) (by decide)
  have cD : (zi ((dp R - 1 : Nat) : Int)).toNatClampNeg = dp R - 1 := by
    rw [zi_clamp (by omega) (by omega)]
    exact Int.toNat_natCast _
  have r16 : rd c1 16 (dp R - 1) = zi (op R (dp R - 1) : Int) := (f1.1 _ _ (f1n _ _ (Or.inl (by decide)))).trans (x5 _ (by omega))
  have r6 : rd c1 10 6 = zi (R : Int) := (f1.1 _ _ (f1n _ _ (Or.inr (by decide)))).trans x1
  obtain ⟨c2, a1, a2, a3, a4⟩ := c_addRow fu r6 hR 5 (op R (dp R - 1) : Int) 0 0
  have a1' : K_X8_addRow fu 5 (zi (op R (dp R - 1) : Int)) 0 0 c1 = some c2 := a1
  have hA2 : CAr c2 T L N (n + 1) := CA_fr (CA_fr (CB_A hB) f1 (fun i j _ h => f1n i j (Or.inl (by omega)))) a4 (fun k j _ h => PAr_ne (by omega) (by omega))
  have fcc2 : Fr PZc c c2 := by
    refine Fr_tr (Fr_mono f1 (fun k j h => ?_)) (Fr_mono a4 (fun k j h => ?_))
    · unfold PZc at h
      simp only [Bool.or_eq_false_iff, Bool.and_eq_false_iff, beq_eq_false_iff_ne, ne_eq, decide_eq_false_iff_not] at h
      exact f1n k j (by omega)
    · unfold PZc at h
      simp only [Bool.or_eq_false_iff, Bool.and_eq_false_iff, beq_eq_false_iff_ne, ne_eq, decide_eq_false_iff_not] at h
      exact PAr_ne (by omega) (by omega)
  obtain ⟨m1, hm1⟩ : ∃ m1, m1 = mw (mw (mw m 0 45 (zi ((dp R - 1 : Nat) : Int))) 16 R 5) 0 43 (zi ((R + 1 : Nat) : Int)) := ⟨_, rfl⟩
  have e43 : rd (mw m 0 45 (zi ((dp R - 1 : Nat) : Int))) 0 43 = zi (R : Int) := by
    rw [rd_mw, if_neg (by decide)]
    exact y1
  have e43b : rd (mw (mw m 0 45 (zi ((dp R - 1 : Nat) : Int))) 16 R 5) 0 43 = zi (R : Int) := by
    rw [rd_mw, if_neg (fun q => absurd q.1 (by decide))]
    exact e43
  have eR : zi (R : Int) + 1 = zi ((R + 1 : Nat) : Int) := zi_add (R : Int) 1
  have g1 : Fr (PRw R) m m1 := by
    rw [hm1]
    exact Fr_tr (Fr_tr (F43 (by decide) (by decide) _) (FRw (by decide) (by decide) _)) (F43 (by decide) (by decide) _)
  have hG1 : GMr m1 T L n := by
    refine GM_fr hG (P := fun k j => (k == 0 && decide (43 ≤ j)) || k == 16) ?_ (fun j hj => ?_) (fun j => rfl)
    · rw [hm1]
      exact Fr_tr (Fr_tr (Fr_mw _ _ rfl) (Fr_mw _ _ rfl)) (Fr_mw _ _ rfl)
    · rw [decide_eq_false (show ¬ 43 ≤ j by omega)]
      rfl
  obtain ⟨m2, h1, hG2, h3⟩ := p_go fu hfu hG1
  have hy : yCl fu m = K_X12_mustSign fu 59 m2 := by
    unfold yCl
    rw [y3, eD, ltf, e43, gi60 hR, ltf, cl60 hR, e43b, eR, ltf, ← hm1, h1, bd_s]
  have fm2 : Fr PZm m m2 := Fr_tr (Fr_mono g1 (fun _ _ => PRw_Zm)) (FZm h3)
  unfold K_X8_closeRepeat K_X8_closeRepeat_41
  rw [x3, eD, ltf, ← hc1, r9, if_neg i0, if_pos i2, gD, cD, r16, a1', bd_s, hy]
  refine OUTs_gb ?_
  rcases p_sign fu hfu hA2 hG2 (by omega) (x := 59) ⟨by decide, by decide⟩ with ⟨c3, m3, k1, k2, k3, k4, k5, k6, k7, k8⟩ | ⟨c3, m3, k1, k2, k3, k4, k5, k6, k7⟩
  · have k1' : K_X9_needSign fu 59 c2 = some (zi 1, c3) := k1
    have k5' : K_X12_mustSign fu 59 m2 = some m3 := k5
    have ht := tok_700 k2.1 (by rw [sg_k k3]; decide)
    have c3l : ∀ k j, 10 ≤ k → rd c3 k j = rd c2 k j := fun k j hk => k7.1 _ _ (by unfold P2t; simp only [Bool.and_eq_false_iff, beq_eq_false_iff_ne, ne_eq]; omega)
    have c2l : ∀ k j, ¬ (k = 10 ∧ (j = 6 ∨ j = 9)) → ¬ (11 ≤ k ∧ k ≤ 14 ∧ j = R) → rd c2 k j = rd c k j := fun k j q1 q2 => (a4.1 _ _ (PAr_ne (by omega) q2)).trans (f1.1 _ _ (f1n _ _ (by omega)))
    have m3l : ∀ k j, 16 ≤ k → rd m3 k j = rd m1 k j := fun k j hk => (k8.1 _ _ (by unfold PGe; simp only [Bool.and_eq_false_iff, beq_eq_false_iff_ne, ne_eq]; omega)).trans (h3.1 _ _ (by unfold PGe; simp only [Bool.and_eq_false_iff, beq_eq_false_iff_ne, ne_eq]; omega))
    have m30 : ∀ j, 43 ≤ j → rd m3 0 j = rd m1 0 j := fun j hj => (k8.1 _ _ (by unfold PGe; simp only [Bool.and_eq_false_iff, Bool.or_eq_false_iff, beq_eq_false_iff_ne, ne_eq, decide_eq_false_iff_not]; omega)).trans (h3.1 _ _ (by unfold PGe; simp only [Bool.and_eq_false_iff, Bool.or_eq_false_iff, beq_eq_false_iff_ne, ne_eq, decide_eq_false_iff_not]; omega))
    refine ⟨c3, m3, Fr_tr fcc2 (FZc k7), Fr_tr fm2 (FZm k8), k5', Or.inl ⟨k1', n + 1 + 1, R + 1, C, upN kd R 5, upN a R (op R (dp R - 1) : Int), upN b R 0, upN w R 0, upN dp (R + 1) (dp R - 1), upN op (R + 1) (op R), by omega, by omega, CB_A k2, k6, ⟨⟨⟨?_, ?_, ?_⟩, fun i hi => ?_, fun kk hkk => ?_⟩, ?_, ?_, by omega, ?_⟩⟩⟩
    · rw [c3l _ _ (by decide)]
      exact a2
    · rw [c3l _ _ (by decide), c2l _ _ (by omega) (by omega)]
      exact x2
    · rw [c3l _ _ (by decide), a4.1 _ _ (PAr_ne (by omega) (by omega)), r9, upN_eq]
    · by_cases q : i = R
      · rw [q, upN_eq, upN_eq, upN_eq, upN_eq, c3l _ _ (by decide), c3l _ _ (by decide), c3l _ _ (by decide), c3l _ _ (by decide)]
        exact ⟨a3.1, a3.2.1, fun _ => a3.2.2.1, fun _ => a3.2.2.2⟩
      · rw [upN_ne q, upN_ne q, upN_ne q, upN_ne q]
        obtain ⟨t1, t2, t3, t4⟩ := x4 i (by omega)
        have cl : ∀ k, 11 ≤ k → rd c3 k i = rd c k i := fun k hk => (c3l _ _ (by omega)).trans (c2l _ _ (by omega) (by omega))
        exact ⟨(cl _ (by decide)).trans t1, (cl _ (by decide)).trans t2, fun h => (cl _ (by decide)).trans (t3 h), fun h => (cl _ (by decide)).trans (t4 h)⟩
    · rw [upN_eq] at hkk ⊢
      rw [c3l _ _ (by decide), c2l _ _ (by omega) (by omega)]
      exact x5 kk (by omega)
    · rw [upN_eq]
      refine SRm_add ⟨⟨y1, y2, y3⟩, y4⟩ ?_ ?_ ?_ ?_ (fun k j a1 a2 a3 => (m3l k j a1).trans (g1.1 _ _ (PRw_row a1 a3)))
      · rw [m30 _ (by decide), hm1, rd_mw, if_pos ⟨rfl, rfl⟩]
      · rw [m30 _ (by decide), hm1, rd_mw, if_neg (by decide), rd_mw, if_neg (fun q => absurd q.1 (by decide)), rd_mw, if_neg (by decide)]
        exact y2
      · rw [m30 _ (by decide), hm1, rd_mw, if_neg (by decide), rd_mw, if_neg (fun q => absurd q.1 (by decide)), rd_mw, if_pos ⟨rfl, rfl⟩]
      · rw [m3l _ _ (by decide), hm1, rd_mw, if_neg (fun q => absurd q.1 (by decide)), rd_mw, if_pos ⟨rfl, rfl⟩]
        exact ⟨rfl, fun h => by omega, fun h => by omega, fun h => by omega⟩
    · exact WF_add s3 (by omega) (fun h => absurd h (by decide)) (fun h => absurd h (by decide)) (fun h => absurd h (by decide)) (fun h => absurd h (by decide)) (fun _ => ⟨hD, rfl, rfl, fun i hi => rfl⟩) (fun h => absurd h (by decide))
    · rw [upN_eq]
      omega
  · have k1' : K_X9_needSign fu 59 c2 = some (zi 0, c3) := k1
    have k4' : K_X12_mustSign fu 59 m2 = some m3 := k4
    exact OUTs_bad (R := R) k1' k4' k5 (Fr_tr fcc2 (FZc k6)) (Fr_tr fm2 (FZm k7))
theorem b_ends (fu : Nat) {m : Mem} {e p : Int} (h : BDr m e p) (n : Nat) : K_X12_ends_0 fu (n + 1) m = some m := by
  rw [K_X12_ends_0]
  by_cases q : 0 < rd m 0 45
  · have e41 : K_X12_isSign fu 41 m = some (zi 0) := b_isSign fu h _
    rw [if_pos q, e41, bd_s, if_pos z00]
  · rw [if_neg q]
theorem b_19 (fu : Nat) {m : Mem} {e p : Int} (h : BDr m e p) (n : Nat) : K_X12_runScript_19 fu (n + 1) m = K_X12_runScript_82 fu m := by
  rw [K_X12_runScript_19, b_isGood fu h, bd_s, if_pos z00]
  unfold K_X12_runScript_63
  rw [b_isGood fu h, bd_s, if_pos z00]
theorem ends_S (fu : Nat) (n : Nat) (m : Mem) : K_X12_ends_0 fu (n + 1) m = (if 0 < rd m 0 45 then bd (K_X12_isSign fu 41 m) (fun x_1 => if x_1 = 0 then some m else bd (yCl fu m) (fun m_7 => K_X12_ends_0 fu n m_7)) else some m) := by
  rw [K_X12_ends_0]
  unfold yCl
  by_cases q : 0 < rd m 0 45
  · rw [if_pos q, if_pos q]
    refine congrArg (bd (K_X12_isSign fu 41 m)) (funext fun x => ?_)
    by_cases q2 : x = 0
    · rw [if_pos q2, if_pos q2]
    · rw [if_neg q2, if_neg q2]
      have eg : ∀ (i : Int32) (o : Option Mem) (g : Mem → Option Mem), bd (gi i 60 o) g = gi i 60 (bd o g) := fun i o g => by
        unfold gi
        split <;> rfl
      simp only [ltf, eg, bd_as]
  · rw [if_neg q, if_neg q]
theorem run_S (fu : Nat) (x6 : Int32) (A : Option Mem) (k : Mem → Option (Int32 × Mem)) : bd A (fun m_7 => (if (rd m_7 0 45) = x6 then bd (K_X12_mustSign fu 59 m_7) (fun m_8 => k m_8) else k m_7)) = bd (bd A (ySg fu x6)) k := by
  cases A with
  | none => rfl
  | some m7 =>
    rw [bd_s, bd_s]
    unfold ySg
    by_cases q : rd m7 0 45 = x6
    · rw [if_pos q, if_pos q]
    · rw [if_neg q, if_neg q, bd_s]
end CLSM
