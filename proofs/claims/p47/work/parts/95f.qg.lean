section QGG
def stBan (p k d : Nat) (q : Nat → Nat) : List Nat := [98, 97, 110] ++ ([32] ++ (nmL p ++ ([32] ++ stBr k d q)))
theorem PBr_Bn {b : Nat} {c c2 : Mem} (f : Fr (PBr b) c c2) : Fr (PBn b) c c2 := Fr_mono f (fun k j h => by
  unfold PBn at h
  have h1 := Bool.or_eq_false_iff.mp h
  have h2 := Bool.or_eq_false_iff.mp h1.2
  have h3 := Bool.or_eq_false_iff.mp h2.2
  unfold PBr PB1
  rw [h1.1, h2.1, h3.1]
  rfl)
theorem RC_bn {c1 c : Mem} {s : Nat → Int} {b : Nat} {g : Nat → Int} (h1 : Fr (PBn b) c1 c) (x1 : RC c1 1 s) (hb : b < 12) (h6 : s 6 = b) (h4 : rd c (pRace 1) 4 = zi (s 6 + 1)) (hrn : RN c 1 (rwB s b g) b) : RC c 1 (up1 (rwB s b g) 6 (s 6 + 1)) := by
  have hs2 : ∀ j, j ≠ 6 → j < 36 + 7 * b ∨ 43 + 7 * b ≤ j → up1 (rwB s b g) 6 (s 6 + 1) j = s j := fun j a q => (up1_ne a).trans (rw_ne q)
  have hbg : ∀ a k : Int, 0 ≤ a → 0 ≤ k → bg (up1 (rwB s b g) 6 (s 6 + 1)) a k = bg (rwB s b g) a k := fun a k p q => up1_ne (by omega)
  have nP : ∀ k j, (57 ≤ k → k < 79 → k ≠ pBan 1 b → ¬ (k = pRace 1 ∧ j = 4) → PBn b k j = false) := fun k j a1 a2 a3 a4 => PBn_ne (by omega) (by omega) a3 a4
  obtain ⟨w1, ⟨w2, w3, w4, w5, w6⟩, w7, w8⟩ := x1
  refine ⟨RB_cg (s1 := s) (hs2 0 (by decide) (by omega)).symm (hs2 1 (by decide) (by omega)).symm (hs2 3 (by decide) (by omega)).symm (fun j hj => (hs2 j (by omega) (by omega)).symm) (RB_fr2 h1 (fun j => nP _ _ (by unfold pBoard; omega) (by unfold pBoard; omega) (by unfold pBoard pBan; omega) (by unfold pBoard pRace; omega)) (fun j => nP _ _ (by unfold pBuilt; omega) (by unfold pBuilt; omega) (by unfold pBuilt pBan; omega) (by unfold pBuilt pRace; omega)) (fun j => nP _ _ (by unfold pOpen; omega) (by unfold pOpen; omega) (by unfold pOpen pBan; omega) (by unfold pOpen pRace; omega)) w1), ⟨?_, ?_, ?_, ?_, ?_⟩, fun i hi hi2 => ?_, fun a ha ha2 => ?_⟩
  · rw [hs2 2 (by decide) (by omega)]
    exact (h1.1 _ _ (nP _ _ (by unfold pRace; omega) (by unfold pRace; omega) (by unfold pRace pBan; omega) (by omega))).trans w2
  · rw [up1_eq]
    exact h4
  · rw [hs2 4 (by decide) (by omega)]
    exact (h1.1 _ _ (nP _ _ (by unfold pRace; omega) (by unfold pRace; omega) (by unfold pRace pBan; omega) (by omega))).trans w4
  · rw [hs2 7 (by decide) (by omega)]
    exact (h1.1 _ _ (nP _ _ (by unfold pRace; omega) (by unfold pRace; omega) (by unfold pRace pBan; omega) (by omega))).trans w5
  · rw [hs2 5 (by decide) (by omega)]
    exact (h1.1 _ _ (nP _ _ (by unfold pRace; omega) (by unfold pRace; omega) (by unfold pRace pBan; omega) (by omega))).trans w6
  · rw [hs2 2 (by decide) (by omega)] at hi2
    exact RP_cg (s1 := s) (fun k k0 k6 => (hs2 _ (by omega) (by omega)).symm) (RP_fr2 h1 (fun j => nP _ _ (by unfold pPawn; omega) (by unfold pPawn; omega) (by unfold pPawn pBan; omega) (by unfold pPawn pRace; omega)) (w7 i hi hi2))
  · rw [up1_eq] at ha2
    by_cases e : a = b
    · rw [e]
      exact RN_cg (s1 := rwB s b g) (fun k k0 k6 => (hbg _ _ (by omega) k0).symm) hrn
    · refine RN_cg (s1 := s) (fun k k0 k6 => ?_) (RN_fr2 h1 (fun j => nP _ _ (by unfold pBan; omega) (by unfold pBan; omega) (by unfold pBan; omega) (by unfold pBan pRace; omega)) (w8 a ha (by omega)))
      rw [hbg _ _ (by omega) k0, rw_bo (by omega) ⟨k0, k6⟩ (by omega)]
theorem InvR_bn {s : Nat → Int} {b : Nat} {g : Nat → Int} (hI : InvR s) (hb : b < 12) (h6 : s 6 = b) (hbn : bnO (rwB s b g) b) : InvR (up1 (rwB s b g) 6 (s 6 + 1)) := by
  have hs2 : ∀ j, j ≠ 6 → j < 36 + 7 * b ∨ 43 + 7 * b ≤ j → up1 (rwB s b g) 6 (s 6 + 1) j = s j := fun j a q => (up1_ne a).trans (rw_ne q)
  have hbg : ∀ a k : Int, 0 ≤ a → 0 ≤ k → bg (up1 (rwB s b g) 6 (s 6 + 1)) a k = bg (rwB s b g) a k := fun a k p q => up1_ne (by omega)
  refine InvR_ban hI hb h6 hs2 (up1_eq _ _ _) ?_
  unfold bnO at hbn ⊢
  have e0 : up1 (rwB s b g) 6 (s 6 + 1) 0 = rwB s b g 0 := up1_ne (by decide)
  have e1 : up1 (rwB s b g) 6 (s 6 + 1) 1 = rwB s b g 1 := up1_ne (by decide)
  have e2 : up1 (rwB s b g) 6 (s 6 + 1) 2 = rwB s b g 2 := up1_ne (by decide)
  rw [hbg _ _ (by omega) (by decide), hbg _ _ (by omega) (by decide), hbg _ _ (by omega) (by decide), hbg _ _ (by omega) (by decide), hbg _ _ (by omega) (by decide), hbg _ _ (by omega) (by decide), hbg _ _ (by omega) (by decide), isCl_cg e0 e1, isCl_cg e0 e1, e2]
  exact hbn
/-- what a ban's numbers keep -/
def bnQ (s : Nat → Int) (k : Nat) (q : Nat → Nat) : Prop := (k = 2 → (2 ≤ q 3 ∧ q 3 ≤ 5) ∧ q 4 < q 3) ∧ (k = 3 → ((q 3 : Int) < s 0 ∧ q 3 < 10) ∧ ((q 4 : Int) < s 1 ∧ q 4 < 10) ∧ ((q 5 : Int) < s 0 ∧ q 5 < 10) ∧ ((q 6 : Int) < s 1 ∧ q 6 < 10))
theorem bnO_q {s : Nat → Int} {b p k d : Nat} {q : Nat → Nat} (hp : (p : Int) < s 2) (hk : k < 4) (hd : d < 4) (hq : bnQ s k q) : bnO (rwB s b (gBr p k d q)) b := by
  have v0 : bg (rwB s b (gBr p k d q)) (b : Int) 0 = (p : Int) := rw_bg (k := 0) (by decide)
  have v1 : bg (rwB s b (gBr p k d q)) (b : Int) 1 = (k : Int) := rw_bg (k := 1) (by decide)
  have v2 : bg (rwB s b (gBr p k d q)) (b : Int) 2 = (d : Int) := rw_bg (k := 2) (by decide)
  have v3 : bg (rwB s b (gBr p k d q)) (b : Int) 3 = (q 3 : Int) := rw_bg (k := 3) (by decide)
  have v4 : bg (rwB s b (gBr p k d q)) (b : Int) 4 = (q 4 : Int) := rw_bg (k := 4) (by decide)
  have v5 : bg (rwB s b (gBr p k d q)) (b : Int) 5 = (q 5 : Int) := rw_bg (k := 5) (by decide)
  have v6 : bg (rwB s b (gBr p k d q)) (b : Int) 6 = (q 6 : Int) := rw_bg (k := 6) (by decide)
  have s0 : rwB s b (gBr p k d q) 0 = s 0 := rw_ne (by omega)
  have s1 : rwB s b (gBr p k d q) 1 = s 1 := rw_ne (by omega)
  have s2 : rwB s b (gBr p k d q) 2 = s 2 := rw_ne (by omega)
  obtain ⟨q2, q3⟩ := hq
  unfold bnO
  rw [v0, v1, v2, v3, v4, v5, v6, s2]
  refine ⟨by omega, by omega, fun h => ?_, fun h => ?_⟩
  · have := q2 (by omega)
    omega
  · have := q3 (by omega)
    exact ⟨by omega, isCl_iff.mpr ⟨by rw [s0]; omega, by rw [s1]; omega⟩, isCl_iff.mpr ⟨by rw [s0]; omega, by rw [s1]; omega⟩⟩
theorem r_ban {fu : Nat} (hfu : 1000 ≤ fu) {c : Mem} {T : Nat → Int} {L N n j : Nat} {s : Nat → Int} {u : Nat} {b1 b2 : Bool} {w0 : Int} {nm : Nat → Nat} (hR : RSx c T L N n j s u b1 b2 w0 nm) (hI : InvR s) (hu4 : u ≤ 4) {b p k d : Nat} {q : Nat → Nat} (hb : b < 12) (h6 : s 6 = b) (hp : p < u) (hk : k < 4) (hd : d < 4) (hq : bnQ s k q) (hT : TXl T j (stBan p k d q)) (hl : j + (stBan p k d q).length ≤ L) {f i : Nat} (hi : i ≤ 600) : ∃ c2 n2, K_X7_readRace_31 fu (f + 1) (zi (i : Int)) c = K_X7_readRace_31 fu f (zi ((i + 1 : Nat) : Int)) c2 ∧ RSx c2 T L N n2 (j + (stBan p k d q).length) (up1 (rwB s b (gBr p k d q)) 6 (s 6 + 1)) u b1 b2 w0 nm ∧ InvR (up1 (rwB s b (gBr p k d q)) 6 (s 6 + 1)) ∧ Fr PSc c c2 := by
  obtain ⟨⟨hA, hE, hnj, hjL, hL⟩, hRC, hF, hN, hu⟩ := hR
  obtain ⟨n1, ⟨n2, n2'⟩, n3⟩ := nmL_ok (u := p) (by omega)
  have hz := hI.1.1.1
  have len : (stBan p k d q).length = 5 + (nmL p).length + (stBr k d q).length := by
    unfold stBan
    rw [List.length_append, List.length_append, List.length_append, List.length_append]
    show 3 + (1 + ((nmL p).length + (1 + (stBr k d q).length))) = _
    omega
  rw [len] at hl ⊢
  have T1 := (TXl_app _ _ _).mp hT
  have T2 := (TXl_app _ _ _).mp T1.2
  have T3 := (TXl_app _ _ _).mp T2.2
  have T4 := (TXl_app _ _ _).mp T3.2
  obtain ⟨k1, k2, k3, k4, k5⟩ := tk_w hE T1.1 T2.1.1 (by decide) (by decide) (by decide) (by show j + 3 < L; omega)
  have k5' : Epo T L (n + 1) (j + 3 + 1) := Epo_ws k5 (ws := [32]) T2.1 (by decide) (by show j + 3 + 1 ≤ L; omega)
  obtain ⟨a1, a2, a3, a4, a5⟩ := tk_w k5' T3.1 T4.1.1 n1 ⟨n2, by omega⟩ (by decide) (by show j + 3 + 1 + (nmL p).length < L; omega)
  have a5' : Epo T L (n + 1 + 1) (j + 3 + 1 + (nmL p).length + 1) := Epo_ws a5 (ws := [32]) T4.1 (by decide) (by show j + 3 + 1 + (nmL p).length + 1 ≤ L; omega)
  have TB : TXl T (j + 3 + 1 + (nmL p).length + 1) (stBr k d q) := T4.2
  rw [← k1] at k2 k4
  rw [← a1] at a2 a4
  -- the class
  obtain ⟨c1, r1, hB, r3⟩ := r_open (fu := fu) hA (by omega) (f := f) (k := i) (by omega) k2
  have hdp := r_disp hfu hB k2 (V := 2094) (by rw [k4]; decide)
  rw [if_neg (by decide), if_neg (by decide), if_neg (by decide), if_pos rfl] at hdp
  have hR1 : RC c1 1 s := RC_1 hRC r3 (fun k j h1 h2 => P2_no (by omega))
  have hN1 := NMc_fr hN r3 (fun j => ⟨P2_no (by decide), P2_no (by decide)⟩)
  have hF1 := FLc_fr hF r3 (fun j _ _ => P2_no (by decide))
  obtain ⟨c2, e1, hB2, e3⟩ := p_adv fu (CB_A hB) (by omega)
  have hR2 : RC c2 1 s := RC_1 hR1 e3 (fun k j h1 h2 => P2_no (by omega))
  have hN2 := NMc_fr hN1 e3 (fun j => ⟨P2_no (by decide), P2_no (by decide)⟩)
  have hF2 := FLc_fr hF1 e3 (fun j _ _ => P2_no (by decide))
  have eW : nmW T L (tpo T L (n + 1)) = nmV p := a4.trans n3
  have who : ∀ {cc : Mem}, CBr cc T L N (n + 1) → NMc cc T L u nm → rd cc (pRace 1) 2 = zi (u : Int) → K_X7_pawnNamed fu cc = some (zi (p : Int)) := fun hb hn h2 => by
    obtain ⟨v, v1, v2⟩ := g_named hfu hb a2 hn hu4 h2
    rcases v2 with ⟨_, q⟩ | ⟨x, i1, i2, i3⟩
    · exact absurd eW.symm (q p hp)
    · rw [eW] at i3
      have := nmV_inj (by omega) (by omega) i3
      rw [v1, i2, this]
  have v1 := who hB2 hN2 (by rw [hR2.2.1.1, hu])
  have evn : (zi (p : Int) = (-1 : Int32)) = ((p : Int) = -1) := zi_inj (b_ := -1) (by omega) (by omega) (by decide) (by decide)
  have hname : K_X7_readName fu 1 c1 = some (1, c2) := by
    unfold K_X7_readName
    rw [e1, bd_s, hB2.2.1.2.1, a2, if_pos (show zi ((1 : Nat) : Int) = 1 from rfl), v1, bd_s]
    unfold K_X7_readName_41
    rw [if_neg (fun h => by have := evn.mp h; omega), if_pos (show (1 : Int32) = 1 from rfl)]
    rfl
  obtain ⟨c3, hc3⟩ : ∃ c3, c3 = mw c2 (pRace 1) 4 (zi (s 6 + 1)) := ⟨_, rfl⟩
  have f3 : Fr (fun k j => k == pRace 1 && j == 4) c2 c3 := by
    rw [hc3]
    exact Fr_mw _ _ (by simp)
  have f3n : ∀ k j, k ≠ pRace 1 ∨ j ≠ 4 → (fun k j => k == pRace 1 && j == 4 : Nat → Nat → Bool) k j = false := fun k j h => by
    simp only [Bool.and_eq_false_iff, beq_eq_false_iff_ne, ne_eq]
    exact h
  have hB3 : CBr c3 T L N (n + 1) := CB_fr hB2 f3 (fun k j h1 h2 => f3n k j (Or.inl (by unfold pRace; omega)))
  have v3 := who hB3 (NMc_fr hN2 f3 (fun j => ⟨f3n _ _ (Or.inl (by unfold pRace; omega)), f3n _ _ (Or.inl (by unfold pRace; omega))⟩)) (by rw [f3.1 _ _ (f3n _ _ (Or.inr (by decide))), hR2.2.1.1, hu])
  obtain ⟨c4, hc4⟩ : ∃ c4, c4 = mw c3 (pBan 1 b) 0 (zi (p : Int)) := ⟨_, rfl⟩
  have f4 : Fr (fun k _ => k == pBan 1 b) c3 c4 := by
    rw [hc4]
    exact Fr_mw _ _ (by simp)
  have f4n : ∀ k j, k ≠ pBan 1 b → (fun k _ => k == pBan 1 b : Nat → Nat → Bool) k j = false := fun k j h => by
    simp only [beq_eq_false_iff_ne, ne_eq]
    exact h
  have hA4 : CAr c4 T L N (n + 1 + 1) := CA_fr (CB_A hB3) f4 (fun k j h1 h2 => f4n k j (by unfold pBan; omega))
  have hp0 : rd c4 (pBan 1 b) 0 = zi (p : Int) := by rw [hc4, rd_mw, if_pos ⟨rfl, rfl⟩]
  have h44 : rd c4 (pRace 1) 4 = zi (s 6 + 1) := by rw [f4.1 _ _ (f4n (pRace 1) 4 (by unfold pRace pBan; omega)), hc3, rd_mw, if_pos ⟨rfl, rfl⟩]
  have hrule : ∃ c5 n5, tlN fu b c4 = some (zi 1, c5) ∧ CAr c5 T L N n5 ∧ Epo T L n5 (j + 3 + 1 + (nmL p).length + 1 + (stBr k d q).length) ∧ n5 ≤ j + 3 + 1 + (nmL p).length + 1 + (stBr k d q).length ∧ Fr (PBr b) c4 c5 ∧ RN c5 1 (rwB s b (gBr p k d q)) b := by
    rcases (show (k = 0 ∨ k = 1) ∨ k = 2 ∨ k = 3 by omega) with h | rfl | rfl
    · exact g_rule01 hfu hA4 a5' (by omega) hL hp0 h TB (by omega)
    · obtain ⟨x3, x4⟩ := hq.1 rfl
      exact g_rule2 hfu hA4 a5' (by omega) hL hp0 hd x3 x4 TB (by omega)
    · obtain ⟨x3, x4, x5, x6⟩ := hq.2 rfl
      have bB : ∀ j, rd c4 (pBoard 1) j = rd c2 (pBoard 1) j := fun j => (f4.1 _ _ (f4n _ j (by unfold pBoard pBan; omega))).trans (f3.1 _ _ (f3n _ _ (Or.inl (by unfold pBoard pRace; omega))))
      exact g_rule3 hfu hA4 a5' (by omega) hL hz ((bB 0).trans hR2.1.1) ((bB 1).trans hR2.1.2.1) hp0 hd x3 x4 x5 x6 TB (by omega)
  obtain ⟨c5, n5, t1, t2, t3, t4, t5, t6⟩ := hrule
  have i0 : (zi (s 6) < (0 : Int32)) = (s 6 < 0) := zi_lt (b_ := 0) (by omega) (by omega) (by decide) (by decide)
  have i12 : (zi (s 6) < (12 : Int32)) = (s 6 < 12) := zi_lt (b_ := 12) (by omega) (by omega) (by decide) (by decide)
  have ib : (zi (b : Int)).toNatClampNeg = b := by
    rw [zi_clamp (by omega) (by omega)]
    exact Int.toNat_natCast b
  have hbd : K_X7_readBan fu c1 = some (zi 1, c5) := by
    rw [← t1, hc4, hc3]
    unfold K_X7_readBan
    have v3' : K_X7_pawnNamed fu (mw c2 (pRace 1) 4 (zi (s 6 + 1))) = some (zi (p : Int)) := by
      rw [← hc3]
      exact v3
    have r62 : rd c2 (pRace 1) 4 = zi (b : Int) := by rw [hR2.2.1.2.1, h6]
    rw [hR1.2.1.2.1, if_neg (fun h => by have := i0.mp h; omega), if_pos (i12.mpr (by omega)), hname, bd_s]
    dsimp only
    rw [if_neg (show ¬ (1 : Int32) = 0 by decide), r62, gi_zi (by omega) (by omega) (by decide), ltf, ib, show zi (b : Int) + 1 = zi (s 6 + 1) by rw [h6]; exact zi_add (b : Int) 1, v3', bd_s, ltf]
    rfl
  have fBn : Fr (PBn b) c2 c5 := Fr_tr (Fr_tr (Fr_mono f3 (fun k j h => by
    unfold PBn at h
    exact (Bool.or_eq_false_iff.mp (Bool.or_eq_false_iff.mp (Bool.or_eq_false_iff.mp h).2).2).2)) (Fr_mono f4 (fun k j h => by
    unfold PBn at h
    exact (Bool.or_eq_false_iff.mp (Bool.or_eq_false_iff.mp (Bool.or_eq_false_iff.mp h).2).2).1))) (PBr_Bn t5)
  have hs2 : up1 (rwB s b (gBr p k d q)) 6 (s 6 + 1) 2 = s 2 := (up1_ne (by decide)).trans (rw_ne (by omega))
  have fn : ∀ k j, (7 ≤ k ∧ k ≤ 9) → j ≠ 8 ∨ k ≠ 7 → PBn b k j = false := fun k j h h2 => PBn_ne (by omega) (by omega) (by unfold pBan; omega) (by unfold pRace; omega)
  refine ⟨c5, n5, ?_, ⟨⟨t2, ?_, by omega, by omega, hL⟩, RC_bn fBn hR2 hb h6 ?_ t6, FLc_fr hF2 fBn (fun j h1 h2 => fn 7 j (by omega) (Or.inl (by omega))), NMc_fr hN2 fBn (fun j => ⟨fn 8 j (by omega) (Or.inr (by decide)), fn 9 j (by omega) (Or.inr (by decide))⟩), by rw [hs2]; exact hu⟩, InvR_bn hI hb h6 (bnO_q (by omega) hk hd hq), Fr_tr (Fr_tr (FSc r3) (FSc e3)) (Fr_mono fBn (fun k j h => Bn_Sc hb h))⟩
  · rw [r1, hdp]
    exact r_fin hbd f i
  · have e : j + 3 + 1 + (nmL p).length + 1 + (stBr k d q).length = j + (5 + (nmL p).length + (stBr k d q).length) := by omega
    rw [← e]
    exact t3
  · exact (t5.1 _ _ (PBr_no (by unfold pRace; omega) (by unfold pRace; omega) (Or.inl (by unfold pRace pBan; omega)))).trans h44
end QGG
