section BNBM
def PBn (b k j : Nat) : Bool := P2t k j || ((k == 7 && j == 8) || (k == pBan 1 b || (k == pRace 1 && j == 4)))
def PMn (k j : Nat) : Bool := PGe k j || (k == 2 && decide (j < 184))
theorem FMn {m : Mem} {b k : Nat} (hb : b < 12) (hk : k < 7) (v : Int32) : Fr PMn m (mw m 2 (36 + 7 * b + k) v) := Fr_mw _ _ (by
  unfold PMn
  rw [decide_eq_true (show 36 + 7 * b + k < 184 by omega)]
  rfl)
theorem PBn_ne {b k j : Nat} (h2 : ¬ (k = 2 ∧ 6 ≤ j ∧ j ≤ 12)) (h7 : ¬ (k = 7 ∧ j = 8)) (hb : k ≠ pBan 1 b) (h4 : ¬ (k = pRace 1 ∧ j = 4)) : PBn b k j = false := by
  unfold PBn P2t
  simp only [Bool.or_eq_false_iff, Bool.and_eq_false_iff, beq_eq_false_iff_ne, ne_eq, decide_eq_false_iff_not]
  exact ⟨by omega, by omega, hb, by omega⟩
theorem P2_Bn {b k j : Nat} (h : PBn b k j = false) : P2t k j = false := (Bool.or_eq_false_iff.mp h).1
theorem PGe_Mn {k j : Nat} (h : PMn k j = false) : PGe k j = false := (Bool.or_eq_false_iff.mp h).1
theorem Bn_Sc {b k j : Nat} (hb : b < 12) (h : PSc k j = false) : PBn b k j = false := by
  have := PSc_ne h
  exact PBn_ne (by omega) (by omega) (by unfold pBan; omega) (by unfold pRace; omega)
theorem Mn_Sm {k j : Nat} (h : PSm k j = false) : PMn k j = false := by
  have := PSm_ne h
  unfold PMn
  rw [PGe_Sm h, Bool.false_or]
  simp only [Bool.and_eq_false_iff, beq_eq_false_iff_ne, ne_eq, decide_eq_false_iff_not]
  omega
/-- the row with a ban that is being read -/
def rwB (s : Nat → Int) (b : Nat) (g : Nat → Int) : Nat → Int := fun j => if 36 + 7 * b ≤ j ∧ j < 43 + 7 * b then g (j - (36 + 7 * b)) else s j
def upG (g : Nat → Int) (k : Nat) (v : Int) : Nat → Int := fun i => if i = k then v else g i
theorem rw_ne {s : Nat → Int} {b : Nat} {g : Nat → Int} {j : Nat} (h : j < 36 + 7 * b ∨ 43 + 7 * b ≤ j) : rwB s b g j = s j := if_neg (by omega)
theorem rw_bg {s : Nat → Int} {b : Nat} {g : Nat → Int} {k : Nat} (hk : k < 7) : bg (rwB s b g) (b : Int) (k : Int) = g k := by
  unfold bg rwB
  rw [if_pos (by omega), show (36 + 7 * (b : Int) + (k : Int)).toNat - (36 + 7 * b) = k by omega]
theorem rw_bo {s : Nat → Int} {b : Nat} {g : Nat → Int} {a k : Int} (ha : 0 ≤ a) (hk : 0 ≤ k ∧ k ≤ 6) (h : a ≠ b) : bg (rwB s b g) a k = bg s a k := by
  unfold bg
  exact rw_ne (by omega)
theorem rw_0 (s : Nat → Int) (b : Nat) : rwB s b (fun k => s (36 + 7 * b + k)) = s := by
  funext j
  unfold rwB
  by_cases h : 36 + 7 * b ≤ j ∧ j < 43 + 7 * b
  · rw [if_pos h]
    show s (36 + 7 * b + (j - (36 + 7 * b))) = s j
    rw [show 36 + 7 * b + (j - (36 + 7 * b)) = j by omega]
  · rw [if_neg h]
theorem MS_rw {m : Mem} {s : Nat → Int} {b : Nat} {g : Nat → Int} (h : MS m (rwB s b g)) {k : Nat} (hk : k < 7) (v : Int) : MS (mw m 2 (36 + 7 * b + k) (zi v)) (rwB s b (upG g k v)) := fun j => by
  rw [rd_mw]
  by_cases e : j = 36 + 7 * b + k
  · rw [if_pos ⟨rfl, e⟩]
    unfold rwB upG
    rw [if_pos (by omega), if_pos (by omega)]
  · rw [if_neg (fun h => e h.2), h j]
    unfold rwB upG
    by_cases q : 36 + 7 * b ≤ j ∧ j < 43 + 7 * b
    · rw [if_pos q, if_pos q, if_neg (by omega)]
    · rw [if_neg q, if_neg q]
def BNr (c1 m1 c m : Mem) (s : Nat → Int) (b : Nat) (g : Nat → Int) : Prop := Fr (PBn b) c1 c ∧ Fr PMn m1 m ∧ MS m (rwB s b g) ∧ rd c (pRace 1) 4 = zi (s 6 + 1) ∧ rd c (pBan 1 b) 0 = zi (g 0)
theorem BN_fr {c1 m1 c m c2 m2 : Mem} {s : Nat → Int} {b : Nat} {g : Nat → Int} (h : BNr c1 m1 c m s b g) (f : Fr P2t c c2) (f2 : Fr PGe m m2) : BNr c1 m1 c2 m2 s b g := by
  obtain ⟨h1, h2, h3, h4, h5⟩ := h
  refine ⟨Fr_tr h1 (Fr_mono f (fun _ _ => P2_Bn)), Fr_tr h2 (Fr_mono f2 (fun _ _ => PGe_Mn)), fun j => (f2.1 _ _ rfl).trans (h3 j), (f.1 _ _ ?_).trans h4, (f.1 _ _ ?_).trans h5⟩
  · exact P2_rd _ _ (Or.inr (by unfold pRace; omega))
  · unfold P2t
    have : (pBan 1 b == 2) = false := by
      rw [beq_eq_false_iff_ne]
      unfold pBan
      omega
    rw [this]
    rfl
theorem BN_w {c1 m1 c m : Mem} {s : Nat → Int} {b : Nat} {g : Nat → Int} (hb : b < 12) (h : BNr c1 m1 c m s b g) {k : Nat} (hk : k < 7) (hk0 : k ≠ 0) (v : Int) : BNr c1 m1 c (mw m 2 (36 + 7 * b + k) (zi v)) s b (upG g k v) := by
  obtain ⟨h1, h2, h3, h4, h5⟩ := h
  refine ⟨h1, Fr_tr h2 (FMn hb hk _), MS_rw h3 hk v, h4, ?_⟩
  have : upG g k v 0 = g 0 := if_neg (fun h => hk0 h.symm)
  rw [this]
  exact h5
/-- the ban is read -/
def tlI (fu : Nat) (m_18 : Mem) : Option Mem := bd (K_X12_isGood fu m_18) (fun x_19 => (if x_19 = 0 then some m_18 else gi 6 184 (gi 6 184 (lt_ (mw m_18 2 (Int32.toNatClampNeg 6) ((rd m_18 2 (Int32.toNatClampNeg 6)) + 1)) (fun m_22 => some m_22)))))
theorem b_tlI (fu : Nat) {m : Mem} {e p : Int} (h : BDr m e p) : tlI fu m = some m := by
  unfold tlI
  rw [b_isGood fu h, bd_s, if_pos z00]
theorem InvR_ban {s s2 : Nat → Int} {b : Nat} (hI : InvR s) (hb : b < 12) (h6 : s 6 = b) (hs : ∀ j, j ≠ 6 → j < 36 + 7 * b ∨ 43 + 7 * b ≤ j → s2 j = s j) (h62 : s2 6 = s 6 + 1) (hn : bnO s2 b) : InvR s2 := by
  obtain ⟨⟨⟨hz, hc, hW, hp, hbs, hwp, hds, hrk, hwy⟩, h184⟩, ⟨h4, h5, h7⟩, hw0, h40⟩ := hI
  obtain ⟨c1, c2, c3, c4, c5, c6, c7⟩ := hc
  have E : ∀ j, j ≠ 6 → j < 36 → s2 j = s j := fun j a q => hs j a (by omega)
  have EH : ∀ j, 120 ≤ j → s2 j = s j := fun j a => hs j (by omega) (by omega)
  have E0 := E 0 (by decide) (by decide)
  have E1 := E 1 (by decide) (by decide)
  have E2 := E 2 (by decide) (by decide)
  have E3 := E 3 (by decide) (by decide)
  have E4 := E 4 (by decide) (by decide)
  have E5 := E 5 (by decide) (by decide)
  have E7 := E 7 (by decide) (by decide)
  have EP : ∀ q k : Int, 0 ≤ q → q ≤ 3 → 0 ≤ k → k ≤ 6 → pg s2 q k = pg s q k := fun q k a b c d => E _ (by omega) (by omega)
  refine ⟨⟨⟨?_, ?_, fun j h1 h2 => ?_, fun q q0 q1 => ?_, fun a a0 a1 => ?_, fun x y a0 a1 b0 b1 hpl2 => ?_, fun q1 q2 a0 a1 b0 b1 hq f1 f2 => ?_, fun q1 q2 a0 a1 b0 b1 hq f1 => ?_, fun q q0 q1 => ?_⟩, fun j hj => ?_⟩, ⟨by rw [E4]; exact h4, by rw [E5]; exact h5, by rw [E7]; exact h7⟩, fun h j hj => ?_, by rw [E3]; exact h40⟩
  · unfold szO
    rw [E0, E1]
    exact hz
  · unfold cnO
    rw [E2, E3, E4, E5, h62, E7]
    exact ⟨c1, by omega, c3, c4, c5, c6, c7⟩
  · rw [EH j h1]
    exact hW j h1 h2
  · rw [E2] at q1
    have := hp q q0 q1
    unfold pnO at this ⊢
    rw [EP q 0 q0 (by omega) (by decide) (by decide), EP q 1 q0 (by omega) (by decide) (by decide), EP q 2 q0 (by omega) (by decide) (by decide), EP q 3 q0 (by omega) (by decide) (by decide), EP q 4 q0 (by omega) (by decide) (by decide), EP q 5 q0 (by omega) (by decide) (by decide), EP q 6 q0 (by omega) (by decide) (by decide), isCl_cg E0 E1, atS_cg E0 E1, E4, E5]
    exact this
  · by_cases e : a = b
    · rw [e]
      exact hn
    · rw [h62] at a1
      have hq := hbs a a0 (by omega)
      have eb : ∀ k : Int, 0 ≤ k → k ≤ 6 → bg s2 a k = bg s a k := fun k k0 k6 => hs _ (by omega) (by omega)
      unfold bnO at hq ⊢
      rw [eb 0 (by decide) (by decide), eb 1 (by decide) (by decide), eb 2 (by decide) (by decide), eb 3 (by decide) (by decide), eb 4 (by decide) (by decide), eb 5 (by decide) (by decide), eb 6 (by decide) (by decide), isCl_cg E0 E1, isCl_cg E0 E1, E2]
      exact hq
  · rw [isPl_cg E0 E1] at hpl2
    rw [EH _ (by omega)]
    exact hwp x y a0 a1 b0 b1 hpl2
  · rw [E2] at a1 b1
    rw [EP _ _ a0 (by omega) (by decide) (by decide)] at f1
    rw [EP _ _ b0 (by omega) (by decide) (by decide)] at f2
    rw [EP _ _ a0 (by omega) (by decide) (by decide), EP _ _ a0 (by omega) (by decide) (by decide), EP _ _ b0 (by omega) (by decide) (by decide), EP _ _ b0 (by omega) (by decide) (by decide)]
    exact hds q1 q2 a0 a1 b0 b1 hq f1 f2
  · rw [E2] at a1 b1
    rw [EP _ _ a0 (by omega) (by decide) (by decide)] at f1 ⊢
    rw [EP _ _ b0 (by omega) (by decide) (by decide)]
    exact hrk q1 q2 a0 a1 b0 b1 hq f1
  · rw [E2] at q1
    rw [dst_cg (s1 := s2) (s2 := s) E0 E1 EH (EP _ _ q0 (by omega) (by decide) (by decide)) (EP _ _ q0 (by omega) (by decide) (by decide)) (EP _ _ q0 (by omega) (by decide) (by decide)) (by rw [EP _ _ q0 (by omega) (by decide) (by decide)])]
    exact hwy q q0 q1
  · rw [EH j (by omega)]
    exact h184 j hj
  · rw [E3] at h
    rw [EH j hj]
    exact hw0 h j hj
/-- the sign behind a ban -/
theorem p_banEnd (fu : Nat) (hfu : 1000 ≤ fu) {c1 m1 c m c0 m0 : Mem} {T : Nat → Int} {L N n n0 : Nat} {s : Nat → Int} {nm : Nat → Nat} {b : Nat} {g : Nat → Int} (hA : CAr c T L N n) (hG : GMr m T L n) (hn : n ≤ 900) (hR : RDs c1 m1 T L s nm) (hb : b < 12) (h6 : s 6 = b) (hBN : BNr c1 m1 c m s b g) (hrn : RN c 1 (rwB s b g) b) (hbn : bnO (rwB s b g) b) (hc : Fr PSc c0 c1) (hm : Fr PSm m0 m1) (h0 : n0 ≤ n) : OUTr (bd (K_X9_needSign fu 59 c) (fun p_6 => gb p_6.1 (some (p_6.1, p_6.2)))) (bd (tlI fu m) (fun m_8 => K_X12_statement_90 fu m_8)) c0 m0 T L N n0 := by
  obtain ⟨h1, h2, h3, h4, h5⟩ := hBN
  obtain ⟨x1, x2, x3, ⟨b1, bb2, ww, y1, y2, y3, y4⟩, x5, x6⟩ := hR
  have r6 : rd m 2 (Int32.toNatClampNeg 6) = zi (s 6) := (h3 6).trans (congrArg zi (rw_ne (by omega)))
  have hi : tlI fu m = some (mw m 2 6 (zi (s 6 + 1))) := by
    unfold tlI
    rw [g_isGood fu hG.2.1, bd_s, if_neg z10, gi6m, gi6m, r6, show (1 : Int32) = zi 1 from rfl, zi_add]
    rfl
  have hM6 : MS (mw m 2 6 (zi (s 6 + 1))) (up1 (rwB s b g) 6 (s 6 + 1)) := MS_up h3 6 (s 6 + 1)
  have hs2 : ∀ j, j ≠ 6 → j < 36 + 7 * b ∨ 43 + 7 * b ≤ j → up1 (rwB s b g) 6 (s 6 + 1) j = s j := fun j a q => (up1_ne a).trans (rw_ne q)
  have hbg : ∀ a k : Int, 0 ≤ a → 0 ≤ k → bg (up1 (rwB s b g) 6 (s 6 + 1)) a k = bg (rwB s b g) a k := fun a k p q => up1_ne (by omega)
  have hbn2 : bnO (up1 (rwB s b g) 6 (s 6 + 1)) b := by
    unfold bnO at hbn ⊢
    have e0 : up1 (rwB s b g) 6 (s 6 + 1) 0 = rwB s b g 0 := up1_ne (by decide)
    have e1 : up1 (rwB s b g) 6 (s 6 + 1) 1 = rwB s b g 1 := up1_ne (by decide)
    have e2 : up1 (rwB s b g) 6 (s 6 + 1) 2 = rwB s b g 2 := up1_ne (by decide)
    rw [hbg _ _ (by omega) (by decide), hbg _ _ (by omega) (by decide), hbg _ _ (by omega) (by decide), hbg _ _ (by omega) (by decide), hbg _ _ (by omega) (by decide), hbg _ _ (by omega) (by decide), hbg _ _ (by omega) (by decide), isCl_cg e0 e1, isCl_cg e0 e1, e2]
    exact hbn
  have hI := InvR_ban x3 hb h6 hs2 (up1_eq _ _ _) hbn2
  have nP : ∀ k j, (57 ≤ k → k < 79 → k ≠ pBan 1 b → ¬ (k = pRace 1 ∧ j = 4) → PBn b k j = false) := fun k j a1 a2 a3 a4 => PBn_ne (by omega) (by omega) a3 a4
  have hRC : RC c 1 (up1 (rwB s b g) 6 (s 6 + 1)) := by
    obtain ⟨w1, ⟨w2, w3, w4, w5, w6⟩, w7, w8⟩ := x1
    refine ⟨RB_cg (s1 := s) (hs2 0 (by decide) (by omega)).symm (hs2 1 (by decide) (by omega)).symm (hs2 3 (by decide) (by omega)).symm (fun j hj => (hs2 j (by omega) (by omega)).symm) (RB_fr2 h1 (fun j => nP _ _ (by unfold pBoard; omega) (by unfold pBoard; omega) (by unfold pBoard pBan; omega) (by unfold pBoard pRace; omega)) (fun j => nP _ _ (by unfold pBuilt; omega) (by unfold pBuilt; omega) (by unfold pBuilt pBan; omega) (by unfold pBuilt pRace; omega)) (fun j => nP _ _ (by unfold pOpen; omega) (by unfold pOpen; omega) (by unfold pOpen pBan; omega) (by unfold pOpen pRace; omega)) w1), ⟨?_, ?_, ?_, ?_, ?_⟩, fun i hi hi2 => ?_, fun a ha ha2 => ?_⟩
    · rw [hs2 2 (by decide) (by omega)]
      exact (h1.1 _ _ (nP _ _ (by unfold pRace; omega) (by unfold pRace; omega) (by unfold pRace pBan; omega) (by omega))).trans w2
    · rw [up1_eq]
      exact h4
    · rw [hs2 4 (by decide) (by omega)]
      exact (h1.1 _ _ (nP _ _ (by unfold pRace; omega) (by unfold pRace; omega) (by unfold pRace pBan; omega) (by omega))).trans w4
    · rw [hs2 7 (by decide) (by omega)]
      exact (h1.1 _ _ (nP _ _ (by unfold pRace; omega) (by unfold pRace; omega) (by unfold pRace pBan; omega) (by omega))).trans w5
    · rw [hs2 5 (by decide) (by omega)]
      exact (h1.1 _ _ (nP _ _ (by unfold pRace; omega) (by unfold pRace; omega) (by unfold pRace pBan; omega) (by omega))).trans w6
    · rw [hs2 2 (by decide) (by omega)] at hi2
      exact RP_cg (s1 := s) (fun k k0 k6 => (hs2 _ (by omega) (by omega)).symm) (RP_fr2 h1 (fun j => nP _ _ (by unfold pPawn; omega) (by unfold pPawn; omega) (by unfold pPawn pBan; omega) (by unfold pPawn pRace; omega)) (w7 i hi hi2))
    · rw [up1_eq] at ha2
      by_cases e : a = b
      · rw [e]
        exact RN_cg (s1 := rwB s b g) (fun k k0 k6 => (hbg _ _ (by omega) k0).symm) hrn
      · refine RN_cg (s1 := s) (fun k k0 k6 => ?_) (RN_fr2 h1 (fun j => nP _ _ (by unfold pBan; omega) (by unfold pBan; omega) (by unfold pBan; omega) (by unfold pBan pRace; omega)) (w8 a ha (by omega)))
        rw [hbg _ _ (by omega) k0, rw_bo (by omega) ⟨k0, k6⟩ (by omega)]
  have f6 : Fr (fun k _ => k == 2) m (mw m 2 6 (zi (s 6 + 1))) := Fr_mw _ _ rfl
  have hG6 : GMr (mw m 2 6 (zi (s 6 + 1))) T L n := GM_fr hG f6 (fun _ _ => rfl) (fun _ => rfl)
  rw [hi, bd_s]
  refine p_end fu hfu hA hG6 (by omega) (s := up1 (rwB s b g) 6 (s 6 + 1)) (nm := nm) ⟨hRC, hM6, hI, ⟨b1, bb2, ww, y1, ?_, ?_, ?_⟩, ?_⟩ (Fr_tr hc (Fr_mono h1 (fun k j h => Bn_Sc hb h))) (Fr_tr (Fr_tr hm (Fr_mono h2 (fun k j h => Mn_Sm h))) (Fr_mw _ _ rfl)) h0
  · exact ⟨(h1.1 _ _ (PBn_ne (by omega) (by omega) (by unfold pBan; omega) (by unfold pRace; omega))).trans y2.1, (f6.1 _ _ rfl).trans ((h2.1 _ _ rfl).trans y2.2)⟩
  · exact ⟨(h1.1 _ _ (PBn_ne (by omega) (by omega) (by unfold pBan; omega) (by unfold pRace; omega))).trans y3.1, (f6.1 _ _ rfl).trans ((h2.1 _ _ rfl).trans y3.2)⟩
  · exact ⟨(h1.1 _ _ (PBn_ne (by omega) (by omega) (by unfold pBan; omega) (by unfold pRace; omega))).trans y4.1, (f6.1 _ _ rfl).trans ((h2.1 _ _ rfl).trans y4.2)⟩
  · rw [hs2 2 (by decide) (by omega)]
    refine ⟨fun i hi => ?_, x6⟩
    obtain ⟨t1, t2, t3, t4, t5⟩ := x5 i hi
    exact ⟨t1, t2, (h1.1 _ _ (PBn_ne (by omega) (by omega) (by unfold pBan; omega) (by unfold pRace; omega))).trans t3, (h1.1 _ _ (PBn_ne (by omega) (by omega) (by unfold pBan; omega) (by unfold pRace; omega))).trans t4, (f6.2 _ _ rfl).trans ((h2.2 _ _ rfl).trans t5)⟩
theorem OUT_gb {x : Option (Int32 × Mem)} {y : Option Mem} {c m : Mem} {T : Nat → Int} {L N n : Nat} (h : OUTr x y c m T L N n) : OUTr (bd x (fun p_6 => gb p_6.1 (some (p_6.1, p_6.2)))) y c m T L N n := by
  obtain ⟨c2, m2, h1, h2, h3, h4⟩ := h
  refine ⟨c2, m2, h1, h2, h3, ?_⟩
  rcases h4 with ⟨e, k⟩ | ⟨e, k⟩
  · rw [e, bd_s]
    exact Or.inl ⟨gb_zi _ (Or.inr rfl), k⟩
  · rw [e, bd_s]
    exact Or.inr ⟨gb_zi _ (Or.inl rfl), k⟩
end BNBM
