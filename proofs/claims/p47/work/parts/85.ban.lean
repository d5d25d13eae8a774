section BANM
def PB1 (b k j : Nat) : Bool := k == pBan 1 b && decide (0 < j)
theorem PB1_ne {b k j : Nat} (h : k ≠ pBan 1 b ∨ j = 0) : PB1 b k j = false := by
  unfold PB1
  simp only [Bool.and_eq_false_iff, beq_eq_false_iff_ne, ne_eq, decide_eq_false_iff_not]
  rcases h with h | h
  · exact Or.inl h
  · exact Or.inr (by omega)
theorem BN_c {c1 m1 c c2 m : Mem} {s : Nat → Int} {b : Nat} {g : Nat → Int} (h : BNr c1 m1 c m s b g) (f : Fr (PB1 b) c c2) : BNr c1 m1 c2 m s b g := by
  obtain ⟨h1, h2, h3, h4, h5⟩ := h
  refine ⟨Fr_tr h1 (Fr_mono f (fun k j hk => PB1_ne (Or.inl ?_))), h2, h3, (f.1 _ _ (PB1_ne (Or.inl (by unfold pRace pBan; omega)))).trans h4, (f.1 _ _ (PB1_ne (Or.inr rfl))).trans h5⟩
  unfold PBn at hk
  simp only [Bool.or_eq_false_iff, beq_eq_false_iff_ne, ne_eq] at hk
  exact hk.2.2.1
theorem CA_ban {c c2 : Mem} {T : Nat → Int} {L N n b : Nat} (h : CAr c T L N n) (f : Fr (PB1 b) c c2) : CAr c2 T L N n := CA_fr h f (fun k j h1 h2 => PB1_ne (Or.inl (by unfold pBan; omega)))
/-- a cell that the reference reads within a ban -/
def kCl (fu : Nat) (e1 e2 : Int32) (cont : Mem → Option Mem) (m_19 : Mem) : Option Mem := gi 0 184 (bd (K_X12_number fu 0 ((rd m_19 2 (Int32.toNatClampNeg 0)) - 1) m_19) (fun p_21 => gi e1 184 (lt_ (mw p_21.2 2 (Int32.toNatClampNeg e1) p_21.1) (fun m_23 => gi 1 184 (bd (K_X12_number fu 0 ((rd m_23 2 (Int32.toNatClampNeg 1)) - 1) m_23) (fun p_25 => gi e2 184 (lt_ (mw p_25.2 2 (Int32.toNatClampNeg e2) p_25.1) cont)))))))
theorem BD_w {m : Mem} {e p : Int} (h : BDr m e p) (j : Nat) (v : Int32) : BDr (mw m 2 j v) e p := ⟨h.1, by rw [rd_mw, if_neg (fun q => absurd q.1 (by decide))]; exact h.2.1, by rw [rd_mw, if_neg (fun q => absurd q.1 (by decide))]; exact h.2.2⟩
theorem b_kCl (fu : Nat) {m : Mem} {e p : Int} (h : BDr m e p) {e1 e2 : Int32} {b k1 k2 : Nat} (hb : b < 12) (hk1 : k1 < 7) (hk2 : k2 < 7) (h1 : e1 = zi ((36 + 7 * b + k1 : Nat) : Int)) (h2 : e2 = zi ((36 + 7 * b + k2 : Nat) : Int)) (cont : Mem → Option Mem) : ∃ m2, kCl fu e1 e2 cont m = cont m2 ∧ BDr m2 e p ∧ Fr PMn m m2 := by
  have h3 := BD_w h (36 + 7 * b + k1) (rd m 0 7)
  refine ⟨_, ?_, BD_w h3 (36 + 7 * b + k2) (rd (mw m 2 (36 + 7 * b + k1) (rd m 0 7)) 0 7), Fr_tr (FMn hb hk1 _) (FMn hb hk2 _)⟩
  have i1 : (zi ((36 + 7 * b + k1 : Nat) : Int)).toNatClampNeg = 36 + 7 * b + k1 := by
    rw [zi_clamp (by omega) (by omega)]
    exact Int.toNat_natCast _
  have i2 : (zi ((36 + 7 * b + k2 : Nat) : Int)).toNatClampNeg = 36 + 7 * b + k2 := by
    rw [zi_clamp (by omega) (by omega)]
    exact Int.toNat_natCast _
  unfold kCl
  rw [gi0m, b_number fu h, bd_s, h1, gi_zi (by omega) (by omega) (by decide), ltf, i1, gi1m, b_number fu h3, bd_s, h2, gi_zi (by omega) (by omega) (by decide), ltf, i2]
theorem p_cellB (fu : Nat) (hfu : 1000 ≤ fu) {c1 m1 c m : Mem} {T : Nat → Int} {L N n : Nat} {s : Nat → Int} {b : Nat} {g : Nat → Int} (hA : CAr c T L N n) (hG : GMr m T L n) (hn : n ≤ 900) (hR : RC c1 1 s) (hz : szO s) (hb : b < 12) (hBN : BNr c1 m1 c m s b g) {e1 e2 : Int32} {k1 k2 : Nat} (hk1 : k1 < 7) (hk2 : k2 < 7) (hk10 : k1 ≠ 0) (hk20 : k2 ≠ 0) (h1 : e1 = zi ((36 + 7 * b + k1 : Nat) : Int)) (h2 : e2 = zi ((36 + 7 * b + k2 : Nat) : Int)) (cont : Mem → Option Mem) : (∃ c2 m2 x y, K_X7_readCell fu c = some (zi 1, c2) ∧ kCl fu e1 e2 cont m = cont m2 ∧ CBr c2 T L N (n + 1) ∧ GMr m2 T L (n + 2) ∧ BNr c1 m1 c2 m2 s b (upG (upG g k1 x) k2 y) ∧ rd c2 7 8 = zi (9 * y + x) ∧ (0 ≤ x ∧ x ≤ s 0 - 1) ∧ 0 ≤ y ∧ y ≤ s 1 - 1) ∨ (∃ c2 m2, K_X7_readCell fu c = some (zi 0, c2) ∧ kCl fu e1 e2 cont m = cont m2 ∧ EBr c2 m2 ∧ Fr (PBn b) c1 c2 ∧ Fr PMn m1 m2) := by
  have i1 : (zi ((36 + 7 * b + k1 : Nat) : Int)).toNatClampNeg = 36 + 7 * b + k1 := by
    rw [zi_clamp (by omega) (by omega)]
    exact Int.toNat_natCast _
  have i2 : (zi ((36 + 7 * b + k2 : Nat) : Int)).toNatClampNeg = 36 + 7 * b + k2 := by
    rw [zi_clamp (by omega) (by omega)]
    exact Int.toNat_natCast _
  have hB : ∀ c2 : Mem, Fr (PBn b) c1 c2 → rd c2 (pBoard 1) 0 = zi (s 0) ∧ rd c2 (pBoard 1) 1 = zi (s 1) := fun c2 f => ⟨(f.1 _ _ (PBn_ne (by unfold pBoard; omega) (by unfold pBoard; omega) (by unfold pBoard pBan; omega) (by unfold pBoard pRace; omega))).trans hR.1.1, (f.1 _ _ (PBn_ne (by unfold pBoard; omega) (by unfold pBoard; omega) (by unfold pBoard pBan; omega) (by unfold pBoard pRace; omega))).trans hR.1.2.1⟩
  have hz2 := hz
  obtain ⟨⟨z1, z2⟩, z3, z4⟩ := hz2
  have w0 : rd c (pBoard 1) 0 - 1 = zi (s 0 - 1) := by rw [(hB c hBN.1).1, show (1 : Int32) = zi 1 from rfl, zi_sub]
  have w0m : rd m 2 (Int32.toNatClampNeg 0) - 1 = zi (s 0 - 1) := by
    have : rd m 2 (Int32.toNatClampNeg 0) = zi (s 0) := (hBN.2.2.1 0).trans (congrArg zi (rw_ne (by omega)))
    rw [this, show (1 : Int32) = zi 1 from rfl, zi_sub]
  unfold kCl K_X7_readCell
  rw [gi0m, w0, w0m]
  rcases p_num fu hfu hA hG (by omega) (a := 0) (b := s 0 - 1) (by omega) with ⟨c3, m3, x, u1, u2, u3, u4, u5, u6, u7, u8⟩ | ⟨c3, m3, x, u1, u5, u6, u7, u8⟩
  · have u1' : K_X9_needNumber fu 0 (zi (s 0 - 1)) c = some (zi 1, c3) := u1
    have u5' : K_X12_number fu 0 (zi (s 0 - 1)) m = some (zi x, m3) := u5
    have hBN3 := BN_w hb (BN_fr hBN u7 u8) hk1 hk10 x
    have hG3 : GMr (mw m3 2 (36 + 7 * b + k1) (zi x)) T L (n + 1) := GM_fr u6 (P := fun k _ => k == 2) (Fr_mw _ _ rfl) (fun _ _ => rfl) (fun _ => rfl)
    have w1 : rd c3 (pBoard 1) 1 - 1 = zi (s 1 - 1) := by rw [(hB c3 hBN3.1).2, show (1 : Int32) = zi 1 from rfl, zi_sub]
    have w1m : rd (mw m3 2 (36 + 7 * b + k1) (zi x)) 2 (Int32.toNatClampNeg 1) - 1 = zi (s 1 - 1) := by
      have : rd (mw m3 2 (36 + 7 * b + k1) (zi x)) 2 (Int32.toNatClampNeg 1) = zi (s 1) := (hBN3.2.2.1 1).trans (congrArg zi (rw_ne (by omega)))
      rw [this, show (1 : Int32) = zi 1 from rfl, zi_sub]
    rw [u1', bd_s, if_neg z10, ltf, u3, u5', bd_s, h1, gi_zi (by omega) (by omega) (by decide), ltf, i1, gi1m, w1, w1m]
    rcases p_num fu hfu (CB_A u2) hG3 (by omega) (a := 0) (b := s 1 - 1) (by omega) with ⟨c4, m4, y, v1, v2, v3, v4, v5, v6, v7, v8⟩ | ⟨c4, m4, y, v1, v5, v6, v7, v8⟩
    · have v1' : K_X9_needNumber fu 0 (zi (s 1 - 1)) c3 = some (zi 1, c4) := v1
      have v5' : K_X12_number fu 0 (zi (s 1 - 1)) (mw m3 2 (36 + 7 * b + k1) (zi x)) = some (zi y, m4) := v5
      have hBN4 := BN_w hb (BN_fr hBN3 v7 v8) hk2 hk20 y
      have e9 : rd c4 2 10 * 9 + zi x = zi (9 * y + x) := by
        rw [v3, show (9 : Int32) = zi 9 from rfl, zi_mul, zi_add]
        exact congrArg zi (by omega)
      rw [v1', bd_s, if_neg z10, ltf, e9, v5', bd_s, h2, gi_zi (by omega) (by omega) (by decide), ltf, i2]
      have f7 : Fr (fun k j => k == 7 && j == 8) c4 (mw c4 7 8 (zi (9 * y + x))) := Fr_mw _ _ rfl
      have f7n : ∀ k j, k ≠ 7 → (fun k j => k == 7 && j == 8 : Nat → Nat → Bool) k j = false := fun k j h => by
        simp only [Bool.and_eq_false_iff, beq_eq_false_iff_ne, ne_eq]
        omega
      obtain ⟨y1, y2, y3, y4, y5⟩ := hBN4
      refine Or.inl ⟨_, _, x, y, rfl, rfl, CB_fr v2 f7 (fun k j a1 a2 => f7n k j (by omega)), GM_fr v6 (P := fun k _ => k == 2) (Fr_mw _ _ rfl) (fun _ _ => rfl) (fun _ => rfl), ⟨Fr_tr y1 (Fr_mw _ _ rfl), y2, y3, (f7.1 _ _ (f7n _ _ (by unfold pRace; omega))).trans y4, (f7.1 _ _ (f7n _ _ (by unfold pBan; omega))).trans y5⟩, by rw [rd_mw, if_pos ⟨rfl, rfl⟩], ⟨by omega, by omega⟩, by omega, by omega⟩
    · have v1' : K_X9_needNumber fu 0 (zi (s 1 - 1)) c3 = some (zi 0, c4) := v1
      have v5' : K_X12_number fu 0 (zi (s 1 - 1)) (mw m3 2 (36 + 7 * b + k1) (zi x)) = some (y, m4) := v5
      obtain ⟨e, p, hp, hE, hD⟩ := v6
      rw [v1', bd_s, if_pos z00, v5', bd_s, h2, gi_zi (by omega) (by omega) (by decide), ltf, i2]
      exact Or.inr ⟨c4, _, rfl, rfl, ⟨e, p, hp, hE, BD_w hD _ _⟩, Fr_tr hBN3.1 (Fr_mono v7 (fun _ _ => P2_Bn)), Fr_tr (Fr_tr hBN3.2.1 (Fr_mono v8 (fun _ _ => PGe_Mn))) (FMn hb hk2 _)⟩
  · have u1' : K_X9_needNumber fu 0 (zi (s 0 - 1)) c = some (zi 0, c3) := u1
    have u5' : K_X12_number fu 0 (zi (s 0 - 1)) m = some (x, m3) := u5
    obtain ⟨e, p, hp, hE, hD⟩ := u6
    have hD3 := BD_w hD (36 + 7 * b + k1) x
    rw [u1', bd_s, if_pos z00, u5', bd_s, h1, gi_zi (by omega) (by omega) (by decide), ltf, i1, gi1m, b_number fu hD3, bd_s, h2, gi_zi (by omega) (by omega) (by decide), ltf, i2]
    exact Or.inr ⟨c3, _, rfl, rfl, ⟨e, p, hp, hE, BD_w hD3 _ _⟩, Fr_tr hBN.1 (Fr_mono u7 (fun _ _ => P2_Bn)), Fr_tr (Fr_tr (Fr_tr hBN.2.1 (Fr_mono u8 (fun _ _ => PGe_Mn))) (FMn hb hk1 _)) (FMn hb hk2 _)⟩
theorem cdm {A x y : Int} (hA : A = 9 * y + x) (hx : 0 ≤ x ∧ x ≤ 8) (hy : 0 ≤ y ∧ y ≤ 8) : zi A / 9 = zi y ∧ zi A - zi A / 9 * 9 = zi x := by
  have e9 : (9 : Int32) = zi 9 := rfl
  have h1 : zi A / 9 = zi y := by
    rw [e9, zi_div (by omega) (by omega) (by omega) (by omega)]
    exact congrArg zi (by omega)
  refine ⟨h1, ?_⟩
  rw [h1, e9, zi_mul, zi_sub]
  exact congrArg zi (by omega)
theorem k_min (fu : Nat) (mem : Mem) {a b : Int} (ha : -1000 ≤ a ∧ a ≤ 1000) (hb : -1000 ≤ b ∧ b ≤ 1000) : K_J9_min_7cf53 fu (zi a) (zi b) mem = some (zi (lsI a b)) := by
  unfold K_J9_min_7cf53 lsI
  simp (disch := omega) only [zi_lit, zl_lit, zi_add, zi_sub, zi_mul, zi_neg, zi_lt, zi_inj, zi_clamp, zl_of, gi_zi, bd_s, ltf, bi_0, bi_1, gb_bi, Int.reduceToNat, Int.reduceNeg, Int.toNat_natCast]
  by_cases q : b < a
  · rw [if_pos q, if_neg (by omega)]
  · rw [if_neg q]
    by_cases q2 : a < b
    · rw [if_pos q2]
    · rw [if_neg q2, show a = b by omega]
theorem k_max (fu : Nat) (mem : Mem) {a b : Int} (ha : -1000 ≤ a ∧ a ≤ 1000) (hb : -1000 ≤ b ∧ b ≤ 1000) : K_J9_max_7cf53 fu (zi a) (zi b) mem = some (zi (mrI a b)) := by
  unfold K_J9_max_7cf53 mrI
  simp (disch := omega) only [zi_lit, zl_lit, zi_add, zi_sub, zi_mul, zi_neg, zi_lt, zi_inj, zi_clamp, zl_of, gi_zi, bd_s, ltf, bi_0, bi_1, gb_bi, Int.reduceToNat, Int.reduceNeg, Int.toNat_natCast]
  by_cases q : a < b
  · rw [if_pos q, if_neg (by omega)]
  · rw [if_neg q]
    by_cases q2 : b < a
    · rw [if_pos q2]
    · rw [if_neg q2, show a = b by omega]
theorem c_setWithin (fu b : Nat) (c : Mem) {side A B x1 y1 x2 y2 : Int} (hA : A = 9 * y1 + x1) (hB : B = 9 * y2 + x2) (h1 : 0 ≤ x1 ∧ x1 ≤ 8) (h2 : 0 ≤ y1 ∧ y1 ≤ 8) (h3 : 0 ≤ x2 ∧ x2 ≤ 8) (h4 : 0 ≤ y2 ∧ y2 ≤ 8) : ∃ c2, K_X0_setWithin fu 1 b (zi side) (zi A) (zi B) c = some c2 ∧ (rd c2 (pBan 1 b) 1 = zi 3 ∧ rd c2 (pBan 1 b) 2 = zi side ∧ rd c2 (pBan 1 b) 5 = zi (lsI x1 x2) ∧ rd c2 (pBan 1 b) 6 = zi (mrI x1 x2) ∧ rd c2 (pBan 1 b) 7 = zi (lsI y1 y2) ∧ rd c2 (pBan 1 b) 8 = zi (mrI y1 y2)) ∧ Fr (PB1 b) c c2 := by
  obtain ⟨a1, a2⟩ := cdm hA h1 h2
  obtain ⟨b1, b2⟩ := cdm hB h3 h4
  rw [a1] at a2
  rw [b1] at b2
  have t1 : ∀ (m : Mem) (j : Nat) (v : Int32), 0 < j → Fr (PB1 b) m (mw m (pBan 1 b) j v) := fun m j v hj => Fr_mw _ _ (by unfold PB1; simp [hj])
  have e : K_X0_setWithin fu 1 b (zi side) (zi A) (zi B) c = some (mw (mw (mw (mw (mw (mw c (pBan 1 b) 1 3) (pBan 1 b) 2 (zi side)) (pBan 1 b) 5 (zi (lsI x1 x2))) (pBan 1 b) 6 (zi (mrI x1 x2))) (pBan 1 b) 7 (zi (lsI y1 y2))) (pBan 1 b) 8 (zi (mrI y1 y2))) := by
    unfold K_X0_setWithin
    simp only [ltf, a2, b2, a1, b1, k_min fu _ (a := x1) (b := x2) (by omega) (by omega), k_max fu _ (a := x1) (b := x2) (by omega) (by omega), k_min fu _ (a := y1) (b := y2) (by omega) (by omega), k_max fu _ (a := y1) (b := y2) (by omega) (by omega), bd_s]
  refine ⟨_, e, ⟨?_, ?_, ?_, ?_, ?_, ?_⟩, Fr_tr (Fr_tr (Fr_tr (Fr_tr (Fr_tr (t1 _ _ _ (by decide)) (t1 _ _ _ (by decide))) (t1 _ _ _ (by decide))) (t1 _ _ _ (by decide))) (t1 _ _ _ (by decide))) (t1 _ _ _ (by decide))⟩
  · rw [rd_mw, if_neg (fun h => absurd h.2 (by decide)), rd_mw, if_neg (fun h => absurd h.2 (by decide)), rd_mw, if_neg (fun h => absurd h.2 (by decide)), rd_mw, if_neg (fun h => absurd h.2 (by decide)), rd_mw, if_neg (fun h => absurd h.2 (by decide)), rd_mw, if_pos ⟨rfl, rfl⟩]
    rfl
  · rw [rd_mw, if_neg (fun h => absurd h.2 (by decide)), rd_mw, if_neg (fun h => absurd h.2 (by decide)), rd_mw, if_neg (fun h => absurd h.2 (by decide)), rd_mw, if_neg (fun h => absurd h.2 (by decide)), rd_mw, if_pos ⟨rfl, rfl⟩]
  · rw [rd_mw, if_neg (fun h => absurd h.2 (by decide)), rd_mw, if_neg (fun h => absurd h.2 (by decide)), rd_mw, if_neg (fun h => absurd h.2 (by decide)), rd_mw, if_pos ⟨rfl, rfl⟩]
  · rw [rd_mw, if_neg (fun h => absurd h.2 (by decide)), rd_mw, if_neg (fun h => absurd h.2 (by decide)), rd_mw, if_pos ⟨rfl, rfl⟩]
  · rw [rd_mw, if_neg (fun h => absurd h.2 (by decide)), rd_mw, if_pos ⟨rfl, rfl⟩]
  · rw [rd_mw, if_pos ⟨rfl, rfl⟩]
theorem c_setEvery (fu b : Nat) (c : Mem) (side p k : Int) : ∃ c2, K_X0_setEvery fu 1 b (zi side) (zi p) (zi k) c = some c2 ∧ (rd c2 (pBan 1 b) 1 = zi 2 ∧ rd c2 (pBan 1 b) 2 = zi side ∧ rd c2 (pBan 1 b) 3 = zi p ∧ rd c2 (pBan 1 b) 4 = zi k) ∧ Fr (PB1 b) c c2 := by
  have t1 : ∀ (m : Mem) (j : Nat) (v : Int32), 0 < j → Fr (PB1 b) m (mw m (pBan 1 b) j v) := fun m j v hj => Fr_mw _ _ (by unfold PB1; simp [hj])
  refine ⟨mw (mw (mw (mw c (pBan 1 b) 1 2) (pBan 1 b) 2 (zi side)) (pBan 1 b) 3 (zi p)) (pBan 1 b) 4 (zi k), rfl, ⟨?_, ?_, ?_, ?_⟩, Fr_tr (Fr_tr (Fr_tr (t1 _ _ _ (by decide)) (t1 _ _ _ (by decide))) (t1 _ _ _ (by decide))) (t1 _ _ _ (by decide))⟩
  · rw [rd_mw, if_neg (fun h => absurd h.2 (by decide)), rd_mw, if_neg (fun h => absurd h.2 (by decide)), rd_mw, if_neg (fun h => absurd h.2 (by decide)), rd_mw, if_pos ⟨rfl, rfl⟩]
    rfl
  · rw [rd_mw, if_neg (fun h => absurd h.2 (by decide)), rd_mw, if_neg (fun h => absurd h.2 (by decide)), rd_mw, if_pos ⟨rfl, rfl⟩]
  · rw [rd_mw, if_neg (fun h => absurd h.2 (by decide)), rd_mw, if_pos ⟨rfl, rfl⟩]
  · rw [rd_mw, if_pos ⟨rfl, rfl⟩]
end BANM
