section FEDM
theorem fa_byte_low (x : Int32) : (x &&& 255).toInt8 = x.toInt8 := by
  apply Int8.toBitVec_inj.1
  apply BitVec.eq_of_getLsbD_eq
  intro i hi
  have h2 : (255 : Int32).toBitVec.getLsbD i = true := by
    have : ∀ j : Fin 8, (255 : Int32).toBitVec.getLsbD j.val = true := by decide +kernel
    exact this ⟨i, hi⟩
  have h4 : (x &&& 255).toBitVec.getLsbD i = x.toBitVec.getLsbD i := by
    show (x.toBitVec &&& (255 : Int32).toBitVec).getLsbD i = _
    rw [BitVec.getLsbD_and, h2, Bool.and_true]
  have h3 : i < 32 := by omega
  show (((x &&& 255).toBitVec).signExtend 8).getLsbD i = (x.toBitVec.signExtend 8).getLsbD i
  rw [BitVec.getLsbD_signExtend, BitVec.getLsbD_signExtend, if_pos h3, if_pos h3, h4]
theorem lo8 (w : Int32) : 0 ≤ (w &&& 255).toInt ∧ (w &&& 255).toInt ≤ 255 := by
  have h : (w &&& 255).toBitVec.toNat ≤ 255 := by
    show (w.toBitVec &&& (255 : Int32).toBitVec).toNat ≤ 255
    rw [BitVec.toNat_and]
    exact Nat.le_trans Nat.and_le_right (by decide)
  have e : (w &&& 255).toInt = (w &&& 255).toBitVec.toInt := rfl
  rw [e, BitVec.toInt_eq_toNat_of_lt (by omega)]
  omega
theorem st8 (w : Int32) : vp_nar .byte (Int8.toInt32 (Int32.toInt8 w)) = zi (sgn8 (w &&& 255).toInt) := by
  have hd : ∀ n : Nat, n < 256 → vp_nar .byte (Int8.toInt32 (Int32.toInt8 (zi (n : Int)))) = zi (sgn8 (n : Int)) := by decide +kernel
  obtain ⟨h1, h2⟩ := lo8 w
  obtain ⟨b, hb⟩ : ∃ b : Nat, (w &&& 255).toInt = b := ⟨(w &&& 255).toInt.toNat, by omega⟩
  have e : w &&& 255 = zi (b : Int) := by
    rw [← hb]
    exact (zi_of _).symm
  have e2 : w.toInt8 = (zi (b : Int)).toInt8 := by rw [← e, fa_byte_low]
  rw [e2, hb]
  exact hd b (by omega)
def PFc (k j : Nat) : Bool := (k == 2 && j == 1) || k == 3
def PFm (k j : Nat) : Bool := (k == 0 && j == 2) || k == 1
theorem p_ap (fu : Nat) (v : Int32) {c m : Mem} {T : Nat → Int} {L : Nat} (hX : TXc c T L) (hM : TXr m T L) (hL : L < 700) {x2 : Int} (h0 : 0 ≤ x2) (h1 : x2 ≤ 24) (n : Nat) : ∃ c2 m2 T2, K_X9_append_3 fu (n + 1) v (zi x2) c = K_X9_append_3 fu n v (zi (x2 + -8)) c2 ∧ K_X12_four_3 fu (n + 1) v (zi x2) m = K_X12_four_3 fu n v (zi (x2 + -8)) m2 ∧ TXc c2 T2 (L + 1) ∧ TXr m2 T2 (L + 1) ∧ Fr PFc c c2 ∧ Fr PFm m m2 := by
  obtain ⟨p1, p2, p3, p4⟩ := hX
  obtain ⟨q1, q2, q3, q4⟩ := hM
  obtain ⟨w, hw⟩ : ∃ w : Int32, w = v >>> (zi x2 &&& 31) := ⟨_, rfl⟩
  have i0 : (zi x2 < (0 : Int32)) = (x2 < 0) := zi_lt (b_ := 0) (by omega) (by omega) (by decide) (by decide)
  have i7 : (zi (L : Int) < (700 : Int32)) = ((L : Int) < 700) := zi_lt (b_ := 700) (by omega) (by omega) (by decide) (by decide)
  have e8 : zi x2 + (-8) = zi (x2 + -8) := by
    rw [show (-8 : Int32) = zi (-8) from rfl, zi_add]
  have e1 : zi (L : Int) + 1 = zi ((L + 1 : Nat) : Int) := zi_add (L : Int) 1
  obtain ⟨b1, b2⟩ := lo8 w
  have hT : ∀ i, 0 ≤ (fun i => if i = L then (w &&& 255).toInt else T i : Nat → Int) i ∧ (fun i => if i = L then (w &&& 255).toInt else T i : Nat → Int) i ≤ 255 := fun i => by
    show 0 ≤ (if i = L then (w &&& 255).toInt else T i) ∧ (if i = L then (w &&& 255).toInt else T i) ≤ 255
    by_cases q : i = L
    · rw [if_pos q]
      exact ⟨b1, b2⟩
    · rw [if_neg q]
      exact p1 i
  have f1 : Fr PFc c (mw c 3 L (zi (sgn8 (w &&& 255).toInt))) := Fr_mw _ _ (by unfold PFc; exact Bool.or_true _)
  have g1 : Fr PFm m (mw m 1 L (w &&& 255)) := Fr_mw _ _ (by unfold PFm; exact Bool.or_true _)
  have r1 : rd (mw c 3 L (zi (sgn8 (w &&& 255).toInt))) 2 1 = zi (L : Int) := by
    rw [rd_mw, if_neg (fun h => absurd h.1 (by decide))]
    exact p3
  have s1 : rd (mw m 1 L (w &&& 255)) 0 2 = zi (L : Int) := by
    rw [rd_mw, if_neg (fun h => absurd h.1 (by decide))]
    exact q3
  refine ⟨mw (mw c 3 L (zi (sgn8 (w &&& 255).toInt))) 2 1 (zi ((L + 1 : Nat) : Int)), mw (mw m 1 L (w &&& 255)) 0 2 (zi ((L + 1 : Nat) : Int)), fun i => if i = L then (w &&& 255).toInt else T i, ?_, ?_, ⟨hT, by omega, ?_, fun i hi => ?_⟩, ⟨hT, by omega, ?_, fun i hi => ?_⟩, Fr_tr f1 (Fr_mw _ _ rfl), Fr_tr g1 (Fr_mw _ _ rfl)⟩
  · rw [K_X9_append_3, if_neg (fun h => by have := i0.mp h; omega), p3, if_pos (i7.mpr (by omega)), gi_zi (by omega) (by omega) (by decide), cl4 (by omega), ← hw, st8, ltf, r1, ltf, e1, e8]
  · rw [K_X12_four_3, if_neg (fun h => by have := i0.mp h; omega), q3, gi_zi (by omega) (by omega) (by decide), cl4 (by omega), ← hw, ltf, s1, ltf, e1, e8]
  · rw [rd_mw, if_pos ⟨rfl, rfl⟩]
  · show _ = zi (sgn8 (if i = L then (w &&& 255).toInt else T i))
    rw [rd_mw, if_neg (fun h => absurd h.1 (by decide)), rd_mw]
    by_cases q : i = L
    · rw [if_pos ⟨rfl, q⟩, if_pos q]
    · rw [if_neg (fun h => q h.2), if_neg q]
      exact p4 i (by omega)
  · rw [rd_mw, if_pos ⟨rfl, rfl⟩]
  · show _ = zi (if i = L then (w &&& 255).toInt else T i)
    rw [rd_mw, if_neg (fun h => absurd h.1 (by decide)), rd_mw]
    by_cases q : i = L
    · rw [if_pos ⟨rfl, q⟩, if_pos q]
      exact (zi_of _).symm
    · rw [if_neg (fun h => q h.2), if_neg q]
      exact q4 i (by omega)
theorem p_four (fu : Nat) (hfu : 1000 ≤ fu) (v : Int32) {c m : Mem} {T : Nat → Int} {L : Nat} (hX : TXc c T L) (hM : TXr m T L) (hL : L + 4 ≤ 700) : ∃ c2 m2 T2, K_X9_append fu v c = some c2 ∧ K_X12_four fu v m = some m2 ∧ TXc c2 T2 (L + 4) ∧ TXr m2 T2 (L + 4) ∧ Fr PFc c c2 ∧ Fr PFm m m2 := by
  obtain ⟨n, hn⟩ : ∃ n, fu = n + 5 := ⟨fu - 5, by omega⟩
  obtain ⟨c1, m1, T1, a1, b1, h1, k1, f1, g1⟩ := p_ap fu v hX hM (by omega) (x2 := 24) (by decide) (by decide) (n + 4)
  obtain ⟨c2, m2, T2, a2, b2, h2, k2, f2, g2⟩ := p_ap fu v h1 k1 (by omega) (x2 := 24 + -8) (by decide) (by decide) (n + 3)
  obtain ⟨c3, m3, T3, a3, b3, h3, k3, f3, g3⟩ := p_ap fu v h2 k2 (by omega) (x2 := 24 + -8 + -8) (by decide) (by decide) (n + 2)
  obtain ⟨c4, m4, T4, a4, b4, h4, k4, f4, g4⟩ := p_ap fu v h3 k3 (by omega) (x2 := 24 + -8 + -8 + -8) (by decide) (by decide) (n + 1)
  have z : zi (24 + -8 + -8 + -8 + -8) < (0 : Int32) := by decide
  have a5 : K_X9_append_3 fu (n + 1) v (zi (24 + -8 + -8 + -8 + -8)) c4 = some c4 := by
    rw [K_X9_append_3, if_pos z]
  have b5 : K_X12_four_3 fu (n + 1) v (zi (24 + -8 + -8 + -8 + -8)) m4 = some m4 := by
    rw [K_X12_four_3, if_pos z]
  have a6 : K_X9_append_3 fu (n + 5) v (zi 24) c = some c4 := a1.trans (a2.trans (a3.trans (a4.trans a5)))
  have b6 : K_X12_four_3 fu (n + 5) v (zi 24) m = some m4 := b1.trans (b2.trans (b3.trans (b4.trans b5)))
  rw [← hn] at a6 b6
  exact ⟨c4, m4, T4, a6, b6, h4, k4, Fr_tr (Fr_tr (Fr_tr f1 f2) f3) f4, Fr_tr (Fr_tr (Fr_tr g1 g2) g3) g4⟩
theorem case0 (fu : Nat) (hfu : 40000 ≤ fu) (a : Nat → Int32) {mem : Mem} (h : JJ mem (mMp mem)) : ∃ mem2, K_case_0 fu a mem = some mem2 ∧ JJ mem2 (mMp mem2) := by
  have key : K_case_0 fu a mem = rowA fu (K_L_feed fu (a 1) (a 2) (a 3) (a 4) (a 5) mem) (K_X12_feed fu (a 1) (a 2) (a 3) (a 4) (a 5)) mem := rfl
  rw [key]
  have h' := h
  obtain ⟨s, sv, u, ps, L, T, e, p, hv, rp, ⟨_, ⟨hX, hM⟩, _⟩, _⟩ := h'
  have hL := hX.2.1
  have r1 : rd mem 2 1 = zi (L : Int) := hX.2.2.1
  have s1 : rd (mMp mem) 0 2 = zi (L : Int) := hM.2.2.1
  have e20 : zi (L : Int) + 20 = zi ((L : Int) + 20) := zi_add (L : Int) 20
  have i7 : ((700 : Int32) < zi ((L : Int) + 20)) = ((700 : Int) < (L : Int) + 20) := zi_lt (a_ := 700) (by decide) (by decide) (by omega) (by omega)
  by_cases q : L + 20 ≤ 700
  · obtain ⟨m0, n1, n2, n3⟩ := m_goes fu (mMp mem) true
    have n1' : K_X12_goes fu 1 (mMp mem) = some (zi 1, m0) := n1
    have hM0 : TXr m0 T L := ⟨hM.1, hM.2.1, (n3.1 _ _ rfl).trans hM.2.2.1, fun i hi => (n3.1 _ _ rfl).trans (hM.2.2.2 i hi)⟩
    obtain ⟨c1, m1, T1, a1, b1, h1, k1, f1, g1⟩ := p_four fu (by omega) (a 1) hX hM0 (by omega)
    obtain ⟨c2, m2, T2, a2, b2, h2, k2, f2, g2⟩ := p_four fu (by omega) (a 2) h1 k1 (by omega)
    obtain ⟨c3, m3, T3, a3, b3, h3, k3, f3, g3⟩ := p_four fu (by omega) (a 3) h2 k2 (by omega)
    obtain ⟨c4, m4, T4, a4, b4, h4, k4, f4, g4⟩ := p_four fu (by omega) (a 4) h3 k3 (by omega)
    obtain ⟨c5, m5, T5, a5, b5, h5, k5, f5, g5⟩ := p_four fu (by omega) (a 5) h4 k4 (by omega)
    have fc := Fr_tr (Fr_tr (Fr_tr (Fr_tr f1 f2) f3) f4) f5
    have gm := Fr_tr (Fr_tr (Fr_tr (Fr_tr g1 g2) g3) g4) g5
    have hA : K_L_feed fu (a 1) (a 2) (a 3) (a 4) (a 5) mem = some (0, ml (mset 0 255 mem c5) 255 0 (Int32.toInt64 (zi ((L + 4 + 4 + 4 + 4 + 4 : Nat) : Int)))) := by
      unfold K_L_feed K_X11_feed
      rw [r1, e20, if_neg (fun z => by have := i7.mp z; omega), a1, bd_s, a2, bd_s, a3, bd_s, a4, bd_s, a5, bd_s, h5.2.2.1]
      rfl
    have hB : K_X12_feed fu (a 1) (a 2) (a 3) (a 4) (a 5) (mMp mem) = some (zi ((L + 4 + 4 + 4 + 4 + 4 : Nat) : Int), m5) := by
      unfold K_X12_feed K_X12_feed_19
      rw [s1, e20, if_neg (fun z => by have := i7.mp z; omega), n1', bd_s, if_neg z10, b1, bd_s, b2, bd_s, b3, bd_s, b4, bd_s, b5, bd_s, k5.2.2.1]
    have h0 : rd m5 0 0 = zi 0 := (gm.1 _ _ rfl).trans n2
    refine ⟨_, rowA_ok fu hA P_ok.2 hB h0, rowA_JJ P_ok.1 (JJ_tx h (Fr_mono fc (fun k j z => z)) (Fr_tr (Fr_mono n3 (fun k j z => ?_)) (Fr_mono gm (fun k j z => ?_))) h5 k5)⟩
    · simp only [Bool.or_eq_false_iff, Bool.and_eq_false_iff, beq_eq_false_iff_ne, ne_eq] at z ⊢
      omega
    · unfold PFm
      simp only [Bool.or_eq_false_iff, Bool.and_eq_false_iff, beq_eq_false_iff_ne, ne_eq] at z ⊢
      omega
  · obtain ⟨m0, n1, n2, n3⟩ := m_goes fu (mMp mem) false
    have n1' : K_X12_goes fu 0 (mMp mem) = some (zi 0, m0) := n1
    have hA : K_L_feed fu (a 1) (a 2) (a 3) (a 4) (a 5) mem = some (1, mset 0 255 mem mem) := by
      unfold K_L_feed K_X11_feed
      rw [r1, e20, if_pos (i7.mpr (by omega))]
      rfl
    have hB : K_X12_feed fu (a 1) (a 2) (a 3) (a 4) (a 5) (mMp mem) = some (zi 0, m0) := by
      unfold K_X12_feed K_X12_feed_19
      rw [s1, e20, if_pos (i7.mpr (by omega)), n1', bd_s, if_pos z00]
      rfl
    exact ⟨_, rowA_no fu (by decide) hA hB n2, rowA_JJ (P_no mem mem) (JJ_m0 h n3)⟩
end FEDM
