section SC2M
def OUTs (x : Option (Int32 × Mem)) (y : Option Mem) (c m : Mem) (T : Nat → Int) (L N n : Nat) : Prop := ∃ c2 m2, Fr PZc c c2 ∧ Fr PZm m m2 ∧ y = some m2 ∧ ((x = some (zi 1, c2) ∧ ∃ (n' R C : Nat) (kd : Nat → Nat) (a b w : Nat → Int) (dp : Nat → Nat) (op : Nat → Nat → Nat), n < n' ∧ n' ≤ 700 ∧ CAr c2 T L N n' ∧ GMr m2 T L n' ∧ SCR c2 m2 R C kd a b w dp op) ∨ (x = some (zi 0, c2) ∧ EBr c2 m2))
theorem OUTs_gb {x : Option (Int32 × Mem)} {y : Option Mem} {c m : Mem} {T : Nat → Int} {L N n : Nat} (h : OUTs x y c m T L N n) : OUTs (bd x (fun p_6 => gb p_6.1 (some (p_6.1, p_6.2)))) y c m T L N n := by
  obtain ⟨c2, m2, h1, h2, h3, h4⟩ := h
  refine ⟨c2, m2, h1, h2, h3, ?_⟩
  rcases h4 with ⟨e, k⟩ | ⟨e, k⟩
  · rw [e, bd_s]
    exact Or.inl ⟨gb_zi _ (Or.inr rfl), k⟩
  · rw [e, bd_s]
    exact Or.inr ⟨gb_zi _ (Or.inl rfl), k⟩
theorem OUTs_if {x : Option (Int32 × Mem)} {y : Option Mem} {c m : Mem} {T : Nat → Int} {L N n : Nat} (h : OUTs x y c m T L N n) : OUTs (bd x (fun p_4 => (if p_4.1 = 0 then some (0, p_4.2) else some (1, p_4.2)))) y c m T L N n := by
  obtain ⟨c2, m2, h1, h2, h3, h4⟩ := h
  refine ⟨c2, m2, h1, h2, h3, ?_⟩
  rcases h4 with ⟨e, k⟩ | ⟨e, k⟩
  · rw [e, bd_s]
    exact Or.inl ⟨if_neg z10, k⟩
  · rw [e, bd_s]
    exact Or.inr ⟨if_pos z00, k⟩
/-- the reference's command, with the sign behind it -/
def ySg (fu : Nat) (x6 : Int32) (m_7 : Mem) : Option Mem := (if (rd m_7 0 45) = x6 then K_X12_mustSign fu 59 m_7 else some m_7)
theorem b_ySg (fu : Nat) {m : Mem} {e p : Int} (h : BDr m e p) (x6 : Int32) : ySg fu x6 m = some m := by
  unfold ySg
  by_cases q : rd m 0 45 = x6
  · rw [if_pos q]
    exact b_mustSign fu h _
  · rw [if_neg q]
def PRw (R k j : Nat) : Bool := PGe k j || (((decide (16 ≤ k) && decide (k ≤ 19)) && j == R) || (k == 0 && (decide (43 ≤ j) && decide (j ≤ 45))))
def PZr (R k j : Nat) : Bool := P2t k j || ((k == 10 && (j == 6 || j == 7)) || ((decide (11 ≤ k) && decide (k ≤ 14)) && j == R))
theorem PRw_Zm {R k j : Nat} (h : PZm k j = false) : PRw R k j = false := by
  unfold PZm at h
  unfold PRw
  simp only [Bool.or_eq_false_iff, Bool.and_eq_false_iff, beq_eq_false_iff_ne, ne_eq, decide_eq_false_iff_not] at h ⊢
  exact ⟨h.1, by omega⟩
theorem PZr_Zc {R k j : Nat} (h : PZc k j = false) : PZr R k j = false := by
  unfold PZc at h
  unfold PZr
  simp only [Bool.or_eq_false_iff, Bool.and_eq_false_iff, beq_eq_false_iff_ne, ne_eq, decide_eq_false_iff_not] at h ⊢
  exact ⟨h.1, by omega⟩
theorem PGe_Rw {R k j : Nat} (h : PRw R k j = false) : PGe k j = false := (Bool.or_eq_false_iff.mp h).1
theorem P2_Zr {R k j : Nat} (h : PZr R k j = false) : P2t k j = false := (Bool.or_eq_false_iff.mp h).1
theorem FRw {R : Nat} {m : Mem} {k : Nat} (h1 : 16 ≤ k) (h2 : k ≤ 19) (v : Int32) : Fr (PRw R) m (mw m k R v) := Fr_mw _ _ (by unfold PRw; simp [h1, h2])
theorem F43 {R : Nat} {m : Mem} {j : Nat} (h1 : 43 ≤ j) (h2 : j ≤ 45) (v : Int32) : Fr (PRw R) m (mw m 0 j v) := Fr_mw _ _ (by unfold PRw; simp [h1, h2])
theorem PRw_row {R k j : Nat} (h1 : 16 ≤ k) (h2 : j ≠ R) : PRw R k j = false := by
  unfold PRw PGe
  simp only [Bool.or_eq_false_iff, Bool.and_eq_false_iff, beq_eq_false_iff_ne, ne_eq, decide_eq_false_iff_not]
  omega
theorem PZr_row {R k j : Nat} (h1 : 11 ≤ k) (h2 : j ≠ R ∨ 15 ≤ k) : PZr R k j = false := by
  unfold PZr P2t
  simp only [Bool.or_eq_false_iff, Bool.and_eq_false_iff, beq_eq_false_iff_ne, ne_eq, decide_eq_false_iff_not]
  omega
/-- the row that both have added, up to its sign -/
theorem s_fin (fu : Nat) (hfu : 1000 ≤ fu) {c0 m0 c m : Mem} {T : Nat → Int} {L N n n0 R C : Nat} {kd : Nat → Nat} {a b w : Nat → Int} {dp : Nat → Nat} {op : Nat → Nat → Nat} (hS : SCR c0 m0 R C kd a b w dp op) (hC : C < 30) {k : Nat} (hk : k ≤ 3) {x y z : Int} (h0 : k = 0 → 0 ≤ x ∧ x ≤ 3) (h1 : k = 1 → (0 ≤ x ∧ x ≤ 99) ∧ (0 ≤ y ∧ y ≤ 99) ∧ (z = 0 ∨ z = 1)) (h3 : k = 3 → (0 ≤ x ∧ x ≤ 99) ∧ 0 ≤ y ∧ y ≤ 99) (hA : CAr c T L N n) (hG : GMr m T L n) (hn : n ≤ 900) (hn0 : n0 ≤ n) (h6 : rd c 10 6 = zi ((R + 1 : Nat) : Int)) (hv : rd c 11 R = zi (k : Int) ∧ rd c 12 R = zi x ∧ rd c 13 R = zi y ∧ rd c 14 R = zi z) (h7 : rd c 10 7 = zi ((C + 1 : Nat) : Int)) (fc : Fr (PZr R) c0 c) (hm : rd m 0 43 = zi (R : Int) ∧ rd m 0 44 = zi ((C + 1 : Nat) : Int) ∧ rd m 0 45 = zi (dp R : Int)) (hvm : rd m 16 R = zi (k : Int) ∧ ((k = 0 ∨ k = 1 ∨ k = 3 ∨ k = 4) → rd m 17 R = zi x) ∧ (k = 1 ∨ k = 3 → rd m 18 R = zi y) ∧ (k = 1 → rd m 19 R = zi (z + 1))) (fm : Fr (PRw R) m0 m) : OUTs (K_X9_needSign fu 59 c) (bd (K_X12_command_186 fu (zi (k : Int)) m) (ySg fu (zi (dp R : Int)))) c0 m0 T L N n0 := by
  obtain ⟨s1, s2, s3, s4, s5⟩ := hS
  have hR2 := (s3.2.2 R (Nat.le_refl R)).1
  obtain ⟨m1, hm1⟩ : ∃ m1, m1 = mw (mw m 0 43 (zi ((R + 1 : Nat) : Int))) 0 45 (zi (dp R : Int)) := ⟨_, rfl⟩
  have f1 : Fr (fun k j => k == 0 && (decide (43 ≤ j) && decide (j ≤ 45))) m m1 := by
    rw [hm1]
    exact Fr_tr (Fr_mw _ _ rfl) (Fr_mw _ _ rfl)
  have f1n : ∀ j, j ≤ 42 → (fun k j => k == 0 && (decide (43 ≤ j) && decide (j ≤ 45)) : Nat → Nat → Bool) 0 j = false := fun j hj => by
    simp only [Bool.and_eq_false_iff, beq_eq_false_iff_ne, ne_eq, decide_eq_false_iff_not]
    omega
  have f1R : Fr (PRw R) m m1 := by
    rw [hm1]
    exact Fr_tr (F43 (by decide) (by decide) _) (F43 (by decide) (by decide) _)
  have hG1 : GMr m1 T L n := GM_fr hG f1 (fun j hj => f1n j (by omega)) (fun j => rfl)
  have k4 : ¬ (zi (k : Int) = (4 : Int32)) := by
    have : (zi (k : Int) = (4 : Int32)) = ((k : Int) = 4) := zi_inj (b_ := 4) (by omega) (by omega) (by decide) (by decide)
    rw [this]
    omega
  have h186 : K_X12_command_186 fu (zi (k : Int)) m = some m1 := by
    have e45 : rd (mw m 0 43 (zi ((R + 1 : Nat) : Int))) 0 45 = zi (dp R : Int) := by
      rw [rd_mw, if_neg (by decide)]
      exact hm.2.2
    have e1 : zi (R : Int) + 1 = zi ((R + 1 : Nat) : Int) := zi_add (R : Int) 1
    have e0 : zi (dp R : Int) + 0 = zi (dp R : Int) := by
      rw [show (0 : Int32) = zi 0 from rfl, zi_add, Int.add_zero]
    unfold K_X12_command_186 K_X12_command_219
    rw [g_isGood fu hG.2.1, bd_s, if_neg z10, hm.1, e1, ltf, if_neg k4, e45, show K_X12_truth fu 0 (mw m 0 43 (zi ((R + 1 : Nat) : Int))) = some 0 from rfl, bd_s, e0, ltf, hm1]
  have e45 : rd m1 0 45 = zi (dp R : Int) := by rw [hm1, rd_mw, if_pos ⟨rfl, rfl⟩]
  rw [h186, bd_s]
  unfold ySg
  rw [if_pos e45]
  rcases p_sign fu hfu hA hG1 (by omega) (x := 59) ⟨by decide, by decide⟩ with ⟨c2, m2, g1, g2, g3, g4, g5, g6, g7, g8⟩ | ⟨c2, m2, g1, g2, g3, g4, g5, g6, g7⟩
  · have g5' : K_X12_mustSign fu 59 m1 = some m2 := g5
    have ht := tok_700 g2.1 (by rw [sg_k g3]; decide)
    refine ⟨c2, m2, Fr_tr (Fr_mono fc (fun _ _ => PZr_Zc)) (FZc g7), Fr_tr (Fr_tr (Fr_mono fm (fun _ _ => PRw_Zm)) (Fr_mono f1R (fun _ _ => PRw_Zm))) (FZm g8), g5', Or.inl ⟨g1, n + 1, R + 1, C + 1, upN kd R k, upN a R x, upN b R y, upN w R z, upN dp (R + 1) (dp R), upN op (R + 1) (op R), by omega, by omega, CB_A g2, g6, ?_⟩⟩
    have hc9 : rd c 10 9 = zi (dp R : Int) := (fc.1 _ _ (by unfold PZr P2t; rfl)).trans s1.1.2.2
    refine SCR_fr (c := c) (m := m1) ⟨?_, ?_, ?_, by omega, ?_⟩ g7 g8
    · have hs1 : SRc c0 R C (dp R) kd a b w (op R) := s1
      have hs1' : SRc c0 R (C + 1) (dp R) kd a b w (op R) → SRc c (R + 1) (C + 1) (dp R) (upN kd R k) (upN a R x) (upN b R y) (upN w R z) (op R) := fun q => SRc_add q h6 hv ⟨C + 1, rfl, h7⟩ hc9 (fun k j a1 a2 a3 => fc.1 _ _ (PZr_row a1 (Or.inl a3))) (fun kk hkk => (fc.1 _ _ (PZr_row (by decide) (Or.inr (by decide)))).trans (s1.2.2 kk hkk))
      rw [upN_eq, upN_eq]
      refine ⟨⟨h6, h7, hc9⟩, fun i hi => ?_, fun kk hkk => (fc.1 _ _ (PZr_row (by decide) (Or.inr (by decide)))).trans (s1.2.2 kk hkk)⟩
      by_cases q : i = R
      · rw [q, upN_eq, upN_eq, upN_eq, upN_eq]
        exact ⟨hv.1, hv.2.1, fun _ => hv.2.2.1, fun _ => hv.2.2.2⟩
      · rw [upN_ne q, upN_ne q, upN_ne q, upN_ne q]
        obtain ⟨t1, t2, t3, t4⟩ := s1.2.1 i (by omega)
        exact ⟨(fc.1 _ _ (PZr_row (by decide) (Or.inl q))).trans t1, (fc.1 _ _ (PZr_row (by decide) (Or.inl q))).trans t2, fun h => (fc.1 _ _ (PZr_row (by decide) (Or.inl q))).trans (t3 h), fun h => (fc.1 _ _ (PZr_row (by decide) (Or.inl q))).trans (t4 h)⟩
    · rw [upN_eq]
      refine SRm_add s2 ?_ ?_ e45 ?_ (fun k j a1 a2 a3 => ((Fr_tr fm f1R).1 _ _ (PRw_row a1 a3)))
      · rw [hm1, rd_mw, if_neg (by decide), rd_mw, if_pos ⟨rfl, rfl⟩]
      · rw [hm1, rd_mw, if_neg (by decide), rd_mw, if_neg (by decide)]
        exact hm.2.1
      · have g16 : ∀ k j, k ≠ 0 → rd m1 k j = rd m k j := fun k j hk => f1.1 _ _ (by simp only [Bool.and_eq_false_iff, beq_eq_false_iff_ne, ne_eq]; exact Or.inl hk)
        rw [g16 _ _ (by decide), g16 _ _ (by decide), g16 _ _ (by decide), g16 _ _ (by decide)]
        exact hvm
    · exact WF_add s3 (by omega) h0 h1 h3 (fun h => by omega) (fun h => by omega) (fun _ => ⟨rfl, fun i _ => rfl⟩)
    · rw [upN_eq]
      omega
  · have g4' : K_X12_mustSign fu 59 m1 = some m2 := g4
    exact ⟨c2, m2, Fr_tr (Fr_mono fc (fun _ _ => PZr_Zc)) (FZc g6), Fr_tr (Fr_tr (Fr_mono fm (fun _ _ => PRw_Zm)) (Fr_mono f1R (fun _ _ => PRw_Zm))) (FZm g7), g4', Or.inr ⟨g1, g5⟩⟩
end SC2M
