section MFF
theorem WI_et {np nb fu : Nat} (hfu : 100000 ≤ fu) {m : Mem} {s : Nat → Int} (h : WI np nb m s) (ho : ovB s = false) : ∃ m2, KW_endTurn np nb fu m = some m2 ∧ WI np nb m2 (etS s) := by
  have hI := h.2.1
  have hov := ov_2 hI.2.1 ho
  obtain ⟨m2, g1, g2⟩ := w_endTurn (fu := fu) (by omega) (etO_of hI.2.1 hI.2.2.2.1 (by omega)) h.1
  exact ⟨m2, g1, WI_mk h g2 (Inv_et hI hov.2.1 (by omega)) (fun j hj => etS_ne (by omega) (by omega))⟩
theorem w_152 {np nb fu : Nat} (hfu : 100000 ≤ fu) {m : Mem} {s : Nat → Int} (h : WI np nb m s) (ho : ovB s = false) : ∃ m2, KW_play_152 np nb fu m = some m2 ∧ WI np nb m2 (adv1 s) := by
  have hI := h.2.1
  have e2 := h.1.1.1
  have hov := ov_2 hI.2.1 ho
  have c6 := hI.2.1.2.2.2.2.2.1
  obtain ⟨t, ht⟩ : ∃ t : Nat, s 7 = (t : Int) := ⟨(s 7).toNat, by omega⟩
  have r4 : rd m 0 4 = zi (t : Int) := by rw [h.1.2.2.1.2.2, ht]
  unfold KW_play_152 adv1
  rw [r4, w_advised hfu h (p := t) (by omega), bd_s, ht]
  rcases avS_sp s t with q | ⟨e, q1, q2, q3⟩
  · obtain ⟨m2, g1, g2⟩ := WI_et hfu h ho
    refine ⟨m2, ?_, ?_⟩
    · rw [q, if_pos (by decide), g1, bd_s]
    · rw [if_pos q]
      exact g2
  · rw [q1, Int.toNat_natCast, if_neg (by rw [show (0 : Int32) = zi 0 from rfl, zi_lt (by omega) (by omega) (by omega) (by omega)]; omega), if_neg (by omega)]
    rw [← ht] at q3
    obtain ⟨m2, g1, g2⟩ := w_step hfu h q2 q3
    rw [ht] at g1 g2
    exact ⟨m2, by rw [g1, bd_s], g2⟩
theorem w_95 {np nb fu : Nat} (hfu : 100000 ≤ fu) {m : Mem} {s : Nat → Int} (h : WI np nb m s) (ho : ovB s = false) {mode nr : Int} (h3 : nr ≠ -1 → 0 < pg s (s 7) 3 ∧ nr = nrS s (s 7) ∧ mode = 1) (hno : nr = -1 → ¬ (mode = 1 ∧ rvS s ≠ -1)) : ∃ m2, KW_play_95 np nb fu (zi nr) m = some m2 ∧ WI np nb m2 (onS s mode) := by
  have hI := h.2.1
  have e2 := h.1.1.1
  have hov := ov_2 hI.2.1 ho
  have c6 := hI.2.1.2.2.2.2.2.1
  have c1 := hI.2.1.1
  obtain ⟨t, ht⟩ : ∃ t : Nat, s 7 = (t : Int) := ⟨(s 7).toNat, by omega⟩
  have r4 : rd m 0 4 = zi (t : Int) := by rw [h.1.2.2.1.2.2, ht]
  unfold KW_play_95 onS
  by_cases c0 : nr = -1
  · rw [c0, if_pos (by decide), if_neg (fun e => hno c0 ⟨e.1, e.2.1⟩)]
    exact w_152 hfu h ho
  obtain ⟨w1, w2, w3⟩ := h3 c0
  rcases nrS_sp c1.1 (s 7) with q | ⟨q1, q2, q3, q4⟩
  · exact absurd (w2.trans q) c0
  rw [← w2] at q1 q2 q3 q4
  obtain ⟨u, hu⟩ : ∃ u : Nat, nr = (u : Int) := ⟨nr.toNat, by omega⟩
  have hun : u < np := by omega
  have htn : t < np := by omega
  have bu := dst_le hI.1 hI.2.2.1 (hI.2.2.2.1 u (by omega) (by omega))
  have bt := dst_le hI.1 hI.2.2.1 (hI.2.2.2.1 t (by omega) (by omega))
  have rv : rvS s = if dst s nr < dst s (s 7) then nr else -1 := by
    unfold rvS
    rw [if_pos w1, ← w2, if_neg c0]
  rw [if_neg (by rw [show (0 : Int32) = zi 0 from rfl, zi_lt (by omega) (by omega) (by omega) (by omega)]; omega), r4, hu, LW_dst hfu h hun, LW_dst hfu h htn, bd_s, bd_s]
  by_cases c1 : dst s u < dst s t
  · have rv2 : rvS s = nr := by rw [rv, hu, ht, if_pos c1]
    have hu6 : pg s u 6 = 0 := by rw [← hu]; exact q3
    obtain ⟨b, m2, a1, a2, a3⟩ := w_bestWall hfu h hun hu6
    rw [if_pos (by rw [zi_lt (by omega) (by omega) (by omega) (by omega)]; exact c1), a1, bd_s, rv2, hu]
    rcases a3 with ⟨rfl, a4⟩ | ⟨f, rfl, a4, a5, a6, a7, a8⟩
    · rw [if_neg (by omega)]
      exact w_152 hfu a2 ho
    · show ∃ m3, bd (KW_distance np nb fu (zi (u : Int)) m2) _ = some m3 ∧ _
      rw [LW_dst hfu a2 hun, bd_s, a5, a6, a7, a8]
      by_cases c2 : 1 ≤ (bstB s u).1
      · obtain ⟨g1, g2⟩ := bst_sp hI (p := (u : Int)) (by omega) (by omega)
        obtain ⟨k1, k2, k3, k4, k5, k6, k7⟩ := g2 (by omega)
        obtain ⟨m3, b1, b2⟩ := w_build hfu a2 k3 (by omega) k4 ho w1
        rw [if_pos (by rw [zi_lt (by omega) (by omega) (by omega) (by omega)]; omega), if_pos ⟨w3, by omega, c2⟩]
        dsimp only
        exact ⟨m3, by rw [b1, bd_s], b2⟩
      · rw [if_neg (by rw [zi_lt (by omega) (by omega) (by omega) (by omega)]; omega), if_neg (fun e => c2 e.2.2)]
        exact w_152 hfu a2 ho
  · have rv2 : rvS s = -1 := by rw [rv, hu, ht, if_neg c1]
    rw [if_neg (by rw [zi_lt (by omega) (by omega) (by omega) (by omega)]; exact c1), if_neg (fun e => e.2.1 rv2)]
    exact w_152 hfu h ho
theorem w_pl4 {np nb fu : Nat} (hfu : 100000 ≤ fu) {m : Mem} {s : Nat → Int} (h : WI np nb m s) (ho : ovB s = false) (h3 : 0 < pg s (s 7) 3) : ∀ (q n k : Nat) (b : BC), k + q = np → q < n → (b.1 = -1 ∨ (0 ≤ b.1 ∧ b.1 < np ∧ b.2 = dst s b.1)) → KW_play_4 np nb fu n (zi 1) (zi b.1) (zi (k : Int)) m = KW_play_95 np nb fu (zi (nrF s (s 7) q k b).1) m := by
  have hI := h.2.1
  have e2 := h.1.1.1
  have hov := ov_2 hI.2.1 ho
  have c6 := hI.2.1.2.2.2.2.2.1
  have c1 := hI.2.1.1
  obtain ⟨t, ht⟩ : ∃ t : Nat, s 7 = (t : Int) := ⟨(s 7).toNat, by omega⟩
  have r4 : rd m 0 4 = zi (t : Int) := by rw [h.1.2.2.1.2.2, ht]
  rw [ht] at h3 ⊢
  have bt := hI.2.2.2.1 t (by omega) (by omega)
  intro q
  induction q with
  | zero =>
    intro n k b hk hn hb
    obtain ⟨n, rfl⟩ : ∃ f, n = f + 1 := ⟨n - 1, by omega⟩
    rw [KW_play_4, ofNp, if_neg (by rw [zi_lt (by omega) (by omega) (by omega) (by omega)]; omega)]
    rfl
  | succ q ih =>
    intro n k b hk hn hb
    obtain ⟨n, rfl⟩ : ∃ f, n = f + 1 := ⟨n - 1, by omega⟩
    have bk := hI.2.2.2.1 k (by omega) (by omega)
    have b3 := bt.2.2.1
    have b6 := bk.2.2.2.2.2.1
    have c5 := hI.2.1.2.2.2.2.1
    have c4 := hI.2.1.2.2.2.1
    have kn : zi (k : Int) + 1 = zi ((k + 1 : Nat) : Int) := by
      rw [show (1 : Int32) = zi 1 from rfl, zi_add]
      rfl
    rw [KW_play_4, ofNp, if_pos (by rw [zi_lt (by omega) (by omega) (by omega) (by omega)]; omega), if_pos (by rfl), r4, gi_zi (by omega) (by omega) (by omega), zi_clamp (by omega) (by omega), Int.toNat_natCast, (h.1.2.2.2.1 t (by omega)).2.2.2.1, if_pos (by rw [show (0 : Int32) = zi 0 from rfl, zi_lt (by omega) (by omega) (by omega) (by omega)]; exact h3), kn, nrF]
    unfold stNr
    by_cases d1 : (k : Int) = t
    · rw [if_pos (congrArg zi d1), if_neg (fun e => e.2 d1)]
      exact ih n (k + 1) b (by omega) (by omega) hb
    rw [if_neg (fun e => d1 ((zi_inj (by omega) (by omega) (by omega) (by omega)).mp e)), gi_zi (by omega) (by omega) (by omega), zi_clamp (by omega) (by omega), Int.toNat_natCast, (h.1.2.2.2.1 k (by omega)).2.2.2.2.2.2]
    by_cases d2 : pg s k 6 = 0
    · rw [if_pos (show zi (pg s k 6) = (0 : Int32) from congrArg zi d2), if_pos (show pg s k 6 = 0 ∧ (k : Int) ≠ (t : Int) from ⟨d2, d1⟩)]
      by_cases d3 : b.1 = -1
      · rw [if_pos (by rw [d3]; decide), if_pos (show b.1 = -1 ∨ dst s k < b.2 from Or.inl d3)]
        exact ih n (k + 1) ((k : Int), dst s k) (by omega) (by omega) (Or.inr ⟨by dsimp only; omega, by dsimp only; omega, rfl⟩)
      · rcases hb with hb | ⟨hb1, hb2, hb3⟩
        · exact absurd hb d3
        obtain ⟨u, hu⟩ : ∃ u : Nat, b.1 = (u : Int) := ⟨b.1.toNat, by omega⟩
        have bu := dst_le hI.1 hI.2.2.1 (hI.2.2.2.1 u (by omega) (by omega))
        have bkd := dst_le hI.1 hI.2.2.1 bk
        rw [if_neg (by rw [show (0 : Int32) = zi 0 from rfl, zi_lt (by omega) (by omega) (by omega) (by omega)]; omega), LW_dst hfu h (p := k) (by omega), bd_s, hu, LW_dst hfu h (p := u) (by omega), bd_s]
        have hb4 : b.2 = dst s u := by rw [hb3, hu]
        by_cases d4 : dst s k < dst s u
        · rw [if_pos (by rw [zi_lt (by omega) (by omega) (by omega) (by omega)]; exact d4), if_pos (show (u : Int) = -1 ∨ dst s k < b.2 from Or.inr (by omega))]
          exact ih n (k + 1) ((k : Int), dst s k) (by omega) (by omega) (Or.inr ⟨by dsimp only; omega, by dsimp only; omega, rfl⟩)
        · rw [if_neg (by rw [zi_lt (by omega) (by omega) (by omega) (by omega)]; exact d4), if_neg (show ¬ ((u : Int) = -1 ∨ dst s k < b.2) from fun e => by rcases e with e | e <;> omega), ← hu]
          exact ih n (k + 1) b (by omega) (by omega) (Or.inr ⟨hb1, hb2, hb3⟩)
    · rw [if_neg (show ¬ zi (pg s k 6) = (0 : Int32) from fun e => d2 ((zi_inj (by omega) (by omega) (by omega) (by omega)).mp e)), if_neg (show ¬ (pg s k 6 = 0 ∧ (k : Int) ≠ (t : Int)) from fun e => d2 e.1)]
      exact ih n (k + 1) b (by omega) (by omega) hb
theorem w_play {np nb fu : Nat} (hfu : 100000 ≤ fu) {m : Mem} {s : Nat → Int} (h : WI np nb m s) (ho : ovB s = false) {mode : Int} (hm : mode = 0 ∨ mode = 1) : ∃ m2, KW_play np nb fu (zi mode) m = some m2 ∧ WI np nb m2 (onS s mode) := by
  have hI := h.2.1
  have e2 := h.1.1.1
  have hov := ov_2 hI.2.1 ho
  have c6 := hI.2.1.2.2.2.2.2.1
  have c1 := hI.2.1.1
  obtain ⟨t, ht⟩ : ∃ t : Nat, s 7 = (t : Int) := ⟨(s 7).toNat, by omega⟩
  have r4 : rd m 0 4 = zi (t : Int) := by rw [h.1.2.2.1.2.2, ht]
  have bt := hI.2.2.2.1 t (by omega) (by omega)
  unfold KW_play
  have z1 : (-1 : Int32) = zi (-1) := rfl
  have z0 : (0 : Int32) = zi ((0 : Nat) : Int) := rfl
  have no : ¬ (0 < pg s (s 7) 3 ∧ mode = 1) → KW_play_4 np nb fu 5 (zi mode) (-1) 0 m = KW_play_95 np nb fu (zi (-1)) m := fun hn => by
    rw [KW_play_4, ofNp]
    by_cases d1 : mode = 1
    · rw [if_pos (by rw [z0, zi_lt (by omega) (by omega) (by omega) (by omega)]; omega), if_pos (show zi mode = (1 : Int32) from congrArg zi d1), r4, gi_zi (by omega) (by omega) (by omega), zi_clamp (by omega) (by omega), Int.toNat_natCast, (h.1.2.2.2.1 t (by omega)).2.2.2.1, if_neg (by
        have := bt.2.2.1
        rw [show (0 : Int32) = zi 0 from rfl, zi_lt (by omega) (by omega) (by omega) (by omega)]
        intro e
        exact hn ⟨by rw [ht]; exact e, d1⟩)]
      rfl
    · rw [if_pos (by rw [z0, zi_lt (by omega) (by omega) (by omega) (by omega)]; omega), if_neg (show ¬ zi mode = (1 : Int32) from fun e => d1 ((zi_inj (by omega) (by omega) (by omega) (by omega)).mp e))]
      rfl
  by_cases c : 0 < pg s (s 7) 3 ∧ mode = 1
  · have e := w_pl4 hfu h ho c.1 np 5 0 (-1, 0) (by omega) (by omega) (Or.inl rfl)
    have sn : (s 2).toNat = np := by omega
    rw [c.2]
    rw [show (-1 : Int32) = zi (((-1 : Int), (0 : Int)) : BC).1 from rfl, z0, e]
    have en : (nrF s (s 7) np 0 (-1, 0)).1 = nrS s (s 7) := by
      unfold nrS
      rw [sn]
    rw [en]
    refine w_95 hfu h ho (fun _ => ⟨c.1, rfl, rfl⟩) (fun q r => r.2 ?_)
    unfold rvS
    rw [if_pos c.1, if_pos q]
  · rw [no c]
    refine w_95 hfu h ho (fun q => absurd rfl q) (fun _ r => c ⟨?_, r.1⟩)
    by_cases q : 0 < pg s (s 7) 3
    · exact q
    · refine absurd ?_ r.2
      unfold rvS
      rw [if_neg q]
end MFF
