section GRY
theorem rg_perm1 {β : Type} {n a : Nat} (F : Nat → β) (ha : a < n) : ((List.range n).map F).Perm (F a :: ((List.range n).filter (fun k => decide (k ≠ a))).map F) := by
  have h : (List.range n).Perm (a :: (List.range n).filter (fun k => decide (k ≠ a))) := by
    refine (List.perm_ext_iff_of_nodup List.nodup_range ?_).mpr (fun x => ?_)
    · refine List.nodup_cons.mpr ⟨fun h => ?_, List.nodup_range.filter _⟩
      simp at h
    · simp only [List.mem_range, List.mem_cons, List.mem_filter, decide_eq_true_eq]
      omega
  exact h.map F
theorem rg_perm2 {β : Type} {n a b : Nat} (F : Nat → β) (ha : a < n) (hb : b < n) (hab : a ≠ b) : ((List.range n).map F).Perm (F a :: F b :: ((List.range n).filter (fun k => decide (k ≠ a ∧ k ≠ b))).map F) := by
  have h : (List.range n).Perm (a :: b :: (List.range n).filter (fun k => decide (k ≠ a ∧ k ≠ b))) := by
    refine (List.perm_ext_iff_of_nodup List.nodup_range ?_).mpr (fun x => ?_)
    · refine List.nodup_cons.mpr ⟨fun h => ?_, List.nodup_cons.mpr ⟨fun h => ?_, List.nodup_range.filter _⟩⟩
      · simp [hab] at h
      · simp at h
    · simp only [List.mem_range, List.mem_cons, List.mem_filter, decide_eq_true_eq]
      omega
  exact h.map F
theorem mp_same {β : Type} {L : List Nat} {P : Nat → Bool} {F G : Nat → β} (h : ∀ k ∈ L, P k = true → F k = G k) : (L.filter P).map F = (L.filter P).map G := by
  refine List.map_congr_left (fun k hk => ?_)
  obtain ⟨h1, h2⟩ := List.mem_filter.mp hk
  exact h k h1 h2
/-- one more place behind the others -/
def adS (ad : Nat → Nat) (k v : Nat) : Nat → Nat := fun j => if j = k then v else ad j
theorem adS_n {ad : Nat → Nat} {k v : Nat} : adS ad k v k = v := if_pos rfl
theorem adS_o {ad : Nat → Nat} {k v j : Nat} (h : j ≠ k) : adS ad k v j = ad j := if_neg h
variable {ca ad : Nat → Nat} {np nb eD tS sB : Nat} {mem : Mem}
/-- the entry of a place of the law's race -/
def gE (ca ad : Nat → Nat) (np nb eD tS sB : Nat) (mem : Mem) (k : Nat) : Nat × va_E := (ad k, cWd ca ad np nb eD tS sB k (mem k))
def gL (ca ad : Nat → Nat) (np nb eD tS sB : Nat) (mem : Mem) : va_W := wf (nW np nb) ad (cWd ca ad np nb eD tS sB) mem
theorem gL_map : gL ca ad np nb eD tS sB mem = (List.range (nW np nb)).map (gE ca ad np nb eD tS sB mem) := rfl
theorem nW_0 : nW 0 nb = 12 := rfl
theorem nW_p (h : 0 < np) : nW np 0 = 13 + np := by
  unfold nW
  rw [if_neg (by omega), if_pos rfl]
theorem nW_b (h : 0 < np) (h2 : 0 < nb) : nW np nb = 14 + np + nb := by
  unfold nW
  rw [if_neg (by omega), if_neg (by omega)]
/-- a pawn's row behind the others: the memory, the list's row -/
def gM (mem : Mem) (k : Nat) (i : Nat) (r : Row) : Mem := mr (mw mem i 0 (rd mem i 0 + 1)) k r
theorem gM_i {mem : Mem} {k i : Nat} {r : Row} (h : i ≠ k) : (gM mem k i r i).1 0 = rd mem i 0 + 1 := by
  unfold gM
  rw [show mr (mw mem i 0 (rd mem i 0 + 1)) k r i = mw mem i 0 (rd mem i 0 + 1) i from if_neg h]
  show (if i = i then _ else mem i : Row).1 0 = _
  rw [if_pos rfl]
  exact (pk_us : upd (mem i).1 0 (rd mem i 0 + 1) 0 = _)
theorem gM_k {mem : Mem} {k i : Nat} {r : Row} : gM mem k i r k = r := if_pos rfl
theorem gM_o {mem : Mem} {k i j : Nat} {r : Row} (h1 : j ≠ k) (h2 : j ≠ i) : gM mem k i r j = mem j := by
  unfold gM
  rw [show mr (mw mem i 0 (rd mem i 0 + 1)) k r j = mw mem i 0 (rd mem i 0 + 1) j from if_neg h1]
  exact if_neg h2
theorem cWd_lo {ad2 : Nat → Nat} {np2 nb2 : Nat} {f : Row} {k : Nat} (h : k < 12) (h1 : k ≠ 1) (h2 : k ≠ 2) (ha : ∀ j, j < 12 → ad2 j = ad j) : cWd ca ad2 np2 nb2 eD tS sB k f = cWd ca ad np nb eD tS sB k f := by
  unfold cWd
  by_cases h0 : k = 0
  · rw [if_pos h0, if_pos h0, ha 1 (by omega), ha 2 (by omega), ha 3 (by omega)]
  rw [if_neg h0, if_neg h0, if_neg h1, if_neg h1, if_neg h2, if_neg h2]
  by_cases h3 : k = 3
  · rw [if_pos h3, if_pos h3]
    congr 7
    funext i
    by_cases hi : i < 8
    · rw [if_pos hi, if_pos hi, ha _ (by omega)]
    · rw [if_neg hi, if_neg hi]
  rw [if_neg h3, if_neg h3, if_pos h, if_pos h]
/-- the first pawn -/
theorem gp_1a {nb' : Nat} : (gL ca ad 0 0 eD tS sB mem).Perm (gE ca ad 0 0 eD tS sB mem 1 :: ((List.range 12).filter (fun k => decide (k ≠ 1))).map (gE ca ad 0 0 eD tS sB mem)) := rg_perm1 _ (by decide)
theorem gp_1b {dat v : Nat} {r : Row} (hv : ad 0 = ad 0) : ((ad 1, .inr (16, [.int (rd mem 1 0 + 1), .ref dat, .int (nI 1)])) :: (dat, .inl (ca 5, 10, .inr (.inr (.inr (.inr (va_up (fun _ => none) 0 (some v))))))) :: (v, .inl (ca 0, 7, .inl r.1)) :: ((List.range 12).filter (fun k => decide (k ≠ 1))).map (gE ca ad 0 0 eD tS sB mem)).Perm (gL ca (adS (adS ad 12 dat) 13 v) 1 0 eD tS sB (gM mem 13 1 r)) := by
  have ha : ∀ j, j < 12 → adS (adS ad 12 dat) 13 v j = ad j := fun j hj => (adS_o (by omega)).trans (adS_o (by omega))
  have e12 : adS (adS ad 12 dat) 13 v 12 = dat := (adS_o (by omega)).trans adS_n
  have e13 : adS (adS ad 12 dat) 13 v 13 = v := adS_n
  have hr : List.range (nW 1 0) = List.range 12 ++ [12, 13] := rfl
  rw [gL_map, hr, List.map_append]
  have h1 := rg_perm1 (n := 12) (a := 1) (gE ca (adS (adS ad 12 dat) 13 v) 1 0 eD tS sB (gM mem 13 1 r)) (by decide)
  have hs : ((List.range 12).filter (fun k => decide (k ≠ 1))).map (gE ca (adS (adS ad 12 dat) 13 v) 1 0 eD tS sB (gM mem 13 1 r)) = ((List.range 12).filter (fun k => decide (k ≠ 1))).map (gE ca ad 0 0 eD tS sB mem) := mp_same (fun k hk hp => by
    have hk : k < 12 := List.mem_range.mp hk
    have hp : k ≠ 1 := of_decide_eq_true hp
    unfold gE
    rw [ha k hk, gM_o (by omega) hp]
    congr 1
    by_cases h2 : k = 2
    · subst h2
      rfl
    · exact cWd_lo hk hp h2 ha)
  rw [hs] at h1
  have g1 : gE ca (adS (adS ad 12 dat) 13 v) 1 0 eD tS sB (gM mem 13 1 r) 1 = (ad 1, .inr (16, [.int (rd mem 1 0 + 1), .ref dat, .int (nI 1)])) := by
    unfold gE
    rw [kw_1, ha 1 (by decide), gM_i (by decide), e12]
    rfl
  have g12 : gE ca (adS (adS ad 12 dat) 13 v) 1 0 eD tS sB (gM mem 13 1 r) 12 = (dat, .inl (ca 5, 10, .inr (.inr (.inr (.inr (va_up (fun _ => none) 0 (some v))))))) := by
    unfold gE
    rw [kw_e, e12]
    congr 8
    funext i
    unfold va_up
    by_cases hi : i = 0
    · subst hi
      rw [if_pos (by decide), if_pos rfl, e13]
    · rw [if_neg (by omega), if_neg hi]
  have g13 : gE ca (adS (adS ad 12 dat) 13 v) 1 0 eD tS sB (gM mem 13 1 r) 13 = (v, .inl (ca 0, 7, .inl r.1)) := by
    unfold gE
    rw [kw_p (i := 0) (by decide), gM_k, e13]
  rw [g1] at h1
  refine List.Perm.trans ?_ (h1.symm.append_right _)
  show List.Perm _ (_ :: _ ++ [_, _])
  rw [g12, g13, List.cons_append]
  refine List.Perm.cons _ ?_
  exact (List.perm_append_comm (l₁ := [_, _]))
/-- a later pawn -/
theorem gp_2a (h : 0 < np) : (gL ca ad np 0 eD tS sB mem).Perm (gE ca ad np 0 eD tS sB mem 1 :: gE ca ad np 0 eD tS sB mem 12 :: ((List.range (13 + np)).filter (fun k => decide (k ≠ 1 ∧ k ≠ 12))).map (gE ca ad np 0 eD tS sB mem)) := by
  rw [gL_map, nW_p h]
  exact rg_perm2 _ (by omega) (by omega) (by decide)
theorem gp_2b {v : Nat} {r : Row} (h : 0 < np) : ((ad 1, .inr (16, [.int (rd mem 1 0 + 1), .ref (ad 12), .int (nI (np + 1))])) :: (ad 12, .inl (ca 5, 10, .inr (.inr (.inr (.inr (va_up (fun i => if i < np then some (ad (13 + i)) else none) np (some v))))))) :: (v, .inl (ca 0, 7, .inl r.1)) :: ((List.range (13 + np)).filter (fun k => decide (k ≠ 1 ∧ k ≠ 12))).map (gE ca ad np 0 eD tS sB mem)).Perm (gL ca (adS ad (13 + np) v) (np + 1) 0 eD tS sB (gM mem (13 + np) 1 r)) := by
  have ha : ∀ j, j < 13 + np → adS ad (13 + np) v j = ad j := fun j hj => adS_o (by omega)
  have hr : List.range (nW (np + 1) 0) = List.range (13 + np) ++ [13 + np] := by
    rw [nW_p (by omega), show 13 + (np + 1) = 13 + np + 1 by omega, List.range_succ]
  rw [gL_map, hr, List.map_append]
  have h1 := rg_perm2 (n := 13 + np) (a := 1) (b := 12) (gE ca (adS ad (13 + np) v) (np + 1) 0 eD tS sB (gM mem (13 + np) 1 r)) (by omega) (by omega) (by decide)
  have hs : ((List.range (13 + np)).filter (fun k => decide (k ≠ 1 ∧ k ≠ 12))).map (gE ca (adS ad (13 + np) v) (np + 1) 0 eD tS sB (gM mem (13 + np) 1 r)) = ((List.range (13 + np)).filter (fun k => decide (k ≠ 1 ∧ k ≠ 12))).map (gE ca ad np 0 eD tS sB mem) := mp_same (fun k hk hp => by
    have hk : k < 13 + np := List.mem_range.mp hk
    obtain ⟨hp, hp2⟩ : k ≠ 1 ∧ k ≠ 12 := of_decide_eq_true hp
    unfold gE
    rw [ha k hk, gM_o (by omega) hp]
    congr 1
    by_cases h2 : k = 2
    · subst h2
      rfl
    · by_cases h12 : k < 12
      · exact cWd_lo h12 hp h2 (fun j hj => ha j (by omega))
      · obtain ⟨i, rfl⟩ : ∃ i, k = 13 + i := ⟨k - 13, by omega⟩
        rw [kw_p (by omega), kw_p (by omega)])
  rw [hs] at h1
  have g1 : gE ca (adS ad (13 + np) v) (np + 1) 0 eD tS sB (gM mem (13 + np) 1 r) 1 = (ad 1, .inr (16, [.int (rd mem 1 0 + 1), .ref (ad 12), .int (nI (np + 1))])) := by
    unfold gE
    rw [kw_1, ha 1 (by omega), gM_i (by omega), ha 12 (by omega)]
    unfold qW
    rw [if_neg (by omega)]
    rfl
  have g12 : gE ca (adS ad (13 + np) v) (np + 1) 0 eD tS sB (gM mem (13 + np) 1 r) 12 = (ad 12, .inl (ca 5, 10, .inr (.inr (.inr (.inr (va_up (fun i => if i < np then some (ad (13 + i)) else none) np (some v))))))) := by
    unfold gE
    rw [kw_e, ha 12 (by omega)]
    congr 8
    funext i
    unfold va_up
    by_cases hi : i = np
    · subst hi
      rw [if_pos (by omega), if_pos rfl, adS_n]
    · rw [if_neg hi]
      show _ = if i < np then some (ad (13 + i)) else none
      by_cases hi2 : i < np
      · rw [if_pos hi2, if_pos (by omega), ha _ (by omega)]
      · rw [if_neg hi2, if_neg (by omega)]
  have g13 : gE ca (adS ad (13 + np) v) (np + 1) 0 eD tS sB (gM mem (13 + np) 1 r) (13 + np) = (v, .inl (ca 0, 7, .inl r.1)) := by
    unfold gE
    rw [kw_p (by omega), gM_k, adS_n]
  rw [g1, g12] at h1
  refine List.Perm.trans ?_ (h1.symm.append_right _)
  show List.Perm _ (_ :: _ :: _ ++ [_])
  rw [g13, List.cons_append, List.cons_append]
  exact List.Perm.cons _ (List.Perm.cons _ (List.perm_append_comm (l₁ := [_])))
/-- the first ban -/
theorem gb_1a (h : 0 < np) : (gL ca ad np 0 eD tS sB mem).Perm (gE ca ad np 0 eD tS sB mem 2 :: ((List.range (13 + np)).filter (fun k => decide (k ≠ 2))).map (gE ca ad np 0 eD tS sB mem)) := by
  rw [gL_map, nW_p h]
  exact rg_perm1 _ (by omega)
theorem gb_1b {dat v : Nat} {r : Row} (h : 0 < np) : ((ad 2, .inr (16, [.int (rd mem 2 0 + 1), .ref dat, .int (nI 1)])) :: (dat, .inl (ca 5, 10, .inr (.inr (.inr (.inr (va_up (fun _ => none) 0 (some v))))))) :: (v, .inl (ca 0, 7, .inl r.1)) :: ((List.range (13 + np)).filter (fun k => decide (k ≠ 2))).map (gE ca ad np 0 eD tS sB mem)).Perm (gL ca (adS (adS ad (13 + np) dat) (14 + np) v) np 1 eD tS sB (gM mem (14 + np) 2 r)) := by
  have ha : ∀ j, j < 13 + np → adS (adS ad (13 + np) dat) (14 + np) v j = ad j := fun j hj => (adS_o (by omega)).trans (adS_o (by omega))
  have e12 : adS (adS ad (13 + np) dat) (14 + np) v (13 + np) = dat := (adS_o (by omega)).trans adS_n
  have e13 : adS (adS ad (13 + np) dat) (14 + np) v (14 + np) = v := adS_n
  have hr : List.range (nW np 1) = List.range (13 + np) ++ [13 + np, 14 + np] := by
    rw [nW_b h (by omega), show 14 + np + 1 = 13 + np + 1 + 1 by omega, List.range_succ, List.range_succ, List.append_assoc]
    rw [show 13 + np + 1 = 14 + np by omega]
    rfl
  rw [gL_map, hr, List.map_append]
  have h1 := rg_perm1 (n := 13 + np) (a := 2) (gE ca (adS (adS ad (13 + np) dat) (14 + np) v) np 1 eD tS sB (gM mem (14 + np) 2 r)) (by omega)
  have hs : ((List.range (13 + np)).filter (fun k => decide (k ≠ 2))).map (gE ca (adS (adS ad (13 + np) dat) (14 + np) v) np 1 eD tS sB (gM mem (14 + np) 2 r)) = ((List.range (13 + np)).filter (fun k => decide (k ≠ 2))).map (gE ca ad np 0 eD tS sB mem) := mp_same (fun k hk hp => by
    have hk : k < 13 + np := List.mem_range.mp hk
    have hp : k ≠ 2 := of_decide_eq_true hp
    unfold gE
    rw [ha k hk, gM_o (by omega) hp]
    congr 1
    by_cases h2 : k = 1
    · subst h2
      rw [kw_1, kw_1, ha 12 (by omega)]
    · by_cases h12 : k < 12
      · exact cWd_lo h12 h2 hp (fun j hj => ha j (by omega))
      · by_cases h3 : k = 12
        · subst h3
          rw [kw_e, kw_e]
          congr 7
          funext i
          by_cases hi : i < np
          · rw [if_pos hi, if_pos hi, ha _ (by omega)]
          · rw [if_neg hi, if_neg hi]
        · obtain ⟨i, rfl⟩ : ∃ i, k = 13 + i := ⟨k - 13, by omega⟩
          rw [kw_p (by omega), kw_p (by omega)])
  rw [hs] at h1
  have g1 : gE ca (adS (adS ad (13 + np) dat) (14 + np) v) np 1 eD tS sB (gM mem (14 + np) 2 r) 2 = (ad 2, .inr (16, [.int (rd mem 2 0 + 1), .ref dat, .int (nI 1)])) := by
    unfold gE
    rw [kw_2, ha 2 (by omega), gM_i (by omega), e12]
    rfl
  have g12 : gE ca (adS (adS ad (13 + np) dat) (14 + np) v) np 1 eD tS sB (gM mem (14 + np) 2 r) (13 + np) = (dat, .inl (ca 5, 10, .inr (.inr (.inr (.inr (va_up (fun _ => none) 0 (some v))))))) := by
    unfold gE
    rw [kw_f, e12]
    congr 8
    funext i
    unfold va_up
    by_cases hi : i = 0
    · subst hi
      rw [if_pos (by decide), if_pos rfl, Nat.add_zero, e13]
    · rw [if_neg (by omega), if_neg hi]
  have g13 : gE ca (adS (adS ad (13 + np) dat) (14 + np) v) np 1 eD tS sB (gM mem (14 + np) 2 r) (14 + np) = (v, .inl (ca 0, 7, .inl r.1)) := by
    unfold gE
    rw [show 14 + np = 14 + np + 0 by omega, kw_b (i := 0) (by decide), Nat.add_zero, gM_k, e13]
  rw [g1] at h1
  refine List.Perm.trans ?_ (h1.symm.append_right _)
  show List.Perm _ (_ :: _ ++ [_, _])
  rw [g12, g13, List.cons_append]
  refine List.Perm.cons _ ?_
  exact (List.perm_append_comm (l₁ := [_, _]))
/-- a later ban -/
theorem gb_2a (h : 0 < np) (hb : 0 < nb) : (gL ca ad np nb eD tS sB mem).Perm (gE ca ad np nb eD tS sB mem 2 :: gE ca ad np nb eD tS sB mem (13 + np) :: ((List.range (14 + np + nb)).filter (fun k => decide (k ≠ 2 ∧ k ≠ 13 + np))).map (gE ca ad np nb eD tS sB mem)) := by
  rw [gL_map, nW_b h hb]
  exact rg_perm2 _ (by omega) (by omega) (by omega)
theorem gb_2b {v : Nat} {r : Row} (h : 0 < np) (hb : 0 < nb) : ((ad 2, .inr (16, [.int (rd mem 2 0 + 1), .ref (ad (13 + np)), .int (nI (nb + 1))])) :: (ad (13 + np), .inl (ca 5, 10, .inr (.inr (.inr (.inr (va_up (fun i => if i < nb then some (ad (14 + np + i)) else none) nb (some v))))))) :: (v, .inl (ca 0, 7, .inl r.1)) :: ((List.range (14 + np + nb)).filter (fun k => decide (k ≠ 2 ∧ k ≠ 13 + np))).map (gE ca ad np nb eD tS sB mem)).Perm (gL ca (adS ad (14 + np + nb) v) np (nb + 1) eD tS sB (gM mem (14 + np + nb) 2 r)) := by
  have ha : ∀ j, j < 14 + np + nb → adS ad (14 + np + nb) v j = ad j := fun j hj => adS_o (by omega)
  have hr : List.range (nW np (nb + 1)) = List.range (14 + np + nb) ++ [14 + np + nb] := by
    rw [nW_b h (by omega), show 14 + np + (nb + 1) = 14 + np + nb + 1 by omega, List.range_succ]
  rw [gL_map, hr, List.map_append]
  have h1 := rg_perm2 (n := 14 + np + nb) (a := 2) (b := 13 + np) (gE ca (adS ad (14 + np + nb) v) np (nb + 1) eD tS sB (gM mem (14 + np + nb) 2 r)) (by omega) (by omega) (by omega)
  have hs : ((List.range (14 + np + nb)).filter (fun k => decide (k ≠ 2 ∧ k ≠ 13 + np))).map (gE ca (adS ad (14 + np + nb) v) np (nb + 1) eD tS sB (gM mem (14 + np + nb) 2 r)) = ((List.range (14 + np + nb)).filter (fun k => decide (k ≠ 2 ∧ k ≠ 13 + np))).map (gE ca ad np nb eD tS sB mem) := mp_same (fun k hk hp => by
    have hk : k < 14 + np + nb := List.mem_range.mp hk
    obtain ⟨hp, hp2⟩ : k ≠ 2 ∧ k ≠ 13 + np := of_decide_eq_true hp
    unfold gE
    rw [ha k hk, gM_o (by omega) hp]
    congr 1
    by_cases h2 : k = 1
    · subst h2
      rw [kw_1, kw_1, ha 12 (by omega)]
    · by_cases h12 : k < 12
      · exact cWd_lo h12 h2 hp (fun j hj => ha j (by omega))
      · by_cases h3 : k = 12
        · subst h3
          rw [kw_e, kw_e]
          congr 7
          funext i
          by_cases hi : i < np
          · rw [if_pos hi, if_pos hi, ha _ (by omega)]
          · rw [if_neg hi, if_neg hi]
        · by_cases h4 : k < 13 + np
          · obtain ⟨i, rfl⟩ : ∃ i, k = 13 + i := ⟨k - 13, by omega⟩
            rw [kw_p (by omega), kw_p (by omega)]
          · obtain ⟨i, rfl⟩ : ∃ i, k = 14 + np + i := ⟨k - (14 + np), by omega⟩
            rw [kw_b (by omega), kw_b (by omega)])
  rw [hs] at h1
  have g1 : gE ca (adS ad (14 + np + nb) v) np (nb + 1) eD tS sB (gM mem (14 + np + nb) 2 r) 2 = (ad 2, .inr (16, [.int (rd mem 2 0 + 1), .ref (ad (13 + np)), .int (nI (nb + 1))])) := by
    unfold gE
    rw [kw_2, ha 2 (by omega), gM_i (by omega), ha (13 + np) (by omega)]
    unfold qW
    rw [if_neg (by omega)]
    rfl
  have g12 : gE ca (adS ad (14 + np + nb) v) np (nb + 1) eD tS sB (gM mem (14 + np + nb) 2 r) (13 + np) = (ad (13 + np), .inl (ca 5, 10, .inr (.inr (.inr (.inr (va_up (fun i => if i < nb then some (ad (14 + np + i)) else none) nb (some v))))))) := by
    unfold gE
    rw [kw_f, ha (13 + np) (by omega)]
    congr 8
    funext i
    unfold va_up
    by_cases hi : i = nb
    · subst hi
      rw [if_pos (by omega), if_pos rfl, adS_n]
    · rw [if_neg hi]
      show _ = if i < nb then some (ad (14 + np + i)) else none
      by_cases hi2 : i < nb
      · rw [if_pos hi2, if_pos (by omega), ha _ (by omega)]
      · rw [if_neg hi2, if_neg (by omega)]
  have g13 : gE ca (adS ad (14 + np + nb) v) np (nb + 1) eD tS sB (gM mem (14 + np + nb) 2 r) (14 + np + nb) = (v, .inl (ca 0, 7, .inl r.1)) := by
    unfold gE
    rw [kw_b (by omega), gM_k, adS_n]
  rw [g1, g12] at h1
  refine List.Perm.trans ?_ (h1.symm.append_right _)
  show List.Perm _ (_ :: _ :: _ ++ [_])
  rw [g13, List.cons_append, List.cons_append]
  exact List.Perm.cons _ (List.Perm.cons _ (List.perm_append_comm (l₁ := [_])))
end GRY
