section ENDT
def up1 (s : Nat → Int) (i : Nat) (v : Int) : Nat → Int := fun j => if j = i then v else s j
theorem up1_eq (s : Nat → Int) (i : Nat) (v : Int) : up1 s i v i = v := if_pos rfl
theorem up1_ne {s : Nat → Int} {i j : Nat} {v : Int} (h : j ≠ i) : up1 s i v j = s j := if_neg h
theorem MS_up {mem : Mem} {s : Nat → Int} (hS : MS mem s) (i : Nat) (v : Int) : MS (mw mem 2 i (zi v)) (up1 s i v) := fun j => by
  rw [rd_mw]
  unfold up1
  by_cases q : j = i
  · rw [if_pos ⟨rfl, q⟩, if_pos q]
  · rw [if_neg (fun h => q h.2), if_neg q]
    exact hS j
theorem pg_up {s : Nat → Int} {t w v : Int} (ht : 0 ≤ t) (hw : 0 ≤ w ∧ w ≤ 6) {p k : Int} (hp : 0 ≤ p) (hk : 0 ≤ k ∧ k ≤ 6) : pg (up1 s (8 + 7 * t + w).toNat v) p k = if p = t ∧ k = w then v else pg s p k := by
  unfold pg up1
  by_cases q : p = t ∧ k = w
  · obtain ⟨rfl, rfl⟩ := q
    rw [if_pos rfl, if_pos ⟨rfl, rfl⟩]
  · rw [if_neg q]
    exact if_neg (by omega)
theorem pg_lo {s : Nat → Int} {i : Nat} {v : Int} (hi : i < 8) {p k : Int} (hp : 0 ≤ p) (hk : 0 ≤ k) : pg (up1 s i v) p k = pg s p k := by
  unfold pg
  exact up1_ne (by omega)
theorem RB_cg {mem : Mem} {r : Nat} {s1 s2 : Nat → Int} (h0 : s1 0 = s2 0) (h1 : s1 1 = s2 1) (h3 : s1 3 = s2 3) (hw : ∀ j, 120 ≤ j → s1 j = s2 j) (hR : RB mem r s1) : RB mem r s2 := by
  obtain ⟨a1, a2, a3, a4, a5⟩ := hR
  refine ⟨by rw [← h0]; exact a1, by rw [← h1]; exact a2, by rw [← h3]; exact a3, fun j hj => by rw [← hw _ (by omega)]; exact a4 j hj, fun c hc => ?_⟩
  rw [a5 c hc]
  exact msk_cg (fun e _ => op_cg h0 h1 hw c e)
theorem RP_cg {mem : Mem} {r i : Nat} {s1 s2 : Nat → Int} (h : ∀ k : Int, 0 ≤ k → k ≤ 6 → pg s1 i k = pg s2 i k) (hR : RP mem r s1 i) : RP mem r s2 i := by
  unfold RP at hR ⊢
  rw [← h 0 (by decide) (by decide), ← h 1 (by decide) (by decide), ← h 2 (by decide) (by decide), ← h 3 (by decide) (by decide), ← h 4 (by decide) (by decide), ← h 5 (by decide) (by decide), ← h 6 (by decide) (by decide)]
  exact hR
theorem RN_cg {mem : Mem} {r i : Nat} {s1 s2 : Nat → Int} (h : ∀ k : Int, 0 ≤ k → k ≤ 6 → bg s1 i k = bg s2 i k) (hR : RN mem r s1 i) : RN mem r s2 i := by
  unfold RN at hR ⊢
  rw [← h 0 (by decide) (by decide), ← h 1 (by decide) (by decide), ← h 2 (by decide) (by decide), ← h 3 (by decide) (by decide), ← h 4 (by decide) (by decide), ← h 5 (by decide) (by decide), ← h 6 (by decide) (by decide)]
  exact hR
theorem RB_fr2 {P : Nat → Nat → Bool} {m1 m2 : Mem} {r : Nat} {s : Nat → Int} (h : Fr P m1 m2) (hP1 : ∀ j, P (pBoard r) j = false) (hP2 : ∀ j, P (pBuilt r) j = false) (hP3 : ∀ j, P (pOpen r) j = false) (hR : RB m1 r s) : RB m2 r s := by
  obtain ⟨h1, h2, h3, h4, h5⟩ := hR
  exact ⟨(h.1 _ _ (hP1 _)).trans h1, (h.1 _ _ (hP1 _)).trans h2, (h.1 _ _ (hP1 _)).trans h3, fun j hj => (h.1 _ _ (hP2 _)).trans (h4 j hj), fun c hc => (h.1 _ _ (hP3 _)).trans (h5 c hc)⟩
theorem RN_fr2 {P : Nat → Nat → Bool} {m1 m2 : Mem} {r i : Nat} {s : Nat → Int} (h : Fr P m1 m2) (hP : ∀ j, P (pBan r i) j = false) (hR : RN m1 r s i) : RN m2 r s i := by
  unfold RN at hR ⊢
  rw [h.1 _ _ (hP 0), h.1 _ _ (hP 1), h.1 _ _ (hP 2), h.1 _ _ (hP 3), h.1 _ _ (hP 4), h.1 _ _ (hP 5), h.1 _ _ (hP 6), h.1 _ _ (hP 7), h.1 _ _ (hP 8)]
  exact hR
/-- nothing of the race r is written -/
theorem RC_fr2 {P : Nat → Nat → Bool} {m1 m2 : Mem} {r : Nat} {s : Nat → Int} (h : Fr P m1 m2) (hP : ∀ k j, 35 + 22 * r ≤ k → k < 57 + 22 * r → P k j = false) (hR : RC m1 r s) : RC m2 r s := by
  obtain ⟨h1, ⟨b1, b2, b3, b4, b5⟩, h3, h4⟩ := hR
  refine ⟨RB_fr2 h (fun j => hP _ j (by unfold pBoard; omega) (by unfold pBoard; omega)) (fun j => hP _ j (by unfold pBuilt; omega) (by unfold pBuilt; omega)) (fun j => hP _ j (by unfold pOpen; omega) (by unfold pOpen; omega)) h1, ?_, fun i hi hi2 => RP_fr2 h (fun j => hP _ j (by unfold pPawn; omega) (by unfold pPawn; omega)) (h3 i hi hi2), fun b hb hb2 => RN_fr2 h (fun j => hP _ j (by unfold pBan; omega) (by unfold pBan; omega)) (h4 b hb hb2)⟩
  have hp : ∀ j, P (pRace r) j = false := fun j => hP _ j (by unfold pRace; omega) (by unfold pRace; omega)
  exact ⟨(h.1 _ _ (hp _)).trans b1, (h.1 _ _ (hp _)).trans b2, (h.1 _ _ (hp _)).trans b3, (h.1 _ _ (hp _)).trans b4, (h.1 _ _ (hp _)).trans b5⟩
/-- the turn that comes -/
def tqN (s : Nat → Int) (k : Int) : Int := if s 7 + k < s 2 then s 7 + k else s 7 + k - s 2
def ntN (s : Nat → Int) : Nat → Int → Int
  | 0, _ => s 7
  | q + 1, k => if pg s (tqN s k) 6 = 0 then tqN s k else ntN s q (k + 1)
def etS (s : Nat → Int) : Nat → Int := up1 (up1 s 4 (s 4 + 1)) 7 (ntN s (s 2).toNat 1)
theorem etS_ne {s : Nat → Int} {j : Nat} (h4 : j ≠ 4) (h7 : j ≠ 7) : etS s j = s j := (up1_ne h7).trans (up1_ne h4)
theorem etS_4 (s : Nat → Int) : etS s 4 = s 4 + 1 := (up1_ne (by decide)).trans (up1_eq _ _ _)
theorem etS_7 (s : Nat → Int) : etS s 7 = ntN s (s 2).toNat 1 := up1_eq _ _ _
theorem etS_pg (s : Nat → Int) {p k : Int} (hp : 0 ≤ p) (hk : 0 ≤ k) : pg (etS s) p k = pg s p k := by
  unfold pg
  exact etS_ne (by omega) (by omega)
theorem etS_bg (s : Nat → Int) {p k : Int} (hp : 0 ≤ p) (hk : 0 ≤ k) : bg (etS s) p k = bg s p k := by
  unfold bg
  exact etS_ne (by omega) (by omega)
def etO (s : Nat → Int) : Prop := (0 < s 2 ∧ s 2 ≤ 4) ∧ (0 ≤ s 7 ∧ s 7 < s 2) ∧ ∀ p : Int, 0 ≤ p → p < s 2 → 0 ≤ pg s p 6 ∧ pg s p 6 ≤ 900
theorem tqN_le {s : Nat → Int} (h : etO s) {k : Int} (h1 : 1 ≤ k) (h2 : k ≤ s 2) : 0 ≤ tqN s k ∧ tqN s k < s 2 := by
  obtain ⟨⟨a1, a2⟩, ⟨a3, a4⟩, a5⟩ := h
  unfold tqN
  split <;> omega
theorem tqN_mod {s : Nat → Int} (h : etO s) {k : Int} (h1 : 1 ≤ k) (h2 : k ≤ s 2) : (s 7 + k) % s 2 = tqN s k := by
  obtain ⟨⟨a1, a2⟩, ⟨a3, a4⟩, a5⟩ := h
  unfold tqN
  rcases (show s 2 = 1 ∨ s 2 = 2 ∨ s 2 = 3 ∨ s 2 = 4 by omega) with e | e | e | e <;> rw [e] at a4 h2 ⊢ <;> split <;> omega
theorem ntN_le {s : Nat → Int} (h : etO s) : ∀ (q : Nat) (k : Int), k + q = s 2 + 1 → 1 ≤ k → 0 ≤ ntN s q k ∧ ntN s q k < s 2 := by
  intro q
  induction q with
  | zero => exact fun k _ _ => h.2.1
  | succ q ih =>
    intro k h1 h2
    rw [ntN]
    have h3 := tqN_le h h2 (by omega)
    split
    · exact h3
    · exact ih (k + 1) (by omega) (by omega)
theorem c_et53 (fu r : Nat) (k12 : Int32 → Mem → Option Mem) {mem : Mem} {s : Nat → Int} (h : etO s) (hP : ∀ i : Nat, i < 4 → (i : Int) < s 2 → rd mem (pPawn r i) 5 = zi (pg s i 6)) {k t : Int} (h0 : 0 ≤ t) (h1 : t < s 2) : K_X6_endTurn_53 fu r k12 (zi k) (zi t) mem = if pg s t 6 = 0 then some (mw mem (pRace r) 6 (zi t)) else k12 (zi (k + 1)) mem := by
  obtain ⟨⟨a1, a2⟩, ⟨a3, a4⟩, a5⟩ := h
  obtain ⟨tn, rfl⟩ : ∃ tn : Nat, t = (tn : Int) := ⟨t.toNat, by omega⟩
  have e := hP tn (by omega) h1
  have b := a5 tn (by omega) h1
  unfold K_X6_endTurn_53
  simp (disch := omega) only [zi_lit, zl_lit, zi_add, zi_sub, zi_mul, zi_neg, zi_lt, zi_inj, zi_clamp, zl_of, gi_zi, bd_s, ltf, bi_0, bi_1, gb_bi, Int.reduceToNat, Int.reduceNeg, Int.toNat_natCast, e]
def PEt (r k j : Nat) : Bool := k == pRace r && (j == 5 || j == 6)
theorem c_et12 (fu r : Nat) {s : Nat → Int} (h : etO s) {mem : Mem} (h2 : rd mem (pRace r) 2 = zi (s 2)) (h6 : rd mem (pRace r) 6 = zi (s 7)) (hP : ∀ i : Nat, i < 4 → (i : Int) < s 2 → rd mem (pPawn r i) 5 = zi (pg s i 6)) : ∀ (q n : Nat) (k : Int), k + q = s 2 + 1 → 1 ≤ k → q < n → ∃ mem2, K_X6_endTurn_12 fu r n (zi k) mem = some mem2 ∧ rd mem2 (pRace r) 6 = zi (ntN s q k) ∧ Fr (fun k j => k == pRace r && j == 6) mem mem2 := by
  have h' := h
  obtain ⟨⟨a1, a2⟩, ⟨a3, a4⟩, a5⟩ := h'
  intro q
  induction q with
  | zero =>
    intro n k hk hk1 hn
    obtain ⟨n, rfl⟩ : ∃ f, n = f + 1 := ⟨n - 1, by omega⟩
    rw [K_X6_endTurn_12]
    simp (disch := omega) only [zi_lit, zl_lit, zi_add, zi_sub, zi_mul, zi_neg, zi_lt, zi_inj, zi_clamp, zl_of, gi_zi, bd_s, ltf, bi_0, bi_1, gb_bi, Int.reduceToNat, Int.reduceNeg, Int.toNat_natCast, h2]
    rw [if_pos (by omega)]
    exact ⟨mem, rfl, h6, Fr_rf _ mem⟩
  | succ q ih =>
    intro n k hk hk1 hn
    obtain ⟨n, rfl⟩ : ∃ f, n = f + 1 := ⟨n - 1, by omega⟩
    have ht := tqN_le h hk1 (by omega)
    have e := c_et53 fu r (K_X6_endTurn_12 fu r n) h hP (k := k) ht.1 ht.2
    rw [K_X6_endTurn_12]
    simp (disch := omega) only [zi_lit, zl_lit, zi_add, zi_sub, zi_mul, zi_neg, zi_lt, zi_inj, zi_clamp, zl_of, gi_zi, bd_s, ltf, bi_0, bi_1, gb_bi, Int.reduceToNat, Int.reduceNeg, Int.toNat_natCast, h2, h6]
    rw [if_neg (by omega), ntN]
    have e2 : (if s 7 + k < s 2 then K_X6_endTurn_53 fu r (K_X6_endTurn_12 fu r n) (zi k) (zi (s 7 + k)) mem else K_X6_endTurn_53 fu r (K_X6_endTurn_12 fu r n) (zi k) (zi (s 7 + k - s 2)) mem) = K_X6_endTurn_53 fu r (K_X6_endTurn_12 fu r n) (zi k) (zi (tqN s k)) mem := by
      unfold tqN
      split <;> rfl
    rw [e2, e]
    by_cases c1 : pg s (tqN s k) 6 = 0
    · rw [if_pos c1, if_pos c1]
      exact ⟨_, rfl, by rw [rd_mw, if_pos ⟨rfl, rfl⟩], Fr_mw _ _ (by simp)⟩
    · rw [if_neg c1, if_neg c1]
      exact ih n (k + 1) (by omega) (by omega) (by omega)
theorem c_endTurn (fu r : Nat) (hfu : 1000 ≤ fu) {s : Nat → Int} (h : etO s) {mem : Mem} (hR : RC mem r s) : ∃ mem2, K_X6_endTurn fu r mem = some mem2 ∧ RC mem2 r (etS s) ∧ Fr (PEt r) mem mem2 := by
  have h' := h
  obtain ⟨⟨a1, a2⟩, ⟨a3, a4⟩, a5⟩ := h'
  obtain ⟨r1, ⟨b1, b2, b3, b4, b5⟩, r3, r4⟩ := hR
  have n1 : ∀ i, pPawn r i ≠ pRace r := fun i => by unfold pPawn pRace; omega
  obtain ⟨mem2, e1, e2, e3⟩ := c_et12 fu r h (mem := mw mem (pRace r) 5 (zi (s 4 + 1))) (by rw [rd_mw, if_neg (by simp)]; exact b1) (by rw [rd_mw, if_neg (by simp)]; exact b4) (fun i hi hi2 => by rw [rd_mw, if_neg (fun x => n1 i x.1)]; exact (r3 i hi hi2).2.2.2.2.2) (s 2).toNat fu 1 (by omega) (by omega) (by omega)
  have f : Fr (PEt r) mem mem2 := Fr_tr (Fr_mw _ _ (by unfold PEt; simp)) (Fr_mono e3 (fun k j h => by
    unfold PEt at h
    simp only [Bool.and_eq_false_iff, Bool.or_eq_false_iff] at h ⊢
    rcases h with h | h
    · exact Or.inl h
    · exact Or.inr h.2))
  have hne : ∀ k j, k ≠ pRace r → PEt r k j = false := fun k j hk => by
    unfold PEt
    simp [hk]
  refine ⟨mem2, ?_, ⟨?_, ⟨?_, ?_, ?_, ?_, ?_⟩, fun i hi hi2 => ?_, fun i hi hi2 => ?_⟩, f⟩
  · unfold K_X6_endTurn
    simp only [zi_lit, zl_lit, zi_add, zi_sub, zi_mul, zi_neg, zi_lt, zi_inj, zi_clamp, zl_of, gi_zi, bd_s, ltf, bi_0, bi_1, gb_bi, Int.reduceToNat, Int.reduceNeg, Int.toNat_natCast, b3]
    exact e1
  · exact RB_cg (etS_ne (by decide) (by decide)).symm (etS_ne (by decide) (by decide)).symm (etS_ne (by decide) (by decide)).symm (fun j hj => (etS_ne (by omega) (by omega)).symm) (RB_fr2 f (fun j => hne _ _ (by unfold pBoard pRace; omega)) (fun j => hne _ _ (by unfold pBuilt pRace; omega)) (fun j => hne _ _ (by unfold pOpen pRace; omega)) r1)
  · rw [etS_ne (by decide) (by decide), ← b1]
    exact f.1 _ _ (by unfold PEt; simp)
  · rw [etS_ne (by decide) (by decide), ← b2]
    exact f.1 _ _ (by unfold PEt; simp)
  · rw [etS_4, e3.1 _ _ (by simp), rd_mw, if_pos ⟨rfl, rfl⟩]
  · rw [etS_7]
    exact e2
  · rw [etS_ne (by decide) (by decide), ← b5]
    exact f.1 _ _ (by unfold PEt; simp)
  · rw [etS_ne (by decide) (by decide)] at hi2
    exact RP_cg (fun k h1 h2 => (etS_pg s (by omega) h1).symm) (RP_fr2 f (fun j => hne _ _ (n1 i)) (r3 i hi hi2))
  · rw [etS_ne (by decide) (by decide)] at hi2
    exact RN_cg (fun k h1 h2 => (etS_bg s (by omega) h1).symm) (RN_fr2 f (fun j => hne _ _ (by unfold pBan pRace; omega)) (r4 i hi hi2))
/-- the reference's -/
def PMt (k _ : Nat) : Bool := k == 2
theorem m_et69 (fu : Nat) (mem : Mem) (v : Int) : K_X12_endsTurn_69 fu (zi v) mem = some (mw mem 2 7 (zi v)) := by
  unfold K_X12_endsTurn_69
  simp (disch := omega) only [zi_lit, zl_lit, zi_add, zi_sub, zi_mul, zi_neg, zi_lt, zi_inj, zi_clamp, zl_of, gi_zi, bd_s, ltf, bi_0, bi_1, gb_bi, Int.reduceToNat, Int.reduceNeg, Int.toNat_natCast]
theorem m_et20 (fu : Nat) {s : Nat → Int} (h : etO s) {s1 : Nat → Int} (h2 : s1 2 = s 2) (h7 : s1 7 = s 7) (hp : ∀ p : Int, 0 ≤ p → p ≤ 3 → pg s1 p 6 = pg s p 6) {mem : Mem} (hS : MS mem s1) : ∀ (q n : Nat) (k : Int), k + q = s 2 + 1 → 1 ≤ k → q < n → K_X12_endsTurn_20 fu n (zi (s 7)) (zi k) mem = some (mw mem 2 7 (zi (ntN s q k))) := by
  have h' := h
  obtain ⟨⟨a1, a2⟩, ⟨a3, a4⟩, a5⟩ := h'
  have g2 : rd mem 2 2 = zi (s 2) := by rw [hS, h2]
  have g7 : rd mem 2 7 = zi (s 7) := by rw [hS, h7]
  intro q
  induction q with
  | zero =>
    intro n k hk hk1 hn
    obtain ⟨n, rfl⟩ : ∃ f, n = f + 1 := ⟨n - 1, by omega⟩
    rw [K_X12_endsTurn_20]
    simp (disch := omega) only [zi_lit, zl_lit, zi_add, zi_sub, zi_mul, zi_neg, zi_lt, zi_inj, zi_clamp, zl_of, gi_zi, bd_s, ltf, bi_0, bi_1, gb_bi, Int.reduceToNat, Int.reduceNeg, Int.toNat_natCast, g2, m_et69]
    rw [if_pos (by omega)]
    rfl
  | succ q ih =>
    intro n k hk hk1 hn
    obtain ⟨n, rfl⟩ : ∃ f, n = f + 1 := ⟨n - 1, by omega⟩
    have ht := tqN_le h hk1 (by omega)
    have e := hp _ ht.1 (by omega)
    have b := a5 _ ht.1 ht.2
    have e2 := tqN_mod h hk1 (by omega)
    have e3 := k_fin fu hS (p := tqN s k) ht.1 (by omega) (by omega) (by omega)
    rw [K_X12_endsTurn_20]
    simp (disch := omega) only [zi_mod, zi_lit, zl_lit, zi_add, zi_sub, zi_mul, zi_neg, zi_lt, zi_inj, zi_clamp, zl_of, gi_zi, bd_s, ltf, bi_0, bi_1, gb_bi, Int.reduceToNat, Int.reduceNeg, Int.toNat_natCast, g2, g7, m_et69, e2, e3, gz_zi]
    rw [if_neg (by omega), ntN, e]
    by_cases c1 : pg s (tqN s k) 6 = 0
    · rw [if_pos c1, if_pos (decide_eq_false (by omega))]
    · rw [if_neg c1, if_neg (by rw [decide_eq_true (by omega)]; decide)]
      exact ih n (k + 1) (by omega) (by omega) (by omega)
theorem m_endsTurn (fu : Nat) (hfu : 1000 ≤ fu) {s : Nat → Int} (h : etO s) {mem : Mem} (hS : MS mem s) : ∃ mem2, K_X12_endsTurn fu mem = some mem2 ∧ MS mem2 (etS s) ∧ Fr PMt mem mem2 := by
  have h' := h
  obtain ⟨⟨a1, a2⟩, ⟨a3, a4⟩, a5⟩ := h'
  have hS1 := MS_up hS 4 (s 4 + 1)
  have g7 : rd (mw mem 2 4 (zi (s 4 + 1))) 2 7 = zi (s 7) := by rw [hS1, up1_ne (by decide)]
  have e := m_et20 fu h (s1 := up1 s 4 (s 4 + 1)) (up1_ne (by decide)) (up1_ne (by decide)) (fun p h1 h2 => pg_lo (by decide) h1 (by decide)) hS1 (s 2).toNat fu 1 (by omega) (by omega) (by omega)
  refine ⟨_, ?_, MS_up hS1 7 (ntN s (s 2).toNat 1), Fr_tr (Fr_mw _ _ rfl) (Fr_mw _ _ rfl)⟩
  unfold K_X12_endsTurn
  simp (disch := omega) only [zi_lit, zl_lit, zi_add, zi_sub, zi_mul, zi_neg, zi_lt, zi_inj, zi_clamp, zl_of, gi_zi, bd_s, ltf, bi_0, bi_1, gb_bi, Int.reduceToNat, Int.reduceNeg, Int.toNat_natCast, hS _, g7]
  exact e
end ENDT
