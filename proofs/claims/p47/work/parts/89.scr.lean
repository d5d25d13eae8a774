section SCRM
def PZc (k j : Nat) : Bool := P2t k j || (k == 10 || ((decide (11 ≤ k) && decide (k ≤ 14)) || k == 16))
def PZm (k j : Nat) : Bool := PGe k j || ((decide (16 ≤ k) && decide (k ≤ 19)) || (k == 0 && (decide (43 ≤ j) && decide (j ≤ 45))))
theorem FZc {c c2 : Mem} (f : Fr P2t c c2) : Fr PZc c c2 := Fr_mono f (fun _ _ h => (Bool.or_eq_false_iff.mp h).1)
theorem FZm {m m2 : Mem} (f : Fr PGe m m2) : Fr PZm m m2 := Fr_mono f (fun _ _ h => (Bool.or_eq_false_iff.mp h).1)
theorem Wt_al2 : Wt 17 = 643248 ∧ Wt 18 = 755084 ∧ Wt 19 = 525939 ∧ Wt 20 = 536633 ∧ Wt 21 = 609752116 := by decide +kernel
/-- the rows of a script, as far as they are read -/
def SRc (c : Mem) (R C D : Nat) (kd : Nat → Nat) (a b w : Nat → Int) (op : Nat → Nat) : Prop := (rd c 10 6 = zi (R : Int) ∧ rd c 10 7 = zi (C : Int) ∧ rd c 10 9 = zi (D : Int)) ∧ (∀ i, i < R → rd c 11 i = zi (kd i : Int) ∧ rd c 12 i = zi (a i) ∧ (kd i = 1 ∨ kd i = 3 → rd c 13 i = zi (b i)) ∧ (kd i = 1 → rd c 14 i = zi (w i))) ∧ ∀ k, k < D → rd c 16 k = zi (op k : Int)
def SRm (m : Mem) (R C D : Nat) (kd : Nat → Nat) (a b w : Nat → Int) : Prop := (rd m 0 43 = zi (R : Int) ∧ rd m 0 44 = zi (C : Int) ∧ rd m 0 45 = zi (D : Int)) ∧ ∀ i, i < R → rd m 16 i = zi (kd i : Int) ∧ ((kd i = 0 ∨ kd i = 1 ∨ kd i = 3 ∨ kd i = 4) → rd m 17 i = zi (a i)) ∧ (kd i = 1 ∨ kd i = 3 → rd m 18 i = zi (b i)) ∧ (kd i = 1 → rd m 19 i = zi (w i + 1))
/-- what a row may be -/
def RWo (kd : Nat → Nat) (a b w : Nat → Int) (dp : Nat → Nat) (op : Nat → Nat → Nat) (x : Nat) : Prop := kd x ≤ 5 ∧ (kd x = 0 → 0 ≤ a x ∧ a x ≤ 3) ∧ (kd x = 1 → (0 ≤ a x ∧ a x ≤ 99) ∧ (0 ≤ b x ∧ b x ≤ 99) ∧ (w x = 0 ∨ w x = 1)) ∧ (kd x = 3 → (0 ≤ a x ∧ a x ≤ 99) ∧ 0 ≤ b x ∧ b x ≤ 99) ∧ (kd x = 4 → (1 ≤ a x ∧ a x ≤ 20) ∧ dp (x + 1) = dp x + 1 ∧ op (x + 1) (dp x) = x ∧ ∀ i, i < dp x → op (x + 1) i = op x i) ∧ (kd x = 5 → 0 < dp x ∧ a x = (op x (dp x - 1) : Int) ∧ dp (x + 1) = dp x - 1 ∧ ∀ i, i < dp x - 1 → op (x + 1) i = op x i) ∧ (kd x ≤ 3 → dp (x + 1) = dp x ∧ ∀ i, i < dp x → op (x + 1) i = op x i)
def WFs (R : Nat) (kd : Nat → Nat) (a b w : Nat → Int) (dp : Nat → Nat) (op : Nat → Nat → Nat) : Prop := dp 0 = 0 ∧ (∀ x, x < R → RWo kd a b w dp op x) ∧ ∀ x, x ≤ R → dp x ≤ 2 ∧ ∀ k, k < dp x → op x k < x ∧ kd (op x k) = 4 ∧ dp (op x k) = k ∧ ∀ i, i < k → op (op x k) i = op x i
def upN {α : Type} (f : Nat → α) (k : Nat) (v : α) : Nat → α := fun i => if i = k then v else f i
theorem upN_eq {α : Type} (f : Nat → α) (k : Nat) (v : α) : upN f k v k = v := if_pos rfl
theorem upN_ne {α : Type} {f : Nat → α} {k i : Nat} {v : α} (h : i ≠ k) : upN f k v i = f i := if_neg h
/-- one more row -/
theorem WF_add {R : Nat} {kd : Nat → Nat} {a b w : Nat → Int} {dp : Nat → Nat} {op : Nat → Nat → Nat} (h : WFs R kd a b w dp op) {k : Nat} {x y z : Int} {d2 : Nat} {o2 : Nat → Nat} (hk : k ≤ 5) (h0 : k = 0 → 0 ≤ x ∧ x ≤ 3) (h1 : k = 1 → (0 ≤ x ∧ x ≤ 99) ∧ (0 ≤ y ∧ y ≤ 99) ∧ (z = 0 ∨ z = 1)) (h3 : k = 3 → (0 ≤ x ∧ x ≤ 99) ∧ 0 ≤ y ∧ y ≤ 99) (h4 : k = 4 → (1 ≤ x ∧ x ≤ 20) ∧ dp R < 2 ∧ d2 = dp R + 1 ∧ o2 (dp R) = R ∧ ∀ i, i < dp R → o2 i = op R i) (h5 : k = 5 → 0 < dp R ∧ x = (op R (dp R - 1) : Int) ∧ d2 = dp R - 1 ∧ ∀ i, i < dp R - 1 → o2 i = op R i) (h9 : k ≤ 3 → d2 = dp R ∧ ∀ i, i < dp R → o2 i = op R i) : WFs (R + 1) (upN kd R k) (upN a R x) (upN b R y) (upN w R z) (upN dp (R + 1) d2) (upN op (R + 1) o2) := by
  obtain ⟨w0, w1, w2⟩ := h
  have hR := w2 R (Nat.le_refl R)
  have eR : upN dp (R + 1) d2 R = dp R := upN_ne (by omega)
  have oR : upN op (R + 1) o2 R = op R := upN_ne (by omega)
  refine ⟨(upN_ne (by omega)).trans w0, fun i hi => ?_, fun i hi => ?_⟩
  · by_cases q : i = R
    · rw [q]
      unfold RWo
      rw [upN_eq, upN_eq, upN_eq, upN_eq, upN_eq, upN_eq, eR, oR]
      exact ⟨hk, h0, h1, h3, fun e => ⟨(h4 e).1, (h4 e).2.2⟩, h5, h9⟩
    · have hr := w1 i (by omega)
      unfold RWo at hr ⊢
      rw [upN_ne q, upN_ne q, upN_ne q, upN_ne q, upN_ne (show i ≠ R + 1 by omega), upN_ne (show i + 1 ≠ R + 1 by omega), upN_ne (show i ≠ R + 1 by omega), upN_ne (show i + 1 ≠ R + 1 by omega)]
      exact hr
  · by_cases q : i = R + 1
    · rw [q, upN_eq, upN_eq]
      have key : ∀ kk, kk < dp R → o2 kk = op R kk → o2 kk < R + 1 ∧ upN kd R k (o2 kk) = 4 ∧ upN dp (R + 1) d2 (o2 kk) = kk ∧ ∀ i, i < kk → upN op (R + 1) o2 (o2 kk) i = op R i := fun kk hkk e => by
        obtain ⟨t1, t2, t3, t4⟩ := hR.2 kk hkk
        rw [e, upN_ne (show op R kk ≠ R by omega), upN_ne (show op R kk ≠ R + 1 by omega), upN_ne (show op R kk ≠ R + 1 by omega)]
        exact ⟨by omega, t2, t3, t4⟩
      by_cases k4 : k = 4
      · obtain ⟨_, u1, u2, u3, u4⟩ := h4 k4
        refine ⟨by omega, fun kk hkk => ?_⟩
        by_cases e : kk = dp R
        · rw [e, u3, upN_eq, eR, oR]
          exact ⟨by omega, k4, rfl, fun j hj => (u4 j hj).symm⟩
        · obtain ⟨t1, t2, t3, t4⟩ := key kk (by omega) (u4 kk (by omega))
          exact ⟨t1, t2, t3, fun j hj => (t4 j hj).trans (u4 j (by omega)).symm⟩
      · by_cases k5 : k = 5
        · obtain ⟨u1, u2, u3, u4⟩ := h5 k5
          refine ⟨by omega, fun kk hkk => ?_⟩
          obtain ⟨t1, t2, t3, t4⟩ := key kk (by omega) (u4 kk (by omega))
          exact ⟨t1, t2, t3, fun j hj => (t4 j hj).trans (u4 j (by omega)).symm⟩
        · obtain ⟨u1, u2⟩ := h9 (by omega)
          refine ⟨by omega, fun kk hkk => ?_⟩
          obtain ⟨t1, t2, t3, t4⟩ := key kk (by omega) (u2 kk (by omega))
          exact ⟨t1, t2, t3, fun j hj => (t4 j hj).trans (u2 j (by omega)).symm⟩
    · have hr := w2 i (by omega)
      rw [upN_ne q, upN_ne q]
      refine ⟨hr.1, fun kk hkk => ?_⟩
      obtain ⟨t1, t2, t3, t4⟩ := hr.2 kk hkk
      rw [upN_ne (show op i kk ≠ R by omega), upN_ne (show op i kk ≠ R + 1 by omega), upN_ne (show op i kk ≠ R + 1 by omega)]
      exact ⟨t1, t2, t3, t4⟩
/-- the script so far, in both -/
def SCR (c m : Mem) (R C : Nat) (kd : Nat → Nat) (a b w : Nat → Int) (dp : Nat → Nat) (op : Nat → Nat → Nat) : Prop := SRc c R C (dp R) kd a b w (op R) ∧ SRm m R C (dp R) kd a b w ∧ WFs R kd a b w dp op ∧ C ≤ 30 ∧ R + dp R ≤ 2 * C
theorem SCR_fr {c c2 m m2 : Mem} {R C : Nat} {kd : Nat → Nat} {a b w : Nat → Int} {dp : Nat → Nat} {op : Nat → Nat → Nat} (h : SCR c m R C kd a b w dp op) (f : Fr P2t c c2) (g : Fr PGe m m2) : SCR c2 m2 R C kd a b w dp op := by
  obtain ⟨⟨⟨x1, x2, x3⟩, x4, x5⟩, ⟨⟨y1, y2, y3⟩, y4⟩, h3⟩ := h
  have fc : ∀ k j, 10 ≤ k → rd c2 k j = rd c k j := fun k j hk => f.1 _ _ (by unfold P2t; simp only [Bool.and_eq_false_iff, beq_eq_false_iff_ne, ne_eq]; omega)
  have fm : ∀ k j, 16 ≤ k → rd m2 k j = rd m k j := fun k j hk => g.1 _ _ (by unfold PGe; simp only [Bool.and_eq_false_iff, beq_eq_false_iff_ne, ne_eq]; omega)
  have fm0 : ∀ j, 43 ≤ j → rd m2 0 j = rd m 0 j := fun j hj => g.1 _ _ (by unfold PGe; simp only [Bool.and_eq_false_iff, Bool.or_eq_false_iff, beq_eq_false_iff_ne, ne_eq, decide_eq_false_iff_not]; omega)
  refine ⟨⟨⟨(fc _ _ (by decide)).trans x1, (fc _ _ (by decide)).trans x2, (fc _ _ (by decide)).trans x3⟩, fun i hi => ?_, fun k hk => (fc _ _ (by decide)).trans (x5 k hk)⟩, ⟨⟨(fm0 _ (by decide)).trans y1, (fm0 _ (by decide)).trans y2, (fm0 _ (by decide)).trans y3⟩, fun i hi => ?_⟩, h3⟩
  · obtain ⟨t1, t2, t3, t4⟩ := x4 i hi
    exact ⟨(fc _ _ (by decide)).trans t1, (fc _ _ (by decide)).trans t2, fun h => (fc _ _ (by decide)).trans (t3 h), fun h => (fc _ _ (by decide)).trans (t4 h)⟩
  · obtain ⟨t1, t2, t3, t4⟩ := y4 i hi
    exact ⟨(fm _ _ (by decide)).trans t1, fun h => (fm _ _ (by decide)).trans (t2 h), fun h => (fm _ _ (by decide)).trans (t3 h), fun h => (fm _ _ (by decide)).trans (t4 h)⟩
def PAr (R k j : Nat) : Bool := (k == 10 && j == 6) || ((decide (11 ≤ k) && decide (k ≤ 14)) && j == R)
/-- a row is added in the class -/
theorem c_addRow (fu : Nat) {c : Mem} {R : Nat} (h6 : rd c 10 6 = zi (R : Int)) (hR : R < 60) (k x y z : Int) : ∃ c2, K_X8_addRow fu (zi k) (zi x) (zi y) (zi z) c = some c2 ∧ rd c2 10 6 = zi ((R + 1 : Nat) : Int) ∧ (rd c2 11 R = zi k ∧ rd c2 12 R = zi x ∧ rd c2 13 R = zi y ∧ rd c2 14 R = zi z) ∧ Fr (PAr R) c c2 := by
  have iR : (zi (R : Int)).toNatClampNeg = R := by
    rw [zi_clamp (by omega) (by omega)]
    exact Int.toNat_natCast R
  have e : ∀ (k2 : Nat) (v : Int32) (cc : Mem), k2 ≠ 10 → rd (mw cc k2 R v) 10 6 = rd cc 10 6 := fun k2 v cc h => by rw [rd_mw, if_neg (fun q => h q.1.symm)]
  have i60 : zi (R : Int) < 60 := by
    have : (zi (R : Int) < zi 60) = ((R : Int) < 60) := zi_lt (by omega) (by omega) (by decide) (by decide)
    exact this.mpr (by omega)
  have gz : ∀ o : Option Mem, gi (zi (R : Int)) 60 o = o := fun o => gi_zi (by omega) (by omega) (by decide)
  have t1 : ∀ (m : Mem) (k2 : Nat) (v : Int32), 11 ≤ k2 → k2 ≤ 14 → Fr (PAr R) m (mw m k2 R v) := fun m k2 v h1 h2 => Fr_mw _ _ (by unfold PAr; simp [h1, h2])
  refine ⟨mw (mw (mw (mw (mw c 11 R (zi k)) 12 R (zi x)) 13 R (zi y)) 14 R (zi z)) 10 6 (zi ((R + 1 : Nat) : Int)), ?_, by rw [rd_mw, if_pos ⟨rfl, rfl⟩], ⟨?_, ?_, ?_, ?_⟩, Fr_tr (Fr_tr (Fr_tr (Fr_tr (t1 _ _ _ (by decide) (by decide)) (t1 _ _ _ (by decide) (by decide))) (t1 _ _ _ (by decide) (by decide))) (t1 _ _ _ (by decide) (by decide))) (Fr_mw _ _ (by unfold PAr; rfl))⟩
  · unfold K_X8_addRow
    have e1 := e 11 (zi k) c (by decide)
    have e2 := e 12 (zi x) (mw c 11 R (zi k)) (by decide)
    have e3 := e 13 (zi y) (mw (mw c 11 R (zi k)) 12 R (zi x)) (by decide)
    have e4 := e 14 (zi z) (mw (mw (mw c 11 R (zi k)) 12 R (zi x)) 13 R (zi y)) (by decide)
    have e5 : zi (R : Int) + 1 = zi ((R + 1 : Nat) : Int) := zi_add (R : Int) 1
    rw [h6, if_pos i60, gz, ltf, iR, e1, h6, gz, ltf, iR, e2, e1, h6, gz, ltf, iR, e3, e2, e1, h6, gz, ltf, iR, ltf, e4, e3, e2, e1, h6, e5]
  · rw [rd_mw, if_neg (fun q => absurd q.1 (by decide)), rd_mw, if_neg (fun q => absurd q.1 (by decide)), rd_mw, if_neg (fun q => absurd q.1 (by decide)), rd_mw, if_neg (fun q => absurd q.1 (by decide)), rd_mw, if_pos ⟨rfl, rfl⟩]
  · rw [rd_mw, if_neg (fun q => absurd q.1 (by decide)), rd_mw, if_neg (fun q => absurd q.1 (by decide)), rd_mw, if_neg (fun q => absurd q.1 (by decide)), rd_mw, if_pos ⟨rfl, rfl⟩]
  · rw [rd_mw, if_neg (fun q => absurd q.1 (by decide)), rd_mw, if_neg (fun q => absurd q.1 (by decide)), rd_mw, if_pos ⟨rfl, rfl⟩]
  · rw [rd_mw, if_neg (fun q => absurd q.1 (by decide)), rd_mw, if_pos ⟨rfl, rfl⟩]
theorem PAr_ne {R k j : Nat} (h : ¬ (k = 10 ∧ j = 6)) (h2 : ¬ (11 ≤ k ∧ k ≤ 14 ∧ j = R)) : PAr R k j = false := by
  unfold PAr
  simp only [Bool.or_eq_false_iff, Bool.and_eq_false_iff, beq_eq_false_iff_ne, ne_eq, decide_eq_false_iff_not]
  omega
/-- the class's rows with one more -/
theorem SRc_add {c c2 : Mem} {R C D D2 : Nat} {kd : Nat → Nat} {a b w : Nat → Int} {op o2 : Nat → Nat} (h : SRc c R C D kd a b w op) {k : Nat} {x y z : Int} (h6 : rd c2 10 6 = zi ((R + 1 : Nat) : Int)) (hv : rd c2 11 R = zi (k : Int) ∧ rd c2 12 R = zi x ∧ rd c2 13 R = zi y ∧ rd c2 14 R = zi z) (h7 : ∃ C2 : Nat, C2 = C ∧ rd c2 10 7 = zi (C2 : Int)) (h9 : rd c2 10 9 = zi (D2 : Int)) (f : ∀ k j, 11 ≤ k → k ≤ 14 → j ≠ R → rd c2 k j = rd c k j) (ho : ∀ k, k < D2 → rd c2 16 k = zi (o2 k : Int)) : SRc c2 (R + 1) C D2 (upN kd R k) (upN a R x) (upN b R y) (upN w R z) o2 := by
  obtain ⟨⟨x1, x2, x3⟩, x4, x5⟩ := h
  obtain ⟨C2, e, h7⟩ := h7
  refine ⟨⟨h6, by rw [← e]; exact h7, h9⟩, fun i hi => ?_, ho⟩
  by_cases q : i = R
  · rw [q, upN_eq, upN_eq, upN_eq, upN_eq]
    exact ⟨hv.1, hv.2.1, fun _ => hv.2.2.1, fun _ => hv.2.2.2⟩
  · rw [upN_ne q, upN_ne q, upN_ne q, upN_ne q]
    obtain ⟨t1, t2, t3, t4⟩ := x4 i (by omega)
    exact ⟨(f _ _ (by decide) (by decide) q).trans t1, (f _ _ (by decide) (by decide) q).trans t2, fun h => (f _ _ (by decide) (by decide) q).trans (t3 h), fun h => (f _ _ (by decide) (by decide) q).trans (t4 h)⟩
theorem SRm_add {m m2 : Mem} {R C D C2 D2 : Nat} {kd : Nat → Nat} {a b w : Nat → Int} (h : SRm m R C D kd a b w) {k : Nat} {x y z : Int} (h43 : rd m2 0 43 = zi ((R + 1 : Nat) : Int)) (h44 : rd m2 0 44 = zi (C2 : Int)) (h45 : rd m2 0 45 = zi (D2 : Int)) (hv : rd m2 16 R = zi (k : Int) ∧ ((k = 0 ∨ k = 1 ∨ k = 3 ∨ k = 4) → rd m2 17 R = zi x) ∧ (k = 1 ∨ k = 3 → rd m2 18 R = zi y) ∧ (k = 1 → rd m2 19 R = zi (z + 1))) (f : ∀ k j, 16 ≤ k → k ≤ 19 → j ≠ R → rd m2 k j = rd m k j) : SRm m2 (R + 1) C2 D2 (upN kd R k) (upN a R x) (upN b R y) (upN w R z) := by
  obtain ⟨⟨y1, y2, y3⟩, y4⟩ := h
  refine ⟨⟨h43, h44, h45⟩, fun i hi => ?_⟩
  by_cases q : i = R
  · rw [q, upN_eq, upN_eq, upN_eq, upN_eq]
    exact hv
  · rw [upN_ne q, upN_ne q, upN_ne q, upN_ne q]
    obtain ⟨t1, t2, t3, t4⟩ := y4 i (by omega)
    exact ⟨(f _ _ (by decide) (by decide) q).trans t1, fun h => (f _ _ (by decide) (by decide) q).trans (t2 h), fun h => (f _ _ (by decide) (by decide) q).trans (t3 h), fun h => (f _ _ (by decide) (by decide) q).trans (t4 h)⟩
end SCRM
