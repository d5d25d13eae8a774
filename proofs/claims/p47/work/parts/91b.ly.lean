section LYA
/-- a ban's ring of rules, as far as the law asks -/
def bnGA (s : Nat → Int) : Prop := ∀ b : Int, 0 ≤ b → b < s 6 → bnG s b
theorem w_ban11 {np nb fu : Nat} {m : Mem} {s : Nat → Int} (hS : LW np nb m s) {p : Int} (hnb : nb ≤ 4) (hg : bnGA s) (hO : basO s) {x y last num : Int} {d : Nat} (hp : 0 ≤ p ∧ p ≤ 3) (hx : 0 ≤ x ∧ x ≤ 9) (hy : 0 ≤ y ∧ y ≤ 9) (hl : -1 ≤ last ∧ last ≤ 3) (hn : 0 ≤ num ∧ num ≤ 10000) (hd : d < 4) : ∀ (q n b : Nat), b + q = nb → q < n → fbN s p x y last num d b = false → KW_isBanned_11 np nb fu m n (zi p) (zi x) (zi y) (zi last) (zi num) (zi (d : Int)) (zi (b : Int)) = some (zi (bi (fbN s p x y last num d nb))) := by
  have h6 := hS.1.2
  intro q
  induction q with
  | zero =>
    intro n b hb hq hf
    obtain ⟨n, rfl⟩ : ∃ f, n = f + 1 := ⟨n - 1, by omega⟩
    obtain rfl : b = nb := by omega
    rw [KW_isBanned_11, if_pos (by rw [ofNp, if_pos rfl]), hf]
    rfl
  | succ q ih =>
    intro n b hb hq hf
    obtain ⟨n, rfl⟩ : ∃ f, n = f + 1 := ⟨n - 1, by omega⟩
    rw [w_ban1 hS (b := b) (by omega) hnb (hg b (by omega) (by omega)) (hO b (by omega) (by omega)) hp hx hy hl hn hd]
    have e : fbN s p x y last num d (b + 1) = (fbN s p x y last num d b || (decide (bg s b 0 = p) && fob s b x y last num d)) := rfl
    by_cases c : bg s b 0 = p ∧ fob s b x y last num d = true
    · rw [if_pos c, fbN_up (m := b + 1) (by rw [e, c.2, decide_eq_true c.1]; simp) (by omega)]
      rfl
    · rw [if_neg c]
      refine ih n (b + 1) (by omega) (by omega) ?_
      rw [e, hf, Bool.false_or]
      by_cases c1 : bg s b 0 = p
      · rw [Bool.and_eq_false_iff]
        exact Or.inr (by simpa using fun h => c ⟨c1, h⟩)
      · rw [decide_eq_false c1, Bool.false_and]
theorem w_isBanned {np nb fu : Nat} (hfu : 1000 ≤ fu) {m : Mem} {s : Nat → Int} (hS : LW np nb m s) {p : Int} (hnb : nb ≤ 4) (hg : bnGA s) (hO : basO s) {x y last num : Int} {d : Nat} (hp : 0 ≤ p ∧ p ≤ 3) (hx : 0 ≤ x ∧ x ≤ 9) (hy : 0 ≤ y ∧ y ≤ 9) (hl : -1 ≤ last ∧ last ≤ 3) (hn : 0 ≤ num ∧ num ≤ 10000) (hd : d < 4) : KW_isBanned np nb fu (zi p) (zi x) (zi y) (zi last) (zi num) (zi (d : Int)) m = some (zi (bi (fbB s p x y last num d))) := by
  have h := w_ban11 (fu := fu) hS hnb hg hO hp hx hy hl hn hd nb fu 0 (by omega) (by omega) rfl
  have h6 := hS.1.2
  unfold KW_isBanned fbB
  rw [show (s 6).toNat = nb by omega]
  exact h
/-- what the law's race wants of a flat one, to be asked -/
def LvW (np nb : Nat) (m : Mem) (s : Nat → Int) : Prop := LW np nb m s ∧ lvO s ∧ bnGA s ∧ nb ≤ 4
theorem w_landing {np nb fu : Nat} (hfu : 1000 ≤ fu) {m : Mem} {s : Nat → Int} (hL : LvW np nb m s) {p d : Nat} (hps : p < np) (hd : d < 4) : KW_landing np nb fu (zi (p : Int)) (zi (d : Int)) m = some (zi (if gB s p d = 0 then -1 else 10 * yo (ldN s p d) + xo (ldN s p d))) := by
  obtain ⟨hS, ⟨hz, hc, hW, hp, hb, hds⟩, hg, hnb⟩ := hL
  have hcc := hc
  obtain ⟨c1, c2, c3, c4, c5, c6⟩ := hcc
  have hzz := hz
  obtain ⟨⟨z1, z2⟩, z3, z4⟩ := hzz
  have h2 := hS.1.1
  have hp4 : p < 4 := by omega
  have hpk := hp p (by omega) (by omega)
  have hcl := cel_lt hz hpk
  have hpp := hpk
  obtain ⟨p1, p2, p3, p4, p5, p6, p7⟩ := hpp
  have hxy := isCl_iff.mp p1
  obtain ⟨w0, w1, w2, w3, w4, w5, w6⟩ := hS.2.2.2.1 p hps
  have hop : op s (celN s p) d = !blk s (pg s p 0) (pg s p 1) (d : Int) := by
    unfold op
    rw [hcl.2.1, hcl.2.2, p1, Bool.true_and]
  have q1 := dx_le (d : Int)
  have q2 := dy_le (d : Int)
  unfold KW_landing
  rw [gi_zi (by omega) (by omega) (by omega), zi_clamp (by omega) (by omega), Int.toNat_natCast, w0, w1, w4, w5, w6, w_isOver hS hc, w_isBanned hfu hS hnb hg hb (by omega) (by omega) (by omega) (by omega) (by omega) hd, w_isOpen hS.2.1 hz hW p1 hd, ← hop, show (0 : Int32) = zi 0 from rfl]
  have k1 : (zi 0 < zi (pg s p 6)) = (0 < pg s p 6) := zi_lt (by omega) (by omega) (by omega) (by omega)
  by_cases g1 : 0 < pg s p 6
  · rw [if_pos (by rw [k1]; exact g1), show gB s p d = 0 by unfold gB; rw [if_pos g1], if_pos rfl]
    rfl
  rw [if_neg (by rw [k1]; exact g1), bd_s]
  cases g2 : ovB s with
  | true =>
    rw [if_neg (by decide), show gB s p d = 0 by unfold gB; rw [if_neg g1, if_pos g2], if_pos rfl]
    rfl
  | false =>
    rw [if_pos (by rfl), bd_s]
    cases g3 : fbB s p (pg s p 0) (pg s p 1) (pg s p 5) (pg s p 4) d with
    | true =>
      rw [if_neg (by decide), show gB s p d = 0 by unfold gB; rw [if_neg g1, if_neg (by rw [g2]; decide), if_pos g3], if_pos rfl]
      rfl
    | false =>
      rw [if_pos (by rfl), bd_s]
      cases g4 : op s (celN s p) d with
      | false =>
        rw [if_pos (by rfl), show gB s p d = 0 by unfold gB; rw [if_neg g1, if_neg (by rw [g2]; decide), if_neg (by rw [g3]; decide), if_pos g4], if_pos rfl]
        rfl
      | true =>
        have hn := op_nb hz hcl.1 hd g4
        have hn1 := hn.1
        obtain ⟨n1, n2, n3, n4, n5⟩ := hn
        rw [hcl.2.1] at n3
        rw [hcl.2.2] at n4
        have hci := isCl_iff.mp n2
        rw [if_neg (by decide), gi_zi (by omega) (by omega) (by omega), ltf, gi_zi (by omega) (by omega) (by omega), ltf, zi_clamp (by omega) (by omega), Int.toNat_natCast, dxV_z hd, dyV_z hd, zi_add, zi_add, ← n3, ← n4]
        have hop2 : op s (nbr (celN s p) d) d = !blk s (xo (nbr (celN s p) d)) (yo (nbr (celN s p) d)) (d : Int) := by
          unfold op
          rw [n2, Bool.true_and]
        rw [w_pawnAt hfu hS hz hc hp hds (by omega) (by omega), w_isOpen hS.2.1 hz hW n2 hd, ← hop2]
        have i1 := pI_sp c1.1 (xo (nbr (celN s p) d)) (yo (nbr (celN s p) d))
        have k2 : (zi (pI s (xo (nbr (celN s p) d)) (yo (nbr (celN s p) d))) < zi 0) = (pI s (xo (nbr (celN s p) d)) (yo (nbr (celN s p) d)) < 0) := zi_lt (by omega) (by omega) (by omega) (by omega)
        rw [bd_s, show (10 : Int32) = zi 10 from rfl, zi_mul, zi_add]
        by_cases g5 : pI s (xo (nbr (celN s p) d)) (yo (nbr (celN s p) d)) = -1
        · have hg' : gB s p d = 1 := by
            unfold gB
            rw [if_neg g1, if_neg (by rw [g2]; decide), if_neg (by rw [g3]; decide), if_neg (by rw [g4]; decide), if_pos g5]
          rw [if_pos (by rw [k2]; omega), hg', if_neg (by decide)]
          unfold ldN
          rw [if_pos hg']
        · rw [if_neg (by rw [k2]; omega), bd_s]
          cases g6 : op s (nbr (celN s p) d) d with
          | false =>
            have hg' : gB s p d = 0 := by
              unfold gB
              rw [if_neg g1, if_neg (by rw [g2]; decide), if_neg (by rw [g3]; decide), if_neg (by rw [g4]; decide), if_neg g5, if_pos g6]
            rw [if_pos (by rfl), hg', if_pos rfl]
            rfl
          | true =>
            obtain ⟨o1, o2, o3, o4, o5⟩ := op_nb hz hn1 hd g6
            have hcj := isCl_iff.mp o2
            rw [if_neg (by decide), gi_zi (by omega) (by omega) (by omega), gi_zi (by omega) (by omega) (by omega), zi_add, zi_add, ← o3, ← o4, w_pawnAt hfu hS hz hc hp hds (by omega) (by omega), bd_s]
            have i2 := pI_sp c1.1 (xo (nbr (nbr (celN s p) d) d)) (yo (nbr (nbr (celN s p) d) d))
            have k3 : (zi (pI s (xo (nbr (nbr (celN s p) d) d)) (yo (nbr (nbr (celN s p) d) d))) < zi 0) = (pI s (xo (nbr (nbr (celN s p) d) d)) (yo (nbr (nbr (celN s p) d) d)) < 0) := zi_lt (by omega) (by omega) (by omega) (by omega)
            by_cases g7 : pI s (xo (nbr (nbr (celN s p) d) d)) (yo (nbr (nbr (celN s p) d) d)) = -1
            · have hg' : gB s p d = 2 := by
                unfold gB
                rw [if_neg g1, if_neg (by rw [g2]; decide), if_neg (by rw [g3]; decide), if_neg (by rw [g4]; decide), if_neg g5, if_neg (by rw [g6]; decide), if_pos g7]
              rw [if_pos (by rw [k3]; omega), gi_zi (by omega) (by omega) (by omega), gi_zi (by omega) (by omega) (by omega), zi_mul, zi_add, zi_add, hg', if_neg (by decide)]
              unfold ldN
              rw [if_neg (by rw [hg']; decide)]
              refine congrArg (fun q => some (zi q)) ?_
              omega
            · have hg' : gB s p d = 0 := by
                unfold gB
                rw [if_neg g1, if_neg (by rw [g2]; decide), if_neg (by rw [g3]; decide), if_neg (by rw [g4]; decide), if_neg g5, if_neg (by rw [g6]; decide), if_neg g7]
              rw [if_neg (by rw [k3]; omega), hg', if_pos rfl]
              rfl
/-- the law's turn goes on -/
theorem w_et12 (np nb fu : Nat) {s : Nat → Int} (h : etO s) (hnp : s 2 = (np : Int)) {m : Mem} (h4 : rd m 0 4 = zi (s 7)) (hP : ∀ i : Nat, i < np → rd m (13 + i) 6 = zi (pg s i 6)) : ∀ (q n : Nat) (k : Int), k + q = s 2 + 1 → 1 ≤ k → q < n → ∃ m2, KW_endTurn_12 np nb fu n (zi k) m = some m2 ∧ rd m2 0 4 = zi (ntN s q k) ∧ Fr (fun k j => k == 0 && j == 4) m m2 := by
  have h' := h
  obtain ⟨⟨a1, a2⟩, ⟨a3, a4⟩, a5⟩ := h'
  intro q
  induction q with
  | zero =>
    intro n k hk hk1 hn
    obtain ⟨n, rfl⟩ : ∃ f, n = f + 1 := ⟨n - 1, by omega⟩
    rw [KW_endTurn_12, ofNp]
    simp (disch := omega) only [zi_lt]
    rw [if_pos (by omega)]
    exact ⟨m, rfl, h4, Fr_rf _ m⟩
  | succ q ih =>
    intro n k hk hk1 hn
    obtain ⟨n, rfl⟩ : ∃ f, n = f + 1 := ⟨n - 1, by omega⟩
    have ht := tqN_le h hk1 (by omega)
    obtain ⟨t, hte⟩ : ∃ t : Nat, tqN s k = (t : Int) := ⟨(tqN s k).toNat, by omega⟩
    have b := a5 _ ht.1 ht.2
    have b2 := hP t (by omega)
    rw [← hte] at b2
    have e := tqN_mod h hk1 (by omega)
    rw [KW_endTurn_12, ofNp, ← hnp, h4, gz_zi (by omega) (by omega), zi_add, zi_mod (by omega) (by omega) (by omega) (by omega), e, ltf, gi_zi (by omega) (by omega) (by omega), zi_clamp (by omega) (by omega), show (tqN s k).toNat = t by omega, b2, ltf]
    rw [show (1 : Int32) = zi 1 from rfl, zi_add, show (0 : Int32) = zi 0 from rfl]
    simp (disch := omega) only [zi_lt]
    rw [if_neg (by omega), ntN]
    by_cases c1 : pg s (tqN s k) 6 = 0
    · rw [if_neg (by omega), if_pos c1]
      exact ⟨_, rfl, by rw [rd_mw, if_pos ⟨rfl, rfl⟩], Fr_mw _ _ (by simp)⟩
    · rw [if_pos (by omega), if_neg c1]
      exact ih n (k + 1) (by omega) (by omega) (by omega)
theorem w_endTurn {np nb fu : Nat} (hfu : 1000 ≤ fu) {s : Nat → Int} (h : etO s) {m : Mem} (hS : LW np nb m s) : ∃ m2, KW_endTurn np nb fu m = some m2 ∧ LW np nb m2 (etS s) := by
  have h' := h
  obtain ⟨⟨a1, a2⟩, ⟨a3, a4⟩, a5⟩ := h'
  obtain ⟨⟨e1, e2⟩, e3, ⟨e4, e5, e6⟩, e7, e8⟩ := hS
  obtain ⟨m2, g1, g2, g3⟩ := w_et12 np nb fu h e1 (m := mw m 0 2 (zi (s 4 + 1))) (by rw [rd_mw, if_neg (by simp)]; exact e6) (fun i hi => by rw [rd_mw, if_neg (by omega)]; exact (e7 i hi).2.2.2.2.2.2) (s 2).toNat fu 1 (by omega) (by omega) (by omega)
  have f : ∀ a b, (a ≠ 0 ∨ (b ≠ 2 ∧ b ≠ 4)) → rd m2 a b = rd m a b := fun a b hab => by
    rw [g3.1 a b (by simp; omega), rd_mw, if_neg (by omega)]
  refine ⟨m2, ?_, ⟨(etS_ne (by decide) (by decide)).trans e1, (etS_ne (by decide) (by decide)).trans e2⟩, ⟨?_, ?_, fun x y hx hx2 hy hy2 => ?_⟩, ⟨?_, ?_, ?_⟩, fun p hp => ?_, fun b hb => ?_⟩
  · unfold KW_endTurn
    rw [e4, show (1 : Int32) = zi 1 from rfl, zi_add, ltf]
    exact g1
  · rw [f _ _ (by omega), etS_ne (by decide) (by decide)]
    exact e3.1
  · rw [f _ _ (by omega), etS_ne (by decide) (by decide)]
    exact e3.2.1
  · rw [f _ _ (by omega), etS_ne (by omega) (by omega)]
    exact e3.2.2 x y hx hx2 hy hy2
  · rw [etS_4, g3.1 0 2 (by simp), rd_mw, if_pos ⟨rfl, rfl⟩]
  · rw [f _ _ (by omega), etS_ne (by decide) (by decide)]
    exact e5
  · rw [etS_7]
    exact g2
  · obtain ⟨q0, q1, q2, q3, q4, q5, q6⟩ := e7 p hp
    refine ⟨?_, ?_, ?_, ?_, ?_, ?_, ?_⟩ <;> rw [f _ _ (by omega), etS_pg s (by omega) (by omega)] <;> assumption
  · obtain ⟨q0, q1, q2, q3, q4, q5, q6⟩ := e8 b hb
    refine ⟨?_, ?_, ?_, ?_, ?_, ?_, ?_⟩ <;> rw [f _ _ (by omega), etS_bg s (by omega) (by omega)] <;> assumption
end LYA
