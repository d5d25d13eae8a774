section MEE
/-- the best wall of the law so far, and of the scan so far -/
def RB4 (s : Nat → Int) (p : Int) (b : Option (Nat → Int32)) (c : BW) : Prop := (b = none ∧ c.1 = -1) ∨ ∃ f, b = some f ∧ (0 ≤ c.1 ∧ c.1 ≤ 80) ∧ f 0 = zi c.2.1 ∧ f 1 = zi c.2.2.1 ∧ f 2 = zi (c.2.2.2 + 1) ∧ f 3 = zi (c.1 + dst s p)
noncomputable def stP (s : Nat → Int) (p y x v : Int) (c : BW) : BW := if x < s 0 - 1 ∧ y < s 1 - 1 then stB s p y x v c else c
theorem w_bw1 {np nb fu : Nat} (hfu : 100000 ≤ fu) {m : Mem} {s : Nat → Int} (h : WI np nb m s) {p : Nat} (hp : p < np) (h6 : pg s p 6 = 0) {n : Nat} {b : Option (Nat → Int32)} {c : BW} (hb : RB4 s p b c) {x y v : Int} (hx : 0 ≤ x ∧ x < 8) (hy : 0 ≤ y ∧ y < 8) (hv : v = 1 ∨ v = 2) {k : Nat} (hk : (k : Int) = 16 * y + 2 * x + (v - 1)) : ∃ b2 m2, KW_bestWall_4 np nb fu (n + 1) b (zi (p : Int)) (zi (k : Int)) m = KW_bestWall_4 np nb fu n b2 (zi (p : Int)) (zi ((k + 1 : Nat) : Int)) m2 ∧ WI np nb m2 s ∧ RB4 s p b2 (stP s p y x v c) := by
  have h' := h
  obtain ⟨hS, hI, hsm, hbg, h7, h8⟩ := h'
  have e2 := hS.1.1
  have hz := hI.1
  obtain ⟨⟨hw1, hw2⟩, hh1, hh2⟩ := hz
  have r6 := (hS.2.2.2.1 p hp).2.2.2.2.2.2
  rw [h6] at r6
  have kn : zi (k : Int) + 1 = zi ((k + 1 : Nat) : Int) := by
    rw [show (1 : Int32) = zi 1 from rfl, zi_add]
    rfl
  have k1 : (zi (k : Int) < (128 : Int32)) = ((k : Int) < 128) := by
    rw [show (128 : Int32) = zi 128 from rfl]
    exact zi_lt (by omega) (by omega) (by omega) (by omega)
  have ex : (zi (k : Int) / 2 - zi (k : Int) / 2 / 8 * 8) = zi x := by
    rw [show (2 : Int32) = zi 2 from rfl, show (8 : Int32) = zi 8 from rfl, zi_div (by omega) (by omega) (by omega) (by omega), zi_mod (by omega) (by omega) (by omega) (by omega)]
    exact congrArg zi (by omega)
  have ey : zi (k : Int) / 16 = zi y := by
    rw [show (16 : Int32) = zi 16 from rfl, zi_div (by omega) (by omega) (by omega) (by omega)]
    exact congrArg zi (by omega)
  have ev : 1 + (zi (k : Int) - zi (k : Int) / 2 * 2) = zi v := by
    rw [show (2 : Int32) = zi 2 from rfl, zi_mod (by omega) (by omega) (by omega) (by omega), show (1 : Int32) = zi 1 from rfl, zi_add]
    exact congrArg zi (by omega)
  rw [KW_bestWall_4, if_pos (by rw [k1]; omega), gi_zi (by omega) (by omega) (by omega), zi_clamp (by omega) (by omega), Int.toNat_natCast, r6, if_pos (by rfl), ex, ey, ev, kn, hS.2.1.1, hS.2.1.2.1, show (1 : Int32) = zi 1 from rfl, zi_sub, zi_sub]
  unfold stP
  by_cases cx : ¬ x < s 0 - 1
  · rw [if_neg (by rw [zi_lt (by omega) (by omega) (by omega) (by omega)]; omega), if_neg (fun e => cx e.1)]
    exact ⟨b, m, rfl, h, hb⟩
  replace cx := Classical.not_not.mp cx
  rw [if_pos (by rw [zi_lt (by omega) (by omega) (by omega) (by omega)]; omega)]
  by_cases cy : ¬ y < s 1 - 1
  · rw [if_neg (by rw [zi_lt (by omega) (by omega) (by omega) (by omega)]; omega), if_neg (fun e => cy e.2)]
    exact ⟨b, m, rfl, h, hb⟩
  replace cy := Classical.not_not.mp cy
  rw [if_pos (by rw [zi_lt (by omega) (by omega) (by omega) (by omega)]; omega), if_pos ⟨cx, cy⟩]
  have hpl : isPl s x y = true := isPl_iff.mpr ⟨⟨hx.1, by omega⟩, hy.1, by omega⟩
  obtain ⟨m2, a1, a2⟩ := w_isAdmissible (fu := fu) hfu (WI_D h) hpl hv
  have w2 : WI np nb m2 s := ⟨a2.1, hI, hsm, hbg, h7, h8⟩
  rw [a1, bd_s]
  dsimp only
  unfold stB
  cases had : adB s x y v with
  | false =>
    rw [if_pos (by rfl), if_neg (by decide)]
    exact ⟨b, m2, rfl, w2, hb⟩
  | true =>
    have g := LvD_sw a2 hx hy (v := v) (by omega)
    have hpk := hI.2.2.2.1 p (by omega) (by omega)
    have dn := ad_dst hx.1 hy.1 had (p := (p : Int)) (by omega) (by omega)
    have hmo := dst_mono hI.1 hpl hv (ad_wg had) (p := (p : Int)) (by omega) hpk dn
    have hd := LvD_dst hfu g hp
    have hb2 := dst1_b g hp
    rw [hb2.2.2.1 dn] at hd
    have bd := dst_le hI.1 hI.2.2.1 hpk
    have bn := hI.2.2.2.2.2.2.2.2 p (by omega) (by omega)
    have h0 := hr_0 hpl (ad_hr had)
    have L4 := LW_sw0 h7 h8 g.1 hx hy h0
    have w4 : WI np nb (mw (mw m2 (4 + y.toNat) x.toNat (zi v)) (4 + y.toNat) x.toNat 0) s := ⟨L4, hI, hsm, hbg, h7, h8⟩
    rw [if_neg (by decide), if_pos rfl, gi_zi (by omega) (by omega) (by omega), gi_zi (by omega) (by omega) (by omega), zi_clamp (by omega) (by omega), zi_clamp (by omega) (by omega), ltf, hd, bd_s, gi_zi (by omega) (by omega) (by omega), gi_zi (by omega) (by omega) (by omega), ltf]
    have e131 : ∀ mm, KW_bestWall_131 np nb fu (KW_bestWall_4 np nb fu n) (zi (p : Int)) (zi (k : Int)) (zi x) (zi y) (zi v) (zi (dst (sw s x y v) p)) mm = KW_bestWall_4 np nb fu n (some (upd (upd (upd (upd (fun _ => 0) 0 (zi x)) 1 (zi y)) 2 (zi v)) 3 (zi (dst (sw s x y v) p)))) (zi (p : Int)) (zi ((k + 1 : Nat) : Int)) mm := fun mm => by
      unfold KW_bestWall_131
      rw [kn]
    have hnew : RB4 s p (some (upd (upd (upd (upd (fun _ => 0) 0 (zi x)) 1 (zi y)) 2 (zi v)) 3 (zi (dst (sw s x y v) p)))) (dst (sw s x y v) p - dst s p, x, y, v - 1) := by
      refine Or.inr ⟨_, rfl, ⟨by dsimp only; omega, by dsimp only; omega⟩, rfl, rfl, ?_, ?_⟩
      · show zi v = zi (v - 1 + 1)
        exact congrArg zi (by omega)
      · show zi (dst (sw s x y v) p) = zi (dst (sw s x y v) p - dst s p + dst s p)
        exact congrArg zi (by omega)
    rcases hb with ⟨rfl, q1⟩ | ⟨f, rfl, q1, q2, q3, q4, q5⟩
    · rw [if_pos (by omega)]
      refine ⟨_, _, ?_, w4, hnew⟩
      exact e131 _
    · show ∃ b2 m2', (if f 3 < zi (dst (sw s x y v) p) then _ else _) = _ ∧ _
      rw [q5]
      by_cases c3 : c.1 < dst (sw s x y v) p - dst s p
      · rw [if_pos (by rw [zi_lt (by omega) (by omega) (by omega) (by omega)]; omega), if_pos c3]
        exact ⟨_, _, e131 _, w4, hnew⟩
      · rw [if_neg (by rw [zi_lt (by omega) (by omega) (by omega) (by omega)]; omega), if_neg c3]
        exact ⟨_, _, rfl, w4, Or.inr ⟨f, rfl, q1, q2, q3, q4, q5⟩⟩
theorem w_bwX {np nb fu : Nat} (hfu : 100000 ≤ fu) {s : Nat → Int} {p : Nat} (hp : p < np) (h6 : pg s p 6 = 0) {y : Int} (hy : 0 ≤ y ∧ y < 8) (hy2 : y < s 1 - 1) : ∀ (q n : Nat) (x : Int) (k : Nat) (b : Option (Nat → Int32)) (c : BW) (m : Mem), x + q = 8 → 0 ≤ x → (k : Int) = 16 * y + 2 * x → WI np nb m s → RB4 s p b c → ∃ b2 m2, KW_bestWall_4 np nb fu (n + 2 * q) b (zi (p : Int)) (zi (k : Int)) m = KW_bestWall_4 np nb fu n b2 (zi (p : Int)) (zi ((k + 2 * q : Nat) : Int)) m2 ∧ WI np nb m2 s ∧ RB4 s p b2 (sX (fB s p) y (s 0 - 1 - x).toNat x c) := by
  intro q
  induction q with
  | zero =>
    intro n x k b c m hx hx0 hk hW hb
    have hz := hW.2.1.1
    obtain ⟨⟨hw1, hw2⟩, hh1, hh2⟩ := hz
    have := hW.2.2.1.1
    refine ⟨b, m, rfl, hW, ?_⟩
    rw [show (s 0 - 1 - x).toNat = 0 by omega]
    exact hb
  | succ q ih =>
    intro n x k b c m hx hx0 hk hW hb
    obtain ⟨b1, m1, a1, a2, a3⟩ := w_bw1 (fu := fu) hfu hW hp h6 (n := n + 2 * q + 1) hb (x := x) (y := y) (v := 1) ⟨hx0, by omega⟩ hy (Or.inl rfl) (k := k) (by omega)
    obtain ⟨b2, m2, c1, c2, c3⟩ := w_bw1 (fu := fu) hfu a2 hp h6 (n := n + 2 * q) a3 (x := x) (y := y) (v := 2) ⟨hx0, by omega⟩ hy (Or.inr rfl) (k := k + 1) (by omega)
    obtain ⟨b3, m3, d1, d2, d3⟩ := ih n (x + 1) (k + 1 + 1) b2 _ m2 (by omega) (by omega) (by omega) c2 c3
    refine ⟨b3, m3, ?_, d2, ?_⟩
    · rw [show n + 2 * (q + 1) = n + 2 * q + 1 + 1 by omega, a1, c1, d1, show k + 1 + 1 + 2 * q = k + 2 * (q + 1) by omega]
    · unfold stP at d3
      by_cases cx : x < s 0 - 1
      · rw [if_pos ⟨cx, hy2⟩, if_pos ⟨cx, hy2⟩] at d3
        rw [show (s 0 - 1 - x).toNat = (s 0 - 1 - (x + 1)).toNat + 1 by omega, sX]
        exact d3
      · rw [if_neg (fun e => cx e.1), if_neg (fun e => cx e.1), show (s 0 - 1 - (x + 1)).toNat = 0 by omega] at d3
        rw [show (s 0 - 1 - x).toNat = 0 by omega]
        exact d3
theorem w_bwN {np nb fu : Nat} (hfu : 100000 ≤ fu) {s : Nat → Int} {p : Nat} (hp : p < np) (h6 : pg s p 6 = 0) {y : Int} (hy : 0 ≤ y ∧ y < 8) (hy2 : ¬ y < s 1 - 1) : ∀ (q n : Nat) (x : Int) (k : Nat) (b : Option (Nat → Int32)) (c : BW) (m : Mem), x + q = 8 → 0 ≤ x → (k : Int) = 16 * y + 2 * x → WI np nb m s → RB4 s p b c → ∃ b2 m2, KW_bestWall_4 np nb fu (n + 2 * q) b (zi (p : Int)) (zi (k : Int)) m = KW_bestWall_4 np nb fu n b2 (zi (p : Int)) (zi ((k + 2 * q : Nat) : Int)) m2 ∧ WI np nb m2 s ∧ RB4 s p b2 c := by
  intro q
  induction q with
  | zero =>
    intro n x k b c m hx hx0 hk hW hb
    exact ⟨b, m, rfl, hW, hb⟩
  | succ q ih =>
    intro n x k b c m hx hx0 hk hW hb
    obtain ⟨b1, m1, a1, a2, a3⟩ := w_bw1 (fu := fu) hfu hW hp h6 (n := n + 2 * q + 1) hb (x := x) (y := y) (v := 1) ⟨hx0, by omega⟩ hy (Or.inl rfl) (k := k) (by omega)
    unfold stP at a3
    rw [if_neg (fun e => hy2 e.2)] at a3
    obtain ⟨b2, m2, c1, c2, c3⟩ := w_bw1 (fu := fu) hfu a2 hp h6 (n := n + 2 * q) a3 (x := x) (y := y) (v := 2) ⟨hx0, by omega⟩ hy (Or.inr rfl) (k := k + 1) (by omega)
    unfold stP at c3
    rw [if_neg (fun e => hy2 e.2)] at c3
    obtain ⟨b3, m3, d1, d2, d3⟩ := ih n (x + 1) (k + 1 + 1) b2 _ m2 (by omega) (by omega) (by omega) c2 c3
    refine ⟨b3, m3, ?_, d2, d3⟩
    rw [show n + 2 * (q + 1) = n + 2 * q + 1 + 1 by omega, a1, c1, d1, show k + 1 + 1 + 2 * q = k + 2 * (q + 1) by omega]
theorem w_bwY {np nb fu : Nat} (hfu : 100000 ≤ fu) {s : Nat → Int} {p : Nat} (hp : p < np) (h6 : pg s p 6 = 0) : ∀ (q n : Nat) (y : Int) (k : Nat) (b : Option (Nat → Int32)) (c : BW) (m : Mem), y + q = 8 → 0 ≤ y → (k : Int) = 16 * y → WI np nb m s → RB4 s p b c → ∃ b2 m2, KW_bestWall_4 np nb fu (n + 16 * q) b (zi (p : Int)) (zi (k : Int)) m = KW_bestWall_4 np nb fu n b2 (zi (p : Int)) (zi ((k + 16 * q : Nat) : Int)) m2 ∧ WI np nb m2 s ∧ RB4 s p b2 (sY (fB s p) (s 0 - 1).toNat (s 1 - 1 - y).toNat y c) := by
  intro q
  induction q with
  | zero =>
    intro n y k b c m hy hy0 hk hW hb
    have hz := hW.2.1.1
    obtain ⟨⟨hw1, hw2⟩, hh1, hh2⟩ := hz
    have := hW.2.2.1.2
    refine ⟨b, m, rfl, hW, ?_⟩
    rw [show (s 1 - 1 - y).toNat = 0 by omega]
    exact hb
  | succ q ih =>
    intro n y k b c m hy hy0 hk hW hb
    by_cases cy : y < s 1 - 1
    · obtain ⟨b1, m1, a1, a2, a3⟩ := w_bwX (fu := fu) hfu hp h6 (y := y) ⟨hy0, by omega⟩ cy 8 (n + 16 * q) 0 k b c m (by omega) (by omega) (by omega) hW hb
      obtain ⟨b3, m3, d1, d2, d3⟩ := ih n (y + 1) (k + 2 * 8) b1 _ m1 (by omega) (by omega) (by omega) a2 a3
      refine ⟨b3, m3, ?_, d2, ?_⟩
      · rw [show n + 16 * (q + 1) = n + 16 * q + 2 * 8 by omega, a1, d1, show k + 2 * 8 + 16 * q = k + 16 * (q + 1) by omega]
      · rw [show (s 1 - 1 - y).toNat = (s 1 - 1 - (y + 1)).toNat + 1 by omega, sY]
        rw [show s 0 - 1 - 0 = s 0 - 1 by omega] at d3
        exact d3
    · obtain ⟨b1, m1, a1, a2, a3⟩ := w_bwN (fu := fu) hfu hp h6 (y := y) ⟨hy0, by omega⟩ cy 8 (n + 16 * q) 0 k b c m (by omega) (by omega) (by omega) hW hb
      obtain ⟨b3, m3, d1, d2, d3⟩ := ih n (y + 1) (k + 2 * 8) b1 _ m1 (by omega) (by omega) (by omega) a2 a3
      refine ⟨b3, m3, ?_, d2, ?_⟩
      · rw [show n + 16 * (q + 1) = n + 16 * q + 2 * 8 by omega, a1, d1, show k + 2 * 8 + 16 * q = k + 16 * (q + 1) by omega]
      · rw [show (s 1 - 1 - (y + 1)).toNat = 0 by omega] at d3
        rw [show (s 1 - 1 - y).toNat = 0 by omega]
        exact d3
theorem w_bestWall {np nb fu : Nat} (hfu : 100000 ≤ fu) {m : Mem} {s : Nat → Int} (h : WI np nb m s) {p : Nat} (hp : p < np) (h6 : pg s p 6 = 0) : ∃ b m2, KW_bestWall np nb fu (zi (p : Int)) m = some (b, m2) ∧ WI np nb m2 s ∧ RB4 s p b (bstB s p) := by
  obtain ⟨b, m2, a1, a2, a3⟩ := w_bwY (np := np) (nb := nb) (fu := fu) hfu hp h6 8 2 0 0 none (-1, 0, 0, 0) m (by omega) (by omega) (by omega) h (Or.inl ⟨rfl, rfl⟩)
  refine ⟨b, m2, ?_, a2, ?_⟩
  · unfold KW_bestWall
    rw [show (130 : Nat) = 2 + 16 * 8 by omega, show (0 : Int32) = zi ((0 : Nat) : Int) from rfl, a1, KW_bestWall_4, if_neg (by decide)]
  · unfold bstB
    rw [if_neg (by omega)]
    rw [show s 1 - 1 - 0 = s 1 - 1 by omega] at a3
    exact a3
end MEE
