section MBB
theorem LW_sw {np nb : Nat} {m : Mem} {s : Nat → Int} (hS : LW np nb m s) (hnp : np ≤ 4) (hnb : nb ≤ 4) {x y : Int} (hx : 0 ≤ x ∧ x < 8) (hy : 0 ≤ y ∧ y < 8) (v : Int) : LW np nb (mw m (4 + y.toNat) x.toNat (zi v)) (sw s x y v) := by
  obtain ⟨⟨e1, e2⟩, e3, ⟨e4, e5, e6⟩, e7, e8⟩ := hS
  have lt : ∀ {j : Nat}, j < 120 → sw s x y v j = s j := fun hj => sw_lt (by omega) (by omega) hj
  refine ⟨⟨(lt (by decide)).trans e1, (lt (by decide)).trans e2⟩, ⟨?_, ?_, fun x' y' hx1 hx2 hy1 hy2 => ?_⟩, ⟨?_, ?_, ?_⟩, fun p hp => ?_, fun b hb => ?_⟩
  · rw [rd_mw, if_neg (by omega), lt (by decide)]
    exact e3.1
  · rw [rd_mw, if_neg (by omega), lt (by decide)]
    exact e3.2.1
  · rw [rd_mw]
    unfold sw
    by_cases c : x' = x ∧ y' = y
    · rw [if_pos (by omega), if_pos (by omega)]
    · rw [if_neg (by omega), if_neg (by omega)]
      exact e3.2.2 x' y' hx1 hx2 hy1 hy2
  · rw [rd_mw, if_neg (by omega), lt (by decide)]
    exact e4
  · rw [rd_mw, if_neg (by omega), lt (by decide)]
    exact e5
  · rw [rd_mw, if_neg (by omega), lt (by decide)]
    exact e6
  · obtain ⟨q0, q1, q2, q3, q4, q5, q6⟩ := e7 p hp
    refine ⟨?_, ?_, ?_, ?_, ?_, ?_, ?_⟩ <;> rw [rd_mw, if_neg (by omega), sw_pg (by omega) (by omega) (by omega) (by omega)] <;> assumption
  · obtain ⟨q0, q1, q2, q3, q4, q5, q6⟩ := e8 b hb
    refine ⟨?_, ?_, ?_, ?_, ?_, ?_, ?_⟩ <;> rw [rd_mw, if_neg (by omega), sw_bg (by omega) (by omega) (by omega) (by omega)] <;> assumption
theorem sw_sw0 {s : Nat → Int} {x y v : Int} (h0 : s (120 + 8 * y + x).toNat = 0) : sw (sw s x y v) x y 0 = s := by
  funext j
  unfold sw
  by_cases c : j = (120 + 8 * y + x).toNat
  · rw [if_pos c, c, h0]
  · rw [if_neg c, if_neg c]
theorem LW_sw0 {np nb : Nat} {m : Mem} {s : Nat → Int} (hnp : np ≤ 4) (hnb : nb ≤ 4) {x y v : Int} (hS : LW np nb m (sw s x y v)) (hx : 0 ≤ x ∧ x < 8) (hy : 0 ≤ y ∧ y < 8) (h0 : s (120 + 8 * y + x).toNat = 0) : LW np nb (mw m (4 + y.toNat) x.toNat 0) s := by
  have := LW_sw hS hnp hnb hx hy 0
  rw [sw_sw0 h0] at this
  exact this
/-- what the law's race wants of a flat one to be asked of distances -/
def LvD (np nb : Nat) (m : Mem) (s : Nat → Int) : Prop := LW np nb m s ∧ szO s ∧ smO s ∧ wlO s ∧ cnO s ∧ pasO s ∧ np ≤ 4 ∧ nb ≤ 4
theorem LvD_sw {np nb : Nat} {m : Mem} {s : Nat → Int} (h : LvD np nb m s) {x y : Int} (hx : 0 ≤ x ∧ x < 8) (hy : 0 ≤ y ∧ y < 8) {v : Int} (hv : 0 ≤ v ∧ v ≤ 2) : LvD np nb (mw m (4 + y.toNat) x.toNat (zi v)) (sw s x y v) := by
  obtain ⟨h1, h2, h3, h4, h5, h6, h7, h8⟩ := h
  refine ⟨LW_sw h1 h7 h8 hx hy v, sw_sz hx.1 hy.1 h2, ?_, sw_wl hv h4, sw_cn hx.1 hy.1 h5, sw_pas hx.1 hy.1 h5 h6, h7, h8⟩
  unfold smO
  rw [sw_lt hx.1 hy.1 (by decide), sw_lt hx.1 hy.1 (by decide)]
  exact h3
theorem LvD_dst {np nb fu : Nat} (hfu : 100000 ≤ fu) {m : Mem} {s : Nat → Int} (h : LvD np nb m s) {p : Nat} (hp : p < np) : KW_distance np nb fu (zi (p : Int)) m = some (zi (dst1 s p)) := w_distance hfu h.1 h.2.1 h.2.2.1 h.2.2.2.1 h.2.2.2.2.1 h.2.2.2.2.2.1 hp
theorem dst1_b {np nb : Nat} {m : Mem} {s : Nat → Int} (h : LvD np nb m s) {p : Nat} (hp : p < np) : (0 ≤ dst1 s p ∧ dst1 s p ≤ 1000) ∧ (dst1 s p < 1000 ↔ dst s p ≠ -1) ∧ (dst s p ≠ -1 → dst1 s p = dst s p) ∧ dst s p ≤ 80 := by
  have e := h.1.1.1
  have b := dst_le h.2.1 h.2.2.2.1 (h.2.2.2.2.2.1 p (by omega) (by omega))
  unfold dst1
  split
  · exact ⟨by omega, by omega, fun h => by contradiction, by omega⟩
  · exact ⟨by omega, by omega, fun _ => rfl, by omega⟩
theorem w_ad84 {np nb fu : Nat} (hfu : 100000 ≤ fu) {m : Mem} {s : Nat → Int} (h : LvD np nb m s) {x y : Int} (hx : 0 ≤ x ∧ x < 8) (hy : 0 ≤ y ∧ y < 8) : ∀ (q n k : Nat) (ok : Bool), k + q = np → q < n → (ok = true ↔ ∀ p : Int, 0 ≤ p → p < k → dst s p ≠ -1) → KW_isAdmissible_84 np nb fu n (zi x) (zi y) (zi (bi ok)) (zi (k : Int)) m = some (zi (bi (hwB s)), mw m (4 + y.toNat) x.toNat 0) := by
  have e2 := h.1.1.1
  have h7 := h.2.2.2.2.2.2.1
  intro q
  induction q with
  | zero =>
    intro n k ok hk hn hok
    obtain ⟨n, rfl⟩ : ∃ f, n = f + 1 := ⟨n - 1, by omega⟩
    rw [KW_isAdmissible_84, ofNp, if_neg (by rw [zi_lt (by omega) (by omega) (by omega) (by omega)]; omega), gi_zi (by omega) (by omega) (by omega), gi_zi (by omega) (by omega) (by omega), ltf, gb_bi, zi_clamp (by omega) (by omega), zi_clamp (by omega) (by omega)]
    rw [show hwB s = ok by
      refine Bool.eq_iff_iff.mpr (hwB_t.trans ?_)
      rw [hok]
      unfold hwP
      exact ⟨fun g p h1 h2 => g p h1 (by omega), fun g p h1 h2 => g p h1 (by omega)⟩]
  | succ q ih =>
    intro n k ok hk hn hok
    obtain ⟨n, rfl⟩ : ∃ f, n = f + 1 := ⟨n - 1, by omega⟩
    obtain ⟨b1, b2, b3, b4⟩ := dst1_b h (p := k) (by omega)
    rw [KW_isAdmissible_84, ofNp, if_pos (by rw [zi_lt (by omega) (by omega) (by omega) (by omega)]; omega), LvD_dst hfu h (p := k) (by omega), bd_s, show zi (k : Int) + 1 = zi ((k + 1 : Nat) : Int) by
      rw [show (1 : Int32) = zi 1 from rfl, zi_add]
      rfl]
    cases ok with
    | false =>
      rw [if_pos (by rfl)]
      refine ih n (k + 1) false (by omega) (by omega) ⟨fun g => (by cases g), fun g => ?_⟩
      exact hok.mpr (fun p h1 h2 => g p h1 (by omega))
    | true =>
      rw [if_neg (by decide)]
      have k1 : (zi (dst1 s k) < (1000 : Int32)) = (dst1 s k < 1000) := by
        rw [show (1000 : Int32) = zi 1000 from rfl]
        exact zi_lt (by omega) (by omega) (by omega) (by omega)
      have hok' := hok.mp rfl
      by_cases c : dst1 s k < 1000
      · rw [if_pos (by rw [k1]; exact c)]
        refine ih n (k + 1) true (by omega) (by omega) ⟨fun _ p h1 h2 => ?_, fun _ => rfl⟩
        by_cases q2 : p = k
        · rw [q2]
          exact b2.mp c
        · exact hok' p h1 (by omega)
      · rw [if_neg (by rw [k1]; exact c)]
        refine ih n (k + 1) false (by omega) (by omega) ⟨fun g => (by cases g), fun g => ?_⟩
        exact absurd (b2.mpr (g k (by omega) (by omega))) c
theorem w_isAdmissible {np nb fu : Nat} (hfu : 100000 ≤ fu) {m : Mem} {s : Nat → Int} (h : LvD np nb m s) {x y w : Int} (hpl : isPl s x y = true) (hw : w = 1 ∨ w = 2) : ∃ m2, KW_isAdmissible np nb fu (zi x) (zi y) (zi w) m = some (zi (bi (adB s x y w)), m2) ∧ LvD np nb m2 s := by
  have h' := h
  obtain ⟨hS, hz, hsm, hW, hc, hp, h7, h8⟩ := h'
  have hz2 := hz
  obtain ⟨⟨hw1, hw2⟩, hh1, hh2⟩ := hz2
  obtain ⟨⟨x1, x2⟩, y1, y2⟩ := isPl_iff.mp hpl
  have v0 := wg_le hW hz x y
  have v1 := wg_le hW hz (x - 1) y
  have v2 := wg_le hW hz (x + 1) y
  have v3 := wg_le hW hz x (y - 1)
  have v4 := wg_le hW hz x (y + 1)
  have e69 : hrB s x y w = true → ∃ m2, KW_isAdmissible_69 np nb fu (zi x) (zi y) (zi w) m = some (zi (bi (adB s x y w)), m2) ∧ LvD np nb m2 s := fun hr => by
    have h0 := hr_0 hpl hr
    have g := LvD_sw h (x := x) (y := y) ⟨x1, by omega⟩ ⟨y1, by omega⟩ (v := w) (by omega)
    have g2 := w_ad84 hfu g (x := x) (y := y) ⟨x1, by omega⟩ ⟨y1, by omega⟩ np 5 0 true (by omega) (by omega) ⟨fun _ p h1 h2 => by omega, fun _ => rfl⟩
    refine ⟨mw (mw m (4 + y.toNat) x.toNat (zi w)) (4 + y.toNat) x.toNat 0, ?_, ?_⟩
    · unfold KW_isAdmissible_69 adB
      rw [gi_zi (by omega) (by omega) (by omega), gi_zi (by omega) (by omega) (by omega), ltf, zi_clamp (by omega) (by omega), zi_clamp (by omega) (by omega), hr, Bool.true_and]
      exact g2
    · exact ⟨LW_sw0 h7 h8 g.1 ⟨x1, by omega⟩ ⟨y1, by omega⟩ h0, hz, hsm, hW, hc, hp, h7, h8⟩
  have no : hrB s x y w = false → (zi (bi (adB s x y w)) : Int32) = 0 := fun hr => by
    unfold adB
    rw [hr, Bool.false_and]
    rfl
  unfold KW_isAdmissible KW_isAdmissible_38
  rw [show (1 : Int32) = zi 1 from rfl, show (0 : Int32) = zi 0 from rfl, show (2 : Int32) = zi 2 from rfl, zi_sub, zi_add, zi_sub, zi_add]
  rw [w_wall hS.2.1 hz (by omega) (by omega) (by omega) (by omega), w_wall hS.2.1 hz (by omega) (by omega) (by omega) (by omega), w_wall hS.2.1 hz (by omega) (by omega) (by omega) (by omega), w_wall hS.2.1 hz (by omega) (by omega) (by omega) (by omega), w_wall hS.2.1 hz (by omega) (by omega) (by omega) (by omega), bd_s, bd_s, bd_s, bd_s, bd_s]
  by_cases c0 : wg s x y = 0
  · rw [if_pos (congrArg zi c0)]
    rcases hw with rfl | rfl
    · rw [if_pos rfl, if_neg (show ¬ (zi 1 = zi 2) by decide)]
      by_cases c1 : wg s (x - 1) y = 1
      · rw [if_pos (congrArg zi c1)]
        exact ⟨m, by rw [no (by unfold hrB; simp [c0, c1])]; rfl, h⟩
      · rw [if_neg (fun e => c1 ((zi_inj (by omega) (by omega) (by omega) (by omega)).mp e))]
        by_cases c2 : wg s (x + 1) y = 1
        · rw [if_pos (congrArg zi c2)]
          exact ⟨m, by rw [no (by unfold hrB; simp [c0, c2])]; rfl, h⟩
        · rw [if_neg (fun e => c2 ((zi_inj (by omega) (by omega) (by omega) (by omega)).mp e))]
          exact e69 (by unfold hrB; simp [c0, c1, c2])
    · rw [if_neg (show ¬ (zi 2 = zi 1) by decide), if_pos rfl]
      by_cases c1 : wg s x (y - 1) = 2
      · rw [if_pos (congrArg zi c1)]
        exact ⟨m, by rw [no (by unfold hrB; simp [c0, c1])]; rfl, h⟩
      · rw [if_neg (fun e => c1 ((zi_inj (by omega) (by omega) (by omega) (by omega)).mp e))]
        by_cases c2 : wg s x (y + 1) = 2
        · rw [if_pos (congrArg zi c2)]
          exact ⟨m, by rw [no (by unfold hrB; simp [c0, c2])]; rfl, h⟩
        · rw [if_neg (fun e => c2 ((zi_inj (by omega) (by omega) (by omega) (by omega)).mp e))]
          exact e69 (by unfold hrB; simp [c0, c1, c2])
  · rw [if_neg (fun e => c0 ((zi_inj (by omega) (by omega) (by omega) (by omega)).mp e))]
    exact ⟨m, by rw [no (by unfold hrB; simp [c0])]; rfl, h⟩
end MBB
