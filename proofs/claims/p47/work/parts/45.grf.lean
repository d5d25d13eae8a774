section GRF
theorem op0 {s : Nat → Int} (u : Nat) : op s u 0 = true ↔ isCl s (xo u) (yo u) = true ∧ isCl s (xo u) (yo u + 1) = true ∧ wg s (xo u) (yo u) ≠ 1 ∧ wg s (xo u - 1) (yo u) ≠ 1 := by
  rw [op_iff]
  unfold blk
  rw [show dx ((0 : Nat) : Int) = 0 from rfl, show dy ((0 : Nat) : Int) = 1 from rfl, show lsI (yo u) (yo u + 1) = yo u from if_pos (by omega), Int.add_zero, if_pos rfl, Bool.or_eq_false_iff, Bool.or_eq_false_iff, Bool.not_eq_false', decide_eq_false_iff_not, decide_eq_false_iff_not]
theorem op1 {s : Nat → Int} (u : Nat) : op s u 1 = true ↔ isCl s (xo u) (yo u) = true ∧ isCl s (xo u + 1) (yo u) = true ∧ wg s (xo u) (yo u) ≠ 2 ∧ wg s (xo u) (yo u - 1) ≠ 2 := by
  rw [op_iff]
  unfold blk
  rw [show dx ((1 : Nat) : Int) = 1 from rfl, show dy ((1 : Nat) : Int) = 0 from rfl, show lsI (xo u) (xo u + 1) = xo u from if_pos (by omega), Int.add_zero, if_neg (by omega), Bool.or_eq_false_iff, Bool.or_eq_false_iff, Bool.not_eq_false', decide_eq_false_iff_not, decide_eq_false_iff_not]
theorem op2 {s : Nat → Int} (u : Nat) : op s u 2 = true ↔ isCl s (xo u) (yo u) = true ∧ isCl s (xo u) (yo u - 1) = true ∧ wg s (xo u) (yo u - 1) ≠ 1 ∧ wg s (xo u - 1) (yo u - 1) ≠ 1 := by
  rw [op_iff]
  unfold blk
  rw [show dx ((2 : Nat) : Int) = 0 from rfl, show dy ((2 : Nat) : Int) = -1 from rfl, show yo u + -1 = yo u - 1 from rfl, show lsI (yo u) (yo u - 1) = yo u - 1 from if_neg (by omega), Int.add_zero, if_pos rfl, Bool.or_eq_false_iff, Bool.or_eq_false_iff, Bool.not_eq_false', decide_eq_false_iff_not, decide_eq_false_iff_not]
theorem op3 {s : Nat → Int} (u : Nat) : op s u 3 = true ↔ isCl s (xo u) (yo u) = true ∧ isCl s (xo u - 1) (yo u) = true ∧ wg s (xo u - 1) (yo u) ≠ 2 ∧ wg s (xo u - 1) (yo u - 1) ≠ 2 := by
  rw [op_iff]
  unfold blk
  rw [show dx ((3 : Nat) : Int) = -1 from rfl, show dy ((3 : Nat) : Int) = 0 from rfl, show xo u + -1 = xo u - 1 from rfl, show lsI (xo u) (xo u - 1) = xo u - 1 from if_neg (by omega), Int.add_zero, if_neg (by omega), Bool.or_eq_false_iff, Bool.or_eq_false_iff, Bool.not_eq_false', decide_eq_false_iff_not, decide_eq_false_iff_not]
def opp (d : Nat) : Nat := (d + 2) % 4
theorem opp_lt (d : Nat) : opp d < 4 := by unfold opp; omega
theorem opp_opp {d : Nat} (hd : d < 4) : opp (opp d) = d := by unfold opp; omega
theorem op_lt {s : Nat → Int} (hz : szO s) {u d : Nat} (h : op s u d = true) : u < 81 := by
  have h1 := isCl_iff.mp (op_iff.mp h).1
  obtain ⟨⟨hw1, hw2⟩, hh1, hh2⟩ := hz
  unfold yo xo at h1
  omega
theorem op_sym {s : Nat → Int} (hz : szO s) {u d : Nat} (hd : d < 4) (h : op s u d = true) : op s (nbr u d) (opp d) = true ∧ nbr (nbr u d) (opp d) = u := by
  have hu := op_lt hz h
  obtain ⟨a1, a2, a3, a4, -⟩ := op_nb hz hu hd h
  have hxy := xy_lt hu
  have hxy2 := xy_lt a1
  constructor
  · rcases (show d = 0 ∨ d = 1 ∨ d = 2 ∨ d = 3 by omega) with rfl | rfl | rfl | rfl
    · rw [op0] at h
      rw [show dx ((0 : Nat) : Int) = 0 from rfl, Int.add_zero] at a3
      rw [show dy ((0 : Nat) : Int) = 1 from rfl] at a4
      show op s (nbr u 0) 2 = true
      rw [op2, a3, a4, show yo u + 1 - 1 = yo u by omega]
      exact ⟨h.2.1, h.1, h.2.2⟩
    · rw [op1] at h
      rw [show dx ((1 : Nat) : Int) = 1 from rfl] at a3
      rw [show dy ((1 : Nat) : Int) = 0 from rfl, Int.add_zero] at a4
      show op s (nbr u 1) 3 = true
      rw [op3, a3, a4, show xo u + 1 - 1 = xo u by omega]
      exact ⟨h.2.1, h.1, h.2.2⟩
    · rw [op2] at h
      rw [show dx ((2 : Nat) : Int) = 0 from rfl, Int.add_zero] at a3
      rw [show dy ((2 : Nat) : Int) = -1 from rfl, show yo u + -1 = yo u - 1 from rfl] at a4
      show op s (nbr u 2) 0 = true
      rw [op0, a3, a4, show yo u - 1 + 1 = yo u by omega]
      exact ⟨h.2.1, h.1, h.2.2⟩
    · rw [op3] at h
      rw [show dx ((3 : Nat) : Int) = -1 from rfl, show xo u + -1 = xo u - 1 from rfl] at a3
      rw [show dy ((3 : Nat) : Int) = 0 from rfl, Int.add_zero] at a4
      show op s (nbr u 3) 1 = true
      rw [op1, a3, a4, show xo u - 1 + 1 = xo u by omega]
      exact ⟨h.2.1, h.1, h.2.2⟩
  · generalize nbr u d = v at a1 a2 a3 a4 hxy2
    unfold nbr
    rcases (show d = 0 ∨ d = 1 ∨ d = 2 ∨ d = 3 by omega) with rfl | rfl | rfl | rfl
    · rw [show dx ((0 : Nat) : Int) = 0 from rfl, Int.add_zero] at a3
      rw [show dy ((0 : Nat) : Int) = 1 from rfl] at a4
      rw [show dx ((opp 0 : Nat) : Int) = 0 from rfl, show dy ((opp 0 : Nat) : Int) = -1 from rfl]
      omega
    · rw [show dx ((1 : Nat) : Int) = 1 from rfl] at a3
      rw [show dy ((1 : Nat) : Int) = 0 from rfl, Int.add_zero] at a4
      rw [show dx ((opp 1 : Nat) : Int) = -1 from rfl, show dy ((opp 1 : Nat) : Int) = 0 from rfl]
      omega
    · rw [show dx ((2 : Nat) : Int) = 0 from rfl, Int.add_zero] at a3
      rw [show dy ((2 : Nat) : Int) = -1 from rfl] at a4
      rw [show dx ((opp 2 : Nat) : Int) = 0 from rfl, show dy ((opp 2 : Nat) : Int) = 1 from rfl]
      omega
    · rw [show dx ((3 : Nat) : Int) = -1 from rfl] at a3
      rw [show dy ((3 : Nat) : Int) = 0 from rfl, Int.add_zero] at a4
      rw [show dx ((opp 3 : Nat) : Int) = 1 from rfl, show dy ((opp 3 : Nat) : Int) = 0 from rfl]
      omega
theorem wg_sw {s : Nat → Int} (hz : szO s) {x y v : Int} (hp : isPl s x y = true) (a b : Int) : wg (sw s x y v) a b = if a = x ∧ b = y then v else wg s a b := by
  have hp2 := isPl_iff.mp hp
  obtain ⟨⟨hw1, hw2⟩, hh1, hh2⟩ := hz
  unfold wg
  rw [sw_isPl hp2.1.1 hp2.2.1]
  by_cases q : a = x ∧ b = y
  · rw [if_pos q, q.1, q.2, if_pos hp]
    exact if_pos rfl
  · rw [if_neg q]
    by_cases q2 : isPl s a b = true
    · rw [if_pos q2, if_pos q2]
      have q3 := isPl_iff.mp q2
      exact if_neg (by omega)
    · rw [if_neg q2, if_neg q2]
/-- the four steps that a wall cuts -/
def cut (x y v : Int) (u d : Nat) : Bool := decide ((v = 1 ∧ ((d = 0 ∧ yo u = y) ∨ (d = 2 ∧ yo u = y + 1)) ∧ (xo u = x ∨ xo u = x + 1)) ∨ (v = 2 ∧ ((d = 1 ∧ xo u = x) ∨ (d = 3 ∧ xo u = x + 1)) ∧ (yo u = y ∨ yo u = y + 1)))
theorem cut_f {x y v : Int} {u d : Nat} : (!cut x y v u d) = true ↔ ¬ ((v = 1 ∧ ((d = 0 ∧ yo u = y) ∨ (d = 2 ∧ yo u = y + 1)) ∧ (xo u = x ∨ xo u = x + 1)) ∨ (v = 2 ∧ ((d = 1 ∧ xo u = x) ∨ (d = 3 ∧ xo u = x + 1)) ∧ (yo u = y ∨ yo u = y + 1))) := by
  unfold cut
  rw [Bool.not_eq_true', decide_eq_false_iff_not]
theorem cut_t {x y v : Int} {u d : Nat} : cut x y v u d = true ↔ ((v = 1 ∧ ((d = 0 ∧ yo u = y) ∨ (d = 2 ∧ yo u = y + 1)) ∧ (xo u = x ∨ xo u = x + 1)) ∨ (v = 2 ∧ ((d = 1 ∧ xo u = x) ∨ (d = 3 ∧ xo u = x + 1)) ∧ (yo u = y ∨ yo u = y + 1))) := by
  unfold cut
  rw [decide_eq_true_iff]
theorem op_sw {s : Nat → Int} (hz : szO s) {x y v : Int} (hp : isPl s x y = true) (hv : v = 1 ∨ v = 2) (h0 : wg s x y = 0) {u d : Nat} (hd : d < 4) : op (sw s x y v) u d = (op s u d && !cut x y v u d) := by
  have hp2 := isPl_iff.mp hp
  rw [Bool.eq_iff_iff, Bool.and_eq_true, cut_f]
  rcases (show d = 0 ∨ d = 1 ∨ d = 2 ∨ d = 3 by omega) with rfl | rfl | rfl | rfl
  · rw [op0, op0]
    rw [sw_isCl hp2.1.1 hp2.2.1, sw_isCl hp2.1.1 hp2.2.1, wg_sw hz hp, wg_sw hz hp]
    generalize xo u = X
    generalize yo u = Y
    by_cases p1 : X = x ∧ Y = y
    · rw [if_pos p1]
      obtain ⟨rfl, rfl⟩ := p1
      rw [if_neg (by omega)]
      constructor
      · rintro ⟨a, b, c, e⟩
        exact ⟨⟨a, b, by omega, e⟩, by omega⟩
      · rintro ⟨⟨a, b, c, e⟩, f⟩
        exact ⟨a, b, by omega, e⟩
    · rw [if_neg p1]
      by_cases p2 : X - 1 = x ∧ Y = y
      · rw [if_pos p2]
        obtain ⟨p3, rfl⟩ := p2
        have e9 : X - 1 = x := p3
        rw [e9]
        constructor
        · rintro ⟨a, b, c, e⟩
          exact ⟨⟨a, b, by omega, by omega⟩, by omega⟩
        · rintro ⟨⟨a, b, c, e⟩, f⟩
          exact ⟨a, b, by omega, by omega⟩
      · rw [if_neg p2]
        constructor
        · rintro ⟨a, b, c, e⟩
          exact ⟨⟨a, b, c, e⟩, by omega⟩
        · rintro ⟨⟨a, b, c, e⟩, f⟩
          exact ⟨a, b, c, e⟩
  · rw [op1, op1]
    rw [sw_isCl hp2.1.1 hp2.2.1, sw_isCl hp2.1.1 hp2.2.1, wg_sw hz hp, wg_sw hz hp]
    generalize xo u = X
    generalize yo u = Y
    by_cases p1 : X = x ∧ Y = y
    · rw [if_pos p1]
      obtain ⟨rfl, rfl⟩ := p1
      rw [if_neg (by omega)]
      constructor
      · rintro ⟨a, b, c, e⟩
        exact ⟨⟨a, b, by omega, e⟩, by omega⟩
      · rintro ⟨⟨a, b, c, e⟩, f⟩
        exact ⟨a, b, by omega, e⟩
    · rw [if_neg p1]
      by_cases p2 : X = x ∧ Y - 1 = y
      · rw [if_pos p2]
        obtain ⟨rfl, p3⟩ := p2
        rw [p3]
        constructor
        · rintro ⟨a, b, c, e⟩
          exact ⟨⟨a, b, by omega, by omega⟩, by omega⟩
        · rintro ⟨⟨a, b, c, e⟩, f⟩
          exact ⟨a, b, by omega, by omega⟩
      · rw [if_neg p2]
        constructor
        · rintro ⟨a, b, c, e⟩
          exact ⟨⟨a, b, c, e⟩, by omega⟩
        · rintro ⟨⟨a, b, c, e⟩, f⟩
          exact ⟨a, b, c, e⟩
  · rw [op2, op2]
    rw [sw_isCl hp2.1.1 hp2.2.1, sw_isCl hp2.1.1 hp2.2.1, wg_sw hz hp, wg_sw hz hp]
    generalize xo u = X
    generalize yo u = Y
    by_cases p1 : X = x ∧ Y - 1 = y
    · rw [if_pos p1]
      obtain ⟨rfl, p3⟩ := p1
      rw [if_neg (by omega), p3]
      constructor
      · rintro ⟨a, b, c, e⟩
        exact ⟨⟨a, b, by omega, e⟩, by omega⟩
      · rintro ⟨⟨a, b, c, e⟩, f⟩
        exact ⟨a, b, by omega, e⟩
    · rw [if_neg p1]
      by_cases p2 : X - 1 = x ∧ Y - 1 = y
      · rw [if_pos p2]
        obtain ⟨p4, p3⟩ := p2
        rw [p4, p3]
        constructor
        · rintro ⟨a, b, c, e⟩
          exact ⟨⟨a, b, by omega, by omega⟩, by omega⟩
        · rintro ⟨⟨a, b, c, e⟩, f⟩
          exact ⟨a, b, by omega, by omega⟩
      · rw [if_neg p2]
        constructor
        · rintro ⟨a, b, c, e⟩
          exact ⟨⟨a, b, c, e⟩, by omega⟩
        · rintro ⟨⟨a, b, c, e⟩, f⟩
          exact ⟨a, b, c, e⟩
  · rw [op3, op3]
    rw [sw_isCl hp2.1.1 hp2.2.1, sw_isCl hp2.1.1 hp2.2.1, wg_sw hz hp, wg_sw hz hp]
    generalize xo u = X
    generalize yo u = Y
    by_cases p1 : X - 1 = x ∧ Y = y
    · rw [if_pos p1]
      obtain ⟨p3, rfl⟩ := p1
      rw [if_neg (by omega), p3]
      constructor
      · rintro ⟨a, b, c, e⟩
        exact ⟨⟨a, b, by omega, e⟩, by omega⟩
      · rintro ⟨⟨a, b, c, e⟩, f⟩
        exact ⟨a, b, by omega, e⟩
    · rw [if_neg p1]
      by_cases p2 : X - 1 = x ∧ Y - 1 = y
      · rw [if_pos p2]
        obtain ⟨p4, p3⟩ := p2
        rw [p4, p3]
        constructor
        · rintro ⟨a, b, c, e⟩
          exact ⟨⟨a, b, by omega, by omega⟩, by omega⟩
        · rintro ⟨⟨a, b, c, e⟩, f⟩
          exact ⟨a, b, by omega, by omega⟩
      · rw [if_neg p2]
        constructor
        · rintro ⟨a, b, c, e⟩
          exact ⟨⟨a, b, c, e⟩, by omega⟩
        · rintro ⟨⟨a, b, c, e⟩, f⟩
          exact ⟨a, b, c, e⟩
/-- where there is room, the wall cuts open steps -/
theorem cut_op {s : Nat → Int} (hz : szO s) {x y v : Int} (hp : isPl s x y = true) (hr : hrB s x y v = true) (hv : v = 1 ∨ v = 2) {u d : Nat} (h : cut x y v u d = true) : op s u d = true := by
  have hp2 := isPl_iff.mp hp
  obtain ⟨⟨hw1, hw2⟩, hh1, hh2⟩ := hz
  unfold hrB at hr
  rw [Bool.and_eq_true, decide_eq_true_iff] at hr
  obtain ⟨h0, h1⟩ := hr
  have hc : ∀ a b : Int, (a = x ∨ a = x + 1) → (b = y ∨ b = y + 1) → isCl s a b = true := fun a b h1 h2 => isCl_iff.mpr ⟨⟨by omega, by omega⟩, by omega, by omega⟩
  rw [cut_t] at h
  rcases hv with rfl | rfl
  · rw [if_pos rfl, Bool.and_eq_true, decide_eq_true_iff, decide_eq_true_iff] at h1
    obtain ⟨h1, h2⟩ := h1
    rcases h with ⟨-, h3, h4⟩ | ⟨h3, -⟩
    · rcases h3 with ⟨rfl, h3⟩ | ⟨rfl, h3⟩
      · rw [op0, h3]
        rcases h4 with h4 | h4
        · rw [h4]
          exact ⟨hc _ _ (by omega) (by omega), hc _ _ (by omega) (by omega), by omega, h1⟩
        · rw [h4, show x + 1 - 1 = x by omega]
          exact ⟨hc _ _ (by omega) (by omega), hc _ _ (by omega) (by omega), h2, by omega⟩
      · rw [op2, h3, show y + 1 - 1 = y by omega]
        rcases h4 with h4 | h4
        · rw [h4]
          exact ⟨hc _ _ (by omega) (by omega), hc _ _ (by omega) (by omega), by omega, h1⟩
        · rw [h4, show x + 1 - 1 = x by omega]
          exact ⟨hc _ _ (by omega) (by omega), hc _ _ (by omega) (by omega), h2, by omega⟩
    · omega
  · rw [if_neg (by decide), Bool.and_eq_true, decide_eq_true_iff, decide_eq_true_iff] at h1
    obtain ⟨h1, h2⟩ := h1
    rcases h with ⟨h3, -⟩ | ⟨-, h3, h4⟩
    · omega
    · rcases h3 with ⟨rfl, h3⟩ | ⟨rfl, h3⟩
      · rw [op1, h3]
        rcases h4 with h4 | h4
        · rw [h4]
          exact ⟨hc _ _ (by omega) (by omega), hc _ _ (by omega) (by omega), by omega, h1⟩
        · rw [h4, show y + 1 - 1 = y by omega]
          exact ⟨hc _ _ (by omega) (by omega), hc _ _ (by omega) (by omega), h2, by omega⟩
      · rw [op3, h3, show x + 1 - 1 = x by omega]
        rcases h4 with h4 | h4
        · rw [h4]
          exact ⟨hc _ _ (by omega) (by omega), hc _ _ (by omega) (by omega), by omega, h1⟩
        · rw [h4, show y + 1 - 1 = y by omega]
          exact ⟨hc _ _ (by omega) (by omega), hc _ _ (by omega) (by omega), h2, by omega⟩
/-- paths -/
theorem Pth_split {g : Nat → Nat → Bool} {nb : Nat → Nat → Nat} {S : Nat → Prop} : ∀ {n c : Nat}, Pth g nb S n c → ∃ a, S a ∧ Pth g nb (fun b => b = a) n c := by
  intro n
  induction n with
  | zero => exact fun {c} h => ⟨c, h, rfl⟩
  | succ n ih =>
    rintro c ⟨u, d, hd, hp, hg, hc⟩
    obtain ⟨a, h1, h2⟩ := ih hp
    exact ⟨a, h1, u, d, hd, h2, hg, hc⟩
theorem Pth_cons {g : Nat → Nat → Bool} {nb : Nat → Nat → Nat} {a d : Nat} (hd : d < 4) (hg : g a d = true) : ∀ {n c : Nat}, Pth g nb (fun b => b = nb a d) n c → Pth g nb (fun b => b = a) (n + 1) c := by
  intro n
  induction n with
  | zero => exact fun {c} h => ⟨a, d, hd, rfl, hg, (show c = nb a d from h).symm⟩
  | succ n ih =>
    rintro c ⟨u, e, he, hp, hgu, hc⟩
    exact ⟨u, e, he, ih hp, hgu, hc⟩
theorem Pth_rev {g : Nat → Nat → Bool} {nb : Nat → Nat → Nat} (hs : ∀ u d, d < 4 → g u d = true → ∃ e, e < 4 ∧ g (nb u d) e = true ∧ nb (nb u d) e = u) {a : Nat} : ∀ {n c : Nat}, Pth g nb (fun b => b = a) n c → Pth g nb (fun b => b = c) n a := by
  intro n
  induction n with
  | zero => exact fun {c} h => (show c = a from h).symm
  | succ n ih =>
    rintro c ⟨u, d, hd, hp, hg, rfl⟩
    obtain ⟨e, h1, h2, h3⟩ := hs u d hd hg
    have h4 := ih hp
    refine Pth_cons h1 h2 ?_
    rw [h3]
    exact h4
theorem Pth_app {g : Nat → Nat → Bool} {nb : Nat → Nat → Nat} {S : Nat → Prop} {m a : Nat} (h : Pth g nb S m a) : ∀ {n c : Nat}, Pth g nb (fun b => b = a) n c → Pth g nb S (m + n) c := by
  intro n
  induction n with
  | zero =>
    intro c h2
    rw [show c = a from h2]
    exact h
  | succ n ih =>
    rintro c ⟨u, d, hd, hp, hg, hc⟩
    exact ⟨u, d, hd, ih hp, hg, hc⟩
/-- the shortest way in a part of the steps -/
theorem dlt_part {g g2 : Nat → Nat → Bool} {nb : Nat → Nat → Nat} {S : Nat → Prop} (hg : ∀ u d, g2 u d = true → g u d = true) {n c : Nat} (h : IsD g nb S n c) (h2 : Pth g2 nb S n c) : dlt g2 nb S c = dlt g nb S c := by
  rw [dlt_is h]
  exact dlt_is ⟨h2, fun m hm => h.2 m (Pth_mono hg (fun _ q => q) hm)⟩
theorem dlt_nn {g : Nat → Nat → Bool} {nb : Nat → Nat → Nat} {S : Nat → Prop} {c : Nat} : dlt g nb S c ≠ -1 ↔ ∃ n, Pth g nb S n c := by
  rcases dlt_cases g nb S c with ⟨h1, h2⟩ | ⟨n, h1, h2⟩
  · exact ⟨fun h => absurd h1 h, fun ⟨n, hn⟩ => absurd hn (h2 n)⟩
  · exact ⟨fun _ => ⟨n, h1.1⟩, fun _ => by omega⟩
/-- how many there are below n -/
def cnB (P : Nat → Bool) : Nat → Nat
  | 0 => 0
  | n + 1 => cnB P n + (if P n = true then 1 else 0)
theorem cnB_le (P : Nat → Bool) (n : Nat) : cnB P n ≤ n := by
  induction n with
  | zero => exact Nat.le_refl 0
  | succ n ih =>
    rw [cnB]
    split <;> omega
theorem cnB_no {P : Nat → Bool} {m : Nat} : ∀ {r : Nat}, (∀ k, m ≤ k → k < m + r → P k = false) → cnB P (m + r) = cnB P m := by
  intro r
  induction r with
  | zero => exact fun _ => rfl
  | succ r ih =>
    intro h
    rw [show m + (r + 1) = m + r + 1 from rfl, cnB, ih (fun k h1 h2 => h k h1 (by omega)), h (m + r) (by omega) (by omega)]
    rfl
theorem cnB_same {P Q : Nat → Bool} {n : Nat} (h : ∀ k, k < n → P k = Q k) : cnB P n = cnB Q n := by
  induction n with
  | zero => rfl
  | succ n ih => rw [cnB, cnB, ih (fun k hk => h k (by omega)), h n (by omega)]
end GRF
