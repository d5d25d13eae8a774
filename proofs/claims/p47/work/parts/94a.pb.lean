section PBB
theorem mset_same (mem : Mem) : mset 0 255 mem mem = mem := by
  funext k
  unfold mset
  by_cases h : 0 ≤ k ∧ k < 0 + 255
  · rw [if_pos h, Nat.sub_zero]
  · rw [if_neg h]
theorem LWp_at {m : Mem} {s : Nat → Int} {p : Nat} (h : LWp m s p) {k : Nat} (hk : k ≤ 6) : rd m (13 + p) k = zi (pg s p k) := by
  obtain ⟨h0, h1, h2, h3, h4, h5, h6⟩ := h
  rcases (show k = 0 ∨ k = 1 ∨ k = 2 ∨ k = 3 ∨ k = 4 ∨ k = 5 ∨ k = 6 by omega) with rfl | rfl | rfl | rfl | rfl | rfl | rfl
  · exact h0
  · exact h1
  · exact h2
  · exact h3
  · exact h4
  · exact h5
  · exact h6
theorem zs (k : Nat) : zi (k : Int) + 1 = zi ((k + 1 : Nat) : Int) := by
  rw [show (1 : Int32) = zi 1 from rfl, zi_add]
  rfl
variable {np nb L fu : Nat} {xs : Nat → Int32}
theorem al_76 (hfu : 1000 ≤ fu) {mem : Mem} {s : Nat → Int} {u : Nat} {ps : Nat → Nat → Int} (h : JQ np nb mem s u ps) {p : Nat} (hp : p < np) {k61 : Int32 → Mem → Option (Int32 × Mem)} : ∀ (q n k : Nat), k + q = 7 → q < n → KL_alike_76 L xs np nb fu k61 n (zi (p : Int)) (zi (k : Int)) mem = k61 (zi ((p + 1 : Nat) : Int)) mem := by
  obtain ⟨r, e2, h4⟩ := JQ_r0 h
  intro q
  induction q with
  | zero =>
    intro n k hk hn
    obtain ⟨n, rfl⟩ : ∃ f, n = f + 1 := ⟨n - 1, by omega⟩
    obtain rfl : k = 7 := by omega
    rw [KL_alike_76, if_neg (by decide), zs]
  | succ q ih =>
    intro n k hk hn
    obtain ⟨n, rfl⟩ : ∃ f, n = f + 1 := ⟨n - 1, by omega⟩
    have k1 : (zi (k : Int) < (7 : Int32)) = ((k : Int) < 7) := zi_lt (b_ := 7) (by omega) (by omega) (by decide) (by decide)
    have er : rd mem (255 + (13 + p)) k = zi (pg s p k) := LWp_at (h.2.1.1.2.2.2.1 p hp) (by omega)
    rw [KL_alike_76, if_pos (by rw [k1]; omega), q_pawn hfu h.1 (p := p) (k := k) (by omega) (by omega), bdT_s, ltf, mset_same, gi_zi (by omega) (by omega) (by omega), gi_zi (by omega) (by omega) (by omega), zi_clamp (by omega) (by omega), zi_clamp (by omega) (by omega), Int.toNat_natCast, Int.toNat_natCast, er, if_pos rfl, zs]
    exact ih n (k + 1) (by omega) (by omega)
theorem al_137 {mem : Mem} {s : Nat → Int} {u : Nat} {ps : Nat → Nat → Int} (h : JQ np nb mem s u ps) {y : Nat} (hy : (y : Int) < s 1 - 1) {k124 : Int32 → Int32 → Mem → Option (Int32 × Mem)} {a : Nat} : ∀ (q n x : Nat), (x : Int) + q = s 0 - 1 → q < n → KL_alike_137 L xs np nb fu k124 n (zi ((a + sg (fun x => if 0 < s (120 + 8 * y + x) then 1 else 0) x : Nat) : Int)) (zi (y : Int)) (zi (x : Int)) mem = k124 (zi ((a + wcR s y : Nat) : Int)) (zi ((y + 1 : Nat) : Int)) mem := by
  obtain ⟨⟨r0, r1, r2, r3, r4⟩, e2, h4⟩ := JQ_r0 h
  have hz := h.2.1.2.1.1
  obtain ⟨⟨w1, w2⟩, w3, w4⟩ := hz
  obtain ⟨m1, m2⟩ := h.2.1.2.2.1
  intro q
  induction q with
  | zero =>
    intro n x hx hn
    obtain ⟨n, rfl⟩ : ∃ f, n = f + 1 := ⟨n - 1, by omega⟩
    rw [KL_alike_137, r0, show (1 : Int32) = zi 1 from rfl, zi_sub, if_neg (by rw [zi_lt (by omega) (by omega) (by omega) (by omega)]; omega), zi_add]
    unfold wcR
    rw [show (s 0 - 1).toNat = x by omega]
    rfl
  | succ q ih =>
    intro n x hx hn
    obtain ⟨n, rfl⟩ : ∃ f, n = f + 1 := ⟨n - 1, by omega⟩
    have hpl : isPl s (x : Int) (y : Int) = true := isPl_iff.mpr ⟨⟨by omega, by omega⟩, by omega, by omega⟩
    have hwg : wg s (x : Int) (y : Int) = s (120 + 8 * y + x) := by
      unfold wg
      rw [if_pos hpl]
      exact congrArg s (by omega)
    have hb := wg_le h.2.1.2.1.2.2.1 h.2.1.2.1.1 (x : Int) (y : Int)
    rw [hwg] at hb
    have er : rd mem (255 + (4 + y)) x = zi (s (120 + 8 * y + x)) := by
      have := h.2.1.1.2.1.2.2 (x : Int) (y : Int) (by omega) (by omega) (by omega) (by omega)
      rw [show (120 + 8 * (y : Int) + (x : Int)).toNat = 120 + 8 * y + x by omega] at this
      exact this
    have hw := q_wallAt (fu := fu) h.1 hpl
    rw [hwg] at hw
    rw [KL_alike_137, r0, show (1 : Int32) = zi 1 from rfl, zi_sub, if_pos (by rw [zi_lt (by omega) (by omega) (by omega) (by omega)]; omega), hw, bdT_s, ltf, mset_same, gi_zi (by omega) (by omega) (by omega), gi_zi (by omega) (by omega) (by omega), gi_zi (by omega) (by omega) (by omega), gi_zi (by omega) (by omega) (by omega), zi_clamp (by omega) (by omega), zi_clamp (by omega) (by omega), Int.toNat_natCast, Int.toNat_natCast, er, zi_sub, if_pos rfl, show (0 : Int32) = zi 0 from rfl, zi_add, zi_add, zi_add]
    have i2 := ih n (x + 1) (by omega) (by omega)
    rw [sg] at i2
    by_cases c : 0 < s (120 + 8 * y + x)
    · rw [if_pos c] at i2
      rw [if_pos (by rw [zi_lt (by omega) (by omega) (by omega) (by omega)]; exact c)]
      exact i2
    · rw [if_neg c] at i2
      rw [if_neg (by rw [zi_lt (by omega) (by omega) (by omega) (by omega)]; exact c), Int.add_zero]
      exact i2
theorem al_124 {mem : Mem} {s : Nat → Int} {u : Nat} {ps : Nat → Nat → Int} (h : JQ np nb mem s u ps) : ∀ (q n y : Nat), (y : Int) + q = s 1 - 1 → q < n → KL_alike_124 L xs np nb fu n (zi ((sg (wcR s) y : Nat) : Int)) (zi (y : Int)) mem = some (1, mem) := by
  obtain ⟨⟨r0, r1, r2, r3, r4⟩, e2, h4⟩ := JQ_r0 h
  have hz := h.2.1.2.1.1
  obtain ⟨⟨w1, w2⟩, w3, w4⟩ := hz
  obtain ⟨m1, m2⟩ := h.2.1.2.2.1
  intro q
  induction q with
  | zero =>
    intro n y hy hn
    obtain ⟨n, rfl⟩ : ∃ f, n = f + 1 := ⟨n - 1, by omega⟩
    have e3 := h.2.2.1
    unfold wcN at e3
    rw [show (s 1 - 1).toNat = y by omega] at e3
    rw [KL_alike_124, r1, show (1 : Int32) = zi 1 from rfl, zi_sub, if_neg (by rw [zi_lt (by omega) (by omega) (by omega) (by omega)]; omega), (q_setting h.1).1, bdT_s, ltf, mset_same, e3, if_pos rfl]
  | succ q ih =>
    intro n y hy hn
    obtain ⟨n, rfl⟩ : ∃ f, n = f + 1 := ⟨n - 1, by omega⟩
    have a := al_137 (L := L) (xs := xs) (fu := fu) h (y := y) (by omega) (k124 := KL_alike_124 L xs np nb fu n) (a := sg (wcR s) y) (s 0 - 1).toNat 6 0 (by omega) (by omega)
    have b := ih n (y + 1) (by omega) (by omega)
    rw [KL_alike_124, r1, show (1 : Int32) = zi 1 from rfl, zi_sub, if_pos (by rw [zi_lt (by omega) (by omega) (by omega) (by omega)]; omega)]
    exact a.trans b
theorem al_61 (hfu : 1000 ≤ fu) {mem : Mem} {s : Nat → Int} {u : Nat} {ps : Nat → Nat → Int} (h : JQ np nb mem s u ps) : ∀ (q n p : Nat), p + q = np → q < n → KL_alike_61 L xs np nb fu n (zi (p : Int)) mem = some (1, mem) := by
  obtain ⟨⟨r0, r1, r2, r3, r4⟩, e2, h4⟩ := JQ_r0 h
  have hz := h.2.1.2.1.1
  obtain ⟨⟨w1, w2⟩, w3, w4⟩ := hz
  obtain ⟨m1, m2⟩ := h.2.1.2.2.1
  intro q
  induction q with
  | zero =>
    intro n p hp hn
    obtain ⟨n, rfl⟩ : ∃ f, n = f + 1 := ⟨n - 1, by omega⟩
    have b := al_124 (L := L) (xs := xs) (fu := fu) h (s 1 - 1).toNat 6 0 (by omega) (by omega)
    rw [KL_alike_61, ofNp, if_neg (by rw [zi_lt (by omega) (by omega) (by omega) (by omega)]; omega)]
    exact b
  | succ q ih =>
    intro n p hp hn
    obtain ⟨n, rfl⟩ : ∃ f, n = f + 1 := ⟨n - 1, by omega⟩
    have a := al_76 (L := L) (xs := xs) hfu h (p := p) (by omega) (k61 := KL_alike_61 L xs np nb fu n) 7 8 0 (by omega) (by omega)
    rw [KL_alike_61, ofNp, if_pos (by rw [zi_lt (by omega) (by omega) (by omega) (by omega)]; omega)]
    exact a.trans (ih n (p + 1) (by omega) (by omega))
/-- class and law are alike -/
theorem al_all (hfu : 1000 ≤ fu) {mem : Mem} {s : Nat → Int} {u : Nat} {ps : Nat → Nat → Int} (h : JQ np nb mem s u ps) : KL_alike L xs np nb fu mem = some (1, mem) := by
  obtain ⟨⟨r0, r1, r2, r3, r4⟩, e2, h4⟩ := JQ_r0 h
  have ho := w_isOver (fu := fu) h.2.1.1 h.2.1.2.1.2.1
  have a := al_61 (L := L) (xs := xs) hfu h np 5 0 (by omega) (by omega)
  have z : zi ((0 : Nat) : Int) = (0 : Int32) := rfl
  rw [z] at a
  have ho' : KW_isOver np nb fu (fun j => mem (255 + j)) = some (zi (bi (ovB s))) := ho
  unfold KL_alike
  rw [(q_setting h.1).2.1, bdT_s, ltf, mset_same, r2, if_pos rfl, (q_setting h.1).2.2, bdT_s, ltf, mset_same, r3, if_pos rfl, q_isOver h.1, bd_s, ho', bd_s, if_pos rfl, q_turnOf h.1, bd_s, bd_s, r4, a]
  cases ovB s with
  | true => rfl
  | false => rw [if_pos (show zi (bi false) = 0 from rfl), if_neg (show ¬ false = true by decide), if_pos rfl]
end PBB
