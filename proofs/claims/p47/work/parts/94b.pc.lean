section PCC
variable {np nb L fu : Nat} {xs : Nat → Int32}
theorem q_pawn6 {fu : Nat} (hfu : 1000 ≤ fu) {c : Mem} {s : Nat → Int} {u : Nat} {ps : Nat → Nat → Int} (h : CQ c s u ps) {p : Nat} (hp : (p : Int) < s 2) : K_X11_pawn fu (zi (p : Int)) 6 c = some (0, zi (pg s p 6), c) := q_pawn hfu h hp (k := 6) (by decide)
theorem q_pawn3 {fu : Nat} (hfu : 1000 ≤ fu) {c : Mem} {s : Nat → Int} {u : Nat} {ps : Nat → Nat → Int} (h : CQ c s u ps) {p : Nat} (hp : (p : Int) < s 2) : K_X11_pawn fu (zi (p : Int)) 3 c = some (0, zi (pg s p 3), c) := q_pawn hfu h hp (k := 3) (by decide)
theorem jabs0 {a b : Int} (h : -1 ≤ a - b ∧ a - b ≤ 1) : ∃ v, KJ_abs (zi a - zi b) = some (zi v) ∧ (0 ≤ v ∧ v ≤ 1) := by
  unfold KJ_abs
  rw [zi_sub, show (0 : Int32) = zi 0 from rfl, zi_sub]
  by_cases c : 0 ≤ a - b
  · refine ⟨a - b, ?_, by omega⟩
    rw [if_pos (by rw [zi_le (by omega) (by omega) (by omega) (by omega)]; exact c)]
  · refine ⟨0 - (a - b), ?_, by omega⟩
    rw [if_neg (by rw [zi_le (by omega) (by omega) (by omega) (by omega)]; exact c)]
theorem fi_81 (hfu : 1000 ≤ fu) {s : Nat → Int} {u : Nat} {ps : Nat → Nat → Int} {p : Nat} (hp : p < np) {x y : Nat} (hx : (x : Int) < s 0) (hy : (y : Int) < s 1) {k2 : Int32 → Mem → Option (Int32 × Mem)} {k58 : Int32 → Int32 → Mem → Option (Int32 × Mem)} {k69 : Int32 → Int32 → Int32 → Mem → Option (Int32 × Mem)} : ∀ (q n d : Nat) (mem : Mem), d + q = 2 → q < n → JQ np nb mem s u ps → ∃ mem2, KL_fields_81 L xs np nb fu k2 k58 k69 n (zi (p : Int)) (zi (x : Int)) (zi (y : Int)) (zi (d : Int)) mem = k69 (zi (p : Int)) (zi (x : Int)) (zi ((y + 1 : Nat) : Int)) mem2 ∧ JQ np nb mem2 s u ps := by
  intro q
  induction q with
  | zero =>
    intro n d mem hd hn hJ
    obtain ⟨n, rfl⟩ : ∃ f, n = f + 1 := ⟨n - 1, by omega⟩
    obtain rfl : d = 2 := by omega
    exact ⟨mem, by rw [KL_fields_81, if_neg (by decide), zs], hJ⟩
  | succ q ih =>
    intro n d mem hd hn hJ
    obtain ⟨n, rfl⟩ : ∃ f, n = f + 1 := ⟨n - 1, by omega⟩
    obtain ⟨r, e2, h4⟩ := JQ_r0 hJ
    have hI := hJ.2.1.2.1
    have hz := hI.1
    have hz2 := hz
    obtain ⟨⟨w1, w2⟩, w3, w4⟩ := hz2
    have hcl : isCl s (x : Int) (y : Int) = true := isCl_iff.mpr ⟨⟨by omega, by omega⟩, by omega, by omega⟩
    have k1 : (zi (d : Int) < (2 : Int32)) = ((d : Int) < 2) := zi_lt (b_ := 2) (by omega) (by omega) (by decide) (by decide)
    rw [KL_fields_81, if_pos (by rw [k1]; omega), q_isBlocked hJ.1 hcl (d := d) (by omega), bdT_s, ltf, mset_same, zs]
    cases hb : blk s (x : Int) (y : Int) (d : Int) with
    | true =>
      rw [if_neg (by decide)]
      exact ih n (d + 1) mem (by omega) (by omega) hJ
    | false =>
      rw [if_pos (show zi (bi false) = 0 from rfl)]
      have u81 : 9 * y + x < 81 := by omega
      have xu : xo (9 * y + x) = (x : Int) := by unfold xo; omega
      have yu : yo (9 * y + x) = (y : Int) := by unfold yo; omega
      have ho : op s (9 * y + x) d = true := op_iff.mpr ⟨by rw [xu, yu]; exact hcl, by rw [xu, yu]; exact hb⟩
      have hn1 := op_nb hz u81 (by omega) ho
      have sy := op_sym hz (by omega) ho
      obtain ⟨n1, n2, n3, n4, n5⟩ := hn1
      rw [xu] at n3
      rw [yu] at n4
      have hci := isCl_iff.mp n2
      have hb2 := (op_iff.mp sy.1).2
      have ed : (opp d : Int) = (d : Int) + 2 := by
        unfold opp
        omega
      obtain ⟨c1, a1, a2⟩ := q_distFrom hfu hJ.1 (p := p) (by omega) hcl
      have J1 := JQ_ask hJ a2
      obtain ⟨c2, b1, b2⟩ := q_distFrom hfu J1.1 (p := p) (by omega) n2
      have J2 := JQ_ask J1 b2
      have e9 : (9 * (y : Int) + (x : Int)).toNat = 9 * y + x := by omega
      have e9' : (9 * yo (nbr (9 * y + x) d) + xo (nbr (9 * y + x) d)).toNat = nbr (9 * y + x) d := (xy_lt n1).2.2.2.2.1
      rw [e9] at a1
      rw [e9'] at b1
      rw [a1, bdT_s, ltf, gi_zi (by omega) (by omega) (by omega), gi_zi (by omega) (by omega) (by omega), zi_clamp (by omega) (by omega), Int.toNat_natCast, dxV_z (by omega), dyV_z (by omega), zi_add, zi_add, ← n3, ← n4, b1, bdT_s, ltf, show (2 : Int32) = zi 2 from rfl, zi_add, ← ed]
      have hq := q_isBlocked (fu := fu) J2.1 n2 (d := opp d) (opp_lt d)
      rw [hb2] at hq
      have p2 := (hI.2.2.2.1 p (by omega) (by omega)).2.1
      have l1 := dl_le hz hI.2.2.1 (side := pg s p 2) (by omega) (by omega) u81
      have l2 := dl_le hz hI.2.2.1 (side := pg s p 2) (by omega) (by omega) n1
      have nbd := dl_nb hz (side := pg s p 2) (d := d) (by omega) ho
      obtain ⟨v, v1, v2⟩ := jabs0 (a := dl s (pg s p 2) (9 * y + x)) (b := dl s (pg s p 2) (nbr (9 * y + x) d)) (by omega)
      have i1 : (zi (dl s (pg s p 2) (9 * y + x)) < (0 : Int32)) = (dl s (pg s p 2) (9 * y + x) < 0) := zi_lt (b_ := 0) (by omega) (by omega) (by decide) (by decide)
      have i2 : (zi (dl s (pg s p 2) (nbr (9 * y + x) d)) < (0 : Int32)) = (dl s (pg s p 2) (nbr (9 * y + x) d) < 0) := zi_lt (b_ := 0) (by omega) (by omega) (by decide) (by decide)
      have i3 : ((1 : Int32) < zi v) = (1 < v) := zi_lt (a_ := 1) (by decide) (by decide) (by omega) (by omega)
      obtain ⟨mem2, g1, g2⟩ := ih n (d + 1) _ (by omega) (by omega) J2
      refine ⟨mem2, ?_, g2⟩
      by_cases c : dl s (pg s p 2) (9 * y + x) = -1
      · have c' : dl s (pg s p 2) (nbr (9 * y + x) d) = -1 := by
          rcases nbd with ⟨t1, t2, t3⟩ | t
          · exact t1.mp c
          · exact t.2
        rw [if_pos (i1.mpr (by omega)), if_pos (i2.mpr (by omega)), if_pos rfl, v1, bd_s, if_neg (fun z => by have := i3.mp z; omega), gi_zi (by omega) (by omega) (by omega), gi_zi (by omega) (by omega) (by omega), hq, bdT_s, ltf, mset_same, if_pos (show zi (bi false) = 0 from rfl)]
        exact g1
      · have c' : dl s (pg s p 2) (nbr (9 * y + x) d) ≠ -1 := by
          rcases nbd with ⟨t1, t2, t3⟩ | t
          · exact fun z => c (t1.mpr z)
          · exact absurd t.1 c
        rw [if_neg (fun z => by have := i1.mp z; omega), if_neg (fun z => by have := i2.mp z; omega), if_pos rfl, v1, bd_s, if_neg (fun z => by have := i3.mp z; omega), gi_zi (by omega) (by omega) (by omega), gi_zi (by omega) (by omega) (by omega), hq, bdT_s, ltf, mset_same, if_pos (show zi (bi false) = 0 from rfl)]
        exact g1
theorem fi_69 (hfu : 1000 ≤ fu) {s : Nat → Int} {u : Nat} {ps : Nat → Nat → Int} {p : Nat} (hp : p < np) {x : Nat} (hx : (x : Int) < s 0) {k2 : Int32 → Mem → Option (Int32 × Mem)} {k58 : Int32 → Int32 → Mem → Option (Int32 × Mem)} : ∀ (q n y : Nat) (mem : Mem), (y : Int) + q = s 1 → q < n → JQ np nb mem s u ps → ∃ mem2, KL_fields_69 L xs np nb fu k2 k58 n (zi (p : Int)) (zi (x : Int)) (zi (y : Int)) mem = k58 (zi (p : Int)) (zi ((x + 1 : Nat) : Int)) mem2 ∧ JQ np nb mem2 s u ps := by
  intro q
  induction q with
  | zero =>
    intro n y mem hy hn hJ
    obtain ⟨n, rfl⟩ : ∃ f, n = f + 1 := ⟨n - 1, by omega⟩
    obtain ⟨⟨r0, r1, _⟩, e2, h4⟩ := JQ_r0 hJ
    have hz := hJ.2.1.2.1.1
    obtain ⟨⟨w1, w2⟩, w3, w4⟩ := hz
    exact ⟨mem, by rw [KL_fields_69, r1, if_neg (by rw [zi_lt (by omega) (by omega) (by omega) (by omega)]; omega), zs], hJ⟩
  | succ q ih =>
    intro n y mem hy hn hJ
    obtain ⟨n, rfl⟩ : ∃ f, n = f + 1 := ⟨n - 1, by omega⟩
    obtain ⟨⟨r0, r1, _⟩, e2, h4⟩ := JQ_r0 hJ
    have hz := hJ.2.1.2.1.1
    obtain ⟨⟨w1, w2⟩, w3, w4⟩ := hz
    obtain ⟨m1, a1, a2⟩ := fi_81 (L := L) (xs := xs) hfu hp hx (y := y) (by omega) (k2 := k2) (k58 := k58) (k69 := KL_fields_69 L xs np nb fu k2 k58 n) 2 3 0 mem (by omega) (by omega) hJ
    obtain ⟨m2, b1, b2⟩ := ih n (y + 1) m1 (by omega) (by omega) a2
    refine ⟨m2, ?_, b2⟩
    rw [KL_fields_69, r1, if_pos (by rw [zi_lt (by omega) (by omega) (by omega) (by omega)]; omega)]
    exact a1.trans b1
theorem fi_58 (hfu : 1000 ≤ fu) {s : Nat → Int} {u : Nat} {ps : Nat → Nat → Int} {p : Nat} (hp : p < np) {k2 : Int32 → Mem → Option (Int32 × Mem)} : ∀ (q n x : Nat) (mem : Mem), (x : Int) + q = s 0 → q < n → JQ np nb mem s u ps → ∃ mem2, KL_fields_58 L xs np nb fu k2 n (zi (p : Int)) (zi (x : Int)) mem = k2 (zi ((p + 1 : Nat) : Int)) mem2 ∧ JQ np nb mem2 s u ps := by
  intro q
  induction q with
  | zero =>
    intro n x mem hx hn hJ
    obtain ⟨n, rfl⟩ : ∃ f, n = f + 1 := ⟨n - 1, by omega⟩
    obtain ⟨⟨r0, r1, _⟩, e2, h4⟩ := JQ_r0 hJ
    have hI := hJ.2.1.2.1
    have hz := hI.1
    obtain ⟨⟨w1, w2⟩, w3, w4⟩ := hz
    have hps : (p : Int) < s 2 := by omega
    have lw := lw_dst hI (p := (p : Int)) (by omega) hps
    have bd := dst_le hI.1 hI.2.2.1 (hI.2.2.2.1 p (by omega) hps)
    have bw := hI.2.2.2.2.2.2.2.2 p (by omega) hps
    obtain ⟨c1, a1, a2⟩ := q_least hfu hJ.1 (p := p) hps
    have J1 := JQ_ask hJ a2
    have i1 : (zi (lwS s p) < (0 : Int32)) = (lwS s p < 0) := zi_lt (b_ := 0) (by omega) (by omega) (by decide) (by decide)
    rw [KL_fields_58, r0, if_neg (by rw [zi_lt (by omega) (by omega) (by omega) (by omega)]; omega), a1, bdT_s, ltf, zs]
    by_cases c : lwS s p = -1
    · rw [if_pos (i1.mpr (by omega))]
      exact ⟨_, rfl, J1⟩
    · rw [if_neg (fun z => by have := i1.mp z; omega)]
      obtain ⟨c2, b1, b2⟩ := q_distance hfu J1.1 (p := p) hps
      have J2 := JQ_ask J1 b2
      obtain ⟨c3, d1, d2⟩ := q_detour hfu J2.1 (p := p) hps (fun z => c ((zi_inj (b_ := -1) (by omega) (by omega) (by decide) (by decide)).mp z))
      have J3 := JQ_ask J2 d2
      obtain ⟨c4, e1, e2'⟩ := q_distance hfu J3.1 (p := p) hps
      have J4 := JQ_ask J3 e2'
      rw [b1, bdT_s, ltf, if_neg (by rw [zi_lt (by omega) (by omega) (by omega) (by omega)]; omega), d1, bdT_s, ltf, e1, bdT_s, ltf, if_pos rfl]
      exact ⟨_, rfl, J4⟩
  | succ q ih =>
    intro n x mem hx hn hJ
    obtain ⟨n, rfl⟩ : ∃ f, n = f + 1 := ⟨n - 1, by omega⟩
    obtain ⟨⟨r0, r1, _⟩, e2, h4⟩ := JQ_r0 hJ
    have hz := hJ.2.1.2.1.1
    obtain ⟨⟨w1, w2⟩, w3, w4⟩ := hz
    obtain ⟨z1, z2⟩ := hJ.2.1.2.2.1
    obtain ⟨m1, a1, a2⟩ := fi_69 (L := L) (xs := xs) hfu hp (x := x) (by omega) (k2 := k2) (k58 := KL_fields_58 L xs np nb fu k2 n) (s 1).toNat 7 0 mem (by omega) (by omega) hJ
    obtain ⟨m2, b1, b2⟩ := ih n (x + 1) m1 (by omega) (by omega) a2
    refine ⟨m2, ?_, b2⟩
    rw [KL_fields_58, r0, if_pos (by rw [zi_lt (by omega) (by omega) (by omega) (by omega)]; omega)]
    exact a1.trans b1
theorem fi_2 (hfu : 1000 ≤ fu) {s : Nat → Int} {u : Nat} {ps : Nat → Nat → Int} : ∀ (q n p : Nat) (mem : Mem), p + q = np → q < n → JQ np nb mem s u ps → ∃ mem2, KL_fields_2 L xs np nb fu n (zi (p : Int)) mem = some (1, mem2) ∧ JQ np nb mem2 s u ps := by
  intro q
  induction q with
  | zero =>
    intro n p mem hp hn hJ
    obtain ⟨n, rfl⟩ : ∃ f, n = f + 1 := ⟨n - 1, by omega⟩
    obtain ⟨r, e2, h4⟩ := JQ_r0 hJ
    exact ⟨mem, by rw [KL_fields_2, ofNp, if_neg (by rw [zi_lt (by omega) (by omega) (by omega) (by omega)]; omega)], hJ⟩
  | succ q ih =>
    intro n p mem hp hn hJ
    obtain ⟨n, rfl⟩ : ∃ f, n = f + 1 := ⟨n - 1, by omega⟩
    obtain ⟨r, e2, h4⟩ := JQ_r0 hJ
    have hI := hJ.2.1.2.1
    have hz := hI.1
    obtain ⟨⟨w1, w2⟩, w3, w4⟩ := hz
    obtain ⟨z1, z2⟩ := hJ.2.1.2.2.1
    have hps : (p : Int) < s 2 := by omega
    have hpk := hI.2.2.2.1 p (by omega) hps
    have bd := dst_le hI.1 hI.2.2.1 hpk
    have bw := hI.2.2.2.2.2.2.2.2 p (by omega) hps
    have b6 := hpk.2.2.2.2.2.1
    have c4 := hI.2.1.2.2.2.1
    have c5 := hI.2.1.2.2.2.2.1
    have d0 : dst s p = 0 ↔ 0 < pg s p 6 := by
      constructor
      · intro hd
        by_cases c : 0 < pg s p 6
        · exact c
        · have e0 := hd
          rw [dst_dl hI.1 hpk] at e0
          rcases dlt_cases (op s) nbr (Sd s (pg s p 2)) (celN s p) with ⟨a1, a2⟩ | ⟨n, a1, a2⟩
          · have : dl s (pg s p 2) (celN s p) = -1 := a1
            omega
          · have : dl s (pg s p 2) (celN s p) = (n : Int) := a2
            obtain rfl : n = 0 := by omega
            have sd : Sd s (pg s p 2) (celN s p) := a1.1
            have hcl := cel_lt hI.1 hpk
            have h3 := sd.2.2
            rw [hcl.2.1, hcl.2.2, hJ.2.2.2.2 p (by omega) hps (by omega)] at h3
            cases h3
      · intro hd
        unfold dst
        rw [if_pos hd]
    obtain ⟨c1, a1, a2⟩ := q_distance hfu hJ.1 (p := p) hps
    have J1 := JQ_ask hJ a2
    obtain ⟨c2, b1, b2⟩ := q_distance hfu J1.1 (p := p) hps
    have J2 := JQ_ask J1 b2
    have hp6 := q_pawn6 hfu J2.1 (p := p) hps
    obtain ⟨m1, g1, g2⟩ := fi_58 (L := L) (xs := xs) hfu (p := p) (by omega) (k2 := KL_fields_2 L xs np nb fu n) (s 0).toNat 7 0 _ (by omega) (by omega) J2
    obtain ⟨m2, f1, f2⟩ := ih n (p + 1) m1 (by omega) (by omega) g2
    have z0 : zi ((0 : Nat) : Int) = (0 : Int32) := rfl
    rw [z0] at g1
    refine ⟨m2, ?_, f2⟩
    have i1 : (zi (dst s p) < (0 : Int32)) = (dst s p < 0) := zi_lt (b_ := 0) (by omega) (by omega) (by decide) (by decide)
    have i2 : (zi (dst s p) = (0 : Int32)) = (dst s p = 0) := zi_inj (b_ := 0) (by omega) (by omega) (by decide) (by decide)
    have i3 : ((0 : Int32) < zi (pg s p 6)) = (0 < pg s p 6) := zi_lt (a_ := 0) (by decide) (by decide) (by omega) (by omega)
    rw [KL_fields_2, ofNp, if_pos (by rw [zi_lt (by omega) (by omega) (by omega) (by omega)]; omega), a1, bdT_s, ltf, if_neg (fun z => by have := i1.mp z; omega), b1, bdT_s, ltf, hp6, bdT_s, ltf, bdT_s, ltf, mset_same]
    by_cases c : 0 < pg s p 6
    · rw [if_pos (i2.mpr (d0.mpr c)), if_pos (i3.mpr c), if_pos rfl]
      exact g1.trans f1
    · rw [if_neg (fun z => c (d0.mp (i2.mp z))), if_neg (fun z => c (i3.mp z)), if_pos rfl]
      exact g1.trans f1
theorem fi_all (hfu : 1000 ≤ fu) {s : Nat → Int} {u : Nat} {ps : Nat → Nat → Int} {mem : Mem} (h : JQ np nb mem s u ps) : ∃ mem2, KL_fields L xs np nb fu mem = some (1, mem2) ∧ JQ np nb mem2 s u ps := by
  obtain ⟨r, e2, h4⟩ := JQ_r0 h
  exact fi_2 hfu np 5 0 mem (by omega) (by omega) h
end PCC
