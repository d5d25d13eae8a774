section PDD
variable {np nb L fu : Nat} {xs : Nat → Int32}
noncomputable def gcol (s : Nat → Int) (p : Int) (x y : Nat) : Nat := sg (fun y => if gtB s p (9 * y + x) = true then 1 else 0) y
noncomputable def gtot (s : Nat → Int) (p : Int) (x : Nat) : Nat := sg (fun x => gcol s p x (s 1).toNat) x
theorem ga_32 (hfu : 1000 ≤ fu) {s : Nat → Int} {u : Nat} {ps : Nat → Nat → Int} {p : Nat} (hp : p < np) {x : Nat} (hx : (x : Int) < s 0) {k2 : Int32 → Mem → Option (Int32 × Mem)} {k20 : Int32 → Int32 → Int32 → Mem → Option (Int32 × Mem)} : ∀ (q n y : Nat) (mem : Mem), (y : Int) + q = s 1 → q < n → JQ np nb mem s u ps → ∃ mem2, KL_gates_32 L xs np nb fu k2 k20 n (zi (p : Int)) (zi ((gtot s p x + gcol s p x y : Nat) : Int)) (zi (x : Int)) (zi (y : Int)) mem = k20 (zi (p : Int)) (zi ((gtot s p (x + 1) : Nat) : Int)) (zi ((x + 1 : Nat) : Int)) mem2 ∧ JQ np nb mem2 s u ps := by
  intro q
  induction q with
  | zero =>
    intro n y mem hy hn hJ
    obtain ⟨n, rfl⟩ : ∃ f, n = f + 1 := ⟨n - 1, by omega⟩
    obtain ⟨⟨r0, r1, _⟩, e2, h4⟩ := JQ_r0 hJ
    have hz := hJ.2.1.2.1.1
    obtain ⟨⟨w1, w2⟩, w3, w4⟩ := hz
    refine ⟨mem, ?_, hJ⟩
    have et : gtot s p (x + 1) = gtot s p x + gcol s p x y := by
      unfold gtot
      rw [sg, show (s 1).toNat = y by omega]
    rw [KL_gates_32, r1, if_neg (by rw [zi_lt (by omega) (by omega) (by omega) (by omega)]; omega), zs, et]
  | succ q ih =>
    intro n y mem hy hn hJ
    obtain ⟨n, rfl⟩ : ∃ f, n = f + 1 := ⟨n - 1, by omega⟩
    obtain ⟨⟨r0, r1, _⟩, e2, h4⟩ := JQ_r0 hJ
    have hz := hJ.2.1.2.1.1
    obtain ⟨⟨w1, w2⟩, w3, w4⟩ := hz
    have hcl : isCl s (x : Int) (y : Int) = true := isCl_iff.mpr ⟨⟨by omega, by omega⟩, by omega, by omega⟩
    obtain ⟨c1, a1, a2⟩ := q_isGate hfu hJ.1 (p := p) (by omega) hcl
    rw [show (9 * (y : Int) + (x : Int)).toNat = 9 * y + x by omega] at a1
    have J1 := JQ_ask hJ a2
    obtain ⟨m2, b1, b2⟩ := ih n (y + 1) _ (by omega) (by omega) J1
    refine ⟨m2, ?_, b2⟩
    have ec : gcol s p x (y + 1) = gcol s p x y + if gtB s p (9 * y + x) = true then 1 else 0 := rfl
    rw [KL_gates_32, r1, if_pos (by rw [zi_lt (by omega) (by omega) (by omega) (by omega)]; omega), a1, bdT_s, ltf, zs, zs]
    cases hg : gtB s p (9 * y + x) with
    | true =>
      rw [if_neg (by decide)]
      rw [ec, hg, if_pos rfl] at b1
      exact b1
    | false =>
      rw [if_pos (show zi (bi false) = 0 from rfl), show (0 : Int32) = zi 0 from rfl, zi_add, Int.add_zero]
      rw [ec, hg, if_neg (by decide), Nat.add_zero] at b1
      exact b1
theorem ga_20 (hfu : 1000 ≤ fu) {s : Nat → Int} {u : Nat} {ps : Nat → Nat → Int} {p : Nat} (hp : p < np) {k2 : Int32 → Mem → Option (Int32 × Mem)} : ∀ (q n x : Nat) (mem : Mem), (x : Int) + q = s 0 → q < n → JQ np nb mem s u ps → ∃ mem2, KL_gates_20 L xs np nb fu k2 n (zi (p : Int)) (zi ((gtot s p x : Nat) : Int)) (zi (x : Int)) mem = k2 (zi ((p + 1 : Nat) : Int)) mem2 ∧ JQ np nb mem2 s u ps := by
  intro q
  induction q with
  | zero =>
    intro n x mem hx hn hJ
    obtain ⟨n, rfl⟩ : ∃ f, n = f + 1 := ⟨n - 1, by omega⟩
    obtain ⟨⟨r0, r1, _⟩, e2, h4⟩ := JQ_r0 hJ
    have hI := hJ.2.1.2.1
    have hz := hI.1
    have hz2 := hz
    obtain ⟨⟨w1, w2⟩, w3, w4⟩ := hz2
    have hps : (p : Int) < s 2 := by omega
    have hpk := hI.2.2.2.1 p (by omega) hps
    have hcel := cel_lt hz hpk
    have hcl : isCl s (xo (celN s p)) (yo (celN s p)) = true := by
      rw [hcel.2.1, hcel.2.2]
      exact hpk.1
    have et : gtot s p x = cnB (gtB s p) 81 := by
      rw [gt_cols hz]
      unfold gtot gcol
      rw [show (s 0).toNat = x by omega]
    have g1 := gt_dst hI (p := (p : Int)) (by omega) hps
    have bd := dst_le hz hI.2.2.1 hpk
    have bw := hI.2.2.2.2.2.2.2.2 p (by omega) hps
    obtain ⟨n0, hn0⟩ : ∃ n0 : Nat, dst s p = (n0 : Int) := ⟨(dst s p).toNat, by omega⟩
    have edl : dl s (pg s p 2) (celN s p) = (n0 : Int) := (dst_dl hz hpk).symm.trans hn0
    have on1 := on_ge hz hcel.1 edl
    have on2 := cnB_le (onB s (pg s p 2) (celN s p)) 81
    have on2' : onN s (pg s p 2) (celN s p) ≤ 81 := on2
    have sg1 := on_single hz hcel.1 edl
    have wy := wyC_tw hz hJ.2.1.2.2.1 hcel.1 hcl edl
    have tl := tw_lim hz hJ.2.1.2.2.1 hcel.1 hcl edl
    rw [hn0] at g1 bd
    obtain ⟨c1, a1, a2⟩ := q_gates hfu hJ.1 (p := p) hps
    have J1 := JQ_ask hJ a2
    obtain ⟨c2, b1, b2⟩ := q_distance hfu J1.1 (p := p) hps
    have J2 := JQ_ask J1 b2
    obtain ⟨c3, d1, d2⟩ := q_onWays hfu J2.1 (p := p) hps
    have J3 := JQ_ask J2 d2
    obtain ⟨c4, f1, f2⟩ := q_distance hfu J3.1 (p := p) hps
    have J4 := JQ_ask J3 f2
    obtain ⟨c5, h1, h2⟩ := q_onWays hfu J4.1 (p := p) hps
    have J5 := JQ_ask J4 h2
    obtain ⟨c6, i1, i2⟩ := q_distance hfu J5.1 (p := p) hps
    have J6 := JQ_ask J5 i2
    obtain ⟨c7, j1, j2⟩ := q_ways hfu J6.1 (p := p) hps
    have J7 := JQ_ask J6 j2
    rw [hn0] at b1 f1 i1
    rw [wy] at j1
    have e1 : (zi (n0 : Int) < zi ((cnB (gtB s p) 81 : Nat) : Int)) = ((n0 : Int) < (cnB (gtB s p) 81 : Nat)) := zi_lt (by omega) (by omega) (by omega) (by omega)
    have e3 : (zi (onN s (pg s p 2) (celN s p) : Int) < zi ((n0 + 1 : Nat) : Int)) = ((onN s (pg s p 2) (celN s p) : Int) < ((n0 + 1 : Nat) : Int)) := zi_lt (by omega) (by omega) (by omega) (by omega)
    have e4 : (zi (onN s (pg s p 2) (celN s p) : Int) = zi ((n0 + 1 : Nat) : Int)) = ((onN s (pg s p 2) (celN s p) : Int) = ((n0 + 1 : Nat) : Int)) := zi_inj (by omega) (by omega) (by omega) (by omega)
    have e5 : (zi ((twN s (pg s p 2) n0 (celN s p) : Nat) : Int) = (1 : Int32)) = (((twN s (pg s p 2) n0 (celN s p) : Nat) : Int) = 1) := zi_inj (b_ := 1) (by omega) (by omega) (by decide) (by decide)
    refine ⟨_, ?_, J7⟩
    rw [KL_gates_20, r0, if_neg (by rw [zi_lt (by omega) (by omega) (by omega) (by omega)]; omega), a1, bdT_s, ltf, et, if_pos rfl, b1, bdT_s, ltf, if_neg (fun z => by have := e1.mp z; omega), d1, bdT_s, ltf, f1, bdT_s, ltf, zs, if_neg (fun z => by have := e3.mp z; omega), h1, bdT_s, ltf, i1, bdT_s, ltf, zs, j1, bdT_s, ltf, bdT_s, ltf, zs]
    by_cases c : onN s (pg s p 2) (celN s p) = n0 + 1
    · rw [if_pos (e4.mpr (by omega)), if_pos (e5.mpr (by have := sg1.mp c; omega)), if_pos rfl]
    · rw [if_neg (fun z => c (by have := e4.mp z; omega)), if_neg (fun z => c (sg1.mpr (by have := e5.mp z; omega))), if_pos rfl]
  | succ q ih =>
    intro n x mem hx hn hJ
    obtain ⟨n, rfl⟩ : ∃ f, n = f + 1 := ⟨n - 1, by omega⟩
    obtain ⟨⟨r0, r1, _⟩, e2, h4⟩ := JQ_r0 hJ
    have hz := hJ.2.1.2.1.1
    obtain ⟨⟨w1, w2⟩, w3, w4⟩ := hz
    obtain ⟨z1, z2⟩ := hJ.2.1.2.2.1
    obtain ⟨m1, a1, a2⟩ := ga_32 (L := L) (xs := xs) hfu hp (x := x) (by omega) (k2 := k2) (k20 := KL_gates_20 L xs np nb fu k2 n) (s 1).toNat 7 0 mem (by omega) (by omega) hJ
    obtain ⟨m2, b1, b2⟩ := ih n (x + 1) m1 (by omega) (by omega) a2
    refine ⟨m2, ?_, b2⟩
    rw [KL_gates_20, r0, if_pos (by rw [zi_lt (by omega) (by omega) (by omega) (by omega)]; omega)]
    exact a1.trans b1
theorem ga_2 (hfu : 1000 ≤ fu) {s : Nat → Int} {u : Nat} {ps : Nat → Nat → Int} : ∀ (q n p : Nat) (mem : Mem), p + q = np → q < n → JQ np nb mem s u ps → ∃ mem2, KL_gates_2 L xs np nb fu n (zi (p : Int)) mem = some (1, mem2) ∧ JQ np nb mem2 s u ps := by
  intro q
  induction q with
  | zero =>
    intro n p mem hp hn hJ
    obtain ⟨n, rfl⟩ : ∃ f, n = f + 1 := ⟨n - 1, by omega⟩
    obtain ⟨r, e2, h4⟩ := JQ_r0 hJ
    exact ⟨mem, by rw [KL_gates_2, ofNp, if_neg (by rw [zi_lt (by omega) (by omega) (by omega) (by omega)]; omega)], hJ⟩
  | succ q ih =>
    intro n p mem hp hn hJ
    obtain ⟨n, rfl⟩ : ∃ f, n = f + 1 := ⟨n - 1, by omega⟩
    obtain ⟨r, e2, h4⟩ := JQ_r0 hJ
    have hz := hJ.2.1.2.1.1
    obtain ⟨⟨w1, w2⟩, w3, w4⟩ := hz
    obtain ⟨z1, z2⟩ := hJ.2.1.2.2.1
    obtain ⟨m1, g1, g2⟩ := ga_20 (L := L) (xs := xs) hfu (p := p) (by omega) (k2 := KL_gates_2 L xs np nb fu n) (s 0).toNat 7 0 mem (by omega) (by omega) hJ
    obtain ⟨m2, f1, f2⟩ := ih n (p + 1) m1 (by omega) (by omega) g2
    refine ⟨m2, ?_, f2⟩
    rw [KL_gates_2, ofNp, if_pos (by rw [zi_lt (by omega) (by omega) (by omega) (by omega)]; omega)]
    exact g1.trans f1
theorem ga_all (hfu : 1000 ≤ fu) {s : Nat → Int} {u : Nat} {ps : Nat → Nat → Int} {mem : Mem} (h : JQ np nb mem s u ps) : ∃ mem2, KL_gates L xs np nb fu mem = some (1, mem2) ∧ JQ np nb mem2 s u ps := by
  obtain ⟨r, e2, h4⟩ := JQ_r0 h
  exact ga_2 hfu np 5 0 mem (by omega) (by omega) h
end PDD
