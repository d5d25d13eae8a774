section PFF
variable {np nb L fu : Nat} {xs : Nat → Int32}
theorem bdc_0 {ρ : Type} (x : Int32) (m : Mem) (F : Int32 → Mem → Option ρ) (G : Nat → Mem → Option ρ) : bdc (some (0, x, m)) F G = F x m := rfl
theorem bdc_2 {ρ : Type} (x : Int32) (m : Mem) (F : Int32 → Mem → Option ρ) (G : Nat → Mem → Option ρ) : bdc (some (2, x, m)) F G = G 2 m := rfl
theorem wg_bd {s : Nat → Int} {x y v : Int} (hpl : isPl s x y = true) (h7 : 0 ≤ s 7 ∧ s 7 ≤ 3) : isPl (bdS s x y v) x y = true ∧ wg (bdS s x y v) x y = v := by
  obtain ⟨⟨x1, x2⟩, y1, y2⟩ := isPl_iff.mp hpl
  have e0 : bdS s x y v 0 = s 0 := (etS_ne (by decide) (by decide)).trans (bw_lt x1 y1 h7.1 h7.2 (Or.inl (by decide)) (by decide))
  have e1 : bdS s x y v 1 = s 1 := (etS_ne (by decide) (by decide)).trans (bw_lt x1 y1 h7.1 h7.2 (Or.inl (by decide)) (by decide))
  have hp : isPl (bdS s x y v) x y = true := by
    unfold isPl
    rw [e0, e1]
    exact hpl
  refine ⟨hp, ?_⟩
  unfold wg
  rw [if_pos hp]
  refine (etS_ne (by omega) (by omega)).trans ((bw_hi h7.1 h7.2 (by omega)).trans ?_)
  unfold sw
  rw [if_pos rfl]
theorem bu_222 (hfu : 1000 ≤ fu) {s t : Nat → Int} {u : Nat} {ps : Nat → Nat → Int} (hu : u ≤ 6) (h2 : t 2 = (np : Int)) (hX : XO s) : ∀ (q n p : Nat) (mem : Mem), p + q = np → q < n → CQ mem t (kpU u) (kpP u ps s) → WI np nb (lwM mem) s → ∃ mem2 ps2 u2, KL_builds_222 L xs np nb fu n (zi (p : Int)) mem = some (1, mem2) ∧ JQ np nb mem2 s u2 ps2 := by
  intro q
  induction q with
  | zero =>
    intro n p mem hp hn hQ hW
    obtain ⟨n, rfl⟩ : ∃ f, n = f + 1 := ⟨n - 1, by omega⟩
    have h4 := hW.2.2.2.2.1
    obtain ⟨m2, v, a1, a2, a3, a4⟩ := un_al (L := L) (xs := xs) hfu hu hQ hW hX
    refine ⟨_, _, _, ?_, a4⟩
    rw [KL_builds_222, ofNp, if_neg (by rw [zi_lt (by omega) (by omega) (by omega) (by omega)]; omega), a1, bd_s, ltf, if_neg a2, a3, bd_s, if_neg (show ¬ (1 : Int32) = 0 by decide)]
  | succ q ih =>
    intro n p mem hp hn hQ hW
    obtain ⟨n, rfl⟩ : ∃ f, n = f + 1 := ⟨n - 1, by omega⟩
    have h4 := hW.2.2.2.2.1
    have hI := hQ.2.2.1.1
    have bd := dst_le hI.1 hI.2.2.1 (hI.2.2.2.1 p (by omega) (by omega))
    have bw := hI.2.2.2.2.2.2.2.2 p (by omega) (by omega)
    obtain ⟨c1, a1, a2⟩ := q_distance hfu hQ (p := p) (by omega)
    obtain ⟨mem2, ps2, u2, b1, b2⟩ := ih n (p + 1) (mset 0 255 mem c1) (by omega) (by omega) (CQ_c a2) (by rw [lw_mc]; exact hW)
    refine ⟨mem2, ps2, u2, ?_, b2⟩
    have i1 : (zi (dst t p) < (0 : Int32)) = (dst t p < 0) := zi_lt (b_ := 0) (by omega) (by omega) (by decide) (by decide)
    rw [KL_builds_222, ofNp, if_pos (by rw [zi_lt (by omega) (by omega) (by omega) (by omega)]; omega), a1, bdT_s, ltf, if_neg (fun z => by have := i1.mp z; omega), zs]
    exact b1
theorem bu_70 (hfu : 1000 ≤ fu) {s : Nat → Int} {u : Nat} {ps : Nat → Nat → Int} {x y w : Int} (hpl : isPl s x y = true) (hw : w = 0 ∨ w = 1) : ∀ (q n p : Nat) (mem : Mem), p + q = np → q < n → JQ np nb mem s u ps → ∃ mem2 ps2 u2, KL_builds_70 L xs np nb fu n (zi x) (zi y) (zi w) (zi (bi (adB s x y (w + 1)))) (zi (p : Int)) mem = some (1, mem2) ∧ JQ np nb mem2 s u2 ps2 := by
  intro q
  induction q with
  | zero =>
    intro n p mem hp hn hJ
    obtain ⟨n, rfl⟩ : ∃ f, n = f + 1 := ⟨n - 1, by omega⟩
    obtain ⟨r, e2, h4⟩ := JQ_r0 hJ
    have hI := hJ.2.1.2.1
    have c7 := hI.2.1.2.2.2.2.2.1
    rw [KL_builds_70, ofNp, if_neg (by rw [zi_lt (by omega) (by omega) (by omega) (by omega)]; omega), q_turnOf hJ.1, bd_s]
    cases ho : ovB s with
    | true =>
      rw [if_pos rfl, if_pos (by decide)]
      exact ⟨mem, ps, u, rfl, hJ⟩
    | false =>
      have hov := ov_2 hI.2.1 ho
      obtain ⟨t, ht⟩ : ∃ t : Nat, s 7 = (t : Int) := ⟨(s 7).toNat, by omega⟩
      have hts : (t : Int) < s 2 := by omega
      have b3 := (hI.2.2.2.1 t (by omega) hts).2.2.1
      have i7 : (zi (s 7) < (0 : Int32)) = (s 7 < 0) := zi_lt (b_ := 0) (by omega) (by omega) (by decide) (by decide)
      have i3 : (zi (pg s t 3) = (0 : Int32)) = (pg s t 3 = 0) := zi_inj (b_ := 0) (by omega) (by omega) (by decide) (by decide)
      rw [if_neg (show ¬ false = true by decide), if_neg (fun z => by have := i7.mp z; omega), ht, q_pawn3 hfu hJ.1 hts, bdT_s, ltf, mset_same]
      by_cases c3 : pg s t 3 = 0
      · rw [if_pos (i3.mpr c3)]
        exact ⟨mem, ps, u, rfl, hJ⟩
      · rw [if_neg (fun z => c3 (i3.mp z))]
        cases had : adB s x y (w + 1) with
        | false =>
          obtain ⟨c2, a1, a2⟩ := q_buildNo hfu hJ.1 hpl hw had
          have J1 := JQ_ask hJ a2
          refine ⟨mset 0 255 mem c2, ps, u, ?_, J1⟩
          rw [a1, bdc_2, if_pos rfl, ltf, if_pos (show zi (bi false) = 0 from rfl), al_all hfu J1, bd_s, if_neg (show ¬ (1 : Int32) = 0 by decide)]
        | true =>
          obtain ⟨c2, a1, a2⟩ := q_build hfu hJ.1 hpl hw had ho (by rw [ht]; omega)
          have W1 : WI np nb (lwM (mset 0 255 mem c2)) s := by
            rw [lw_mc]
            exact hJ.2.1
          have Q1 := CQ_c (mem := mem) a2
          obtain ⟨p1, p2⟩ := wg_bd (v := w + 1) hpl c7
          have hwa := q_wallAt (fu := fu) Q1 p1
          rw [p2, show w + 1 - 1 = w by omega] at hwa
          have qp := isPl_iff.mp hpl
          have e2' : bdS s x y (w + 1) 2 = s 2 := (etS_ne (by decide) (by decide)).trans (bw_lt qp.1.1 qp.2.1 c7.1 c7.2 (Or.inl (by decide)) (by decide))
          have hp3 := q_pawn3 hfu Q1 (p := t) (by rw [e2']; exact hts)
          have b33 := bd_p3 (v := w + 1) qp.1.1 qp.2.1 c7
          rw [ht] at b33
          rw [b33] at hp3
          obtain ⟨mem2, ps2, u2, b1, b2⟩ := bu_222 (L := L) (xs := xs) hfu hJ.1.2.2.2.1 (t := bdS s x y (w + 1)) (by omega) hJ.2.2 np 5 0 _ (by omega) (by omega) Q1 W1
          refine ⟨mem2, ps2, u2, ?_, b2⟩
          rw [a1, bdc_0, ltf, if_neg (show ¬ zi (bi true) = 0 by decide), hwa, bdT_s, ltf, mset_same]
          rcases hw with rfl | rfl
          · rw [if_pos (show zi 0 = (0 : Int32) from rfl), if_pos (show zi 0 = (0 : Int32) from rfl), hp3, bdT_s, ltf, mset_same, ht, if_pos rfl]
            exact b1
          · rw [if_neg (show ¬ zi 1 = (0 : Int32) by decide), if_pos (show zi 1 = (1 : Int32) from rfl), hp3, bdT_s, ltf, mset_same, ht, if_pos rfl]
            exact b1
  | succ q ih =>
    intro n p mem hp hn hJ
    obtain ⟨n, rfl⟩ : ∃ f, n = f + 1 := ⟨n - 1, by omega⟩
    obtain ⟨r, e2, h4⟩ := JQ_r0 hJ
    have hI := hJ.2.1.2.1
    have hps : (p : Int) < s 2 := by omega
    have hpk := hI.2.2.2.1 p (by omega) hps
    rw [KL_builds_70, ofNp, if_pos (by rw [zi_lt (by omega) (by omega) (by omega) (by omega)]; omega), zs]
    cases had : adB s x y (w + 1) with
    | false =>
      rw [if_pos (show zi (bi false) = 0 from rfl)]
      have i := ih n (p + 1) mem (by omega) (by omega) hJ
      rw [had] at i
      exact i
    | true =>
      have i := fun m => ih n (p + 1) m (by omega) (by omega)
      rw [had] at i
      have qp := isPl_iff.mp hpl
      have dn := ad_dst qp.1.1 qp.2.1 had (p := (p : Int)) (by omega) hps
      have mo := dst_mono hI.1 hpl (by omega) (ad_wg had) (p := (p : Int)) (by omega) hpk dn
      have bd := dst_le hI.1 hI.2.2.1 hpk
      have z0 := hI.1
      have sb := dst_le (sw_sz (v := w + 1) qp.1.1 qp.2.1 hI.1) (sw_wl (by omega) hI.2.2.1) (sw_pn (v := w + 1) qp.1.1 qp.2.1 (p := (p : Int)) (by omega) hpk)
      have b6 := hpk.2.2.2.2.2.1
      have c5 := hI.2.1.2.2.2.2.1
      have c4 := hI.2.1.2.2.2.1
      obtain ⟨c1, a1, a2⟩ := q_harm hfu hJ.1 (p := p) hps hpl hw had
      have J1 := JQ_ask hJ a2
      have i1 : (zi (dst (sw s x y (w + 1)) p - dst s p) < (0 : Int32)) = (dst (sw s x y (w + 1)) p - dst s p < 0) := zi_lt (b_ := 0) (by omega) (by omega) (by decide) (by decide)
      have i6 : (zi (pg s p 6) = (0 : Int32)) = (pg s p 6 = 0) := zi_inj (b_ := 0) (by omega) (by omega) (by decide) (by decide)
      rw [if_neg (show ¬ zi (bi true) = 0 by decide), a1, bdT_s, ltf, if_neg (fun z => by have := i1.mp z; omega), q_pawn6 hfu J1.1 hps, bdT_s, ltf, mset_same]
      by_cases c6 : pg s p 6 = 0
      · rw [if_pos (i6.mpr c6)]
        obtain ⟨c2, d1, d2⟩ := q_harm hfu J1.1 (p := p) hps hpl hw had
        have J2 := JQ_ask J1 d2
        obtain ⟨c3, f1, f2⟩ := q_gain hfu J2.1 (p := p) hps
        have J3 := JQ_ask J2 f2
        have mx := bst_max hI.1 (p := (p : Int)) (by omega) hpl (by omega) had
        have bs := bst_sp hI (p := (p : Int)) (by omega) hps
        have up : (bstB s p).1 ≤ 100 := by
          by_cases q9 : (bstB s p).1 = -1
          · omega
          · obtain ⟨k1, k2, k3, k4, k5, k6, k7⟩ := bs.2 q9
            have qk := isPl_iff.mp k3
            have := dst_le (sw_sz (v := (bstB s p).2.2.2 + 1) qk.1.1 qk.2.1 hI.1) (sw_wl (by omega) hI.2.2.1) (sw_pn (v := (bstB s p).2.2.2 + 1) qk.1.1 qk.2.1 (p := (p : Int)) (by omega) hpk)
            omega
        have i2 : (zi (bstB s p).1 < zi (dst (sw s x y (w + 1)) p - dst s p)) = ((bstB s p).1 < dst (sw s x y (w + 1)) p - dst s p) := zi_lt (by omega) (by omega) (by omega) (by omega)
        rw [d1, bdT_s, ltf, f1, bdT_s, ltf, if_neg (fun z => by have := i2.mp z; omega)]
        exact i _ J3
      · rw [if_neg (fun z => c6 (i6.mp z))]
        exact i _ J1
theorem bu_all (hfu : 1000 ≤ fu) (hL : L ≤ 260) {i : Nat} (hi : i < 8) {s : Nat → Int} {u : Nat} {ps : Nat → Nat → Int} {mem : Mem} (h : JQ np nb mem s u ps) : ∃ mem2 ps2 u2, KL_builds L xs np nb fu (zi (i : Int)) mem = some (1, mem2) ∧ JQ np nb mem2 s u2 ps2 := by
  obtain ⟨⟨r0, r1, _⟩, e2, h4⟩ := JQ_r0 h
  have hz := h.2.1.2.1.1
  obtain ⟨⟨w1, w2⟩, w3, w4⟩ := hz
  obtain ⟨x, x1, x2⟩ := pick_some L xs fu (a := 500 + i) (k := (s 0 - 1).toNat) (by omega) hL (by omega) (by omega)
  obtain ⟨y, y1, y2⟩ := pick_some L xs fu (a := 520 + i) (k := (s 1 - 1).toNat) (by omega) hL (by omega) (by omega)
  obtain ⟨w, w5, w6⟩ := pick_some L xs fu (a := 540 + i) (k := 2) (by omega) hL (by omega) (by omega)
  rw [nI_zi, nI_zi, nI_zi] at x2 y2 w6
  have ad : ∀ k : Nat, zi ((k + i : Nat) : Int) = zi (k : Int) + zi (i : Int) := fun k => by
    rw [zi_add]
    rfl
  rw [ad] at x2 y2 w6
  rw [show (((s 0 - 1).toNat : Nat) : Int) = s 0 - 1 by omega] at x2
  rw [show (((s 1 - 1).toNat : Nat) : Int) = s 1 - 1 by omega] at y2
  have hpl : isPl s (x : Int) (y : Int) = true := isPl_iff.mpr ⟨⟨by omega, by omega⟩, by omega, by omega⟩
  have x2' : KL_pick L xs fu (500 + zi (i : Int)) (zi (s 0) - 1) = some (zi (x : Int)) := by
    rw [show (1 : Int32) = zi 1 from rfl, zi_sub]
    exact x2
  have y2' : KL_pick L xs fu (520 + zi (i : Int)) (zi (s 1) - 1) = some (zi (y : Int)) := by
    rw [show (1 : Int32) = zi 1 from rfl, zi_sub]
    exact y2
  have w6' : KL_pick L xs fu (540 + zi (i : Int)) 2 = some (zi (w : Int)) := w6
  have hw : (w : Int) = 0 ∨ (w : Int) = 1 := by omega
  obtain ⟨c1, a1, a2⟩ := q_adm hfu h.1 hpl hw
  have J1 := JQ_ask h a2
  obtain ⟨mem2, ps2, u2, b1, b2⟩ := bu_70 (L := L) (xs := xs) hfu hpl hw np 5 0 _ (by omega) (by omega) J1
  have z0 : zi ((0 : Nat) : Int) = (0 : Int32) := rfl
  rw [z0] at b1
  refine ⟨mem2, ps2, u2, ?_, b2⟩
  unfold KL_builds
  rw [r0, r1, x2', bd_s, y2', bd_s, w6', bd_s]
  rcases hw with hw | hw
  · rw [hw] at a1 b1 ⊢
    rw [if_neg (show ¬ zi 0 = (1 : Int32) by decide)]
    have a1' : K_X11_isAdmissible fu (zi (x : Int)) (zi (y : Int)) 0 mem = some (0, zi (bi (adB s x y (0 + 1))), c1) := a1
    rw [a1', bdT_s, ltf]
    exact b1
  · rw [hw] at a1 b1 ⊢
    rw [if_pos (show zi 1 = (1 : Int32) from rfl)]
    have a1' : K_X11_isAdmissible fu (zi (x : Int)) (zi (y : Int)) 1 mem = some (0, zi (bi (adB s x y (1 + 1))), c1) := a1
    rw [a1', bdT_s, ltf]
    exact b1
end PFF
