section PEE
variable {np nb L fu : Nat} {xs : Nat → Int32}
/-- undone: as before -/
theorem un_al (hfu : 1000 ≤ fu) {mem : Mem} {s s2 : Nat → Int} {u : Nat} {ps : Nat → Nat → Int} (hu : u ≤ 6) (hQ : CQ mem s2 (kpU u) (kpP u ps s)) (hW : WI np nb (lwM mem) s) (hX : XO s) : ∃ m2 v, K_X11_undo fu mem = some (v, m2) ∧ ¬ v < 0 ∧ KL_alike L xs np nb fu (mset 0 255 mem m2) = some (1, mset 0 255 mem m2) ∧ JQ np nb (mset 0 255 mem m2) s (kpU u - 1) (kpP u ps s) := by
  have hk : 0 < kpU u ∧ kpU u ≤ 6 := by
    unfold kpU
    split <;> omega
  obtain ⟨c2, a1, a2⟩ := q_undo hfu hQ hk.1
  have e : kpP u ps s (kpU u - 1) = s := by
    unfold kpP
    rw [if_pos (by omega)]
  rw [e] at a2
  have J : JQ np nb (mset 0 255 mem c2) s (kpU u - 1) (kpP u ps s) := ⟨CQ_c a2, by rw [lw_mc]; exact hW, hX⟩
  refine ⟨c2, _, a1, ?_, al_all hfu J, J⟩
  rw [show (0 : Int32) = zi 0 from rfl, zi_lt (by omega) (by omega) (by omega) (by omega)]
  omega
theorem rk_cases {s : Nat → Int} (hI : Inv s) (hX : XO s) {r : Int} (h1 : 1 ≤ r) (h4 : r ≤ 4) : (r ≤ s 5 ∧ ∃ p : Nat, (p : Int) < s 2 ∧ rkF s r (s 2).toNat = (p : Int) ∧ pg s p 6 = r) ∨ (s 5 < r ∧ rkF s r (s 2).toNat = -1) := by
  obtain ⟨iz, ic, iW, ip, ib, iwp, ids, irk, iwy⟩ := hI
  have c1 := ic.1
  by_cases q : r ≤ s 5
  · obtain ⟨p, p0, p1, p2⟩ := hX.2.1.2 r h1 q
    obtain ⟨k, hk⟩ : ∃ k : Nat, p = (k : Int) := ⟨p.toNat, by omega⟩
    rw [hk] at p1 p2
    refine Or.inl ⟨q, k, p1, rk_at (k := k) ⟨by omega, p2⟩ _ (by omega) (fun i hi hik w => ?_), p2⟩
    exact irk i k (by omega) (by omega) (by omega) p1 (by omega) (by omega) (w.2.trans p2.symm)
  · refine Or.inr ⟨by omega, rk_no _ (fun i hi w => ?_)⟩
    have := (ip i (by omega) (by omega)).2.2.2.2.2.1
    omega
theorem pl_113 (hfu : 1000 ≤ fu) {s t : Nat → Int} {u : Nat} {ps : Nat → Nat → Int} (hu : u ≤ 6) {mem : Mem} (hQ : CQ mem t (kpU u) (kpP u ps s)) (hW : WI np nb (lwM mem) s) (hX : XO s) (hXt : XO t) : ∀ (q n k : Nat), k + q = 4 → q < n → ∃ mem2 ps2 u2, KL_plays_113 L xs np nb fu n (zi (if (k : Int) ≤ t 5 then (k : Int) else t 5)) (zi ((k + 1 : Nat) : Int)) mem = some (1, mem2) ∧ JQ np nb mem2 s u2 ps2 := by
  have hI := hQ.2.2.1.1
  have c1 := hI.2.1.1
  have c5 := hI.2.1.2.2.2.2.1
  have h52 := hXt.2.1.1
  intro q
  induction q with
  | zero =>
    intro n k hk hn
    obtain ⟨n, rfl⟩ : ∃ f, n = f + 1 := ⟨n - 1, by omega⟩
    obtain rfl : k = 4 := by omega
    obtain ⟨m2, v, a1, a2, a3, a4⟩ := un_al (L := L) (xs := xs) hfu hu hQ hW hX
    have e : (if ((4 : Nat) : Int) ≤ t 5 then ((4 : Nat) : Int) else t 5) = t 5 := by
      split <;> omega
    refine ⟨_, _, _, ?_, a4⟩
    rw [KL_plays_113, if_pos (by decide), (q_setting hQ).2.2, bdT_s, ltf, mset_same, e, if_pos rfl, a1, bd_s, ltf, if_neg a2, a3, bd_s, if_neg (show ¬ (1 : Int32) = 0 by decide)]
  | succ q ih =>
    intro n k hk hn
    obtain ⟨n, rfl⟩ : ∃ f, n = f + 1 := ⟨n - 1, by omega⟩
    obtain ⟨mem2, ps2, u2, b1, b2⟩ := ih n (k + 1) (by omega) (by omega)
    refine ⟨mem2, ps2, u2, ?_, b2⟩
    have k1 : ((4 : Int32) < zi ((k + 1 : Nat) : Int)) = (4 < ((k + 1 : Nat) : Int)) := zi_lt (a_ := 4) (by decide) (by decide) (by omega) (by omega)
    rw [KL_plays_113, if_neg (fun z => by have := k1.mp z; omega), q_ranked hfu hQ (x := ((k + 1 : Nat) : Int)) (by omega) (by omega), bd_s]
    rcases rk_cases hI hXt (r := ((k + 1 : Nat) : Int)) (by omega) (by omega) with ⟨h1, p, h2, h3, h4⟩ | ⟨h1, h2⟩
    · have e1 : (if (k : Int) ≤ t 5 then (k : Int) else t 5) = k := if_pos (by omega)
      have e2 : (if ((k + 1 : Nat) : Int) ≤ t 5 then ((k + 1 : Nat) : Int) else t 5) = ((k + 1 : Nat) : Int) := if_pos (by omega)
      rw [e2] at b1
      have i0 : (zi (p : Int) < (0 : Int32)) = ((p : Int) < 0) := zi_lt (b_ := 0) (by omega) (by omega) (by decide) (by decide)
      rw [h3, if_neg (fun z => by have := i0.mp z; omega), q_pawn6 hfu hQ h2, bdT_s, ltf, mset_same, h4, if_pos rfl, e1]
      unfold KL_plays_147
      rw [if_neg (fun z => by have := i0.mp z; omega), zs, zs]
      exact b1
    · have e1 : (if (k : Int) ≤ t 5 then (k : Int) else t 5) = t 5 := by split <;> omega
      have e2 : (if ((k + 1 : Nat) : Int) ≤ t 5 then ((k + 1 : Nat) : Int) else t 5) = t 5 := if_neg (by omega)
      rw [e2] at b1
      rw [h2, if_pos (by decide), e1]
      unfold KL_plays_147
      rw [if_pos (by decide), show (0 : Int32) = zi 0 from rfl, zi_add, Int.add_zero, zs]
      exact b1
theorem pl_48 (hfu : 1000 ≤ fu) {s t : Nat → Int} {u : Nat} {ps : Nat → Nat → Int} (hu : u ≤ 6) {mem : Mem} (hQ : CQ mem t (kpU u) (kpP u ps s)) (hW : WI np nb (lwM mem) s) (hX : XO s) (hXt : XO t) {v : Nat} (hv : v ≤ 99) (h4 : t 4 = s 4 + (v : Int)) (ho : v < 99 → ovB t = true) (h2 : t 2 = (np : Int)) {fo : Nat → Int32} (hfo : ∀ i, i < np → fo i = zi (pg t i 6)) : ∀ (q n p : Nat), p + q = np → q < n → ∃ mem2 ps2 u2, KL_plays_48 L xs np nb fu n fo (zi (v : Int)) (zi (p : Int)) mem = some (1, mem2) ∧ JQ np nb mem2 s u2 ps2 := by
  have c1 := hQ.2.2.1.1.2.1.1
  intro q
  induction q with
  | zero =>
    intro n p hp hn
    obtain ⟨n, rfl⟩ : ∃ f, n = f + 1 := ⟨n - 1, by omega⟩
    have r2 : rd mem (255 + 0) 2 = zi (s 4) := hW.1.2.2.1.1
    obtain ⟨mem2, ps2, u2, b1, b2⟩ := pl_113 (L := L) (xs := xs) hfu hu hQ hW hX hXt 4 5 0 (by omega) (by omega)
    have c5 := hQ.2.2.1.1.2.1.2.2.2.2.1
    rw [if_pos (by omega)] at b1
    have e91 : KL_plays_91 L xs np nb fu (zi (v : Int)) mem = some (1, mem2) := by
      unfold KL_plays_91
      rw [(q_setting hQ).2.1, bdT_s, ltf, mset_same, r2, zi_add, h4, if_pos rfl]
      exact b1
    refine ⟨mem2, ps2, u2, ?_, b2⟩
    have k1 : (zi (v : Int) < (99 : Int32)) = ((v : Int) < 99) := zi_lt (b_ := 99) (by omega) (by omega) (by decide) (by decide)
    rw [KL_plays_48, ofNp, if_neg (by rw [zi_lt (by omega) (by omega) (by omega) (by omega)]; omega)]
    by_cases c : v < 99
    · rw [if_pos (k1.mpr (by omega)), q_isOver hQ, bd_s, ho c, if_neg (by decide), e91]
    · rw [if_neg (fun z => c (by have := k1.mp z; omega)), e91]
  | succ q ih =>
    intro n p hp hn
    obtain ⟨n, rfl⟩ : ∃ f, n = f + 1 := ⟨n - 1, by omega⟩
    obtain ⟨mem2, ps2, u2, b1, b2⟩ := ih n (p + 1) (by omega) (by omega)
    refine ⟨mem2, ps2, u2, ?_, b2⟩
    rw [KL_plays_48, ofNp, if_pos (by rw [zi_lt (by omega) (by omega) (by omega) (by omega)]; omega), q_pawn6 hfu hQ (p := p) (by omega), bdT_s, ltf, mset_same, gi_zi (by omega) (by omega) (by omega), zi_clamp (by omega) (by omega), Int.toNat_natCast, hfo p (by omega), if_pos rfl, zs]
    exact b1
theorem pl_14 (hfu : 1000 ≤ fu) {s : Nat → Int} {u : Nat} {ps : Nat → Nat → Int} : ∀ (q n p : Nat) (fo : Nat → Int32) (mem : Mem), p + q = np → q < n → JQ np nb mem s u ps → (∀ i, i < p → fo i = zi (pg (plS 0 99 s 0).1 i 6)) → ∃ mem2 ps2 u2, KL_plays_14 L xs np nb fu n fo (zi (p : Int)) mem = some (1, mem2) ∧ JQ np nb mem2 s u2 ps2 := by
  intro q
  induction q with
  | zero =>
    intro n p fo mem hp hn hJ hfo
    obtain ⟨n, rfl⟩ : ∃ f, n = f + 1 := ⟨n - 1, by omega⟩
    obtain ⟨r, e2, h4⟩ := JQ_r0 hJ
    have hI := hJ.2.1.2.1
    obtain ⟨c1, a1, a2⟩ := q_play hfu hJ.1 (mo := 0) (by omega) (n := 99) (by omega)
    obtain ⟨g1, g2⟩ := pl_4 0 99 s 0 hI
    have gl := (pl_le 0 99 s 0).2
    have g3 := pl_2 0 99 s 0 hI
    obtain ⟨mem2, ps2, u2, b1, b2⟩ := pl_48 (L := L) (xs := xs) hfu hJ.1.2.2.2.1 (CQ_c (mem := mem) a2) (np := np) (nb := nb) (by rw [lw_mc]; exact hJ.2.1) hJ.2.2 (XO_pl 0 99 s 0 hI hJ.2.2) (v := (plS 0 99 s 0).2) (by omega) (by omega) (fun h => g2 (by omega)) (by omega) (fo := fo) (fun i hi => hfo i (by omega)) np 5 0 (by omega) (by omega)
    refine ⟨mem2, ps2, u2, ?_, b2⟩
    have z99 : zi ((99 : Nat) : Int) = (99 : Int32) := rfl
    have z0 : zi 0 = (0 : Int32) := rfl
    have z00 : zi ((0 : Nat) : Int) = (0 : Int32) := rfl
    rw [z99, z0] at a1
    rw [z00] at b1
    rw [KL_plays_14, ofNp, if_neg (by rw [zi_lt (by omega) (by omega) (by omega) (by omega)]; omega), a1, bdT_s, ltf]
    exact b1
  | succ q ih =>
    intro n p fo mem hp hn hJ hfo
    obtain ⟨n, rfl⟩ : ∃ f, n = f + 1 := ⟨n - 1, by omega⟩
    obtain ⟨r, e2, h4⟩ := JQ_r0 hJ
    obtain ⟨c1, a1, a2⟩ := q_foreseen hfu hJ.1 (p := p) (by omega) (mo := 0) (by omega) (n := 99) (by omega)
    have J1 := JQ_ask hJ a2
    obtain ⟨mem2, ps2, u2, b1, b2⟩ := ih n (p + 1) (upd fo p (zi (pg (plS 0 99 s 0).1 p 6))) _ (by omega) (by omega) J1 (fun i hi => by
      unfold upd
      by_cases c : i = p
      · rw [if_pos c, c]
      · rw [if_neg c]
        exact hfo i (by omega))
    refine ⟨mem2, ps2, u2, ?_, b2⟩
    have z99 : zi ((99 : Nat) : Int) = (99 : Int32) := rfl
    have z0 : zi 0 = (0 : Int32) := rfl
    rw [z99, z0] at a1
    rw [KL_plays_14, ofNp, if_pos (by rw [zi_lt (by omega) (by omega) (by omega) (by omega)]; omega), a1, bdT_s, ltf, gi_zi (by omega) (by omega) (by omega), ltf, zi_clamp (by omega) (by omega), Int.toNat_natCast, zs]
    exact b1
theorem pl_all (hfu : 1000 ≤ fu) {s : Nat → Int} {u : Nat} {ps : Nat → Nat → Int} {mem : Mem} (h : JQ np nb mem s u ps) : ∃ mem2, KL_plays L xs np nb fu mem = some (1, mem2) := by
  obtain ⟨r, e2, h4⟩ := JQ_r0 h
  obtain ⟨mem2, ps2, u2, b1, b2⟩ := pl_14 (L := L) (xs := xs) hfu np 5 0 (fun _ => 0) mem (by omega) (by omega) h (fun i hi => by omega)
  exact ⟨mem2, b1⟩
end PEE
