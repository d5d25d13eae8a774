section CADM
theorem Pth_m4 {g g2 : Nat → Nat → Bool} {nb : Nat → Nat → Nat} {S S2 : Nat → Prop} (hg : ∀ u d, d < 4 → g u d = true → g2 u d = true) (hS : ∀ c, S c → S2 c) : ∀ {n c : Nat}, Pth g nb S n c → Pth g2 nb S2 n c := by
  intro n
  induction n with
  | zero => exact fun {c} h => hS c h
  | succ n ih =>
    rintro c ⟨u, d, hd, hp, hgd, hc⟩
    exact ⟨u, d, hd, ih hp, hg u d hd hgd, hc⟩
theorem dlt_p4 {g g2 : Nat → Nat → Bool} {nb : Nat → Nat → Nat} {S : Nat → Prop} (hg : ∀ u d, d < 4 → g2 u d = true → g u d = true) {n c : Nat} (h : IsD g nb S n c) (h2 : Pth g2 nb S n c) : dlt g2 nb S c = dlt g nb S c := by
  rw [dlt_is h]
  exact dlt_is ⟨h2, fun m hm => h.2 m (Pth_m4 hg (fun _ q => q) hm)⟩
theorem Sd_cg {s1 s2 : Nat → Int} (h0 : s1 0 = s2 0) (h1 : s1 1 = s2 1) (side : Int) : Sd s1 side = Sd s2 side := by
  funext c9
  unfold Sd isCl atS
  rw [h0, h1]
theorem dl_cg {s1 s2 : Nat → Int} (h0 : s1 0 = s2 0) (h1 : s1 1 = s2 1) (hw : ∀ j, 120 ≤ j → s1 j = s2 j) (side : Int) (c : Nat) : dl s1 side c = dl s2 side c := by
  have e1 : op s1 = op s2 := by
    funext u9 d9
    exact op_cg h0 h1 hw u9 d9
  unfold dl
  rw [e1, Sd_cg h0 h1]
theorem dl_side {s : Nat → Int} {side : Int} {c : Nat} (h : Sd s side c) : dl s side c = 0 := dlt_is (n := 0) ⟨h, fun _ _ => Nat.zero_le _⟩
theorem dst_dl {s : Nat → Int} (hz : szO s) {p : Int} (hp : pnO s p) : dst s p = dl s (pg s p 2) (celN s p) := by
  have h := cel_lt hz hp
  obtain ⟨p1, p2, p3, p4, p5, p6, p7⟩ := hp
  unfold dst
  by_cases q : 0 < pg s p 6
  · rw [if_pos q, dl_side]
    exact ⟨h.1, by rw [h.2.1, h.2.2]; exact p1, by rw [h.2.1, h.2.2]; exact p7 q⟩
  · rw [if_neg q]
theorem c_spread0 (fu w r : Nat) (hfu : 1000 ≤ fu) (hw : w ≤ 1) {mem : Mem} {s : Nat → Int} (hR : RB mem r s) (hz : szO s) {side tgt : Int} (h1 : 0 ≤ side) (h2 : side ≤ 3) (ht1 : 0 ≤ tgt) (ht2 : tgt < 81) : ∃ mem2 t2 i2, K_X10_spread fu w r (zi side) (zi (-1)) (zi tgt) mem = some (zi (dl s side tgt.toNat), mem2) ∧ CM w mem2 t2 ∧ BI (op s) nbr (Sd s side) t2 i2 ∧ (i2 = t2.2.2 ∨ (i2 < t2.2.2 ∧ (t2.2.1 i2 : Int) = tgt)) ∧ t2.1 tgt.toNat = dl s side tgt.toNat ∧ Fr (PC w) mem mem2 := by
  obtain ⟨mem2, t2, i2, a1, a2, a3, a4, a5⟩ := c_spread fu w r hfu hw hR hz h1 h2 (a := -1) (tgt := tgt) (by omega) (by omega) (by omega) ht2
  rw [if_pos ht1] at a1
  rw [opa_no, Sda_no] at a1 a3
  refine ⟨mem2, t2, i2, a1, a2, a3, a4, ?_, a5⟩
  rcases a4 with b4 | ⟨b4, b6⟩
  · rw [b4] at a3
    exact BI_all Sd_lt (op_hg hz) a3 (by omega)
  · refine BI_ex Sd_lt (op_hg hz) a3 (by omega) ?_
    rw [show tgt.toNat = t2.2.1 i2 by omega]
    exact (a3.1 i2 b4).2
/-- the pawns of a race as the row has them -/
def CPn (mem : Mem) (r : Nat) (s : Nat → Int) : Prop := rd mem (pRace r) 2 = zi (s 2) ∧ ∀ i : Nat, i < 4 → (i : Int) < s 2 → RP mem r s i
theorem RP_fr2 {P : Nat → Nat → Bool} {m1 m2 : Mem} {r i : Nat} {s : Nat → Int} (h : Fr P m1 m2) (hP : ∀ j, P (pPawn r i) j = false) (hR : RP m1 r s i) : RP m2 r s i := by
  unfold RP at hR ⊢
  rw [h.1 _ _ (hP 0), h.1 _ _ (hP 1), h.1 _ _ (hP 2), h.1 _ _ (hP 3), h.1 _ _ (hP 4), h.1 _ _ (hP 5)]
  exact hR
theorem CPn_fr {P : Nat → Nat → Bool} {m1 m2 : Mem} {r : Nat} {s : Nat → Int} (h : Fr P m1 m2) (hP : P (pRace r) 2 = false) (hP2 : ∀ i j, i < 4 → P (pPawn r i) j = false) (hR : CPn m1 r s) : CPn m2 r s := ⟨(h.1 _ _ hP).trans hR.1, fun i hi hi2 => RP_fr2 h (fun j => hP2 i j hi) (hR.2 i hi hi2)⟩
/-- the trail of a pawn is marked -/
def TRi (mem : Mem) (s : Nat → Int) (i : Nat) : Prop := rd mem 19 i = zi (dst s i) ∧ ∃ T, TM mem i T ∧ TOK s T ∧ Pth (opT s T) nbr (Sd s (pg s i 2)) (dst s i).toNat (celN s i)
theorem TRi_fr {P : Nat → Nat → Bool} {m1 m2 : Mem} {s : Nat → Int} {i : Nat} (h : Fr P m1 m2) (hP : P 19 i = false) (hP2 : ∀ c, c < 81 → P 18 (81 * i + c) = false) (hT : TRi m1 s i) : TRi m2 s i := by
  obtain ⟨h1, T, h2, h3, h4⟩ := hT
  exact ⟨(h.1 _ _ hP).trans h1, T, fun c hc => (h.1 _ _ (hP2 c hc)).trans (h2 c hc), h3, h4⟩
def FT (k j : Nat) : Bool := k == 18 || (k == 19 || PC 0 k j)
def FT1 (i k j : Nat) : Bool := PT i k j || ((k == 19 && j == i) || PC 0 k j)
theorem FT_lo : ∀ k j, 35 ≤ k → FT k j = false := fun k j hk => by
  unfold FT
  rw [PC_35 (by omega) k j hk]
  simp
  omega
theorem FT1_lo (i : Nat) : ∀ k j, 35 ≤ k → FT1 i k j = false := fun k j hk => by
  unfold FT1 PT
  rw [PC_35 (by omega) k j hk]
  simp
  omega
theorem FT1_FT {i k j : Nat} (h : FT k j = false) : FT1 i k j = false := by
  unfold FT at h
  unfold FT1 PT
  rw [Bool.or_eq_false_iff, Bool.or_eq_false_iff] at h
  rw [h.1, h.2.1, h.2.2]
  rfl
theorem FT_FT1 {i j c : Nat} (hij : j ≠ i) (hc : c < 81) : FT1 i 18 (81 * j + c) = false := by
  unfold FT1 PT
  rw [show PC 0 18 (81 * j + c) = false from rfl]
  simp
  omega
theorem c_markOne (fu r : Nat) (hfu : 1000 ≤ fu) {s : Nat → Int} (hz : szO s) {i : Nat} (hi : i < 4) {mem : Mem} (hR : RB mem r s) (hP : RP mem r s i) (hp : pnO s i) (hw : dst s i ≠ -1) (hW : wlO s) (h0 : TM mem i (fun _ _ => false)) : ∃ m1 m3, K_X10_spread fu 0 r (rd mem (pPawn r i) 1) (zi (-1)) (rd mem (pPawn r i) 0) mem = some (zi (dst s i), m1) ∧ K_X5_markTrail fu r (zi (i : Int)) (mw m1 19 i (zi (dst s i))) = some m3 ∧ TRi m3 s i ∧ Fr (FT1 i) mem m3 := by
  have hcl := cel_lt hz hp
  have hdd := dst_dl hz hp
  have hle := dst_le hz hW hp
  have hxy := cl_nat hz hp.1
  have hsd := hp.2.1
  obtain ⟨q1, q2, -⟩ := hP
  have hP2 := q1
  obtain ⟨m1, t, ix, a1, a2, a3, a4, a5, a6⟩ := c_spread0 fu 0 r hfu (by omega) hR hz (side := pg s i 2) (tgt := 9 * pg s i 1 + pg s i 0) hsd.1 hsd.2 (by omega) (by omega)
  have hcn : (9 * pg s i 1 + pg s i 0).toNat = celN s i := rfl
  rw [hcn, ← hdd] at a1 a5
  rw [q1, q2]
  refine ⟨m1, ?_⟩
  have fA : Fr (FT1 i) mem (mw m1 19 i (zi (dst s i))) := Fr_tr (Fr_mono a6 (fun k j h => by
    unfold FT1 at h
    rw [Bool.or_eq_false_iff, Bool.or_eq_false_iff] at h
    exact h.2.2)) (Fr_mw _ _ (by unfold FT1; simp))
  have n1 : pPawn r i ≠ 19 := by unfold pPawn; omega
  have e1 : rd (mw m1 19 i (zi (dst s i))) (pPawn r i) 0 = zi (9 * pg s i 1 + pg s i 0) := by
    rw [fA.1 _ _ (FT1_lo i _ _ (by unfold pPawn; omega))]
    exact hP2
  have e2 : rd (mw m1 19 i (zi (dst s i))) 19 i = zi (dst s i) := by
    rw [rd_mw, if_pos ⟨rfl, rfl⟩]
  have e3 : 9 * pg s i 1 + pg s i 0 = (celN s i : Int) := by
    unfold celN
    omega
  have e4 : dst s i = ((dst s i).toNat : Int) := by omega
  have hT0 : TM (mw m1 19 i (zi (dst s i))) i (fun _ _ => false) := fun c hc => by
    rw [rd_mw, if_neg (fun x => absurd x.1 (by decide)), a6.1 _ _ rfl]
    exact h0 c hc
  have hC2 : CM 0 (mw m1 19 i (zi (dst s i))) t := by
    obtain ⟨k1, k2, k3, k4⟩ := a2
    refine ⟨fun c hc => ?_, fun k hk => ?_, ?_, k4⟩
    · rw [rd_mw, if_neg (fun x => absurd x.1 (by decide))]; exact k1 c hc
    · rw [rd_mw, if_neg (fun x => absurd x.1 (by decide))]; exact k2 k hk
    · rw [rd_mw, if_neg (fun x => absurd x.1 (by decide))]; exact k3
  obtain ⟨m3, T, b1, b2, b3, b4, b5⟩ := c_mt18 fu r hfu hz a3 hi (dst s i).toNat fu (celN s i) 0 _ (fun _ _ => false) hcl.1 (by rw [a5]; exact e4) (by omega) (by omega) (RB_fr fA (FT1_lo i) hR) hC2 hT0 (fun c e _ h => Bool.noConfusion h) rfl
  refine ⟨m3, a1, ?_, ⟨?_, T, b2, b3, by rw [Nat.zero_add] at b4; exact b4⟩, Fr_tr fA (Fr_mono b5 (fun k j h => by
    unfold FT1 at h
    rw [Bool.or_eq_false_iff] at h
    exact h.1))⟩
  · unfold K_X5_markTrail
    simp (disch := omega) only [zi_lit, zl_lit, zi_add, zi_sub, zi_mul, zi_neg, zi_lt, zi_inj, zi_clamp, zl_of, gi_zi, bd_s, ltf, bi_0, bi_1, gb_bi, Int.reduceToNat, Int.reduceNeg, Int.toNat_natCast, e1, e2]
    rw [e3]
    rw [← e4] at b1
    exact b1
  · rw [b5.1 _ _ rfl]
    exact e2
theorem c_mts10 (fu r : Nat) (hfu : 1000 ≤ fu) {s : Nat → Int} (hz : szO s) (hc : cnO s) (hW : wlO s) (hp : pasO s) (hwy : wyO s) : ∀ (q n k : Nat) (mem : Mem), (k : Int) + q = s 2 → q < n → RB mem r s → CPn mem r s → (∀ i : Nat, i < k → TRi mem s i) → (∀ i, k ≤ i → i < 4 → TM mem i (fun _ _ => false)) → ∃ mem2, K_X5_markTrails_10 fu r n (zi (k : Int)) mem = some mem2 ∧ (∀ i : Nat, (i : Int) < s 2 → TRi mem2 s i) ∧ Fr FT mem mem2 := by
  have c2 := hc.1
  intro q
  induction q with
  | zero =>
    intro n k mem hk hn hR hP hd h0
    obtain ⟨n, rfl⟩ : ∃ f, n = f + 1 := ⟨n - 1, by omega⟩
    rw [K_X5_markTrails_10]
    simp (disch := omega) only [zi_lit, zl_lit, zi_add, zi_sub, zi_mul, zi_neg, zi_lt, zi_inj, zi_clamp, zl_of, gi_zi, bd_s, ltf, bi_0, bi_1, gb_bi, Int.reduceToNat, Int.reduceNeg, Int.toNat_natCast, hP.1]
    rw [if_neg (by omega)]
    exact ⟨mem, rfl, fun i hi => hd i (by omega), Fr_rf _ mem⟩
  | succ q ih =>
    intro n k mem hk hn hR hP hd h0
    obtain ⟨n, rfl⟩ : ∃ f, n = f + 1 := ⟨n - 1, by omega⟩
    have hk4 : k < 4 := by omega
    obtain ⟨m1, m3, a1, a2, a3, a4⟩ := c_markOne fu r hfu hz hk4 hR (hP.2 k hk4 (by omega)) (hp k (by omega) (by omega)) (hwy k (by omega) (by omega)) hW (h0 k (Nat.le_refl _) hk4)
    rw [K_X5_markTrails_10]
    simp (disch := omega) only [zi_lit, zl_lit, zi_add, zi_sub, zi_mul, zi_neg, zi_lt, zi_inj, zi_clamp, zl_of, gi_zi, bd_s, ltf, bi_0, bi_1, gb_bi, Int.reduceToNat, Int.reduceNeg, Int.toNat_natCast, hP.1, a1, a2]
    rw [if_pos (by omega)]
    obtain ⟨mem2, b1, b2, b3⟩ := ih n (k + 1) m3 (by omega) (by omega) (RB_fr a4 (FT1_lo k) hR) (CPn_fr a4 (FT1_lo k _ _ (by unfold pRace; omega)) (fun i j _ => FT1_lo k _ _ (by unfold pPawn; omega)) hP) (fun i hi => by
      by_cases e : i = k
      · rw [e]
        exact a3
      · refine TRi_fr a4 ?_ (fun c hc => FT_FT1 e hc) (hd i (by omega))
        unfold FT1 PT
        rw [show PC 0 19 i = false from rfl]
        simp [e]) (fun i hi1 hi2 c hc => by
      rw [a4.1 _ _ (FT_FT1 (by omega) hc)]
      exact h0 i (by omega) hi2 c hc)
    exact ⟨mem2, b1, b2, Fr_tr (Fr_mono a4 (fun _ _ h => FT1_FT h)) b3⟩
theorem c_markTrails (fu r : Nat) (hfu : 1000 ≤ fu) {s : Nat → Int} (hz : szO s) (hc : cnO s) (hW : wlO s) (hp : pasO s) (hwy : wyO s) {mem : Mem} (hR : RB mem r s) (hP : CPn mem r s) : ∃ mem2, K_X5_markTrails fu r mem = some mem2 ∧ (∀ i : Nat, (i : Int) < s 2 → TRi mem2 s i) ∧ Fr FT mem mem2 := by
  obtain ⟨m1, a1, a2, a3⟩ := c_fill fu 18 324 (zi 0) (by omega) (by omega) mem
  have f1 : Fr FT mem m1 := Fr_mono a3 (fun k j h => by
    unfold FT at h
    rw [Bool.or_eq_false_iff] at h
    exact h.1)
  have c2 := hc.1
  unfold K_X5_markTrails
  simp only [zi_lit, zl_lit, zi_add, zi_sub, zi_mul, zi_neg, zi_lt, zi_inj, zi_clamp, zl_of, gi_zi, bd_s, ltf, bi_0, bi_1, gb_bi, Int.reduceToNat, Int.reduceNeg, Int.toNat_natCast]
  rw [a1]
  obtain ⟨mem2, b1, b2, b3⟩ := c_mts10 fu r hfu hz hc hW hp hwy (s 2).toNat fu 0 m1 (by omega) (by omega) (RB_fr f1 FT_lo hR) (CPn_fr f1 (FT_lo _ _ (by unfold pRace; omega)) (fun i j _ => FT_lo _ _ (by unfold pPawn; omega)) hP) (fun i hi => absurd hi (Nat.not_lt_zero i)) (fun i _ hi c hc => by
    rw [a2, if_pos (by omega)]
    rfl)
  exact ⟨mem2, b1, b2, Fr_tr f1 b3⟩
/-- is the trail cut -/
theorem msk_b0 (f : Nat → Bool) : (msk f >>> (zi 0 &&& zi 31)) &&& zi 1 = zi (bi (f 0)) := msk_bit f (d := 0) (by decide)
theorem msk_b1 (f : Nat → Bool) : (msk f >>> (zi 1 &&& zi 31)) &&& zi 1 = zi (bi (f 1)) := msk_bit f (d := 1) (by decide)
theorem c_cuts (fu : Nat) {mem : Mem} {i : Nat} {T : Nat → Nat → Bool} (hi : i < 4) (hT : TM mem i T) {x y w : Int} (hx : 0 ≤ x ∧ x ≤ 7) (hy : 0 ≤ y ∧ y ≤ 7) (hw : w = 0 ∨ w = 1) : K_X5_cutsTrail fu (zi (i : Int)) (zi x) (zi y) (zi w) mem = some (zi (bi (if w = 0 then T (9 * y + x).toNat 0 || T ((9 * y + x).toNat + 1) 0 else T (9 * y + x).toNat 1 || T ((9 * y + x).toNat + 9) 1))) := by
  have e1 : rd mem 18 ((i : Int) * 81 + y * 9 + x).toNat = msk (T (9 * y + x).toNat) := by
    rw [show ((i : Int) * 81 + y * 9 + x).toNat = 81 * i + (9 * y + x).toNat by omega]
    exact hT _ (by omega)
  have e2 : rd mem 18 ((i : Int) * 81 + y * 9 + x + 1).toNat = msk (T ((9 * y + x).toNat + 1)) := by
    rw [show ((i : Int) * 81 + y * 9 + x + 1).toNat = 81 * i + ((9 * y + x).toNat + 1) by omega]
    exact hT _ (by omega)
  have e3 : rd mem 18 ((i : Int) * 81 + y * 9 + x + 9).toNat = msk (T ((9 * y + x).toNat + 9)) := by
    rw [show ((i : Int) * 81 + y * 9 + x + 9).toNat = 81 * i + ((9 * y + x).toNat + 9) by omega]
    exact hT _ (by omega)
  unfold K_X5_cutsTrail K_X5_cutsTrail_39 K_X5_cutsTrail_72
  rcases hw with rfl | rfl
  · simp (disch := omega) only [zi_lit, zl_lit, zi_add, zi_sub, zi_mul, zi_neg, zi_lt, zi_inj, zi_clamp, zl_of, gi_zi, bd_s, ltf, bi_0, bi_1, gb_bi, Int.reduceToNat, Int.reduceNeg, Int.toNat_natCast, ↓reduceIte, Int.reduceEq, Int.reduceLT, Int.reduceAdd, Int.reduceSub, Int.reduceMul, Int.reduceNeg, if_true, if_false, decide_true, decide_false, Bool.and_true, Bool.true_and, Bool.false_and, Bool.and_false, Bool.not_true, Bool.not_false, Bool.true_or, Bool.or_true, Bool.false_or, Bool.or_false, e1, e2, and_or32, msk_b0, bi_or]
    cases (T (9 * y + x).toNat 0 || T ((9 * y + x).toNat + 1) 0) <;> rfl
  · simp (disch := omega) only [zi_lit, zl_lit, zi_add, zi_sub, zi_mul, zi_neg, zi_lt, zi_inj, zi_clamp, zl_of, gi_zi, bd_s, ltf, bi_0, bi_1, gb_bi, Int.reduceToNat, Int.reduceNeg, Int.toNat_natCast, ↓reduceIte, Int.reduceEq, Int.reduceLT, Int.reduceAdd, Int.reduceSub, Int.reduceMul, Int.reduceNeg, if_true, if_false, decide_true, decide_false, Bool.and_true, Bool.true_and, Bool.false_and, Bool.and_false, Bool.not_true, Bool.not_false, Bool.true_or, Bool.or_true, Bool.false_or, Bool.or_false, e1, e3, and_or32, msk_b1, bi_or]
    cases (T (9 * y + x).toNat 1 || T ((9 * y + x).toNat + 9) 1) <;> rfl
theorem cut_no {s : Nat → Int} {T : Nat → Nat → Bool} (hz : szO s) (hO : TOK s T) {x y w : Int} (hx : 0 ≤ x ∧ x ≤ 7) (hy : 0 ≤ y ∧ y ≤ 7) (hw : w = 0 ∨ w = 1) (h : (if w = 0 then T (9 * y + x).toNat 0 || T ((9 * y + x).toNat + 1) 0 else T (9 * y + x).toNat 1 || T ((9 * y + x).toNat + 9) 1) = false) {u d : Nat} (hd : d < 4) (hT : T u d = true) : cut x y (w + 1) u d = false := by
  by_cases q : cut x y (w + 1) u d = true
  · exfalso
    obtain ⟨k1, k2⟩ := hO u d hd hT
    have hu := op_lt hz k1
    have hn := op_nb hz hu hd k1
    have hoff := op_off hz hu hd k1
    have hxy := xy_lt hu
    rw [cut_t] at q
    rcases hw with rfl | rfl
    · rw [if_pos rfl, Bool.or_eq_false_iff] at h
      rcases q with ⟨-, q1, q2⟩ | ⟨q1, -⟩
      · rcases q1 with ⟨rfl, q1⟩ | ⟨rfl, q1⟩
        · rcases q2 with q2 | q2
          · rw [show u = (9 * y + x).toNat by omega, h.1] at hT
            cases hT
          · rw [show u = (9 * y + x).toNat + 1 by omega, h.2] at hT
            cases hT
        · rw [show dx ((2 : Nat) : Int) = 0 from rfl, show dy ((2 : Nat) : Int) = -1 from rfl] at hoff
          have k3 : T (nbr u 2) 0 = true := k2
          rcases q2 with q2 | q2
          · rw [show nbr u 2 = (9 * y + x).toNat by omega, h.1] at k3
            cases k3
          · rw [show nbr u 2 = (9 * y + x).toNat + 1 by omega, h.2] at k3
            cases k3
      · omega
    · rw [if_neg (by decide), Bool.or_eq_false_iff] at h
      rcases q with ⟨q1, -⟩ | ⟨-, q1, q2⟩
      · omega
      · rcases q1 with ⟨rfl, q1⟩ | ⟨rfl, q1⟩
        · rcases q2 with q2 | q2
          · rw [show u = (9 * y + x).toNat by omega, h.1] at hT
            cases hT
          · rw [show u = (9 * y + x).toNat + 9 by omega, h.2] at hT
            cases hT
        · rw [show dx ((3 : Nat) : Int) = -1 from rfl, show dy ((3 : Nat) : Int) = 0 from rfl] at hoff
          have k3 : T (nbr u 3) 1 = true := k2
          rcases q2 with q2 | q2
          · rw [show nbr u 3 = (9 * y + x).toNat by omega, h.1] at k3
            cases k3
          · rw [show nbr u 3 = (9 * y + x).toNat + 9 by omega, h.2] at k3
            cases k3
  · simpa using q
/-- a wall that doesn't cut the trail leaves the distance -/
theorem dst_nocut {s : Nat → Int} {T : Nat → Nat → Bool} (hz : szO s) (hO : TOK s T) {x y w : Int} (hpl : isPl s x y = true) (hw : w = 0 ∨ w = 1) (h0 : wg s x y = 0) {p : Int} (hp3 : p ≤ 3) (hp : pnO s p) (hwy : dst s p ≠ -1) (hP : Pth (opT s T) nbr (Sd s (pg s p 2)) (dst s p).toNat (celN s p)) (h : (if w = 0 then T (9 * y + x).toNat 0 || T ((9 * y + x).toNat + 1) 0 else T (9 * y + x).toNat 1 || T ((9 * y + x).toNat + 9) 1) = false) : dst (sw s x y (w + 1)) p = dst s p := by
  have hpl2 := isPl_iff.mp hpl
  have hz2 := hz
  obtain ⟨⟨hw1, hw2⟩, hh1, hh2⟩ := hz2
  have e1 : celN (sw s x y (w + 1)) p = celN s p := by
    unfold celN
    rw [sw_pg hpl2.1.1 hpl2.2.1 hp3 (by decide), sw_pg hpl2.1.1 hpl2.2.1 hp3 (by decide)]
  have hd := dst_dl hz hp
  have hd2 := dst_dl (sw_sz (v := w + 1) hpl2.1.1 hpl2.2.1 hz) (sw_pn (v := w + 1) hpl2.1.1 hpl2.2.1 hp3 hp)
  rw [hd2, e1, sw_pg hpl2.1.1 hpl2.2.1 hp3 (by decide), hd]
  unfold dl
  have e2 : Sd (sw s x y (w + 1)) (pg s p 2) = Sd s (pg s p 2) := Sd_cg (sw_lt hpl2.1.1 hpl2.2.1 (by decide)) (sw_lt hpl2.1.1 hpl2.2.1 (by decide)) _
  rw [e2]
  have hIs : IsD (op s) nbr (Sd s (pg s p 2)) (dst s p).toNat (celN s p) := by
    rcases dlt_cases (op s) nbr (Sd s (pg s p 2)) (celN s p) with ⟨g1, g2⟩ | ⟨m, g1, g2⟩
    · exact absurd (hd.trans g1) hwy
    · have g3 : dst s p = (m : Int) := hd.trans g2
      rw [show (dst s p).toNat = m by omega]
      exact g1
  refine dlt_p4 (fun u d hd3 hg => ?_) hIs (Pth_m4 (fun u d hd3 hg => ?_) (fun _ q => q) hP)
  · rw [op_sw hz hpl (by omega) h0 hd3, Bool.and_eq_true] at hg
    exact hg.1
  · unfold opT at hg
    rw [Bool.and_eq_true] at hg
    rw [op_sw hz hpl (by omega) h0 hd3, hg.1, cut_no hz hO (by omega) (by omega) hw h hd3 hg.2]
    rfl
end CADM
