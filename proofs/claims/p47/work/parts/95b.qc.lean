section QCC
def nmL (u : Nat) : List Nat := [97 + u] ++ if u % 2 = 1 then [97, 116] else []
theorem nmL_ok {u : Nat} (hu : u < 4) : (∀ a ∈ nmL u, kdb (a : Int) = 1) ∧ (1 ≤ (nmL u).length ∧ (nmL u).length ≤ 3) ∧ pkW (nmL u) = nmV u := by
  rcases (show u = 0 ∨ u = 1 ∨ u = 2 ∨ u = 3 by omega) with rfl | rfl | rfl | rfl <;> decide
theorem nmV_inj {i j : Nat} (hi : i < 4) (hj : j < 4) (h : nmV i = nmV j) : i = j := by
  rcases (show i = 0 ∨ i = 1 ∨ i = 2 ∨ i = 3 by omega) with rfl | rfl | rfl | rfl <;> rcases (show j = 0 ∨ j = 1 ∨ j = 2 ∨ j = 3 by omega) with rfl | rfl | rfl | rfl <;> first | rfl | exact absurd h (by decide)
theorem g_named {fu : Nat} (hfu : 1000 ≤ fu) {c : Mem} {T : Nat → Int} {L N n u : Nat} {nm : Nat → Nat} (hB : CBr c T L N n) (hk : kkP T L (tpo T L n) = 1) (hN : NMc c T L u nm) (hu : u ≤ 4) (h2 : rd c (pRace 1) 2 = zi (u : Int)) : ∃ v, K_X7_pawnNamed fu c = some (zi v) ∧ IXr v u (fun j => nmV j = nmW T L (tpo T L n)) := by
  have hR : NMr c (fun k => (fun _ => 0, fun i => zl (nmW T L (nm i) : Int))) T L u nm := ⟨fun i hi => by
    obtain ⟨k1, k2, k3, k4, k5⟩ := hN i hi
    exact ⟨k1, k2, k3, k4, rfl⟩, fun i j hi hj hij e => by
    rw [(hN i hi).2.2.2.2, (hN j hj).2.2.2.2] at e
    exact hij (nmV_inj (by omega) (by omega) e)⟩
  obtain ⟨v, a1, a2⟩ := c_pn2 fu hfu hB.1 hB.2.1 hk hR hu h2 u fu 0 (by omega) (by omega) (fun j hj => absurd hj (Nat.not_lt_zero j))
  refine ⟨v, a1, ?_⟩
  rcases a2 with ⟨q1, q2⟩ | ⟨i, i1, i2, i3⟩
  · exact Or.inl ⟨q1, fun i hi e => q2 i hi ((hN i hi).2.2.2.2.trans e)⟩
  · exact Or.inr ⟨i, i1, i2, (hN i i1).2.2.2.2.symm.trans i3⟩
theorem g_cell {fu : Nat} (hfu : 1000 ≤ fu) {c : Mem} {T : Nat → Int} {L N n : Nat} {s : Nat → Int} {x y : Nat} (hA : CAr c T L N n) (hn : n ≤ 4000) (hR : RC c 1 s) (hz : szO s) (hx : (x : Int) < s 0) (hy : (y : Int) < s 1) (hk1 : kkP T L (tpo T L n) = 2) (hv1 : vlI T (tpo T L n) (tzi T L (tpo T L n)) = (x : Int)) (hk2 : kkP T L (tpo T L (n + 1)) = 2) (hv2 : vlI T (tpo T L (n + 1)) (tzi T L (tpo T L (n + 1))) = (y : Int)) : ∃ c2, K_X7_readCell fu c = some (1, c2) ∧ CBr c2 T L N (n + 1) ∧ rd c2 7 8 = zi (9 * (y : Int) + (x : Int)) ∧ Fr (fun k j => P2t k j || (k == 7 && j == 8)) c c2 := by
  obtain ⟨⟨z1, z2⟩, z3, z4⟩ := hz
  have w0 : rd c (pBoard 1) 0 - 1 = zi (s 0 - 1) := by rw [hR.1.1, show (1 : Int32) = zi 1 from rfl, zi_sub]
  obtain ⟨c3, u1, u2, u3, u4⟩ := g_num hfu hA (by omega) (a := 0) (b := s 0 - 1) (v := (x : Int)) (by omega) hk1 hv1 (by omega)
  have hR3 : RC c3 1 s := RC_1 hR u4 (fun k j h1 h2 => P2_no (by omega))
  have w1 : rd c3 (pBoard 1) 1 - 1 = zi (s 1 - 1) := by rw [hR3.1.2.1, show (1 : Int32) = zi 1 from rfl, zi_sub]
  obtain ⟨c4, v1, v2, v3, v4⟩ := g_num hfu (CB_A u2) (by omega) (a := 0) (b := s 1 - 1) (v := (y : Int)) (by omega) hk2 hv2 (by omega)
  have u1' : K_X9_needNumber fu 0 (zi (s 0 - 1)) c = some (zi 1, c3) := u1
  have v1' : K_X9_needNumber fu 0 (zi (s 1 - 1)) c3 = some (zi 1, c4) := v1
  have e9 : rd c4 2 10 * 9 + zi (x : Int) = zi (9 * (y : Int) + (x : Int)) := by
    rw [v3, show (9 : Int32) = zi 9 from rfl, zi_mul, zi_add]
    exact congrArg zi (by omega)
  have m2 : ∀ {a b : Mem}, Fr P2t a b → Fr (fun k j => P2t k j || (k == 7 && j == 8)) a b := fun g => Fr_mono g (fun k j h => (Bool.or_eq_false_iff.mp h).1)
  refine ⟨mw c4 7 8 (zi (9 * (y : Int) + (x : Int))), ?_, CB_fr v2 (P := fun k j => k == 7 && j == 8) (Fr_mw _ _ rfl) (fun k j h1 h2 => by simp only [Bool.and_eq_false_iff, beq_eq_false_iff_ne, ne_eq]; omega), by rw [rd_mw, if_pos ⟨rfl, rfl⟩], Fr_tr (Fr_tr (m2 u4) (m2 v4)) (Fr_mw _ _ (by simp))⟩
  unfold K_X7_readCell
  rw [w0, u1', bd_s, if_neg z10, ltf, u3, w1, v1', bd_s, if_neg z10, ltf, e9]
/-- the walls of a pawn, if it tells them -/
def stPw (ow : Option Nat) : List Nat := match ow with
  | none => []
  | some k => [32, 119, 97, 108, 108, 115, 32, 48 + k]
def stPn (u x y sd : Nat) (ow : Option Nat) : List Nat := [112, 97, 119, 110] ++ ([32] ++ (nmL u ++ ([32, 48 + x, 32, 48 + y, 32] ++ (tcs (19 + sd) ++ (stPw ow ++ [59])))))
def owV (ow : Option Nat) (w0 : Int) : Int := match ow with
  | none => w0
  | some k => (k : Int)
/-- what is behind the side -/
theorem g_wop {fu : Nat} (hfu : 1000 ≤ fu) {c : Mem} {T : Nat → Int} {L N n j : Nat} {ow : Option Nat} {w0 : Int} (hk9 : ∀ k, ow = some k → k < 10) (hA : CAr c T L N n) (hn : n ≤ 4000) (hE : Epo T L n j) (hT : TXl T j (stPw ow ++ [59])) (hl : j + (stPw ow ++ [59]).length ≤ L) (h77 : rd c 7 7 = zi w0) (d : Int32) : ∃ c2 n2, K_X7_readWallsOfPawn fu d c = K_X7_readWallsOfPawn_54 fu d (zi (owV ow w0)) c2 ∧ CBr c2 T L N n2 ∧ sgB T L (tpo T L n2) 59 = true ∧ Epo T L (n2 + 1) (j + (stPw ow ++ [59]).length) ∧ n2 + 1 ≤ n + (stPw ow ++ [59]).length ∧ Fr P2t c c2 := by
  obtain ⟨⟨w00, w1, w2, w3, w4, w5, w6, w7⟩, w8⟩ := Wt_all
  cases ow with
  | none =>
    have hl' : j + 1 ≤ L := hl
    obtain ⟨t0, _⟩ := hT
    obtain ⟨q1, q2, q3⟩ := tk_s hE t0 (by omega)
    obtain ⟨c1, a1, hB, a3⟩ := p_adv fu hA (by omega)
    rw [← q1] at q2
    have cw := c_isWord fu hfu hB.1 hB.2.1 (t := 1) (by decide) w1
    have nw : wB T L (tpo T L n) 24162707 = false := decide_eq_false (fun h => by
      have := sg_k q2
      omega)
    refine ⟨c1, n, ?_, hB, q2, q3, by show n + 1 ≤ n + 1; omega, a3⟩
    unfold K_X7_readWallsOfPawn
    rw [ltf, h77, a1, bd_s, cw, bd_s, nw, if_pos (show zi (bi false) = 0 from rfl)]
    rfl
  | some k =>
    have hk := hk9 k rfl
    have hl' : j + 9 ≤ L := hl
    have hT' : TXl T j (32 :: ([119, 97, 108, 108, 115] ++ [32, 48 + k, 59])) := hT
    obtain ⟨t0, hT2⟩ := hT'
    obtain ⟨t1, t2, t3, t4, _⟩ := (TXl_app _ _ _).mp hT2
    have hE' : Epo T L n (j + 1) := Epo_ws hE (ws := [32]) ⟨t0, trivial⟩ (by decide) (by show j + 1 ≤ L; omega)
    obtain ⟨k1, k2, k3, k4, k5⟩ := tk_w hE' t1 t2 (by decide) (by decide) (by decide) (by show j + 1 + 5 < L; omega)
    have k5' : Epo T L (n + 1) (j + 1 + 5 + 1) := Epo_ws k5 (ws := [32]) ⟨t2, trivial⟩ (by decide) (by show j + 1 + 5 + 1 ≤ L; omega)
    obtain ⟨m1, m2, m3, m4, m5⟩ := tk_d k5' t3 hk t4 (by decide) (by omega)
    obtain ⟨q1, q2, q3⟩ := tk_s m5 t4 (by omega)
    obtain ⟨c1, a1, hB, a3⟩ := p_adv fu hA (by omega)
    have cw := c_isWord fu hfu hB.1 hB.2.1 (t := 1) (by decide) w1
    rw [← k1] at k2 k4
    have yw : wB T L (tpo T L n) 24162707 = true := by
      rw [wB_of k2 k4]
      decide
    rw [← m1] at m2 m4
    obtain ⟨c3, v1, v2, v3, v4⟩ := g_num hfu (CB_A hB) (by omega) (a := 0) (b := 20) (v := (k : Int)) (by decide) m2 m4 (by omega)
    have v1' : K_X9_needNumber fu 0 20 c1 = some (zi 1, c3) := v1
    obtain ⟨c4, b1, hB4, b3⟩ := p_adv fu (CB_A v2) (by omega)
    rw [← q1] at q2
    have el : j + (stPw (some k) ++ [59]).length = j + 1 + 5 + 1 + 1 + 1 := rfl
    rw [el]
    refine ⟨c4, n + 1 + 1, ?_, hB4, q2, q3, by show n + 1 + 1 + 1 ≤ n + 9; omega, Fr_tr (Fr_tr a3 v4) b3⟩
    unfold K_X7_readWallsOfPawn
    rw [ltf, h77, a1, bd_s, cw, bd_s, yw, if_neg (show ¬ zi (bi true) = 0 by decide), v1', bd_s, if_neg z10, ltf, v3, b1, bd_s]
    rfl
theorem r_pawn {fu : Nat} (hfu : 1000 ≤ fu) {c : Mem} {T : Nat → Int} {L N n j : Nat} {s : Nat → Int} {u : Nat} {b1 b2 : Bool} {w0 : Int} {nm : Nat → Nat} (hR : RSx c T L N n j s u b1 b2 w0 nm) (hI : InvR s) (hu4 : u < 4) {x y sd : Nat} {ow : Option Nat} (hw0 : 0 ≤ w0 ∧ w0 ≤ 20) (hk9 : ∀ k, ow = some k → k < 10) (hx : (x : Int) < s 0) (hy : (y : Int) < s 1) (hx9 : x < 10) (hy9 : y < 10) (hsd : sd < 4) (hpI : pI s (x : Int) (y : Int) = -1) (hat : atS s (x : Int) (y : Int) (sd : Int) = false) (hway : dst (npS s u (x : Int) (y : Int) (sd : Int) (owV ow w0)) (u : Int) ≠ -1) (hT : TXl T j (stPn u x y sd ow)) (hl : j + (stPn u x y sd ow).length ≤ L) {f k : Nat} (hk : k ≤ 600) : ∃ c2 n2 nm2, K_X7_readRace_31 fu (f + 1) (zi (k : Int)) c = K_X7_readRace_31 fu f (zi ((k + 1 : Nat) : Int)) c2 ∧ RSx c2 T L N n2 (j + (stPn u x y sd ow).length) (npS s u (x : Int) (y : Int) (sd : Int) (owV ow w0)) (u + 1) b1 b2 w0 nm2 ∧ InvR (npS s u (x : Int) (y : Int) (sd : Int) (owV ow w0)) ∧ Fr PSc c c2 := by
  obtain ⟨⟨hA, hE, hnj, hjL, hL⟩, hRC, hF, hN, hu⟩ := hR
  obtain ⟨n1, ⟨n2, n2'⟩, n3⟩ := nmL_ok hu4
  obtain ⟨s1, ⟨s2, s2'⟩, s3⟩ := sd_w sd hsd
  have hz := hI.1.1.1
  have hz2 := hz
  obtain ⟨⟨z1, z2⟩, z3, z4⟩ := hz2
  have len : (stPn u x y sd ow).length = 4 + (1 + ((nmL u).length + (5 + ((tcs (19 + sd)).length + (stPw ow ++ [59]).length)))) := by
    unfold stPn
    rw [List.length_append, List.length_append, List.length_append, List.length_append, List.length_append]
    rfl
  have lt1 : 1 ≤ (stPw ow ++ [59]).length := by
    rw [List.length_append]
    exact Nat.le_add_left 1 _
  have lt9 : (stPw ow ++ [59]).length ≤ 9 := by
    cases ow with
    | none => exact (by decide : 1 ≤ 9)
    | some k => exact Nat.le_refl 9
  rw [len] at hl
  -- tokens
  have T1 := (TXl_app _ _ _).mp hT
  have T2 := (TXl_app _ _ _).mp T1.2
  have T3 := (TXl_app _ _ _).mp T2.2
  have T4 := (TXl_app _ _ _).mp T3.2
  have T5 := (TXl_app _ _ _).mp T4.2
  obtain ⟨k1, k2, k3, k4, k5⟩ := tk_w hE T1.1 T2.1.1 (by decide) (by decide) (by decide) (by show j + 4 < L; omega)
  have k5' : Epo T L (n + 1) (j + 4 + 1) := Epo_ws k5 (ws := [32]) T2.1 (by decide) (by show j + 4 + 1 ≤ L; omega)
  obtain ⟨a1, a2, a3, a4, a5⟩ := tk_w k5' T3.1 T4.1.1 n1 ⟨n2, by omega⟩ (by decide) (by show j + 4 + 1 + (nmL u).length < L; omega)
  have a5' : Epo T L (n + 1 + 1) (j + 4 + 1 + (nmL u).length + 1) := Epo_ws a5 (ws := [32]) ⟨T4.1.1, trivial⟩ (by decide) (by show j + 4 + 1 + (nmL u).length + 1 ≤ L; omega)
  obtain ⟨m1, m2, m3, m4, m5⟩ := tk_d a5' T4.1.2.1 hx9 T4.1.2.2.1 (by decide) (by omega)
  have m5' : Epo T L (n + 1 + 1 + 1) (j + 4 + 1 + (nmL u).length + 1 + 1 + 1) := Epo_ws m5 (ws := [32]) ⟨T4.1.2.2.1, trivial⟩ (by decide) (by show j + 4 + 1 + (nmL u).length + 1 + 1 + 1 ≤ L; omega)
  obtain ⟨p1, p2, p3, p4, p5⟩ := tk_d m5' T4.1.2.2.2.1 hy9 T4.1.2.2.2.2.1 (by decide) (by omega)
  have p5' : Epo T L (n + 1 + 1 + 1 + 1) (j + 4 + 1 + (nmL u).length + 5) := Epo_ws p5 (ws := [32]) ⟨T4.1.2.2.2.2.1, trivial⟩ (by decide) (by show j + 4 + 1 + (nmL u).length + 5 ≤ L; omega)
  obtain ⟨dd, hd1, hd2⟩ : ∃ dd : Nat, T (j + 4 + 1 + (nmL u).length + 5 + (tcs (19 + sd)).length) = (dd : Int) ∧ kdb (dd : Int) ≠ 1 := by
    have := T5.2
    cases ow with
    | none => exact ⟨59, this.1, by decide⟩
    | some k => exact ⟨32, this.1, by decide⟩
  obtain ⟨d1, d2, d3, d4, d5⟩ := tk_w p5' T5.1 hd1 s1 ⟨s2, s2'⟩ hd2 (by omega)
  rw [← k1] at k2 k4
  rw [← a1] at a2 a4
  rw [← m1] at m2 m4
  rw [← p1] at p2 p4
  rw [← d1] at d2 d4
  have hsV := sd_of hsd d2 d4
  -- the class
  obtain ⟨c1, r1, hB, r3⟩ := r_open (fu := fu) hA (by omega) (f := f) (k := k) (by omega) k2
  have hd := r_disp hfu hB k2 (V := 526062) (by rw [k4]; decide)
  rw [if_neg (by decide), if_neg (by decide), if_pos rfl] at hd
  have hR1 : RC c1 1 s := RC_1 hRC r3 (fun k j h1 h2 => P2_no (by omega))
  have hN1 := NMc_fr hN r3 (fun j => ⟨P2_no (by decide), P2_no (by decide)⟩)
  have hF1 := FLc_fr hF r3 (fun j _ _ => P2_no (by decide))
  obtain ⟨c2, e1, hB2, e3⟩ := p_adv fu (CB_A hB) (by omega)
  have hR2 : RC c2 1 s := RC_1 hR1 e3 (fun k j h1 h2 => P2_no (by omega))
  have hN2 := NMc_fr hN1 e3 (fun j => ⟨P2_no (by decide), P2_no (by decide)⟩)
  have hF2 := FLc_fr hF1 e3 (fun j _ _ => P2_no (by decide))
  obtain ⟨v, v1, v2⟩ := g_named hfu hB2 a2 hN2 (by omega) (by rw [hR2.2.1.1, hu])
  have hv : v = -1 := by
    rcases v2 with ⟨q, _⟩ | ⟨i, i1, i2, i3⟩
    · exact q
    · have e : nmW T L (tpo T L (n + 1)) = nmV u := a4.trans n3
      rw [e] at i3
      have := nmV_inj (by omega) hu4 i3
      omega
  obtain ⟨kk1, kk2, kk3, kk4, kk5, kk6, kk7⟩ := kk_1 a2
  have r8 : rd c2 2 8 = zi (tpo T L (n + 1) : Int) := hB2.2.1.2.2.1
  have r9 : rd (mw c2 8 u (zi (tpo T L (n + 1) : Int))) 2 9 = zi (tzi T L (tpo T L (n + 1)) : Int) := by
    rw [rd_mw, if_neg (fun h => absurd h.1 (by decide)), ← kk4]
    exact hB2.2.1.2.2.2
  have hname : K_X7_readName fu 0 c1 = some (1, c2) := by
    unfold K_X7_readName
    rw [e1, bd_s, hB2.2.1.2.1, a2, if_pos (show zi ((1 : Nat) : Int) = 1 from rfl), v1, bd_s, hv, if_pos (show zi (-1) = -1 from rfl)]
    unfold K_X7_readName_41 K_X7_readName_55
    rw [if_pos (show (0 : Int32) = 0 from rfl)]
  obtain ⟨c3, hc3⟩ : ∃ c3, c3 = mw (mw c2 8 u (zi (tpo T L (n + 1) : Int))) 9 u (zi (tzi T L (tpo T L (n + 1)) : Int)) := ⟨_, rfl⟩
  have f3 : Fr (fun k j => (k == 8 || k == 9) && j == u) c2 c3 := by
    rw [hc3]
    exact Fr_tr (Fr_mw _ _ (by simp)) (Fr_mw _ _ (by simp))
  have f3n : ∀ k j, k ≠ 8 → k ≠ 9 → (fun k j => (k == 8 || k == 9) && j == u : Nat → Nat → Bool) k j = false := fun k j h8 h9 => by
    have e8 : (k == 8) = false := by simp [h8]
    have e9 : (k == 9) = false := by simp [h9]
    simp only [e8, e9]
    rfl
  have hA3 : CAr c3 T L N (n + 1 + 1) := CA_fr (CB_A hB2) f3 (fun k j h1 h2 => f3n k j (by omega) (by omega))
  have hR3 : RC c3 1 s := RC_1 hR2 f3 (fun k j h1 h2 => f3n k j (by omega) (by omega))
  obtain ⟨c4, g1, hB4, g3, g4⟩ := g_cell hfu (x := x) (y := y) hA3 (by omega) hR3 hz hx hy m2 m4 p2 p4
  have f4n : ∀ k j, k ≠ 2 → ¬ (k = 7 ∧ j = 8) → (fun k j => P2t k j || (k == 7 && j == 8) : Nat → Nat → Bool) k j = false := fun k j h2 h7 => by
    show (P2t k j || (k == 7 && j == 8)) = false
    rw [P2_no h2]
    simp only [Bool.false_or, Bool.and_eq_false_iff, beq_eq_false_iff_ne, ne_eq]
    omega
  have hR4 : RC c4 1 s := RC_1 hR3 g4 (fun k j h1 h2 => f4n k j (by omega) (by omega))
  obtain ⟨iz, ic, iW, ip, ib, iwp, ids, irk, iwy⟩ := hI.1.1
  have hN81 : (9 * (y : Int) + (x : Int)).toNat < 81 := by omega
  have hNe : ((9 * (y : Int) + (x : Int)).toNat : Int) = 9 * (y : Int) + (x : Int) := by omega
  have ex : xo (9 * (y : Int) + (x : Int)).toNat = (x : Int) := by
    unfold xo
    omega
  have ey : yo (9 * (y : Int) + (x : Int)).toNat = (y : Int) := by
    unfold yo
    omega
  have i0 := hI.2.1
  have hon := c_pawnOn fu 1 hfu iz (s := s) (by omega) (by omega) (by omega) ip ids ⟨hR4.2.1.1, hR4.2.2.1⟩ hN81
  rw [hNe, ex, ey, hpI] at hon
  obtain ⟨c5, h1, hB5, h5⟩ := g_side hfu (CB_A hB4) (by omega) hsd hsV
  have hR5 : RC c5 1 s := RC_1 hR4 h5 (fun k j h1 h2 => P2_no (by omega))
  have h78 : rd c5 7 8 = zi (9 * (y : Int) + (x : Int)) := (h5.1 _ _ (P2_no (by decide))).trans g3
  have hla := c_liesAt fu 1 hR5.1 iz hN81 (d := (sd : Int)) (by omega) (by omega)
  rw [hNe, ex, ey, hat] at hla
  have f25 : Fr (fun k j => ((k == 8 || k == 9) && j == u) || (P2t k j || (k == 7 && j == 8))) c2 c5 := by
    refine Fr_tr (Fr_tr (Fr_mono f3 (fun k j h => (Bool.or_eq_false_iff.mp h).1)) (Fr_mono g4 (fun k j h => (Bool.or_eq_false_iff.mp h).2))) (Fr_mono h5 (fun k j h => (Bool.or_eq_false_iff.mp (Bool.or_eq_false_iff.mp h).2).1))
  have f25n : ∀ j, j ≠ 8 → (fun k j => ((k == 8 || k == 9) && j == u) || (P2t k j || (k == 7 && j == 8)) : Nat → Nat → Bool) 7 j = false := fun j hj => by
    show (((7 == 8 || 7 == 9) && j == u) || (P2t 7 j || (7 == 7 && j == 8))) = false
    rw [P2_no (by decide)]
    simp [hj]
  have hF5 := FLc_fr hF2 f25 (fun j _ _ => f25n j (by omega))
  obtain ⟨c6, n6, w1, hB6, w3, w4, w5, w6⟩ := g_wop hfu hk9 (CB_A hB5) (by omega) d5 T5.2 (by omega) hF5.2.2 (zi (sd : Int))
  have hR6 : RC c6 1 s := RC_1 hR5 w6 (fun k j h1 h2 => P2_no (by omega))
  have h786 : rd c6 7 8 = zi (9 * (y : Int) + (x : Int)) := (w6.1 _ _ (P2_no (by decide))).trans h78
  have hs := c_isSign fu hB6 (x := 59) ⟨by decide, by decide⟩
  have hs' : K_X9_isSign fu 59 c6 = some (zi (bi (sgB T L (tpo T L n6) 59))) := hs
  obtain ⟨c7, y1, y2, y3⟩ := c_addPawn fu hR6 hu4 hu (x : Int) (y : Int) (sd : Int) (owV ow w0)
  have how : 0 ≤ owV ow w0 ∧ owV ow w0 ≤ 20 := by
    cases ow with
    | none => exact hw0
    | some k =>
      have := hk9 k rfl
      show 0 ≤ (k : Int) ∧ (k : Int) ≤ 20
      omega
  obtain ⟨⟨i1, i2, i3, i4⟩, i5⟩ := Inv_np hI hu4 hu (isCl_iff.mpr ⟨⟨by omega, by omega⟩, by omega, by omega⟩) (d := (sd : Int)) ⟨by omega, by omega⟩ how hpI
  have hus : (u : Int) < npS s u (x : Int) (y : Int) (sd : Int) (owV ow w0) 2 := by
    rw [np_2, hu]
    omega
  have hpn := i4 u (by omega) hus
  obtain ⟨c8, j1, j2⟩ := c_measure fu 0 1 hfu (by decide) i1 i2 i4 y2 hus
  have hdl := dst_le i1 i3 hpn
  have r2c : rd c7 (pRace 1) 2 = zi ((u : Int) + 1) := by
    have := y2.2.1.1
    rw [np_2, hu] at this
    exact this
  have hhas : K_X5_hasWay fu 1 (zi (u : Int)) c7 = some (zi 1, c8) := by
    have e1 : (zi (u : Int) < (0 : Int32)) = ((u : Int) < 0) := zi_lt (b_ := 0) (by omega) (by omega) (by decide) (by decide)
    have e2 : (zi (u : Int) < zi ((u : Int) + 1)) = ((u : Int) < (u : Int) + 1) := zi_lt (by omega) (by omega) (by omega) (by omega)
    have e3 : (zi (dst (npS s u (x : Int) (y : Int) (sd : Int) (owV ow w0)) (u : Int)) = (-1 : Int32)) = (dst (npS s u (x : Int) (y : Int) (sd : Int) (owV ow w0)) (u : Int) = -1) := zi_inj (b_ := -1) (by omega) (by omega) (by decide) (by decide)
    unfold K_X5_hasWay
    rw [if_neg (fun q => by have := e1.mp q; omega), r2c, if_pos (e2.mpr (by omega)), gi_zi (by omega) (by omega) (by decide), cl4 (by omega), j1, bd_s, if_neg (fun q => hway (e3.mp q))]
    rfl
  have hwp : K_X7_readWallsOfPawn fu (zi (sd : Int)) c5 = some (1, c7) := by
    rw [w1]
    unfold K_X7_readWallsOfPawn_54
    rw [hs', bd_s, w3, if_neg (show ¬ zi (bi true) = 0 by decide), h786, y1, bd_s]
  have lo7 : ∀ k j, k < 57 → (fun k j => k == pPawn 1 u || (k == pRace 1 && j == 2) : Nat → Nat → Bool) k j = false := fun k j h => by
    unfold pPawn pRace
    simp only [Bool.or_eq_false_iff, Bool.and_eq_false_iff, beq_eq_false_iff_ne, ne_eq]
    omega
  have loC : ∀ k j, k < 20 ∨ 23 ≤ k → PC 0 k j = false := fun k j h => by
    unfold PC pDist pQueue pWays
    simp only [Bool.or_eq_false_iff, Bool.and_eq_false_iff, beq_eq_false_iff_ne, ne_eq]
    omega
  have hB8 : CBr c8 T L N n6 := CB_fr (CB_fr hB6 y3 (fun k j a b => lo7 k j (by omega))) j2 (fun k j a b => loC k j (by omega))
  have iu : (zi (u : Int)).toNatClampNeg = u := cl4 (by omega)
  have t0 : (zi (u : Int) < (0 : Int32)) = ((u : Int) < 0) := zi_lt (b_ := 0) (by omega) (by omega) (by decide) (by decide)
  have t4 : (zi (u : Int) < (4 : Int32)) = ((u : Int) < 4) := zi_lt (b_ := 4) (by omega) (by omega) (by decide) (by decide)
  have sdn : (zi (sd : Int) = (-1 : Int32)) = ((sd : Int) = -1) := zi_inj (b_ := -1) (by omega) (by omega) (by decide) (by decide)
  have hbd : K_X7_readPawn fu c1 = some (zi 1, c8) := by
    unfold K_X7_readPawn
    rw [ltf, hR1.2.1.1, hu, if_neg (fun q => by have := t0.mp q; omega), if_pos (t4.mpr (by omega)), hname, bd_s, if_neg (show ¬ (1 : Int32) = 0 by decide), gi_zi (by omega) (by omega) (by decide), ltf, gi_zi (by omega) (by omega) (by decide), ltf, iu, r8, r9, ← hc3, g1, bd_s, if_neg (show ¬ (1 : Int32) = 0 by decide), g3, hon, bd_s, if_pos (show zi (-1) = -1 from rfl), h1, bd_s, ltf, if_neg (fun q => by have := sdn.mp q; omega), h78, hla, bd_s, if_pos (show zi (bi false) = 0 from rfl), hwp, bd_s, if_neg (show ¬ (1 : Int32) = 0 by decide), hhas, bd_s, if_neg z10]
    rfl
  have hI' := i5 hway
  have f58 : ∀ k j, (7 ≤ k ∧ k ≤ 9) → rd c8 k j = rd c5 k j := fun k j h => (j2.1 _ _ (loC k j (by omega))).trans ((y3.1 _ _ (lo7 k j (by omega))).trans (w6.1 _ _ (P2_no (by omega))))
  refine ⟨c8, n6 + 1, fun i => if i = u then tpo T L (n + 1) else nm i, ?_, ⟨⟨CB_A hB8, ?_, by rw [len]; omega, by rw [len]; omega, hL⟩, RC_1 y2 j2 (fun k j a b => loC k j (by omega)), ⟨(f58 7 5 (by decide)).trans hF5.1, (f58 7 6 (by decide)).trans hF5.2.1, (f58 7 7 (by decide)).trans hF5.2.2⟩, fun i hi => ?_, by rw [np_2, hu]; rfl⟩, hI', ?_⟩
  · rw [r1, hd]
    exact r_fin hbd f k
  · rw [len]
    have : j + (4 + (1 + ((nmL u).length + (5 + ((tcs (19 + sd)).length + (stPw ow ++ [59]).length))))) = j + 4 + 1 + (nmL u).length + 5 + (tcs (19 + sd)).length + (stPw ow ++ [59]).length := by omega
    rw [this]
    exact w4
  · have g89 : ∀ k, k = 8 ∨ k = 9 → rd c8 k i = rd c3 k i := fun k hk2 => (f58 k i (by omega)).trans ((h5.1 _ _ (P2_no (by omega))).trans (g4.1 _ _ (f4n k i (by omega) (by omega))))
    by_cases qi : i = u
    · have hv2 : (fun i => if i = u then tpo T L (n + 1) else nm i : Nat → Nat) i = tpo T L (n + 1) := if_pos qi
      rw [hv2]
      refine ⟨a2, by omega, ?_, ?_, ?_⟩
      · rw [g89 8 (Or.inl rfl), hc3, rd_mw, if_neg (fun h => absurd h.1 (by decide)), rd_mw, if_pos ⟨rfl, qi⟩]
      · rw [g89 9 (Or.inr rfl), hc3, rd_mw, if_pos ⟨rfl, qi⟩]
      · rw [qi]
        exact a4.trans n3
    · have hv2 : (fun i => if i = u then tpo T L (n + 1) else nm i : Nat → Nat) i = nm i := if_neg qi
      rw [hv2]
      obtain ⟨q1, q2, q3, q4, q5⟩ := hN2 i (by omega)
      refine ⟨q1, q2, ?_, ?_, q5⟩
      · rw [g89 8 (Or.inl rfl), hc3, rd_mw, if_neg (fun h => absurd h.1 (by decide)), rd_mw, if_neg (fun h => qi h.2)]
        exact q3
      · rw [g89 9 (Or.inr rfl), hc3, rd_mw, if_neg (fun h => qi h.2), rd_mw, if_neg (fun h => absurd h.1 (by decide))]
        exact q4
  · have fS3 : Fr PSc c2 c3 := Fr_mono f3 (fun k j h => f3n k j (by have := PSc_ne h; omega) (by have := PSc_ne h; omega))
    have fS4 : Fr PSc c3 c4 := Fr_mono g4 (fun k j h => by
      have hh := PSc_ne h
      show (P2t k j || (k == 7 && j == 8)) = false
      rw [P2_Sc h]
      simp only [Bool.false_or, Bool.and_eq_false_iff, beq_eq_false_iff_ne, ne_eq]
      omega)
    have fS7 : Fr PSc c6 c7 := Fr_mono y3 (fun k j h => by
      have := PSc_ne h
      unfold pPawn pRace
      simp only [Bool.or_eq_false_iff, Bool.and_eq_false_iff, beq_eq_false_iff_ne, ne_eq]
      omega)
    have fS8 : Fr PSc c7 c8 := Fr_mono j2 (fun k j h => by
      have := PSc_ne h
      exact loC k j (by omega))
    exact Fr_tr (Fr_tr (Fr_tr (Fr_tr (Fr_tr (Fr_tr (Fr_tr (FSc r3) (FSc e3)) fS3) fS4) (FSc h5)) (FSc w6)) fS7) fS8
end QCC
