section QEE
def PBr (b k j : Nat) : Bool := P2t k j || ((k == 7 && j == 8) || PB1 b k j)
theorem PBr_no {b k j : Nat} (h2 : k ≠ 2) (h7 : ¬ (k = 7 ∧ j = 8)) (hb : k ≠ pBan 1 b ∨ j = 0) : PBr b k j = false := by
  unfold PBr
  rw [P2_no h2, PB1_ne hb]
  simp only [Bool.or_false, Bool.false_or, Bool.and_eq_false_iff, beq_eq_false_iff_ne, ne_eq]
  omega
theorem Br_2 {b : Nat} {c c2 : Mem} (f : Fr P2t c c2) : Fr (PBr b) c c2 := Fr_mono f (fun k j h => (Bool.or_eq_false_iff.mp h).1)
theorem Br_7 {b : Nat} {c c2 : Mem} (f : Fr (fun k j => P2t k j || (k == 7 && j == 8)) c c2) : Fr (PBr b) c c2 := Fr_mono f (fun k j h => by
  have h1 := Bool.or_eq_false_iff.mp h
  have h2 := Bool.or_eq_false_iff.mp h1.2
  show (P2t k j || (k == 7 && j == 8)) = false
  rw [h1.1, h2.1]
  rfl)
theorem Br_1 {b : Nat} {c c2 : Mem} (f : Fr (PB1 b) c c2) : Fr (PBr b) c c2 := Fr_mono f (fun k j h => (Bool.or_eq_false_iff.mp (Bool.or_eq_false_iff.mp h).2).2)
theorem g_cellB {fu : Nat} (hfu : 1000 ≤ fu) {c : Mem} {T : Nat → Int} {L N n : Nat} {s : Nat → Int} {x y : Nat} (hA : CAr c T L N n) (hn : n ≤ 4000) (h0 : rd c (pBoard 1) 0 = zi (s 0)) (h1 : rd c (pBoard 1) 1 = zi (s 1)) (hz : szO s) (hx : (x : Int) < s 0) (hy : (y : Int) < s 1) (hk1 : kkP T L (tpo T L n) = 2) (hv1 : vlI T (tpo T L n) (tzi T L (tpo T L n)) = (x : Int)) (hk2 : kkP T L (tpo T L (n + 1)) = 2) (hv2 : vlI T (tpo T L (n + 1)) (tzi T L (tpo T L (n + 1))) = (y : Int)) : ∃ c2, K_X7_readCell fu c = some (1, c2) ∧ CBr c2 T L N (n + 1) ∧ rd c2 7 8 = zi (9 * (y : Int) + (x : Int)) ∧ Fr (fun k j => P2t k j || (k == 7 && j == 8)) c c2 := by
  obtain ⟨⟨z1, z2⟩, z3, z4⟩ := hz
  have w0 : rd c (pBoard 1) 0 - 1 = zi (s 0 - 1) := by rw [h0, show (1 : Int32) = zi 1 from rfl, zi_sub]
  obtain ⟨c3, u1, u2, u3, u4⟩ := g_num hfu hA (by omega) (a := 0) (b := s 0 - 1) (v := (x : Int)) (by omega) hk1 hv1 (by omega)
  have w1 : rd c3 (pBoard 1) 1 - 1 = zi (s 1 - 1) := by rw [u4.1 _ _ (P2_no (by unfold pBoard; omega)), h1, show (1 : Int32) = zi 1 from rfl, zi_sub]
  obtain ⟨c4, v1, v2, v3, v4⟩ := g_num hfu (CB_A u2) (by omega) (a := 0) (b := s 1 - 1) (v := (y : Int)) (by omega) hk2 hv2 (by omega)
  have u1' : K_X9_needNumber fu 0 (zi (s 0 - 1)) c = some (zi 1, c3) := u1
  have v1' : K_X9_needNumber fu 0 (zi (s 1 - 1)) c3 = some (zi 1, c4) := v1
  have e9 : rd c4 2 10 * 9 + zi (x : Int) = zi (9 * (y : Int) + (x : Int)) := by
    rw [v3, show (9 : Int32) = zi 9 from rfl, zi_mul, zi_add]
    exact congrArg zi (by omega)
  have m2 : ∀ {a b : Mem}, Fr P2t a b → Fr (fun k j => P2t k j || (k == 7 && j == 8)) a b := fun g => Fr_mono g (fun k j h => (Bool.or_eq_false_iff.mp h).1)
  refine ⟨mw c4 7 8 (zi (9 * (y : Int) + (x : Int))), ?_, CB_fr v2 (P := fun k j => k == 7 && j == 8) (Fr_mw _ _ rfl) (fun k j h1 h2 => by simp only [Bool.and_eq_false_iff, beq_eq_false_iff_ne, ne_eq]; omega), by rw [rd_mw, if_pos ⟨rfl, rfl⟩], Fr_tr (Fr_tr (m2 u4) (m2 v4)) (Fr_mw _ _ (by simp))⟩
  unfold K_X7_readCell
  rw [w0, u1', bd_s, if_neg z10, ltf, u3, w1, v1', bd_s, if_neg z10, ltf, e9]
/-- a ban's rule, as it is told -/
def stBr (k d : Nat) (q : Nat → Nat) : List Nat := if k = 0 then [98, 97, 99, 107] ++ [59] else if k = 1 then [97, 103, 97, 105, 110] ++ [59] else if k = 2 then tcs (19 + d) ++ ([32] ++ ([101, 118, 101, 114, 121] ++ ([32, 48 + q 3, 32] ++ ([97, 116] ++ [32, 48 + q 4, 59])))) else tcs (19 + d) ++ ([32] ++ ([102, 114, 111, 109] ++ ([32, 48 + q 3, 32, 48 + q 4, 32] ++ ([116, 111] ++ [32, 48 + q 5, 32, 48 + q 6, 59]))))
def gBr (p k d : Nat) (q : Nat → Nat) : Nat → Int := fun i => if i = 0 then (p : Int) else if i = 1 then (k : Int) else if i = 2 then (d : Int) else (q i : Int)
theorem g_rule01 {fu : Nat} (hfu : 1000 ≤ fu) {c : Mem} {T : Nat → Int} {L N n j b p k d : Nat} {q : Nat → Nat} {s : Nat → Int} (hA : CAr c T L N n) (hE : Epo T L n j) (hnj : n ≤ j) (hL : L ≤ 500) (hp0 : rd c (pBan 1 b) 0 = zi (p : Int)) (hk : k = 0 ∨ k = 1) (hT : TXl T j (stBr k d q)) (hl : j + (stBr k d q).length ≤ L) : ∃ c2 n2, tlN fu b c = some (zi 1, c2) ∧ CAr c2 T L N n2 ∧ Epo T L n2 (j + (stBr k d q).length) ∧ n2 ≤ j + (stBr k d q).length ∧ Fr (PBr b) c c2 ∧ RN c2 1 (rwB s b (gBr p k d q)) b := by
  obtain ⟨⟨w0, w1, w2, w3, w4, w5, w6, w7⟩, w8, w9, w10, w11, w12, w13, w14, w15, w16⟩ := Wt_all
  have tok : ∃ e, (kkP T L (tpo T L n) = 1 ∧ pkN T (tpo T L n) (tzi T L (tpo T L n)) = if k = 0 then 66667 else 1279278) ∧ sgB T L (tpo T L (n + 1)) 59 = true ∧ Epo T L (n + 1 + 1) e ∧ e = j + (stBr k d q).length ∧ j + 2 ≤ e ∧ e ≤ L := by
    rcases hk with rfl | rfl
    · have hl' : j + 5 ≤ L := hl
      have hT' : TXl T j ([98, 97, 99, 107] ++ [59]) := hT
      have T1 := (TXl_app _ _ _).mp hT'
      obtain ⟨k1, k2, k3, k4, k5⟩ := tk_w hE T1.1 T1.2.1 (by decide) (by decide) (by decide) (by show j + 4 < L; omega)
      have k5' : Epo T L (n + 1) (j + 4) := k5
      obtain ⟨q1, q2, q3⟩ := tk_s k5' T1.2.1 (by omega)
      rw [← k1] at k2 k4
      rw [← q1] at q2
      exact ⟨_, ⟨k2, by rw [k4]; decide⟩, q2, q3, rfl, by omega, by omega⟩
    · have hl' : j + 6 ≤ L := hl
      have hT' : TXl T j ([97, 103, 97, 105, 110] ++ [59]) := hT
      have T1 := (TXl_app _ _ _).mp hT'
      obtain ⟨k1, k2, k3, k4, k5⟩ := tk_w hE T1.1 T1.2.1 (by decide) (by decide) (by decide) (by show j + 5 < L; omega)
      have k5' : Epo T L (n + 1) (j + 5) := k5
      obtain ⟨q1, q2, q3⟩ := tk_s k5' T1.2.1 (by omega)
      rw [← k1] at k2 k4
      rw [← q1] at q2
      exact ⟨_, ⟨k2, by rw [k4]; decide⟩, q2, q3, rfl, by omega, by omega⟩
  obtain ⟨e, ⟨k2, k4⟩, q2, q3, he, hej, heL⟩ := tok
  obtain ⟨c2, a1, hB2, a3⟩ := p_adv fu hA (by omega)
  have cw8 := c_isWord fu hfu hB2.1 hB2.2.1 (t := 8) (by decide) w8
  have cw9 := c_isWord fu hfu hB2.1 hB2.2.1 (t := 9) (by decide) w9
  rw [wB_of k2 k4] at cw8 cw9
  have t1 : ∀ (v : Int32), Fr (PB1 b) c2 (mw c2 (pBan 1 b) 1 v) := fun v => Fr_mw _ _ (by unfold PB1; simp)
  have g0 : ∀ {c3 : Mem}, Fr P2t (mw c2 (pBan 1 b) 1 (zi (k : Int))) c3 → Fr (PBr b) c c3 := fun g => Fr_tr (Fr_tr (Br_2 a3) (Br_1 (t1 _))) (Br_2 g)
  obtain ⟨c4, y1, y2, y3⟩ := g_sign (fu := fu) (CA_ban (CB_A hB2) (t1 (zi (k : Int)))) (by omega) q2
  have v0 : bg (rwB s b (gBr p k d q)) (b : Int) 0 = (p : Int) := rw_bg (k := 0) (by decide)
  have v1 : bg (rwB s b (gBr p k d q)) (b : Int) 1 = (k : Int) := rw_bg (k := 1) (by decide)
  rw [he] at q3 hej
  refine ⟨c4, n + 1 + 1, ?_, CB_A y2, q3, by omega, g0 y3, ?_⟩
  · unfold tlN
    rcases hk with rfl | rfl
    · have y1' : K_X9_needSign fu 59 (mw c2 (pBan 1 b) 1 0) = some (zi 1, c4) := y1
      rw [a1, bd_s, cw8, bd_s]
      dsimp only
      rw [if_neg (show ¬ zi (bi (decide ((if 0 = 0 then 66667 else 1279278) = 66667))) = 0 by decide), ltf, y1', bd_s]
      rfl
    · have y1' : K_X9_needSign fu 59 (mw c2 (pBan 1 b) 1 1) = some (zi 1, c4) := y1
      rw [a1, bd_s, cw8, bd_s]
      dsimp only
      rw [if_pos (show zi (bi (decide ((if 1 = 0 then 66667 else 1279278) = 66667))) = 0 by decide), cw9, bd_s]
      dsimp only
      rw [if_neg (show ¬ zi (bi (decide ((if 1 = 0 then 66667 else 1279278) = 1279278))) = 0 by decide), ltf, y1', bd_s]
      rfl
  · unfold RN
    rw [v0, v1]
    refine ⟨?_, ?_, fun h => by omega, fun h => by omega⟩
    · rw [(g0 y3).1 _ _ (PBr_no (by unfold pBan; omega) (by unfold pBan; omega) (Or.inr rfl))]
      exact hp0
    · rw [y3.1 _ _ (P2_no (by unfold pBan; omega)), rd_mw, if_pos ⟨rfl, rfl⟩]
end QEE
