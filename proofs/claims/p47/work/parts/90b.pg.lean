section PGT
/-- but for the script's place the same -/
def sameW (m m' : Mem) : Prop := ∀ k j, ¬ (k = 0 ∧ j = 10) → rd m' k j = rd m k j
theorem sameW_rf {m : Mem} : sameW m m := fun _ _ _ => rfl
theorem sameW_tr {a b c : Mem} (h1 : sameW a b) (h2 : sameW b c) : sameW a c := fun k j h => (h2 k j h).trans (h1 k j h)
theorem nx_w (L : Nat) (xs : Nat → Int32) (fu : Nat) {a k : Nat} {mem : Mem} (h : rd mem 0 10 = nI a) (ha : a + 1 < 2 ^ 31) (hL : L ≤ 260) (hk : 0 < k) (hk2 : k < 2 ^ 31) : ∃ r m, r < k ∧ KW_nx L xs fu (nI k) mem = some (nI r, m) ∧ sameW mem m ∧ rd m 0 10 = nI (a + 1) := by
  obtain ⟨r, h1, h2⟩ := nx_some L xs fu h ha hL hk hk2
  exact ⟨r, _, h1, h2, fun k j hkj => by rw [rd_mw, if_neg hkj], mw_same _ _ _ _⟩
theorem gBk_nI {k : Nat} (h : k < 10) : gBk (nI k) = some k := by
  unfold gBk
  rw [nI_clamp (by omega), if_pos ⟨nI_pos (by omega), h⟩]
/-- what a pawn's growing does -/
def PwG (np w h o : Nat) (mem : Mem) (tx : List Nat) (np2 : Nat) (mem2 : Mem) (tx2 : List Nat) : Prop := (np2 = np ∧ tx2 = tx ∧ sameW mem mem2) ∨ (np2 = np + 1 ∧ ∃ (px py sd wl : Nat) (m5 : Mem), px < w ∧ py < h ∧ sd < 4 ∧ wl < 10 ∧ sameW mem m5 ∧ mem2 = gM m5 (13 + np) 1 (pwRow (nI px) (nI py) (nI sd) (nI wl)) ∧ tx2 = pwTx np px py sd wl (nI wl) (nI o) tx ∧ (∀ j, j < np → ¬ onC m5 (nI px) (nI py) j) ∧ KW_isAtSide np 0 0 (nI px) (nI py) (nI sd) m5 = some 0)
theorem pawn3_tot {fu np w h o px py sd wl a : Nat} {mem m5 : Mem} {tx : List Nat} (hfu : 5 ≤ fu) (hnp : np < 4) (hw : px < w ∧ w ≤ 6) (hh : py < h ∧ h ≤ 6) (hsd : sd < 4) (hwl : wl < 10) (hs : sameW mem m5) (h10 : rd m5 0 10 = nI a) (hl : tx.length ≤ 300) : ∃ np2 mem2 tx2, KG_pawn3 fu np (nI px) (nI py) (nI sd) (nI o) (nI wl) m5 tx = some (np2, mem2, tx2) ∧ PwG np w h o mem tx np2 mem2 tx2 ∧ rd mem2 0 10 = nI a := by
  obtain ⟨r, hr, hc⟩ := pat_some (np := np) (nb := 0) (fu := fu) (mem := m5) (x := nI px) (y := nI py) (by omega) fu 0 (by omega) (by omega)
  have hp : KW_pawnAt np 0 fu (nI px) (nI py) m5 = some r := hr
  unfold KG_pawn3
  rw [hp]
  show ∃ np2 mem2 tx2, (if r < 0 then _ else some (np, m5, tx)) = some (np2, mem2, tx2) ∧ _
  rcases hc with ⟨rfl, hno⟩ | ⟨j, -, hj, rfl, -⟩
  · obtain ⟨z, hz, hz2⟩ := side_some (np := np) (nb := 0) (fu := fu) (mem := m5) (nI px) (nI py) (nI sd)
    rw [if_pos (by decide), hz]
    show ∃ np2 mem2 tx2, (if z = 0 then _ else some (np, m5, tx)) = some (np2, mem2, tx2) ∧ _
    rcases hz2 with rfl | rfl
    · rw [if_pos rfl]
      unfold KG_pw
      rw [if_pos ⟨hnp, hl⟩, gBk_nI (show px < 10 by omega), gBk_nI (show py < 10 by omega), gBk_nI hwl]
      show ∃ np2 mem2 tx2, gi (nI sd) 4 _ = some (np2, mem2, tx2) ∧ _
      rw [gi_in hsd (by decide), nI_clamp (by omega)]
      refine ⟨_, _, _, rfl, Or.inr ⟨rfl, px, py, sd, wl, m5, hw.1, hh.1, hsd, hwl, hs, rfl, rfl, fun j hj => hno j (Nat.zero_le _) hj, hz⟩, ?_⟩
      show rd (gM m5 (13 + np) 1 _) 0 10 = nI a
      rw [← h10]
      exact congrArg (fun q : Row => q.1 10) (gM_o (by omega) (by decide))
    · rw [if_neg (by decide)]
      exact ⟨_, _, _, rfl, Or.inl ⟨rfl, rfl, hs⟩, h10⟩
  · rw [if_neg (nI_pos (by omega))]
    exact ⟨_, _, _, rfl, Or.inl ⟨rfl, rfl, hs⟩, h10⟩
/-- a pawn grows: the draw always comes to an end, and this is what it does -/
theorem pawn_tot {L : Nat} {xs : Nat → Int32} {fu np w h o a : Nat} {mem : Mem} {tx : List Nat} (hL : L ≤ 260) (hfu : 5 ≤ fu) (hnp : np < 4) (hw : 3 ≤ w ∧ w ≤ 6) (hh : 3 ≤ h ∧ h ≤ 6) (ho : o < 10) (h0 : rd mem 0 0 = nI w) (h1 : rd mem 0 1 = nI h) (h10 : rd mem 0 10 = nI a) (ha : a + 5 < 2 ^ 31) (hl : tx.length ≤ 300) : ∃ np2 mem2 tx2 a2, KG_pawn L xs fu np (nI o) mem tx = some (np2, mem2, tx2) ∧ PwG np w h o mem tx np2 mem2 tx2 ∧ rd mem2 0 10 = nI a2 ∧ a2 ≤ a + 5 := by
  obtain ⟨px, m1, g1, e1, s1, t1⟩ := nx_w L xs fu (k := w) h10 (by omega) hL (by omega) (by omega)
  have q1 : rd m1 0 1 = nI h := (s1 0 1 (by decide)).trans h1
  obtain ⟨py, m2, g2, e2, s2, t2⟩ := nx_w L xs fu (k := h) t1 (by omega) hL (by omega) (by omega)
  obtain ⟨sd, m3, g3, e3, s3, t3⟩ := nx_w L xs fu (k := 4) t2 (by omega) hL (by omega) (by omega)
  obtain ⟨c0, m4, g4, e4, s4, t4⟩ := nx_w L xs fu (k := 2) t3 (by omega) hL (by omega) (by omega)
  have s14 := sameW_tr s1 (sameW_tr s2 (sameW_tr s3 s4))
  unfold KG_pawn
  rw [h0, e1]
  show ∃ np2 mem2 tx2 a2, bd (KW_nx L xs fu (rd m1 0 1) m1) _ = some (np2, mem2, tx2) ∧ _
  rw [q1, e2]
  show ∃ np2 mem2 tx2 a2, bd (KW_nx L xs fu 4 m2) _ = some (np2, mem2, tx2) ∧ _
  rw [show (4 : Int32) = nI 4 from rfl, e3]
  show ∃ np2 mem2 tx2 a2, bd (KW_nx L xs fu 2 m3) _ = some (np2, mem2, tx2) ∧ _
  rw [show (2 : Int32) = nI 2 from rfl, e4]
  show ∃ np2 mem2 tx2 a2, (if nI c0 = 0 then KG_pawn3 fu np (nI px) (nI py) (nI sd) (nI o) (nI o) m4 tx else bd (KW_nx L xs fu 6 m4) (fun w => KG_pawn3 fu np (nI px) (nI py) (nI sd) (nI o) w.1 w.2 tx)) = some (np2, mem2, tx2) ∧ _
  by_cases hc : nI c0 = 0
  · rw [if_pos hc]
    obtain ⟨np2, mem2, tx2, z1, z2, z3⟩ := pawn3_tot (o := o) hfu hnp ⟨g1, hw.2⟩ ⟨g2, hh.2⟩ g3 ho s14 t4 hl
    exact ⟨np2, mem2, tx2, _, z1, z2, z3, by omega⟩
  · rw [if_neg hc]
    obtain ⟨wl, m5, g5, e5, s5, t5⟩ := nx_w L xs fu (k := 6) t4 (by omega) hL (by omega) (by omega)
    rw [show (6 : Int32) = nI 6 from rfl, e5]
    obtain ⟨np2, mem2, tx2, z1, z2, z3⟩ := pawn3_tot (o := o) hfu hnp ⟨g1, hw.2⟩ ⟨g2, hh.2⟩ g3 (show wl < 10 by omega) (sameW_tr s14 s5) t5 hl
    exact ⟨np2, mem2, tx2, _, z1, z2, z3, by omega⟩
end PGT
