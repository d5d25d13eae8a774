section BGT
/-- what a ban's growing does -/
def BnG (np nb w h : Nat) (mem : Mem) (tx : List Nat) (nb2 : Nat) (mem2 : Mem) (tx2 : List Nat) : Prop := nb2 = nb + 1 ∧ ∃ (p k d : Nat) (m5 : Mem) (r : Nat → Int32), p < np ∧ k < 4 ∧ d < 4 ∧ sameW mem m5 ∧ mem2 = gM m5 (14 + np + nb) 2 (r, fun _ => 0) ∧
  ((k = 0 ∧ r = bnRow (nI p) (nI k) (nI d) 0 0 0 0 ∧ tx2 = bnTx p tx ++ tcs 10) ∨ (k = 1 ∧ r = bnRow (nI p) (nI k) (nI d) 0 0 0 0 ∧ tx2 = bnTx p tx ++ tcs 11) ∨
  (k = 2 ∧ ∃ b3 b4 : Nat, 2 ≤ b3 ∧ b3 < 6 ∧ b4 < b3 ∧ r = upd (upd (bnRow (nI p) (nI k) (nI d) 0 0 0 0) 3 (nI b3)) 4 (nI b4) ∧ tx2 = bnTx p tx ++ tcs (19 + d) ++ tcs 12 ++ [48 + b3] ++ tcs 13 ++ [48 + b4] ++ tcs 3) ∨
  (k = 3 ∧ ∃ x1 y1 x2 y2 : Nat, x1 < w ∧ y1 < h ∧ x2 < w ∧ y2 < h ∧ r = upd (upd (upd (upd (bnRow (nI p) (nI k) (nI d) 0 0 0 0) 3 (nI x1)) 4 (nI y1)) 5 (nI x2)) 6 (nI y2) ∧ tx2 = bnTx p tx ++ tcs (19 + d) ++ tcs 14 ++ [48 + x1] ++ tcs 2 ++ [48 + y1] ++ tcs 15 ++ [48 + x2] ++ tcs 2 ++ [48 + y2] ++ tcs 3))
theorem bf_10 {np nb a : Nat} {mem : Mem} {r : Nat → Int32} (h : rd mem 0 10 = nI a) : rd (gM mem (14 + np + nb) 2 (r, fun _ => 0)) 0 10 = nI a := by
  rw [← h]
  exact congrArg (fun q : Row => q.1 10) (gM_o (by omega) (by decide))
theorem ban_tot {L : Nat} {xs : Nat → Int32} {fu np nb w h a : Nat} {mem : Mem} {tx : List Nat} (hL : L ≤ 260) (hnp : 0 < np ∧ np ≤ 4) (hnb : nb < 4) (hw : 3 ≤ w ∧ w ≤ 6) (hh : 3 ≤ h ∧ h ≤ 6) (h0 : rd mem 0 0 = nI w) (h1 : rd mem 0 1 = nI h) (h10 : rd mem 0 10 = nI a) (ha : a + 7 < 2 ^ 31) (hl : tx.length ≤ 300) : ∃ nb2 mem2 tx2 a2, KG_ban L xs fu np nb mem tx = some (nb2, mem2, tx2) ∧ BnG np nb w h mem tx nb2 mem2 tx2 ∧ rd mem2 0 10 = nI a2 ∧ a2 ≤ a + 7 := by
  obtain ⟨p, m1, g1, e1, s1, t1⟩ := nx_w L xs fu (k := np) h10 (by omega) hL (by omega) (by omega)
  obtain ⟨k, m2, g2, e2, s2, t2⟩ := nx_w L xs fu (k := 4) t1 (by omega) hL (by omega) (by omega)
  obtain ⟨d, m3, g3, e3, s3, t3⟩ := nx_w L xs fu (k := 4) t2 (by omega) hL (by omega) (by omega)
  have s13 := sameW_tr s1 (sameW_tr s2 s3)
  have q0 : rd m3 0 0 = nI w := (s13 0 0 (by decide)).trans h0
  have q1 : rd m3 0 1 = nI h := (s13 0 1 (by decide)).trans h1
  unfold KG_ban
  rw [if_pos ⟨hnp.1, hnp.2, hnb, hl⟩, e1]
  show ∃ nb2 mem2 tx2 a2, bd (KW_nx L xs fu 4 m1) _ = some (nb2, mem2, tx2) ∧ _
  rw [show (4 : Int32) = nI 4 from rfl, e2]
  show ∃ nb2 mem2 tx2 a2, bd (KW_nx L xs fu 4 m2) _ = some (nb2, mem2, tx2) ∧ _
  rw [show (4 : Int32) = nI 4 from rfl, e3]
  show ∃ nb2 mem2 tx2 a2, bd (gBk (nI p)) (fun kp => KG_b L xs fu np nb (nI p) (nI k) (nI d) m3 (bnTx kp tx)) = some (nb2, mem2, tx2) ∧ _
  rw [gBk_nI (by omega)]
  show ∃ nb2 mem2 tx2 a2, KG_b L xs fu np nb (nI p) (nI k) (nI d) m3 (bnTx p tx) = some (nb2, mem2, tx2) ∧ _
  unfold KG_b KG_bf
  rcases (show k = 0 ∨ k = 1 ∨ k = 2 ∨ k = 3 by omega) with rfl | rfl | rfl | rfl
  · rw [if_pos (by decide)]
    exact ⟨_, _, _, _, rfl, ⟨rfl, p, 0, d, m3, _, g1, g2, g3, s13, rfl, Or.inl ⟨rfl, rfl, rfl⟩⟩, bf_10 t3, by omega⟩
  · rw [if_neg (by decide), if_pos (by decide)]
    exact ⟨_, _, _, _, rfl, ⟨rfl, p, 1, d, m3, _, g1, g2, g3, s13, rfl, Or.inr (Or.inl ⟨rfl, rfl, rfl⟩)⟩, bf_10 t3, by omega⟩
  · rw [if_neg (by decide), if_neg (by decide), if_pos (by decide)]
    obtain ⟨b3, m4, g4, e4, s4, t4⟩ := nx_w L xs fu (k := 4) t3 (by omega) hL (by omega) (by omega)
    obtain ⟨b4, m5, g5, e5, s5, t5⟩ := nx_w L xs fu (k := 2 + b3) t4 (by omega) hL (by omega) (by omega)
    have ee : (2 : Int32) + nI b3 = nI (2 + b3) := nI_add 2 b3
    unfold KG_b2 KG_bf
    rw [show (4 : Int32) = nI 4 from rfl, e4]
    show ∃ nb2 mem2 tx2 a2, bd (KW_nx L xs fu ((2 : Int32) + nI b3) m4) _ = some (nb2, mem2, tx2) ∧ _
    rw [ee, e5]
    show ∃ nb2 mem2 tx2 a2, bd (gBk (nI (2 + b3))) _ = some (nb2, mem2, tx2) ∧ _
    rw [gBk_nI (by omega)]
    show ∃ nb2 mem2 tx2 a2, bd (gBk (nI b4)) _ = some (nb2, mem2, tx2) ∧ _
    rw [gBk_nI (by omega)]
    show ∃ nb2 mem2 tx2 a2, gi (nI d) 4 _ = some (nb2, mem2, tx2) ∧ _
    rw [gi_in g3 (by decide), nI_clamp (by omega)]
    exact ⟨_, _, _, _, rfl, ⟨rfl, p, 2, d, m5, _, g1, g2, g3, sameW_tr s13 (sameW_tr s4 s5), rfl, Or.inr (Or.inr (Or.inl ⟨rfl, 2 + b3, b4, by omega, by omega, by omega, rfl, rfl⟩))⟩, bf_10 t5, by omega⟩
  · rw [if_neg (by decide), if_neg (by decide), if_neg (by decide), if_pos (by decide)]
    obtain ⟨x1, m4, g4, e4, s4, t4⟩ := nx_w L xs fu (k := w) t3 (by omega) hL (by omega) (by omega)
    obtain ⟨y1, m5, g5, e5, s5, t5⟩ := nx_w L xs fu (k := h) t4 (by omega) hL (by omega) (by omega)
    obtain ⟨x2, m6, g6, e6, s6, t6⟩ := nx_w L xs fu (k := w) t5 (by omega) hL (by omega) (by omega)
    obtain ⟨y2, m7, g7, e7, s7, t7⟩ := nx_w L xs fu (k := h) t6 (by omega) hL (by omega) (by omega)
    unfold KG_b3 KG_bf
    rw [q0, e4]
    show ∃ nb2 mem2 tx2 a2, bd (KW_nx L xs fu (rd m4 0 1) m4) _ = some (nb2, mem2, tx2) ∧ _
    rw [(s4 0 1 (by decide)).trans q1, e5]
    show ∃ nb2 mem2 tx2 a2, bd (KW_nx L xs fu (rd m5 0 0) m5) _ = some (nb2, mem2, tx2) ∧ _
    rw [((sameW_tr s4 s5) 0 0 (by decide)).trans q0, e6]
    show ∃ nb2 mem2 tx2 a2, bd (KW_nx L xs fu (rd m6 0 1) m6) _ = some (nb2, mem2, tx2) ∧ _
    rw [((sameW_tr s4 (sameW_tr s5 s6)) 0 1 (by decide)).trans q1, e7]
    show ∃ nb2 mem2 tx2 a2, bd (gBk (nI x1)) _ = some (nb2, mem2, tx2) ∧ _
    rw [gBk_nI (by omega)]
    show ∃ nb2 mem2 tx2 a2, bd (gBk (nI y1)) _ = some (nb2, mem2, tx2) ∧ _
    rw [gBk_nI (by omega)]
    show ∃ nb2 mem2 tx2 a2, bd (gBk (nI x2)) _ = some (nb2, mem2, tx2) ∧ _
    rw [gBk_nI (by omega)]
    show ∃ nb2 mem2 tx2 a2, bd (gBk (nI y2)) _ = some (nb2, mem2, tx2) ∧ _
    rw [gBk_nI (by omega)]
    show ∃ nb2 mem2 tx2 a2, gi (nI d) 4 _ = some (nb2, mem2, tx2) ∧ _
    rw [gi_in g3 (by decide), nI_clamp (by omega)]
    exact ⟨_, _, _, _, rfl, ⟨rfl, p, 3, d, m7, _, g1, g2, g3, sameW_tr s13 (sameW_tr s4 (sameW_tr s5 (sameW_tr s6 s7))), rfl, Or.inr (Or.inr (Or.inr ⟨rfl, x1, y1, x2, y2, g4, g5, g6, g7, rfl, rfl⟩))⟩, bf_10 t7, by omega⟩
end BGT
