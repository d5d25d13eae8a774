section GHD
variable {D : va_G} {Z : (Nat → Prop) → State → Heap → Prop}
variable {tO tD tA tU tG L np nb eD tS sB : Nat} {xs : Nat → Int32} {sK sV uK uV : Nat → Nat} {ca ad : Nat → Nat} {sb : Nat} {mem : Mem}
theorem gE_iE (l : Launch) (hn : np ≤ 4) : CJ l D (tyL ca) (nW np nb) ad (cWd ca ad np nb eD tS sB) Z yJx4a65c_isEmpty_aae02 cJx4a65c_isEmpty_aae02 1 .boolean rmA0 [.ref (ad 1)] mem (if np = 0 then 1 else 0) mem := by
  refine xstart_i (own := RJx4a65c) rfl (by decide) (Nat.le_of_ble_eq_true rfl) ?_
  intro p e s m args below meth c Q hQ X
  refine x_aload_n X 0 dJx4a65c_isEmpty_aae02_0 rfl rfl 1 rfl ?_
  refine x_getV (v := .int (Int32.ofNat np)) X 1 nw_1 kw_1 (T := TJx4a65c) (N := 3) rfl in_Jx4a65c 2 (by decide) kF_Jx4a65c_48 rfl rfl dJx4a65c_isEmpty_aae02_1 4 rfl ?_
  by_cases h : np = 0
  · refine x_if_ne (A := some ()) (B := none) (res := ()) X (if_pos (by rw [h]; rfl)) 11 7 dJx4a65c_isEmpty_aae02_4 (by decide) rfl (fun _ => ?_) (fun z => nomatch z)
    refine x_iconst X 1 dJx4a65c_isEmpty_aae02_7 rfl 8 rfl ?_
    refine x_goto X 12 dJx4a65c_isEmpty_aae02_8 (by decide) ?_
    exact x_iret X hQ (by rw [if_pos h]) rfl rfl (Nat.le_refl _) (Nat.le_refl _) dJx4a65c_isEmpty_aae02_12
  · refine x_if_ne (A := none) (B := some ()) (res := ()) X (if_neg (nI_ne0 (by omega) (by omega))) 11 7 dJx4a65c_isEmpty_aae02_4 (by decide) rfl (fun z => nomatch z) (fun _ => ?_)
    refine x_iconst X 0 dJx4a65c_isEmpty_aae02_11 rfl 12 rfl ?_
    exact x_iret X hQ (by rw [if_neg h]) rfl rfl (Nat.le_refl _) (Nat.le_refl _) dJx4a65c_isEmpty_aae02_12
abbrev RG : Type := Nat × Nat × Mem × List Nat
def KG_blocks (L : Nat) (xs : Nat → Int32) (fu np nb : Nat) : Nat → Int32 → Mem → List Nat → Option RG
  | 0, _, _, _ => none
  | f + 1, k, mem, tx => if 0 < k then (if np ≤ 4 ∧ nb ≤ 4 ∧ (np = 0 → nb = 0) then bd (KG_block L xs fu np nb mem tx) (fun p => KG_blocks L xs fu np nb f (k + (-1)) p.1 p.2) else none) else some (np, nb, mem, tx)
def KG_bl0 (L : Nat) (xs : Nat → Int32) (fu np nb : Nat) (mem : Mem) (tx : List Nat) : Option RG := bd (KW_nx L xs fu 5 mem) (fun k => KG_blocks L xs fu np nb 6 k.1 k.2 tx)
def KG_bans (L : Nat) (xs : Nat → Int32) (fu np : Nat) : Nat → Int32 → Nat → Mem → List Nat → Option RG
  | 0, _, _, _, _ => none
  | f + 1, k, nb, mem, tx => if 0 < k then (if np ≤ 4 then (if np = 0 then KG_bl0 L xs fu np nb mem tx else bd (KG_ban L xs fu np nb mem tx) (fun r => KG_bans L xs fu np f (k + (-1)) r.1 r.2.1 r.2.2)) else none) else KG_bl0 L xs fu np nb mem tx
def KG_bn0 (L : Nat) (xs : Nat → Int32) (fu np : Nat) (mem : Mem) (tx : List Nat) : Option RG := bd (KW_nx L xs fu 4 mem) (fun k => KG_bans L xs fu np 5 k.1 0 k.2 tx)
def KG_pawns (L : Nat) (xs : Nat → Int32) (fu : Nat) (own : Int32) : Nat → Int32 → Nat → Mem → List Nat → Option RG
  | 0, _, _, _, _ => none
  | f + 1, k, np, mem, tx => if 0 < k then (if np ≤ 4 then bd (KG_pawn L xs fu np own mem tx) (fun r => KG_pawns L xs fu own f (k + (-1)) r.1 r.2.1 r.2.2) else none) else KG_bn0 L xs fu np mem tx
def KG_p0 (L : Nat) (xs : Nat → Int32) (fu : Nat) (own : Int32) (mem : Mem) (tx : List Nat) : Option RG := bd (KW_nx L xs fu 4 mem) (fun k => KG_pawns L xs fu own 6 (1 + k.1) 0 k.2 tx)
def KG_w0 (L : Nat) (xs : Nat → Int32) (fu : Nat) (mem : Mem) (tx : List Nat) : Option RG :=
  bd (KW_nx L xs fu 2 mem) (fun c => if c.1 = 0 then bd (KW_nx L xs fu 8 c.2) (fun o => bd (gBk o.1) (fun ko => bd (KW_nx L xs fu 2 o.2) (fun z => KG_p0 L xs fu o.1 z.2 (tx ++ tcs 4 ++ [48 + ko] ++ tcs (if z.1 = 0 then 5 else 3))))) else KG_p0 L xs fu 5 c.2 tx)
def mem0 : Mem := fun k => if k = 0 then (fun j => if j < 2 then 5 else 0, fun _ => 0) else z0
def KG_grown (L : Nat) (xs : Nat → Int32) (fu : Nat) : Option RG :=
  bd (KW_nx L xs fu 3 mem0) (fun b => if 0 < b.1 then bd (KW_nx L xs fu 4 b.2) (fun w => bd (gBk (3 + w.1)) (fun kw => bd (KW_nx L xs fu 4 (mw w.2 0 0 (3 + w.1))) (fun h => bd (gBk (3 + h.1)) (fun kh => KG_w0 L xs fu (mw h.2 0 1 (3 + h.1)) ([] ++ tcs 1 ++ [48 + kw] ++ tcs 2 ++ [48 + kh] ++ tcs 3))))) else KG_w0 L xs fu b.2 [])
def rw_grown : Room := { frames := 9, cells := 760, slots := 300000, locals := 300 }
/-- what grown gives: the world with its text -/
def QGn (ca : Nat → Nat) (eD sB : Nat) (res : RG) (v : Option Value) (w : va_W) : Prop := ∃ (ad : Nat → Nat) (str v0 : Nat) (g : Nat → Int32), v = some (.ref (ad 0)) ∧ w = wf (nW res.1 res.2.1) ad (cWd ca ad res.1 res.2.1 eD str sB) res.2.2.1 ++ [(str, .inr (13, [.ref v0, .int 0, .int 0, .int 0])), (v0, .inl (ca 1, res.2.2.2.length, .inl g))] ∧ (∀ i, fits .byte (.int (g i)) = true) ∧ ∀ j c, res.2.2.2[j]? = some c → g j = nI c
def ad0 (w0 l1 l2 q8 : Nat) (r8 : Nat → Nat) : Nat → Nat := fun k => if k = 0 then w0 else if k = 1 then l1 else if k = 2 then l2 else if k = 3 then q8 else r8 (k - 4)
theorem grw_0 {w0 l1 l2 q8 : Nat} {r8 : Nat → Nat} : wf (nW 0 0) (ad0 w0 l1 l2 q8 r8) (cWd ca (ad0 w0 l1 l2 q8 r8) 0 0 eD tS sB) mem0 = (w0, .inr (12, [.int 5, .int 5, .int 0, .int 0, .int 0, .ref l1, .ref l2, .ref q8, .ref tS, .ref sB, .int 0])) :: ([(l1, .inr (16, [.int 0, .ref eD, .int 0])), (l2, .inr (16, [.int 0, .ref eD, .int 0]))] ++ exD ca q8 r8 8 8 (fun _ _ => 0)) := by
  let G : Nat → Nat × va_E := fun k => if k = 0 then (w0, .inr (12, [.int 5, .int 5, .int 0, .int 0, .int 0, .ref l1, .ref l2, .ref q8, .ref tS, .ref sB, .int 0])) else if k = 1 then (l1, .inr (16, [.int 0, .ref eD, .int 0])) else if k = 2 then (l2, .inr (16, [.int 0, .ref eD, .int 0])) else if k = 3 then (q8, .inl (ca 6, 8, .inr (.inr (.inr (.inr (fun i => if i < 8 then some (r8 i) else none)))))) else (r8 (k - 4), .inl (ca 0, 8, .inl (fun _ => 0)))
  have hG : (List.range 12).map G = (w0, .inr (12, [.int 5, .int 5, .int 0, .int 0, .int 0, .ref l1, .ref l2, .ref q8, .ref tS, .ref sB, .int 0])) :: ([(l1, .inr (16, [.int 0, .ref eD, .int 0])), (l2, .inr (16, [.int 0, .ref eD, .int 0]))] ++ exD ca q8 r8 8 8 (fun _ _ => 0)) := rfl
  rw [← hG]
  refine List.map_congr_left (fun k hk => ?_)
  have hk : k < 12 := List.mem_range.mp hk
  rcases (show k = 3 ∨ k = 0 ∨ k = 1 ∨ k = 2 ∨ k = 4 ∨ k = 5 ∨ k = 6 ∨ k = 7 ∨ k = 8 ∨ k = 9 ∨ k = 10 ∨ k = 11 from by omega) with rfl | rfl | rfl | rfl | rfl | rfl | rfl | rfl | rfl | rfl | rfl | rfl
  · show (q8, cWd ca (ad0 w0 l1 l2 q8 r8) 0 0 eD tS sB 3 (mem0 3)) = (q8, _)
    rw [kw_3]
    have e : (fun i => if i < 8 then some (ad0 w0 l1 l2 q8 r8 (4 + i)) else none) = (fun i => if i < 8 then some (r8 i) else none) := by
      funext i
      by_cases hi : i < 8
      · rw [if_pos hi, if_pos hi]
        unfold ad0
        rw [if_neg (by omega), if_neg (by omega), if_neg (by omega), if_neg (by omega), show 4 + i - 4 = i by omega]
      · rw [if_neg hi, if_neg hi]
    rw [e]
  all_goals rfl
theorem grw_S {str : Nat} (ex : va_W) : (wf (nW np nb) ad (cWd ca ad np nb eD tS sB) mem ++ ex).set 0 (ad 0, .inr (12, ([.int ((mem 0).1 0), .int ((mem 0).1 1), .int ((mem 0).1 2), .int ((mem 0).1 3), .int ((mem 0).1 4), .ref (ad 1), .ref (ad 2), .ref (ad 3), .ref tS, .ref sB, .int ((mem 0).1 10)] : List Value).set 8 (.ref str))) = wf (nW np nb) ad (cWd ca ad np nb eD str sB) mem ++ ex := by
  obtain ⟨n, hn⟩ : ∃ n, nW np nb = n + 1 := ⟨nW np nb - 1, by have := nw_0 (np := np) (nb := nb); omega⟩
  have e : ∀ t, wf (nW np nb) ad (cWd ca ad np nb eD t sB) mem = (ad 0, cWd ca ad np nb eD t sB 0 (mem 0)) :: (List.range n).map (fun k => (ad (k + 1), cWd ca ad np nb eD t sB (k + 1) (mem (k + 1)))) := fun t => by
    unfold wf
    rw [hn, List.range_succ_eq_map, List.map_cons, List.map_map]
    rfl
  rw [e tS, e str, kw_0, kw_0]
  rfl
set_option maxRecDepth 100000 in
theorem grw_206 {k : Int32} {ad : Nat → Nat} {b : BLD} {tx : List Nat} {w0 : Nat} {ow : Int32} {res : RG} (l : Launch) (hZ : ZOK Z) (hO : ZO Z tO sK sV) (hV : ZVO Z) (hW : ZWO Z tA tU sB L xs) (hU : ZUO Z uK uV tD) (hG : ∀ A U H, Z A U H → zDg tG A U H) (hE : ∀ A U H, Z A U H → zE eD A U H) (hw0 : ad 0 = w0) (hb : SBK b tx) (hr : (np, nb, mem, tx) = res) {p : Program} {e : Env} {s : State} {m : MethodId} {args : Array Value} {below : List Frame} {meth : Method} {c : Code} {Q : State → Prop} {wc : va_W} {Qf : Option Value → va_W → Prop} (hQ : Q = MQ below (QL D wc Qf s.heap.size) args s rw_grown.cells rw_grown.slots (va_A wc s.heap.size)) (hf : ∀ v w, QGn ca eD sB res v w → Qf v w) (X : CN D (tyL ca) (va_A wc s.heap.size) Z p s m args meth c cX12_grown 5 RX12 (some (.object "PawnRaceLaw$World"))) : NN D (va_A wc s.heap.size) p l e rw_grown s m args below meth c 5 750 296000 Q (wf (nW np nb) ad (cWd ca ad np nb eD tS sB) mem ++ sbw ca sb b tx.length) 206 [(4, .int k), (3, .int ow), (2, .ref sb), (1, .ref w0), (0, .ref sB)] [] := by
  subst hw0; subst hr
  refine q_aload_n X 3 dX12_grown_206 rfl rfl 207 rfl ?_
  refine q_aload_n X 2 dX12_grown_207 rfl rfl 208 rfl ?_
  refine y_toS X hZ hO hV hb kL_X12_92 ⟨Nat.le_of_ble_eq_true rfl, Nat.le_of_ble_eq_true rfl⟩ (Nat.le_of_ble_eq_true rfl) ⟨Nat.le_of_ble_eq_true rfl, Nat.le_of_ble_eq_true rfl⟩ dX12_grown_208 211 rfl ?_
  intro str v0 g hg1 hg2
  refine q_put (v := .ref str) X 0 (wf (nW np nb) ad (cWd ca ad np nb eD str sB) mem ++ [(str, .inr (13, [.ref v0, .int 0, .int 0, .int 0])), (v0, .inl (ca 1, tx.length, .inl g))]) ((wx_at nw_0).trans (by rw [kw_0])) (T := TX12) (N := 11) rfl in_X12 tyX12 tyX12_ok nmX12 8 (by decide) kF_X12_33 rfl rfl rfl rfl (Nat.le_of_ble_eq_true rfl) (grw_S _) dX12_grown_211 214 rfl ?_
  refine q_aload_n X 3 dX12_grown_214 rfl rfl 215 rfl ?_
  exact q_aret X (Or.inl ⟨_, rfl⟩) hQ (hf _ _ ⟨ad, str, v0, g, rfl, rfl, hg1, hg2⟩) (Nat.le_of_ble_eq_true rfl) (Nat.le_of_ble_eq_true rfl) dX12_grown_215
set_option maxRecDepth 100000 in
theorem grw_190 {np nb : Nat} {w0 : Nat} {ow : Int32} {fu : Nat} {res : RG} (l : Launch) (hZ : ZOK Z) (hO : ZO Z tO sK sV) (hV : ZVO Z) (hW : ZWO Z tA tU sB L xs) (hU : ZUO Z uK uV tD) (hG : ∀ A U H, Z A U H → zDg tG A U H) (hE : ∀ A U H, Z A U H → zE eD A U H) {p : Program} {e : Env} {s : State} {m : MethodId} {args : Array Value} {below : List Frame} {meth : Method} {c : Code} {Q : State → Prop} {wc : va_W} {Qf : Option Value → va_W → Prop} (hQ : Q = MQ below (QL D wc Qf s.heap.size) args s rw_grown.cells rw_grown.slots (va_A wc s.heap.size)) (hf : ∀ v w, QGn ca eD sB res v w → Qf v w) (X : CN D (tyL ca) (va_A wc s.heap.size) Z p s m args meth c cX12_grown 5 RX12 (some (.object "PawnRaceLaw$World")))
    (f : Nat) : ∀ {k : Int32} {mem : Mem} {tx : List Nat} {ad : Nat → Nat} {b : BLD} {cells slots : Nat}, KG_blocks L xs fu np nb f k mem tx = some res → ad 0 = w0 → SBK b tx → cells + f * 60 ≤ 750 → slots + f * 6000 ≤ 296000 → NN D (va_A wc s.heap.size) p l e rw_grown s m args below meth c 5 cells slots Q (wf (nW np nb) ad (cWd ca ad np nb eD tS sB) mem ++ sbw ca sb b tx.length) 190 [(4, .int k), (3, .int ow), (2, .ref sb), (1, .ref w0), (0, .ref sB)] [] := by
  induction f with
  | zero =>
    intro k mem tx ad b cells slots hF
    cases hF
  | succ f ih =>
    intro k mem tx ad b cells slots hF hw0 hb hc hs
    subst hw0
    rw [KG_blocks] at hF
    by_cases hk : 0 < k
    · rw [if_pos hk] at hF
      by_cases hgu : np ≤ 4 ∧ nb ≤ 4 ∧ (np = 0 → nb = 0)
      · rw [if_pos hgu] at hF
        obtain ⟨⟨mem2, tx2⟩, ho, hF⟩ := bd_some hF
        refine q_iload X 0 dX12_grown_190 rfl 192 rfl ?_
        refine q_if_le (A1 := some ()) (B1 := none) (res := ()) X (if_pos hk) 206 195 dX12_grown_192 (by decide) rfl (fun _ => ?_) (fun z => nomatch z)
        refine q_aload_n X 3 dX12_grown_195 rfl rfl 196 rfl ?_
        refine q_aload_n X 2 dX12_grown_196 rfl rfl 197 rfl ?_
        refine q_callV (rm := rw_block) X hZ [.ref sb] [] (List.append_nil _).symm 0 ((wx_at nw_0).trans (by rw [kw_0])) (q := (RX12, TX12, 11)) rfl rfl rfl kB_X12_block kL_X12_89 (cg_block l hZ hO hV hW hU hG hE hgu ho hb) rfl ⟨Nat.le_of_ble_eq_true rfl, Nat.le_of_ble_eq_true rfl⟩ (Nat.le_of_ble_eq_true rfl) ⟨by show cells + 60 ≤ 760; omega, by show slots + 6000 ≤ 300000; omega⟩ dX12_grown_197 200 rfl ?_
        intro v w1 hq
        obtain ⟨rfl, ad2, b2, rfl, hb2, ha2⟩ := hq
        rw [List.append_nil]
        refine q_iinc X 0 (k + (-1)) [(4, .int (k + (-1))), (3, .int ow), (2, .ref sb), (1, .ref (ad 0)), (0, .ref sB)] dX12_grown_200 rfl rfl (by decide) rfl 203 rfl ?_
        refine q_goto X 190 dX12_grown_203 (by decide) ?_
        exact ih (k := k + (-1)) (mem := mem2) (tx := tx2) (ad := ad2) (b := b2) (cells := cells + 60) (slots := slots + 6000) hF (by rw [ha2 0 nw_0]) hb2 (by omega) (by omega)
      · rw [if_neg hgu] at hF
        cases hF
    · rw [if_neg hk] at hF
      refine q_iload X 0 dX12_grown_190 rfl 192 rfl ?_
      refine q_if_le (A1 := none) (B1 := some ()) (res := ()) X (if_neg hk) 206 195 dX12_grown_192 (by decide) rfl (fun z => nomatch z) (fun _ => ?_)
      refine q_wd (k := 750) (k2 := 296000) (by omega) (by omega) ?_
      exact grw_206 l hZ hO hV hW hU hG hE rfl hb (o_inj hF) hQ hf X

set_option maxRecDepth 100000 in
theorem grw_183 {np nb : Nat} {k : Int32} {ad : Nat → Nat} {b : BLD} {tx : List Nat} {w0 : Nat} {ow : Int32} {fu : Nat} {res : RG} (l : Launch) (hZ : ZOK Z) (hO : ZO Z tO sK sV) (hV : ZVO Z) (hW : ZWO Z tA tU sB L xs) (hU : ZUO Z uK uV tD) (hG : ∀ A U H, Z A U H → zDg tG A U H) (hE : ∀ A U H, Z A U H → zE eD A U H) (hw0 : ad 0 = w0) (hF : KG_bl0 L xs fu np nb mem tx = some res) (hb : SBK b tx) {p : Program} {e : Env} {s : State} {m : MethodId} {args : Array Value} {below : List Frame} {meth : Method} {c : Code} {Q : State → Prop} {wc : va_W} {Qf : Option Value → va_W → Prop} (hQ : Q = MQ below (QL D wc Qf s.heap.size) args s rw_grown.cells rw_grown.slots (va_A wc s.heap.size)) (hf : ∀ v w, QGn ca eD sB res v w → Qf v w) (X : CN D (tyL ca) (va_A wc s.heap.size) Z p s m args meth c cX12_grown 5 RX12 (some (.object "PawnRaceLaw$World"))) : NN D (va_A wc s.heap.size) p l e rw_grown s m args below meth c 5 390 260000 Q (wf (nW np nb) ad (cWd ca ad np nb eD tS sB) mem ++ sbw ca sb b tx.length) 183 [(4, .int k), (3, .int ow), (2, .ref sb), (1, .ref w0), (0, .ref sB)] [] := by
  subst hw0
  unfold KG_bl0 at hF
  refine q_aload_n X 3 dX12_grown_183 rfl rfl 184 rfl ?_
  refine q_iconst X 5 dX12_grown_184 rfl 185 rfl ?_
  obtain ⟨⟨k5, m5⟩, h5, hF⟩ := bd_some hF
  dsimp only at hF
  refine y_call X hZ [.int 5] rfl rfl kB_X12_next kL_X12_54 (cw_nx l hZ hW fu h5) rfl ⟨Nat.le_of_ble_eq_true rfl, Nat.le_of_ble_eq_true rfl⟩ (Nat.le_of_ble_eq_true rfl) ⟨Nat.le_of_ble_eq_true rfl, Nat.le_of_ble_eq_true rfl⟩ dX12_grown_185 188 rfl ?_
  refine q_istore X [(4, .int k5), (3, .int ow), (2, .ref sb), (1, .ref (ad 0)), (0, .ref sB)] dX12_grown_188 (by decide) rfl 190 rfl ?_
  refine q_wd (k := 390) (k2 := 260000) (Nat.le_of_ble_eq_true rfl) (Nat.le_of_ble_eq_true rfl) ?_
  exact grw_190 l hZ hO hV hW hU hG hE hQ hf X 6 (k := k5) (mem := m5) (tx := tx) (ad := ad) (b := b) hF rfl hb (by decide) (by decide)
set_option maxRecDepth 100000 in
theorem grw_155 {w0 : Nat} {ow : Int32} {fu : Nat} {res : RG} (l : Launch) (hZ : ZOK Z) (hO : ZO Z tO sK sV) (hV : ZVO Z) (hW : ZWO Z tA tU sB L xs) (hU : ZUO Z uK uV tD) (hG : ∀ A U H, Z A U H → zDg tG A U H) (hE : ∀ A U H, Z A U H → zE eD A U H) {p : Program} {e : Env} {s : State} {m : MethodId} {args : Array Value} {below : List Frame} {meth : Method} {c : Code} {Q : State → Prop} {wc : va_W} {Qf : Option Value → va_W → Prop} (hQ : Q = MQ below (QL D wc Qf s.heap.size) args s rw_grown.cells rw_grown.slots (va_A wc s.heap.size)) (hf : ∀ v w, QGn ca eD sB res v w → Qf v w) (X : CN D (tyL ca) (va_A wc s.heap.size) Z p s m args meth c cX12_grown 5 RX12 (some (.object "PawnRaceLaw$World")))
    (f : Nat) : ∀ {k : Int32} {nb : Nat} {mem : Mem} {tx : List Nat} {ad : Nat → Nat} {b : BLD} {cells slots : Nat}, KG_bans L xs fu np f k nb mem tx = some res → ad 0 = w0 → SBK b tx → cells + f * 30 ≤ 390 → slots + f * 20000 ≤ 260000 → NN D (va_A wc s.heap.size) p l e rw_grown s m args below meth c 5 cells slots Q (wf (nW np nb) ad (cWd ca ad np nb eD tS sB) mem ++ sbw ca sb b tx.length) 155 [(4, .int k), (3, .int ow), (2, .ref sb), (1, .ref w0), (0, .ref sB)] [] := by
  induction f with
  | zero =>
    intro k nb mem tx ad b cells slots hF
    cases hF
  | succ f ih =>
    intro k nb mem tx ad b cells slots hF hw0 hb hc hs
    subst hw0
    rw [KG_bans] at hF
    by_cases hk : 0 < k
    · rw [if_pos hk] at hF
      by_cases hgu : np ≤ 4
      · rw [if_pos hgu] at hF
        refine q_iload X 0 dX12_grown_155 rfl 157 rfl ?_
        refine q_if_le (A1 := some ()) (B1 := none) (res := ()) X (if_pos hk) 183 160 dX12_grown_157 (by decide) rfl (fun _ => ?_) (fun z => nomatch z)
        refine q_aload_n X 3 dX12_grown_160 rfl rfl 161 rfl ?_
        refine y_getV (v := .ref (ad 1)) X 0 nw_0 kw_0 (T := TX12) (N := 11) rfl in_X12 5 (by decide) kF_X12_19 rfl rfl dX12_grown_161 164 rfl ?_
        refine q_callF (rm := rmA0) X hZ [] (sbw ca sb b tx.length) rfl 1 ((wx_at nw_1).trans (by rw [kw_1])) (q := (RJx4a65c, TJx4a65c, 3)) rfl rfl kFB_isEmpty kL_X12_79 ((hW _ _ _ X.2.2.2.2.2).2.2.2.2.1 ("java/util/ArrayList", yI_isEmpty, yJx4a65c_isEmpty_aae02) (List.mem_of_getElem? (i := 3) rfl)) (lc_i (gE_iE l hgu)) rfl ⟨Nat.le_of_ble_eq_true rfl, Nat.le_of_ble_eq_true rfl⟩ (Nat.le_of_ble_eq_true rfl) ⟨by show cells + 0 ≤ 760; omega, by show slots + 0 ≤ 300000; omega⟩ dX12_grown_164 169 rfl ?_
        intro v w1 hq
        obtain ⟨rfl, rfl⟩ := hq
        by_cases hp : np = 0
        · rw [if_pos hp] at hF
          refine q_if_ne (A1 := none) (B1 := some ()) (res := ()) X (if_neg (by rw [if_pos hp]; decide)) 183 172 dX12_grown_169 (by decide) rfl (fun z => nomatch z) (fun _ => ?_)
          refine q_wd (k := 390) (k2 := 260000) (by show cells + 0 ≤ 390; omega) (by show slots + 0 ≤ 260000; omega) ?_
          exact grw_183 l hZ hO hV hW hU hG hE rfl hF hb hQ hf X
        · rw [if_neg hp] at hF
          obtain ⟨⟨nb2, mem2, tx2⟩, ho, hF⟩ := bd_some hF
          refine q_if_ne (A1 := some ()) (B1 := none) (res := ()) X (if_pos (by rw [if_neg hp])) 183 172 dX12_grown_169 (by decide) rfl (fun _ => ?_) (fun z => nomatch z)
          refine q_aload_n X 3 dX12_grown_172 rfl rfl 173 rfl ?_
          refine q_aload_n X 2 dX12_grown_173 rfl rfl 174 rfl ?_
          refine q_callV (rm := rw_ban) X hZ [.ref sb] [] (List.append_nil _).symm 0 ((wx_at nw_0).trans (by rw [kw_0])) (q := (RX12, TX12, 11)) rfl rfl rfl kB_X12_ban kL_X12_85 (cg_ban l hZ hO hV hW hU hG hE ho hb) rfl ⟨Nat.le_of_ble_eq_true rfl, Nat.le_of_ble_eq_true rfl⟩ (Nat.le_of_ble_eq_true rfl) ⟨by show cells + 0 + 30 ≤ 760; omega, by show slots + 0 + 20000 ≤ 300000; omega⟩ dX12_grown_174 177 rfl ?_
          intro v w1 hq
          obtain ⟨rfl, ad2, b2, rfl, hb2, ha2⟩ := hq
          rw [List.append_nil]
          refine q_iinc X 0 (k + (-1)) [(4, .int (k + (-1))), (3, .int ow), (2, .ref sb), (1, .ref (ad 0)), (0, .ref sB)] dX12_grown_177 rfl rfl (by decide) rfl 180 rfl ?_
          refine q_goto X 155 dX12_grown_180 (by decide) ?_
          exact ih (k := k + (-1)) (nb := nb2) (mem := mem2) (tx := tx2) (ad := ad2) (b := b2) (cells := cells + 0 + 30) (slots := slots + 0 + 20000) hF (by rw [ha2 0 nw_0]) hb2 (by omega) (by omega)
      · rw [if_neg hgu] at hF
        cases hF
    · rw [if_neg hk] at hF
      refine q_iload X 0 dX12_grown_155 rfl 157 rfl ?_
      refine q_if_le (A1 := none) (B1 := some ()) (res := ()) X (if_neg hk) 183 160 dX12_grown_157 (by decide) rfl (fun z => nomatch z) (fun _ => ?_)
      refine q_wd (k := 390) (k2 := 260000) (by omega) (by omega) ?_
      exact grw_183 l hZ hO hV hW hU hG hE rfl hF hb hQ hf X

set_option maxRecDepth 100000 in
theorem grw_148 {np : Nat} {k : Int32} {ad : Nat → Nat} {b : BLD} {tx : List Nat} {w0 : Nat} {ow : Int32} {fu : Nat} {res : RG} (l : Launch) (hZ : ZOK Z) (hO : ZO Z tO sK sV) (hV : ZVO Z) (hW : ZWO Z tA tU sB L xs) (hU : ZUO Z uK uV tD) (hG : ∀ A U H, Z A U H → zDg tG A U H) (hE : ∀ A U H, Z A U H → zE eD A U H) (hw0 : ad 0 = w0) (hF : KG_bn0 L xs fu np mem tx = some res) (hb : SBK b tx) {p : Program} {e : Env} {s : State} {m : MethodId} {args : Array Value} {below : List Frame} {meth : Method} {c : Code} {Q : State → Prop} {wc : va_W} {Qf : Option Value → va_W → Prop} (hQ : Q = MQ below (QL D wc Qf s.heap.size) args s rw_grown.cells rw_grown.slots (va_A wc s.heap.size)) (hf : ∀ v w, QGn ca eD sB res v w → Qf v w) (X : CN D (tyL ca) (va_A wc s.heap.size) Z p s m args meth c cX12_grown 5 RX12 (some (.object "PawnRaceLaw$World"))) : NN D (va_A wc s.heap.size) p l e rw_grown s m args below meth c 5 240 160000 Q (wf (nW np 0) ad (cWd ca ad np 0 eD tS sB) mem ++ sbw ca sb b tx.length) 148 [(4, .int k), (3, .int ow), (2, .ref sb), (1, .ref w0), (0, .ref sB)] [] := by
  subst hw0
  unfold KG_bn0 at hF
  refine q_aload_n X 3 dX12_grown_148 rfl rfl 149 rfl ?_
  refine q_iconst X 4 dX12_grown_149 rfl 150 rfl ?_
  obtain ⟨⟨k4, m4⟩, h4, hF⟩ := bd_some hF
  dsimp only at hF
  refine y_call X hZ [.int 4] rfl rfl kB_X12_next kL_X12_54 (cw_nx l hZ hW fu h4) rfl ⟨Nat.le_of_ble_eq_true rfl, Nat.le_of_ble_eq_true rfl⟩ (Nat.le_of_ble_eq_true rfl) ⟨Nat.le_of_ble_eq_true rfl, Nat.le_of_ble_eq_true rfl⟩ dX12_grown_150 153 rfl ?_
  refine q_istore X [(4, .int k4), (3, .int ow), (2, .ref sb), (1, .ref (ad 0)), (0, .ref sB)] dX12_grown_153 (by decide) rfl 155 rfl ?_
  refine q_wd (k := 240) (k2 := 160000) (Nat.le_of_ble_eq_true rfl) (Nat.le_of_ble_eq_true rfl) ?_
  exact grw_155 l hZ hO hV hW hU hG hE hQ hf X 5 (k := k4) (nb := 0) (mem := m4) (tx := tx) (ad := ad) (b := b) hF rfl hb (by decide) (by decide)
set_option maxRecDepth 100000 in
theorem grw_131 {w0 : Nat} {ow : Int32} {fu : Nat} {res : RG} (l : Launch) (hZ : ZOK Z) (hO : ZO Z tO sK sV) (hV : ZVO Z) (hW : ZWO Z tA tU sB L xs) (hU : ZUO Z uK uV tD) (hG : ∀ A U H, Z A U H → zDg tG A U H) (hE : ∀ A U H, Z A U H → zE eD A U H) {p : Program} {e : Env} {s : State} {m : MethodId} {args : Array Value} {below : List Frame} {meth : Method} {c : Code} {Q : State → Prop} {wc : va_W} {Qf : Option Value → va_W → Prop} (hQ : Q = MQ below (QL D wc Qf s.heap.size) args s rw_grown.cells rw_grown.slots (va_A wc s.heap.size)) (hf : ∀ v w, QGn ca eD sB res v w → Qf v w) (X : CN D (tyL ca) (va_A wc s.heap.size) Z p s m args meth c cX12_grown 5 RX12 (some (.object "PawnRaceLaw$World")))
    (f : Nat) : ∀ {k : Int32} {np : Nat} {mem : Mem} {tx : List Nat} {ad : Nat → Nat} {b : BLD} {cells slots : Nat}, KG_pawns L xs fu ow f k np mem tx = some res → ad 0 = w0 → SBK b tx → cells + f * 30 ≤ 240 → slots + f * 20000 ≤ 160000 → NN D (va_A wc s.heap.size) p l e rw_grown s m args below meth c 5 cells slots Q (wf (nW np 0) ad (cWd ca ad np 0 eD tS sB) mem ++ sbw ca sb b tx.length) 131 [(4, .int k), (3, .int ow), (2, .ref sb), (1, .ref w0), (0, .ref sB)] [] := by
  induction f with
  | zero =>
    intro k np mem tx ad b cells slots hF
    cases hF
  | succ f ih =>
    intro k np mem tx ad b cells slots hF hw0 hb hc hs
    subst hw0
    rw [KG_pawns] at hF
    by_cases hk : 0 < k
    · rw [if_pos hk] at hF
      by_cases hgu : np ≤ 4
      · rw [if_pos hgu] at hF
        obtain ⟨⟨np2, mem2, tx2⟩, ho, hF⟩ := bd_some hF
        refine q_iload X 0 dX12_grown_131 rfl 133 rfl ?_
        refine q_if_le (A1 := some ()) (B1 := none) (res := ()) X (if_pos hk) 148 136 dX12_grown_133 (by decide) rfl (fun _ => ?_) (fun z => nomatch z)
        refine q_aload_n X 3 dX12_grown_136 rfl rfl 137 rfl ?_
        refine q_aload_n X 2 dX12_grown_137 rfl rfl 138 rfl ?_
        refine q_iload_n X 1 dX12_grown_138 rfl rfl 139 rfl ?_
        refine q_callV (rm := rw_pawn) X hZ [.ref sb, .int ow] [] (List.append_nil _).symm 0 ((wx_at nw_0).trans (by rw [kw_0])) (q := (RX12, TX12, 11)) rfl rfl rfl kB_X12_pawn kL_X12_75 (cg_pawn l hZ hO hV hW hU hG hE ⟨hgu, by decide, fun _ => rfl⟩ ho hb) rfl ⟨Nat.le_of_ble_eq_true rfl, Nat.le_of_ble_eq_true rfl⟩ (Nat.le_of_ble_eq_true rfl) ⟨by show cells + 30 ≤ 760; omega, by show slots + 20000 ≤ 300000; omega⟩ dX12_grown_139 142 rfl ?_
        intro v w1 hq
        obtain ⟨rfl, ad2, b2, rfl, hb2, ha2⟩ := hq
        rw [List.append_nil]
        refine q_iinc X 0 (k + (-1)) [(4, .int (k + (-1))), (3, .int ow), (2, .ref sb), (1, .ref (ad 0)), (0, .ref sB)] dX12_grown_142 rfl rfl (by decide) rfl 145 rfl ?_
        refine q_goto X 131 dX12_grown_145 (by decide) ?_
        exact ih (k := k + (-1)) (np := np2) (mem := mem2) (tx := tx2) (ad := ad2) (b := b2) (cells := cells + 30) (slots := slots + 20000) hF (by rw [ha2 0 nw_0]) hb2 (by omega) (by omega)
      · rw [if_neg hgu] at hF
        cases hF
    · rw [if_neg hk] at hF
      refine q_iload X 0 dX12_grown_131 rfl 133 rfl ?_
      refine q_if_le (A1 := none) (B1 := some ()) (res := ()) X (if_neg hk) 148 136 dX12_grown_133 (by decide) rfl (fun z => nomatch z) (fun _ => ?_)
      refine q_wd (k := 240) (k2 := 160000) (by omega) (by omega) ?_
      exact grw_148 l hZ hO hV hW hU hG hE rfl hF hb hQ hf X

set_option maxRecDepth 100000 in
theorem grw_122 {ad : Nat → Nat} {b : BLD} {tx : List Nat} {w0 : Nat} {ow : Int32} {fu : Nat} {res : RG} (l : Launch) (hZ : ZOK Z) (hO : ZO Z tO sK sV) (hV : ZVO Z) (hW : ZWO Z tA tU sB L xs) (hU : ZUO Z uK uV tD) (hG : ∀ A U H, Z A U H → zDg tG A U H) (hE : ∀ A U H, Z A U H → zE eD A U H) (hw0 : ad 0 = w0) (hF : KG_p0 L xs fu ow mem tx = some res) (hb : SBK b tx) {p : Program} {e : Env} {s : State} {m : MethodId} {args : Array Value} {below : List Frame} {meth : Method} {c : Code} {Q : State → Prop} {wc : va_W} {Qf : Option Value → va_W → Prop} (hQ : Q = MQ below (QL D wc Qf s.heap.size) args s rw_grown.cells rw_grown.slots (va_A wc s.heap.size)) (hf : ∀ v w, QGn ca eD sB res v w → Qf v w) (X : CN D (tyL ca) (va_A wc s.heap.size) Z p s m args meth c cX12_grown 5 RX12 (some (.object "PawnRaceLaw$World"))) : NN D (va_A wc s.heap.size) p l e rw_grown s m args below meth c 5 60 40000 Q (wf (nW 0 0) ad (cWd ca ad 0 0 eD tS sB) mem ++ sbw ca sb b tx.length) 122 [(3, .int ow), (2, .ref sb), (1, .ref w0), (0, .ref sB)] [] := by
  subst hw0
  unfold KG_p0 at hF
  refine q_iconst X 1 dX12_grown_122 rfl 123 rfl ?_
  refine q_aload_n X 2 dX12_grown_123 rfl rfl 124 rfl ?_
  refine q_iconst X 4 dX12_grown_124 rfl 125 rfl ?_
  obtain ⟨⟨k4, m4⟩, h4, hF⟩ := bd_some hF
  dsimp only at hF
  refine y_call X hZ [.int 4] rfl rfl kB_X12_next kL_X12_54 (cw_nx l hZ hW fu h4) rfl ⟨Nat.le_of_ble_eq_true rfl, Nat.le_of_ble_eq_true rfl⟩ (Nat.le_of_ble_eq_true rfl) ⟨Nat.le_of_ble_eq_true rfl, Nat.le_of_ble_eq_true rfl⟩ dX12_grown_125 128 rfl ?_
  refine q_iadd X dX12_grown_128 129 rfl ?_
  refine q_istore X [(4, .int (1 + k4)), (3, .int ow), (2, .ref sb), (1, .ref (ad 0)), (0, .ref sB)] dX12_grown_129 (by decide) rfl 131 rfl ?_
  refine q_wd (k := 60) (k2 := 40000) (Nat.le_of_ble_eq_true rfl) (Nat.le_of_ble_eq_true rfl) ?_
  exact grw_131 l hZ hO hV hW hU hG hE hQ hf X 6 (k := 1 + k4) (np := 0) (mem := m4) (tx := tx) (ad := ad) (b := b) hF rfl hb (by decide) (by decide)
set_option maxRecDepth 100000 in
theorem grw_76 {ad : Nat → Nat} {b : BLD} {tx : List Nat} {w0 : Nat} {fu : Nat} {res : RG} (l : Launch) (hZ : ZOK Z) (hO : ZO Z tO sK sV) (hV : ZVO Z) (hW : ZWO Z tA tU sB L xs) (hU : ZUO Z uK uV tD) (hG : ∀ A U H, Z A U H → zDg tG A U H) (hE : ∀ A U H, Z A U H → zE eD A U H) (hw0 : ad 0 = w0) (hF : KG_w0 L xs fu mem tx = some res) (hb : SBK b tx) (hl : tx.length ≤ 60) {p : Program} {e : Env} {s : State} {m : MethodId} {args : Array Value} {below : List Frame} {meth : Method} {c : Code} {Q : State → Prop} {wc : va_W} {Qf : Option Value → va_W → Prop} (hQ : Q = MQ below (QL D wc Qf s.heap.size) args s rw_grown.cells rw_grown.slots (va_A wc s.heap.size)) (hf : ∀ v w, QGn ca eD sB res v w → Qf v w) (X : CN D (tyL ca) (va_A wc s.heap.size) Z p s m args meth c cX12_grown 5 RX12 (some (.object "PawnRaceLaw$World"))) : NN D (va_A wc s.heap.size) p l e rw_grown s m args below meth c 5 40 20000 Q (wf (nW 0 0) ad (cWd ca ad 0 0 eD tS sB) mem ++ sbw ca sb b tx.length) 76 [(2, .ref sb), (1, .ref w0), (0, .ref sB)] [] := by
  subst hw0
  unfold KG_w0 at hF
  refine q_iconst X 5 dX12_grown_76 rfl 77 rfl ?_
  refine q_istore_n X [(3, .int 5), (2, .ref sb), (1, .ref (ad 0)), (0, .ref sB)] dX12_grown_77 rfl (by decide) rfl 78 rfl ?_
  refine q_aload_n X 2 dX12_grown_78 rfl rfl 79 rfl ?_
  refine q_iconst X 2 dX12_grown_79 rfl 80 rfl ?_
  obtain ⟨⟨c2, m2⟩, h2, hF⟩ := bd_some hF
  dsimp only at hF
  refine y_call X hZ [.int 2] rfl rfl kB_X12_next kL_X12_54 (cw_nx l hZ hW fu h2) rfl ⟨Nat.le_of_ble_eq_true rfl, Nat.le_of_ble_eq_true rfl⟩ (Nat.le_of_ble_eq_true rfl) ⟨Nat.le_of_ble_eq_true rfl, Nat.le_of_ble_eq_true rfl⟩ dX12_grown_80 83 rfl ?_
  by_cases hc : c2 = 0
  · rw [if_pos hc] at hF
    refine q_if_ne (A1 := some ()) (B1 := none) (res := ()) X (if_pos hc) 122 86 dX12_grown_83 (by decide) rfl (fun _ => ?_) (fun z => nomatch z)
    refine q_aload_n X 1 dX12_grown_86 rfl rfl 87 rfl ?_
    refine q_ldcU X hU 4 rfl dX12_grown_87 89 rfl ?_
    refine y_apS X hZ hO hV hb (fun A U H h => (hU A U H h).1 4 (by omega)) (tcs_128 _) (by (try simp only [List.length_append, List.length_cons, List.length_nil]); have a0 := tcs_le 4; omega) kL_X12_60 ⟨Nat.le_of_ble_eq_true rfl, Nat.le_of_ble_eq_true rfl⟩ (Nat.le_of_ble_eq_true rfl) ⟨Nat.le_of_ble_eq_true rfl, Nat.le_of_ble_eq_true rfl⟩ dX12_grown_89 92 rfl ?_
    intro b39 hb39
    refine q_aload_n X 2 dX12_grown_92 rfl rfl 93 rfl ?_
    refine q_bipush X 8 dX12_grown_93 rfl 95 rfl ?_
    obtain ⟨⟨o8, m8⟩, h8, hF⟩ := bd_some hF
    dsimp only at hF
    refine y_call X hZ [.int 8] rfl rfl kB_X12_next kL_X12_54 (cw_nx l hZ hW fu h8) rfl ⟨Nat.le_of_ble_eq_true rfl, Nat.le_of_ble_eq_true rfl⟩ (Nat.le_of_ble_eq_true rfl) ⟨Nat.le_of_ble_eq_true rfl, Nat.le_of_ble_eq_true rfl⟩ dX12_grown_95 98 rfl ?_
    obtain ⟨ko, go, hF⟩ := bd_some hF
    refine q_dup X dX12_grown_98 rfl 99 rfl ?_
    refine q_istore_n X [(3, .int o8), (2, .ref sb), (1, .ref (ad 0)), (0, .ref sB)] dX12_grown_99 rfl (by decide) rfl 100 rfl ?_
    refine y_apI X hZ hO hV hG hb39 (k := ko) (gB_some go).1 (gB_some go).2 (by (try simp only [List.length_append, List.length_cons, List.length_nil]); have a0 := tcs_le 4; omega) kL_X12_64 ⟨Nat.le_of_ble_eq_true rfl, Nat.le_of_ble_eq_true rfl⟩ (Nat.le_of_ble_eq_true rfl) ⟨Nat.le_of_ble_eq_true rfl, Nat.le_of_ble_eq_true rfl⟩ dX12_grown_100 103 rfl ?_
    intro b40 hb40
    refine q_aload_n X 2 dX12_grown_103 rfl rfl 104 rfl ?_
    refine q_iconst X 2 dX12_grown_104 rfl 105 rfl ?_
    obtain ⟨⟨z2, mz⟩, hz, hF⟩ := bd_some hF
    dsimp only at hF
    refine y_call X hZ [.int 2] rfl rfl kB_X12_next kL_X12_54 (cw_nx l hZ hW fu hz) rfl ⟨Nat.le_of_ble_eq_true rfl, Nat.le_of_ble_eq_true rfl⟩ (Nat.le_of_ble_eq_true rfl) ⟨Nat.le_of_ble_eq_true rfl, Nat.le_of_ble_eq_true rfl⟩ dX12_grown_105 108 rfl ?_
    refine q_ternZ X hU 5 3 rfl rfl dX12_grown_108 111 rfl dX12_grown_111 113 rfl dX12_grown_113 116 rfl dX12_grown_116 118 rfl ?_
    refine y_apS X hZ hO hV hb40 (fun A U H h => (hU A U H h).1 (if z2 = 0 then 5 else 3) (by split <;> omega)) (tcs_128 _) (by (try simp only [List.length_append, List.length_cons, List.length_nil]); have a0 := tcs_le 4; have a1 := tcs_le (if z2 = 0 then 5 else 3); omega) kL_X12_60 ⟨Nat.le_of_ble_eq_true rfl, Nat.le_of_ble_eq_true rfl⟩ (Nat.le_of_ble_eq_true rfl) ⟨Nat.le_of_ble_eq_true rfl, Nat.le_of_ble_eq_true rfl⟩ dX12_grown_118 121 rfl ?_
    intro b41 hb41
    refine q_pop X dX12_grown_121 rfl 122 rfl ?_
    refine q_wd (k := 60) (k2 := 40000) (Nat.le_of_ble_eq_true rfl) (Nat.le_of_ble_eq_true rfl) ?_
    exact grw_122 l hZ hO hV hW hU hG hE rfl hF hb41 hQ hf X
  · rw [if_neg hc] at hF
    refine q_if_ne (A1 := none) (B1 := some ()) (res := ()) X (if_neg hc) 122 86 dX12_grown_83 (by decide) rfl (fun z => nomatch z) (fun _ => ?_)
    refine q_wd (k := 60) (k2 := 40000) (Nat.le_of_ble_eq_true rfl) (Nat.le_of_ble_eq_true rfl) ?_
    exact grw_122 l hZ hO hV hW hU hG hE rfl hF hb hQ hf X
set_option maxRecDepth 100000 in
/-- World.grown(s) -/
theorem cg_grown (l : Launch) (hZ : ZOK Z) (hO : ZO Z tO sK sV) (hV : ZVO Z) (hW : ZWO Z tA tU sB L xs) (hU : ZUO Z uK uV tD) (hG : ∀ A U H, Z A U H → zDg tG A U H) (hE : ∀ A U H, Z A U H → zE eD A U H) {fu : Nat} {res : RG} (hF : KG_grown L xs fu = some res) : LC l D (tyL ca) Z yX12_grown cX12_grown 5 (some (.object "PawnRaceLaw$World")) rw_grown [.ref sB] [] (fun v w => QGn ca eD sB res v w) := by
  refine qstart (own := RX12) rfl (by decide) (Nat.le_of_ble_eq_true rfl) ?_
  intro p e s m args below meth c Q hQ X hi
  unfold KG_grown at hF
  refine n_new X in_X12 tyX12 tyX12_ok kCl_X12_8 (gw_c tb_4 152 rfl rfl) kN_X12 (ci := 12) rfl [.int 0, .int 0, .int 0, .int 0, .int 0, .null, .null, .null, .null, .null, .int 0] (by decide +kernel) ⟨Nat.le_of_ble_eq_true rfl, Nat.le_of_ble_eq_true rfl⟩ dX12_grown_0 3 rfl ?_
  intro w0
  refine q_dup X dX12_grown_3 rfl 4 rfl ?_
  refine q_callI (rm := rw_init) X hZ [] [] rfl (stk := .ref w0 :: .ref w0 :: []) (st := .ref w0 :: []) rfl kT_X12_init kL_X12_50 (cg_init l hZ hO hV hW hU hG hE) rfl ⟨Nat.le_of_ble_eq_true rfl, Nat.le_of_ble_eq_true rfl⟩ (Nat.le_of_ble_eq_true rfl) ⟨Nat.le_of_ble_eq_true rfl, Nat.le_of_ble_eq_true rfl⟩ dX12_grown_4 7 rfl ?_
  intro v w1 hq
  obtain ⟨rfl, l1, l2, q8, s0, r8, rfl⟩ := hq
  rw [List.append_nil]
  refine q_astore_n X [(1, .ref w0), (0, .ref sB)] dX12_grown_7 rfl (by decide) rfl 8 rfl ?_
  refine q_aload_n X 0 dX12_grown_8 rfl rfl 9 rfl ?_
  refine q_aload_n X 1 dX12_grown_9 rfl rfl 10 rfl ?_
  refine q_put X 0 ((w0, .inr (12, [.int 5, .int 5, .int 0, .int 0, .int 0, .ref l1, .ref l2, .ref q8, .ref (uK 0), .ref sB, .int 0])) :: (([(l1, .inr (16, [.int 0, .ref eD, .int 0])), (l2, .inr (16, [.int 0, .ref eD, .int 0]))] ++ exD ca q8 r8 8 8 (fun _ _ => 0)) ++ [(s0, .inl (ca 0, 0, .inl (fun _ => 0)))])) rfl (T := TX12) (N := 11) rfl in_X12 tyX12 tyX12_ok nmX12 9 (by decide) kF_X12_37 rfl rfl rfl rfl (Nat.le_of_ble_eq_true rfl) rfl dX12_grown_10 13 rfl ?_
  refine q_sub (wf (nW 0 0) (ad0 w0 l1 l2 q8 r8) (cWd ca (ad0 w0 l1 l2 q8 r8) 0 0 eD (uK 0) sB) mem0) (by rw [grw_0]; exact List.Sublist.cons₂ _ (List.sublist_append_left _ _)) ?_
  refine y_newSB X hZ hO kCl_X12_51 kL_X12_53 ⟨Nat.le_of_ble_eq_true rfl, Nat.le_of_ble_eq_true rfl⟩ (Nat.le_of_ble_eq_true rfl) ⟨Nat.le_of_ble_eq_true rfl, Nat.le_of_ble_eq_true rfl⟩ dX12_grown_13 16 rfl dX12_grown_16 17 rfl dX12_grown_17 20 rfl ?_
  intro sb b hb
  refine q_astore_n X [(2, .ref sb), (1, .ref w0), (0, .ref sB)] dX12_grown_20 rfl (by decide) rfl 21 rfl ?_
  have hW0 : ad0 w0 l1 l2 q8 r8 0 = w0 := rfl
  rw [← hW0]
  generalize ad0 w0 l1 l2 q8 r8 = ad
  refine q_aload_n X 1 dX12_grown_21 rfl rfl 22 rfl ?_
  refine q_iconst X 3 dX12_grown_22 rfl 23 rfl ?_
  obtain ⟨⟨n0, m0⟩, h0, hF⟩ := bd_some hF
  dsimp only at hF
  refine y_call X hZ [.int 3] rfl rfl kB_X12_next kL_X12_54 (cw_nx l hZ hW fu h0) rfl ⟨Nat.le_of_ble_eq_true rfl, Nat.le_of_ble_eq_true rfl⟩ (Nat.le_of_ble_eq_true rfl) ⟨Nat.le_of_ble_eq_true rfl, Nat.le_of_ble_eq_true rfl⟩ dX12_grown_23 26 rfl ?_
  by_cases hc : 0 < n0
  · rw [if_pos hc] at hF
    refine q_if_le (A1 := some ()) (B1 := none) (res := ()) X (if_pos hc) 76 29 dX12_grown_26 (by decide) rfl (fun _ => ?_) (fun z => nomatch z)
    refine q_aload_n X 0 dX12_grown_29 rfl rfl 30 rfl ?_
    refine q_ldcU X hU 1 rfl dX12_grown_30 32 rfl ?_
    refine y_apS X hZ hO hV hb (fun A U H h => (hU A U H h).1 1 (by omega)) (tcs_128 _) (by (try simp only [List.length_append, List.length_cons, List.length_nil]); have a0 := tcs_le 1; omega) kL_X12_60 ⟨Nat.le_of_ble_eq_true rfl, Nat.le_of_ble_eq_true rfl⟩ (Nat.le_of_ble_eq_true rfl) ⟨Nat.le_of_ble_eq_true rfl, Nat.le_of_ble_eq_true rfl⟩ dX12_grown_32 35 rfl ?_
    intro b42 hb42
    refine q_aload_n X 1 dX12_grown_35 rfl rfl 36 rfl ?_
    refine q_iconst X 3 dX12_grown_36 rfl 37 rfl ?_
    refine q_aload_n X 1 dX12_grown_37 rfl rfl 38 rfl ?_
    refine q_iconst X 4 dX12_grown_38 rfl 39 rfl ?_
    obtain ⟨⟨w4, m4⟩, h4, hF⟩ := bd_some hF
    dsimp only at hF
    refine y_call X hZ [.int 4] rfl rfl kB_X12_next kL_X12_54 (cw_nx l hZ hW fu h4) rfl ⟨Nat.le_of_ble_eq_true rfl, Nat.le_of_ble_eq_true rfl⟩ (Nat.le_of_ble_eq_true rfl) ⟨Nat.le_of_ble_eq_true rfl, Nat.le_of_ble_eq_true rfl⟩ dX12_grown_39 42 rfl ?_
    obtain ⟨kw, gw, hF⟩ := bd_some hF
    refine q_iadd X dX12_grown_42 43 rfl ?_
    refine q_dup_x1 X dX12_grown_43 rfl rfl 44 rfl ?_
    refine y_putI X 0 nw_0 kw_0 (T := TX12) (N := 11) rfl in_X12 tyX12 tyX12_ok nmX12 0 (by decide) kF_X12_7 rfl rfl rfl rfl (Nat.le_of_ble_eq_true rfl) rfl dX12_grown_44 47 rfl ?_
    refine y_apI X hZ hO hV hG hb42 (k := kw) (gB_some gw).1 (gB_some gw).2 (by (try simp only [List.length_append, List.length_cons, List.length_nil]); have a0 := tcs_le 1; omega) kL_X12_64 ⟨Nat.le_of_ble_eq_true rfl, Nat.le_of_ble_eq_true rfl⟩ (Nat.le_of_ble_eq_true rfl) ⟨Nat.le_of_ble_eq_true rfl, Nat.le_of_ble_eq_true rfl⟩ dX12_grown_47 50 rfl ?_
    intro b43 hb43
    refine q_ldcU X hU 2 rfl dX12_grown_50 52 rfl ?_
    refine y_apS X hZ hO hV hb43 (fun A U H h => (hU A U H h).1 2 (by omega)) (tcs_128 _) (by (try simp only [List.length_append, List.length_cons, List.length_nil]); have a0 := tcs_le 1; have a1 := tcs_le 2; omega) kL_X12_60 ⟨Nat.le_of_ble_eq_true rfl, Nat.le_of_ble_eq_true rfl⟩ (Nat.le_of_ble_eq_true rfl) ⟨Nat.le_of_ble_eq_true rfl, Nat.le_of_ble_eq_true rfl⟩ dX12_grown_52 55 rfl ?_
    intro b44 hb44
    refine q_aload_n X 1 dX12_grown_55 rfl rfl 56 rfl ?_
    refine q_iconst X 3 dX12_grown_56 rfl 57 rfl ?_
    refine q_aload_n X 1 dX12_grown_57 rfl rfl 58 rfl ?_
    refine q_iconst X 4 dX12_grown_58 rfl 59 rfl ?_
    obtain ⟨⟨e4, m6⟩, h6, hF⟩ := bd_some hF
    dsimp only at hF
    refine y_call X hZ [.int 4] rfl rfl kB_X12_next kL_X12_54 (cw_nx l hZ hW fu h6) rfl ⟨Nat.le_of_ble_eq_true rfl, Nat.le_of_ble_eq_true rfl⟩ (Nat.le_of_ble_eq_true rfl) ⟨Nat.le_of_ble_eq_true rfl, Nat.le_of_ble_eq_true rfl⟩ dX12_grown_59 62 rfl ?_
    obtain ⟨kh, gh, hF⟩ := bd_some hF
    refine q_iadd X dX12_grown_62 63 rfl ?_
    refine q_dup_x1 X dX12_grown_63 rfl rfl 64 rfl ?_
    refine y_putI X 0 nw_0 kw_0 (T := TX12) (N := 11) rfl in_X12 tyX12 tyX12_ok nmX12 1 (by decide) kF_X12_13 rfl rfl rfl rfl (Nat.le_of_ble_eq_true rfl) rfl dX12_grown_64 67 rfl ?_
    refine y_apI X hZ hO hV hG hb44 (k := kh) (gB_some gh).1 (gB_some gh).2 (by (try simp only [List.length_append, List.length_cons, List.length_nil]); have a0 := tcs_le 1; have a1 := tcs_le 2; omega) kL_X12_64 ⟨Nat.le_of_ble_eq_true rfl, Nat.le_of_ble_eq_true rfl⟩ (Nat.le_of_ble_eq_true rfl) ⟨Nat.le_of_ble_eq_true rfl, Nat.le_of_ble_eq_true rfl⟩ dX12_grown_67 70 rfl ?_
    intro b45 hb45
    refine q_ldcU X hU 3 rfl dX12_grown_70 72 rfl ?_
    refine y_apS X hZ hO hV hb45 (fun A U H h => (hU A U H h).1 3 (by omega)) (tcs_128 _) (by (try simp only [List.length_append, List.length_cons, List.length_nil]); have a0 := tcs_le 1; have a1 := tcs_le 2; have a2 := tcs_le 3; omega) kL_X12_60 ⟨Nat.le_of_ble_eq_true rfl, Nat.le_of_ble_eq_true rfl⟩ (Nat.le_of_ble_eq_true rfl) ⟨Nat.le_of_ble_eq_true rfl, Nat.le_of_ble_eq_true rfl⟩ dX12_grown_72 75 rfl ?_
    intro b46 hb46
    refine q_pop X dX12_grown_75 rfl 76 rfl ?_
    refine q_wd (k := 40) (k2 := 20000) (Nat.le_of_ble_eq_true rfl) (Nat.le_of_ble_eq_true rfl) ?_
    exact grw_76 l hZ hO hV hW hU hG hE rfl hF hb46 (by (try simp only [List.length_append, List.length_cons, List.length_nil]); have a0 := tcs_le 1; have a1 := tcs_le 2; have a2 := tcs_le 3; omega) hQ (fun v w h => h) X
  · rw [if_neg hc] at hF
    refine q_if_le (A1 := none) (B1 := some ()) (res := ()) X (if_neg hc) 76 29 dX12_grown_26 (by decide) rfl (fun z => nomatch z) (fun _ => ?_)
    refine q_wd (k := 40) (k2 := 20000) (Nat.le_of_ble_eq_true rfl) (Nat.le_of_ble_eq_true rfl) ?_
    exact grw_76 l hZ hO hV hW hU hG hE rfl hF hb (by decide) hQ (fun v w h => h) X
end GHD
