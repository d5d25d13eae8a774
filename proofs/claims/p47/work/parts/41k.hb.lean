section GHB
section
variable {D : va_G} {Z : (Nat → Prop) → State → Heap → Prop}
variable {tO tD tA tU tG L np nb eD tS sB n : Nat} {xs : Nat → Int32} {sK sV uK uV : Nat → Nat} {ca ad : Nat → Nat} {cf : Nat → Row → va_E} {sb : Nat} {mem : Mem}
variable {A : Nat → Prop} {p : Program} {l : Launch} {e : Env} {R : Room} {s : State} {m : MethodId} {args : Array Value} {below : List Frame} {meth : Method} {c : Code} {cc : ByteArray} {nL : Nat} {own : String} {ret : Option FieldType} {cells slots : Nat} {Q : State → Prop} {ws : va_W} {pc : Nat} {lv : List (Nat × Value)} {st : List Value}
theorem ya_apS {index a v0 : Nat} {cs tx : List Nat} {b : BLD} {x : Nat × va_E} (X : CN D (tyL ca) A Z p s m args meth c cc nL own ret) (hZ : ZOK Z) (hO : ZO Z tO sK sV) (hV : ZVO Z) (hb : SBK b tx) (hT : ∀ A U H, Z A U H → zt a v0 cs.length (txf cs) A U H) (hc : ∀ c ∈ cs, c < 128) (hl : tx.length + cs.length ≤ 400) (w1 : Cond.methodLink own index yJ4_append_15ec4 ∈ GW) (hR : 6 ≤ R.frames ∧ 171 ≤ R.locals) (hst : (st.map fun v => v.category).sum ≤ 8) (hcs : cells + 1 ≤ R.cells ∧ slots + 1000 ≤ R.slots) (hdg : decode cc pc = .ok (.invokevirtual index, 3)) (pc2 : Nat) (hp : pc + 3 = pc2) (kk : ∀ b' : BLD, SBK b' (tx ++ cs) → NN D A p l e R s m args below meth c nL (cells + 1) (slots + 1000) Q (wf n ad cf mem ++ (x :: sbw ca sb b' (tx ++ cs).length)) pc2 lv (.ref sb :: st)) : NN D A p l e R s m args below meth c nL cells slots Q (wf n ad cf mem ++ (x :: sbw ca sb b tx.length)) pc lv (.ref a :: .ref sb :: st) := by
  refine n_perm (ws' := (wf n ad cf mem ++ [x]) ++ sbw ca sb b tx.length) (by rw [List.append_assoc]; exact List.Perm.refl _) ?_
  refine y_apS X hZ hO hV hb hT hc hl w1 hR hst hcs hdg pc2 hp (fun b' hb' => ?_)
  refine n_perm (ws' := wf n ad cf mem ++ (x :: sbw ca sb b' (tx ++ cs).length)) (by rw [List.append_assoc]; exact List.Perm.refl _) ?_
  exact kk b' hb'
theorem ya_apC {index k : Nat} {tx : List Nat} {y : Int32} {b : BLD} {x : Nat × va_E} (X : CN D (tyL ca) A Z p s m args meth c cc nL own ret) (hZ : ZOK Z) (hO : ZO Z tO sK sV) (hV : ZVO Z) (hb : SBK b tx) (hx : y = nI k) (hk : k < 128) (hl : tx.length + 1 ≤ 400) (w1 : Cond.methodLink own index yJ4_append_cf468 ∈ GW) (hR : 6 ≤ R.frames ∧ 171 ≤ R.locals) (hst : (st.map fun v => v.category).sum ≤ 8) (hcs : cells + 1 ≤ R.cells ∧ slots + 1000 ≤ R.slots) (hdg : decode cc pc = .ok (.invokevirtual index, 3)) (pc2 : Nat) (hp : pc + 3 = pc2) (kk : ∀ b' : BLD, SBK b' (tx ++ [k]) → NN D A p l e R s m args below meth c nL (cells + 1) (slots + 1000) Q (wf n ad cf mem ++ (x :: sbw ca sb b' (tx ++ [k]).length)) pc2 lv (.ref sb :: st)) : NN D A p l e R s m args below meth c nL cells slots Q (wf n ad cf mem ++ (x :: sbw ca sb b tx.length)) pc lv (.int y :: .ref sb :: st) := by
  refine n_perm (ws' := (wf n ad cf mem ++ [x]) ++ sbw ca sb b tx.length) (by rw [List.append_assoc]; exact List.Perm.refl _) ?_
  refine y_apC X hZ hO hV hb hx hk hl w1 hR hst hcs hdg pc2 hp (fun b' hb' => ?_)
  refine n_perm (ws' := wf n ad cf mem ++ (x :: sbw ca sb b' (tx ++ [k]).length)) (by rw [List.append_assoc]; exact List.Perm.refl _) ?_
  exact kk b' hb'
theorem ya_apI {index k tG : Nat} {tx : List Nat} {y : Int32} {b : BLD} {x : Nat × va_E} (X : CN D (tyL ca) A Z p s m args meth c cc nL own ret) (hZ : ZOK Z) (hO : ZO Z tO sK sV) (hV : ZVO Z) (hG : ∀ A U H, Z A U H → zDg tG A U H) (hb : SBK b tx) (hx : y = nI k) (hk : k < 10) (hl : tx.length + 1 ≤ 400) (w1 : Cond.methodLink own index yJ4_append_bf812 ∈ GW) (hR : 6 ≤ R.frames ∧ 171 ≤ R.locals) (hst : (st.map fun v => v.category).sum ≤ 8) (hcs : cells + 1 ≤ R.cells ∧ slots + 1000 ≤ R.slots) (hdg : decode cc pc = .ok (.invokevirtual index, 3)) (pc2 : Nat) (hp : pc + 3 = pc2) (kk : ∀ b' : BLD, SBK b' (tx ++ [48 + k]) → NN D A p l e R s m args below meth c nL (cells + 1) (slots + 1000) Q (wf n ad cf mem ++ (x :: sbw ca sb b' (tx ++ [48 + k]).length)) pc2 lv (.ref sb :: st)) : NN D A p l e R s m args below meth c nL cells slots Q (wf n ad cf mem ++ (x :: sbw ca sb b tx.length)) pc lv (.int y :: .ref sb :: st) := by
  refine n_perm (ws' := (wf n ad cf mem ++ [x]) ++ sbw ca sb b tx.length) (by rw [List.append_assoc]; exact List.Perm.refl _) ?_
  refine y_apI X hZ hO hV hG hb hx hk hl w1 hR hst hcs hdg pc2 hp (fun b' hb' => ?_)
  refine n_perm (ws' := wf n ad cf mem ++ (x :: sbw ca sb b' (tx ++ [48 + k]).length)) (by rw [List.append_assoc]; exact List.Perm.refl _) ?_
  exact kk b' hb'
theorem ya_ias {a iN : Nat} {cA : ClassId} {N t0 : Nat} {f : Nat → Int32} {i x : Int32} {ex : va_W} (X : CN D (tyL ca) A Z p s m args meth c cc nL own ret) (ht : (tyL ca)[t0]? = some (cA, .int)) (hi : i = nI iN) (hin : iN < N) (hN : N < 2 ^ 31) (hdg : decode cc pc = .ok (.iastore, 1)) (pc2 : Nat) (hp : pc + 1 = pc2) (kk : NN D A p l e R s m args below meth c nL cells slots Q (wf n ad cf mem ++ ((a, .inl (cA, N, .inl (upd f iN x))) :: ex)) pc2 lv st) : NN D A p l e R s m args below meth c nL cells slots Q (wf n ad cf mem ++ ((a, .inl (cA, N, .inl f)) :: ex)) pc lv (.int x :: .int i :: .ref a :: st) :=
  q_ias X (n + 0) iN _ we_at ht hi hin hN we_set hdg pc2 hp kk
theorem ya_ial {a iN : Nat} {cA : ClassId} {N t0 : Nat} {f : Nat → Int32} {i : Int32} {ex : va_W} (X : CN D (tyL ca) A Z p s m args meth c cc nL own ret) (v : Int32) (ht : (tyL ca)[t0]? = some (cA, .int)) (hi : i = nI iN) (hin : iN < N) (hN : N < 2 ^ 31) (hv : f iN = v) (hdg : decode cc pc = .ok (.iaload, 1)) (pc2 : Nat) (hp : pc + 1 = pc2) (kk : NN D A p l e R s m args below meth c nL cells slots Q (wf n ad cf mem ++ ((a, .inl (cA, N, .inl f)) :: ex)) pc2 lv (.int v :: st)) : NN D A p l e R s m args below meth c nL cells slots Q (wf n ad cf mem ++ ((a, .inl (cA, N, .inl f)) :: ex)) pc lv (.int i :: .ref a :: st) := by
  subst hv
  exact q_ial X (n + 0) iN we_at ht hi hin hN hdg pc2 hp kk
end
variable {D : va_G} {Z : (Nat → Prop) → State → Heap → Prop}
variable {tO tD tA tU tG L np nb eD tS sB : Nat} {xs : Nat → Int32} {sK sV uK uV : Nat → Nat} {ca ad : Nat → Nat} {sb : Nat} {mem : Mem}
def bnRow (p k d : Int32) (f3 f4 f5 f6 : Int32) : Nat → Int32 := upd (upd (upd (upd (upd (upd (upd (fun _ => 0) 0 p) 1 k) 2 d) 3 f3) 4 f4) 5 f5) 6 f6
def KG_bf (np nb : Nat) (r : Nat → Int32) (mem : Mem) (tx : List Nat) : Option (Nat × Mem × List Nat) := some (nb + 1, gM mem (14 + np + nb) 2 (r, fun _ => 0), tx)
def bnTx (kp : Nat) (tx : List Nat) : List Nat := tx ++ tcs 9 ++ [97 + kp] ++ tcs (if kp % 2 = 1 then 7 else 2)
def KG_b2 (L : Nat) (xs : Nat → Int32) (fu np nb : Nat) (p k d : Int32) (mem : Mem) (tx : List Nat) : Option (Nat × Mem × List Nat) :=
  bd (KW_nx L xs fu 4 mem) (fun a => bd (KW_nx L xs fu (2 + a.1) a.2) (fun c => bd (gBk (2 + a.1)) (fun k3 => bd (gBk c.1) (fun k4 => gi d 4 (KG_bf np nb (upd (upd (bnRow p k d 0 0 0 0) 3 (2 + a.1)) 4 c.1) c.2 (tx ++ tcs (19 + d.toNatClampNeg) ++ tcs 12 ++ [48 + k3] ++ tcs 13 ++ [48 + k4] ++ tcs 3))))))
def KG_b3 (L : Nat) (xs : Nat → Int32) (fu np nb : Nat) (p k d : Int32) (mem : Mem) (tx : List Nat) : Option (Nat × Mem × List Nat) :=
  bd (KW_nx L xs fu (rd mem 0 0) mem) (fun a => bd (KW_nx L xs fu (rd a.2 0 1) a.2) (fun b => bd (KW_nx L xs fu (rd b.2 0 0) b.2) (fun c => bd (KW_nx L xs fu (rd c.2 0 1) c.2) (fun g => bd (gBk a.1) (fun k3 => bd (gBk b.1) (fun k4 => bd (gBk c.1) (fun k5 => bd (gBk g.1) (fun k6 => gi d 4 (KG_bf np nb (upd (upd (upd (upd (bnRow p k d 0 0 0 0) 3 a.1) 4 b.1) 5 c.1) 6 g.1) g.2 (tx ++ tcs (19 + d.toNatClampNeg) ++ tcs 14 ++ [48 + k3] ++ tcs 2 ++ [48 + k4] ++ tcs 15 ++ [48 + k5] ++ tcs 2 ++ [48 + k6] ++ tcs 3))))))))))
def KG_b (L : Nat) (xs : Nat → Int32) (fu np nb : Nat) (p k d : Int32) (mem : Mem) (tx : List Nat) : Option (Nat × Mem × List Nat) :=
  if k = 0 then KG_bf np nb (bnRow p k d 0 0 0 0) mem (tx ++ tcs 10) else if k = 1 then KG_bf np nb (bnRow p k d 0 0 0 0) mem (tx ++ tcs 11) else if k = 2 then KG_b2 L xs fu np nb p k d mem tx else if k = 3 then KG_b3 L xs fu np nb p k d mem tx else KG_bf np nb (bnRow p k d 0 0 0 0) mem tx
def KG_ban (L : Nat) (xs : Nat → Int32) (fu np nb : Nat) (mem : Mem) (tx : List Nat) : Option (Nat × Mem × List Nat) :=
  if 0 < np ∧ np ≤ 4 ∧ nb < 4 ∧ tx.length ≤ 300 then bd (KW_nx L xs fu (nI np) mem) (fun p => bd (KW_nx L xs fu 4 p.2) (fun k => bd (KW_nx L xs fu 4 k.2) (fun d => bd (gBk p.1) (fun kp => KG_b L xs fu np nb p.1 k.1 d.1 d.2 (bnTx kp tx))))) else none
def rw_ban : Room := { frames := 7, cells := 30, slots := 20000, locals := 240 }
set_option maxRecDepth 100000 in
theorem ban_300 {v : Nat} {r : Nat → Int32} {b : BLD} {tx : List Nat} {pp k d : Int32} (l : Launch) (hZ : ZOK Z) (hO : ZO Z tO sK sV) (hV : ZVO Z) (hW : ZWO Z tA tU sB L xs) (hU : ZUO Z uK uV tD) (hG : ∀ A U H, Z A U H → zDg tG A U H) (hE : ∀ A U H, Z A U H → zE eD A U H) (hp0 : 0 < np) (hn : np ≤ 4 ∧ nb < 4) (hb : SBK b tx) {p : Program} {e : Env} {s : State} {m : MethodId} {args : Array Value} {below : List Frame} {meth : Method} {c : Code} {Q : State → Prop} {wc : va_W} {Qf : Option Value → va_W → Prop} (hQ : Q = MQ below (QL D wc Qf s.heap.size) args s rw_ban.cells rw_ban.slots (va_A wc s.heap.size)) (hf : ∀ w, QGr ca ad np (nb + 1) eD tS sB sb (nW np nb) (gM mem (14 + np + nb) 2 (r, fun _ => 0)) (tx) w → Qf none w) (X : CN D (tyL ca) (va_A wc s.heap.size) Z p s m args meth c cX12_ban 7 RX12 none) : NN D (va_A wc s.heap.size) p l e rw_ban s m args below meth c 7 26 19000 Q (wf (nW np nb) ad (cWd ca ad np nb eD tS sB) mem ++ ((v, .inl (ca 0, 7, .inl r)) :: sbw ca sb b tx.length)) 300 [(5, .ref v), (4, .int d), (3, .int k), (2, .int pp), (0, .ref (ad 0)), (1, .ref sb)] [] := by
  have hfin : ∀ (ad2 : Nat → Nat), (∀ k, k < nW np nb → ad2 k = ad k) → Qf none (gL ca ad2 np (nb + 1) eD tS sB (gM mem (14 + np + nb) 2 (r, fun _ => 0)) ++ sbw ca sb b tx.length) := fun ad2 h2 => hf _ ⟨ad2, b, rfl, hb, h2⟩
  refine q_aload_n X 4 dX12_ban_300 rfl rfl 301 rfl ?_
  refine y_getV (v := .ref (ad 2)) X 0 nw_0 kw_0 (T := TX12) (N := 11) rfl in_X12 6 (by decide) kF_X12_23 rfl rfl dX12_ban_301 304 rfl ?_
  refine q_aload X 0 dX12_ban_304 rfl 306 rfl ?_
  by_cases h0 : nb = 0
  · subst h0
    refine n_perm (ws' := ((ad 2, .inr (16, [.int (rd mem 2 0), .ref eD, .int 0])) :: (v, .inl (ca 0, 7, .inl r)) :: (((List.range (13 + np)).filter (fun k => decide (k ≠ 2))).map (gE ca ad np 0 eD tS sB mem) ++ sbw ca sb b tx.length))) ?_ ?_
    · exact (((gb_1a (ca := ca) (ad := ad) (eD := eD) (tS := tS) (sB := sB) (mem := mem) hp0).append_right _).trans (List.Perm.cons _ List.perm_middle)).symm
    refine q_callF (rm := rmAg) X hZ [.ref v] (((List.range (13 + np)).filter (fun k => decide (k ≠ 2))).map (gE ca ad np 0 eD tS sB mem) ++ sbw ca sb b tx.length) rfl 0 rfl (q := (RJx4a65c, TJx4a65c, 3)) rfl rfl kFB_add kL_X12_121 ((hW _ _ _ X.2.2.2.2.2).2.2.2.2.1 ("java/util/ArrayList", yI_add, yJx4a65c_add_9ea2d) (List.mem_of_getElem? (i := 2) rfl)) (cl_add0 hZ hE (ZW_O hW) hV (ZW_S hW)) rfl ⟨Nat.le_of_ble_eq_true rfl, Nat.le_of_ble_eq_true rfl⟩ (Nat.le_of_ble_eq_true rfl) ⟨Nat.le_of_ble_eq_true rfl, Nat.le_of_ble_eq_true rfl⟩ dX12_ban_306 311 rfl ?_
    intro v_ w1 hq
    obtain ⟨rfl, dat, rfl⟩ := hq
    refine n_perm (ws' := gL ca (adS (adS ad (13 + np) dat) (14 + np) v) np 1 eD tS sB (gM mem (14 + np) 2 (r, fun _ => 0)) ++ sbw ca sb b tx.length) ((gb_1b hp0).symm.append_right _) ?_
    refine q_pop X dX12_ban_311 rfl 312 rfl ?_
    exact q_vret X hQ (hfin _ (fun k hk => (adS_o (by rw [nW_p hp0] at hk; omega)).trans (adS_o (by rw [nW_p hp0] at hk; omega)))) (Nat.le_of_ble_eq_true rfl) (Nat.le_of_ble_eq_true rfl) dX12_ban_312
  · refine n_perm (ws' := ((ad 2, .inr (16, [.int (rd mem 2 0), .ref (ad (13 + np)), .int (nI nb)])) :: (ad (13 + np), .inl (ca 5, 10, .inr (.inr (.inr (.inr (fun i => if i < nb then some (ad (14 + np + i)) else none)))))) :: (v, .inl (ca 0, 7, .inl r)) :: (((List.range (14 + np + nb)).filter (fun k => decide (k ≠ 2 ∧ k ≠ 13 + np))).map (gE ca ad np nb eD tS sB mem) ++ sbw ca sb b tx.length))) ?_ ?_
    · have hq : qW eD nb (ad (13 + np)) = .ref (ad (13 + np)) := if_neg h0
      have h3 := (gb_2a (ca := ca) (ad := ad) (eD := eD) (tS := tS) (sB := sB) (mem := mem) (np := np) (nb := nb) hp0 (by omega))
      rw [show gE ca ad np nb eD tS sB mem 2 = (ad 2, .inr (16, [.int (rd mem 2 0), .ref (ad (13 + np)), .int (nI nb)])) by unfold gE; rw [kw_2, hq]; rfl, show gE ca ad np nb eD tS sB mem (13 + np) = (ad (13 + np), .inl (ca 5, 10, .inr (.inr (.inr (.inr (fun i => if i < nb then some (ad (14 + np + i)) else none)))))) by unfold gE; rw [kw_f]] at h3
      exact ((h3.append_right _).trans (List.Perm.cons _ (List.Perm.cons _ List.perm_middle))).symm
    refine q_callF (rm := rmAg) X hZ [.ref v] (((List.range (14 + np + nb)).filter (fun k => decide (k ≠ 2 ∧ k ≠ 13 + np))).map (gE ca ad np nb eD tS sB mem) ++ sbw ca sb b tx.length) rfl 0 rfl (q := (RJx4a65c, TJx4a65c, 3)) rfl rfl kFB_add kL_X12_121 ((hW _ _ _ X.2.2.2.2.2).2.2.2.2.1 ("java/util/ArrayList", yI_add, yJx4a65c_add_9ea2d) (List.mem_of_getElem? (i := 2) rfl)) (cl_add1 hZ hV (by omega) (ZW_S hW)) rfl ⟨Nat.le_of_ble_eq_true rfl, Nat.le_of_ble_eq_true rfl⟩ (Nat.le_of_ble_eq_true rfl) ⟨Nat.le_of_ble_eq_true rfl, Nat.le_of_ble_eq_true rfl⟩ dX12_ban_306 311 rfl ?_
    intro v_ w1 hq
    obtain ⟨rfl, rfl⟩ := hq
    refine n_perm (ws' := gL ca (adS ad (14 + np + nb) v) np (nb + 1) eD tS sB (gM mem (14 + np + nb) 2 (r, fun _ => 0)) ++ sbw ca sb b tx.length) ((gb_2b hp0 (by omega)).symm.append_right _) ?_
    refine q_pop X dX12_ban_311 rfl 312 rfl ?_
    exact q_vret X hQ (hfin _ (fun k hk => adS_o (by rw [nW_b hp0 (by omega)] at hk; omega))) (Nat.le_of_ble_eq_true rfl) (Nat.le_of_ble_eq_true rfl) dX12_ban_312
set_option maxRecDepth 100000 in
theorem ban_95 {v : Nat} {r : Nat → Int32} {b : BLD} {tx : List Nat} {pp k d : Int32} (l : Launch) (hZ : ZOK Z) (hO : ZO Z tO sK sV) (hV : ZVO Z) (hW : ZWO Z tA tU sB L xs) (hU : ZUO Z uK uV tD) (hG : ∀ A U H, Z A U H → zDg tG A U H) (hE : ∀ A U H, Z A U H → zE eD A U H) {fu nb2 : Nat} {mem2 : Mem} {tx2 : List Nat} (hF : KG_b L xs fu np nb pp k d mem tx = some (nb2, mem2, tx2)) (hp0 : 0 < np) (hn : np ≤ 4 ∧ nb < 4) (hb : SBK b tx) (hl : tx.length ≤ 323) {p : Program} {e : Env} {s : State} {m : MethodId} {args : Array Value} {below : List Frame} {meth : Method} {c : Code} {Q : State → Prop} {wc : va_W} {Qf : Option Value → va_W → Prop} (hQ : Q = MQ below (QL D wc Qf s.heap.size) args s rw_ban.cells rw_ban.slots (va_A wc s.heap.size)) (hf : ∀ w, QGr ca ad np nb2 eD tS sB sb (nW np nb) mem2 tx2 w → Qf none w) (X : CN D (tyL ca) (va_A wc s.heap.size) Z p s m args meth c cX12_ban 7 RX12 none) : NN D (va_A wc s.heap.size) p l e rw_ban s m args below meth c 7 4 4000 Q (wf (nW np nb) ad (cWd ca ad np nb eD tS sB) mem ++ ((v, .inl (ca 0, 7, .inl (bnRow pp k d 0 0 0 0))) :: sbw ca sb b tx.length)) 95 [(5, .ref v), (4, .int d), (3, .int k), (2, .int pp), (0, .ref (ad 0)), (1, .ref sb)] [] := by
  unfold KG_b at hF
  by_cases hk : k = 0
  · rw [if_pos hk] at hF
    cases hF
    refine q_iload_n X 2 dX12_ban_95 rfl rfl 96 rfl ?_
    refine q_if_ne (A1 := some ()) (B1 := none) (res := ()) X (if_pos hk) 106 99 dX12_ban_96 (by decide) rfl (fun _ => ?_) (fun z => nomatch z)
    refine q_aload_n X 5 dX12_ban_99 rfl rfl 100 rfl ?_
    refine q_ldcU X hU 10 rfl dX12_ban_100 102 rfl ?_
    refine ya_apS X hZ hO hV hb (fun A U H h => (hU A U H h).1 10 (by omega)) (tcs_128 _) (by (try simp only [List.length_append, List.length_cons, List.length_nil]); have a0 := tcs_le 10; omega) kL_X12_60 ⟨Nat.le_of_ble_eq_true rfl, Nat.le_of_ble_eq_true rfl⟩ (Nat.le_of_ble_eq_true rfl) ⟨Nat.le_of_ble_eq_true rfl, Nat.le_of_ble_eq_true rfl⟩ dX12_ban_102 105 rfl ?_
    intro b13 hb13
    refine q_pop X dX12_ban_105 rfl 106 rfl ?_
    refine q_iload_n X 2 dX12_ban_106 rfl rfl 107 rfl ?_
    refine q_iconst X 1 dX12_ban_107 rfl 108 rfl ?_
    refine q_icmp_ne (A1 := none) (B1 := some ()) (res := ()) X (if_neg (by rw [hk]; decide)) 118 111 dX12_ban_108 (by decide) rfl (fun z => nomatch z) (fun _ => ?_)
    refine q_iload_n X 2 dX12_ban_118 rfl rfl 119 rfl ?_
    refine q_iconst X 2 dX12_ban_119 rfl 120 rfl ?_
    refine q_icmp_ne (A1 := none) (B1 := some ()) (res := ()) X (if_neg (by rw [hk]; decide)) 186 123 dX12_ban_120 (by decide) rfl (fun z => nomatch z) (fun _ => ?_)
    refine q_iload_n X 2 dX12_ban_186 rfl rfl 187 rfl ?_
    refine q_iconst X 3 dX12_ban_187 rfl 188 rfl ?_
    refine q_icmp_ne (A1 := none) (B1 := some ()) (res := ()) X (if_neg (by rw [hk]; decide)) 300 191 dX12_ban_188 (by decide) rfl (fun z => nomatch z) (fun _ => ?_)
    refine q_wd (k := 26) (k2 := 19000) (Nat.le_of_ble_eq_true rfl) (Nat.le_of_ble_eq_true rfl) ?_
    exact ban_300 l hZ hO hV hW hU hG hE hp0 hn hb13 hQ hf X
  by_cases hk1 : k = 1
  · rw [if_neg hk, if_pos hk1] at hF
    cases hF
    refine q_iload_n X 2 dX12_ban_95 rfl rfl 96 rfl ?_
    refine q_if_ne (A1 := none) (B1 := some ()) (res := ()) X (if_neg hk) 106 99 dX12_ban_96 (by decide) rfl (fun z => nomatch z) (fun _ => ?_)
    refine q_iload_n X 2 dX12_ban_106 rfl rfl 107 rfl ?_
    refine q_iconst X 1 dX12_ban_107 rfl 108 rfl ?_
    refine q_icmp_ne (A1 := some ()) (B1 := none) (res := ()) X (if_pos hk1) 118 111 dX12_ban_108 (by decide) rfl (fun _ => ?_) (fun z => nomatch z)
    refine q_aload_n X 5 dX12_ban_111 rfl rfl 112 rfl ?_
    refine q_ldcU X hU 11 rfl dX12_ban_112 114 rfl ?_
    refine ya_apS X hZ hO hV hb (fun A U H h => (hU A U H h).1 11 (by omega)) (tcs_128 _) (by (try simp only [List.length_append, List.length_cons, List.length_nil]); have a0 := tcs_le 11; omega) kL_X12_60 ⟨Nat.le_of_ble_eq_true rfl, Nat.le_of_ble_eq_true rfl⟩ (Nat.le_of_ble_eq_true rfl) ⟨Nat.le_of_ble_eq_true rfl, Nat.le_of_ble_eq_true rfl⟩ dX12_ban_114 117 rfl ?_
    intro b14 hb14
    refine q_pop X dX12_ban_117 rfl 118 rfl ?_
    refine q_iload_n X 2 dX12_ban_118 rfl rfl 119 rfl ?_
    refine q_iconst X 2 dX12_ban_119 rfl 120 rfl ?_
    refine q_icmp_ne (A1 := none) (B1 := some ()) (res := ()) X (if_neg (by rw [hk1]; decide)) 186 123 dX12_ban_120 (by decide) rfl (fun z => nomatch z) (fun _ => ?_)
    refine q_iload_n X 2 dX12_ban_186 rfl rfl 187 rfl ?_
    refine q_iconst X 3 dX12_ban_187 rfl 188 rfl ?_
    refine q_icmp_ne (A1 := none) (B1 := some ()) (res := ()) X (if_neg (by rw [hk1]; decide)) 300 191 dX12_ban_188 (by decide) rfl (fun z => nomatch z) (fun _ => ?_)
    refine q_wd (k := 26) (k2 := 19000) (Nat.le_of_ble_eq_true rfl) (Nat.le_of_ble_eq_true rfl) ?_
    exact ban_300 l hZ hO hV hW hU hG hE hp0 hn hb14 hQ hf X
  by_cases hk2 : k = 2
  · rw [if_neg hk, if_neg hk1, if_pos hk2] at hF
    unfold KG_b2 at hF
    refine q_iload_n X 2 dX12_ban_95 rfl rfl 96 rfl ?_
    refine q_if_ne (A1 := none) (B1 := some ()) (res := ()) X (if_neg hk) 106 99 dX12_ban_96 (by decide) rfl (fun z => nomatch z) (fun _ => ?_)
    refine q_iload_n X 2 dX12_ban_106 rfl rfl 107 rfl ?_
    refine q_iconst X 1 dX12_ban_107 rfl 108 rfl ?_
    refine q_icmp_ne (A1 := none) (B1 := some ()) (res := ()) X (if_neg hk1) 118 111 dX12_ban_108 (by decide) rfl (fun z => nomatch z) (fun _ => ?_)
    refine q_iload_n X 2 dX12_ban_118 rfl rfl 119 rfl ?_
    refine q_iconst X 2 dX12_ban_119 rfl 120 rfl ?_
    refine q_icmp_ne (A1 := some ()) (B1 := none) (res := ()) X (if_pos hk2) 186 123 dX12_ban_120 (by decide) rfl (fun _ => ?_) (fun z => nomatch z)
    refine q_aload X 0 dX12_ban_123 rfl 125 rfl ?_
    refine q_iconst X 3 dX12_ban_125 rfl 126 rfl ?_
    refine q_iconst X 2 dX12_ban_126 rfl 127 rfl ?_
    refine q_aload_n X 4 dX12_ban_127 rfl rfl 128 rfl ?_
    refine q_iconst X 4 dX12_ban_128 rfl 129 rfl ?_
    obtain ⟨⟨a4, m1⟩, g1, hF⟩ := bd_some hF
    dsimp only at hF
    refine y_call X hZ [.int 4] rfl rfl kB_X12_next kL_X12_54 (cw_nx l hZ hW fu g1) rfl ⟨Nat.le_of_ble_eq_true rfl, Nat.le_of_ble_eq_true rfl⟩ (Nat.le_of_ble_eq_true rfl) ⟨Nat.le_of_ble_eq_true rfl, Nat.le_of_ble_eq_true rfl⟩ dX12_ban_129 132 rfl ?_
    refine q_iadd X dX12_ban_132 133 rfl ?_
    refine ya_ias (t0 := 0) (iN := 3) X rfl rfl (by decide) (by decide) dX12_ban_133 134 rfl ?_
    refine q_aload X 0 dX12_ban_134 rfl 136 rfl ?_
    refine q_iconst X 4 dX12_ban_136 rfl 137 rfl ?_
    refine q_aload_n X 4 dX12_ban_137 rfl rfl 138 rfl ?_
    refine q_aload X 0 dX12_ban_138 rfl 140 rfl ?_
    refine q_iconst X 3 dX12_ban_140 rfl 141 rfl ?_
    refine ya_ial (t0 := 0) (iN := 3) X (2 + a4) rfl rfl (by decide) (by decide) rfl dX12_ban_141 142 rfl ?_
    obtain ⟨⟨c4, m2⟩, g2, hF⟩ := bd_some hF
    dsimp only at hF
    refine y_call X hZ [.int (2 + a4)] rfl rfl kB_X12_next kL_X12_54 (cw_nx l hZ hW fu g2) rfl ⟨Nat.le_of_ble_eq_true rfl, Nat.le_of_ble_eq_true rfl⟩ (Nat.le_of_ble_eq_true rfl) ⟨Nat.le_of_ble_eq_true rfl, Nat.le_of_ble_eq_true rfl⟩ dX12_ban_142 145 rfl ?_
    refine ya_ias (t0 := 0) (iN := 4) X rfl rfl (by decide) (by decide) dX12_ban_145 146 rfl ?_
    obtain ⟨k3, g3, hF⟩ := bd_some hF
    obtain ⟨k4, g4, hF⟩ := bd_some hF
    obtain ⟨hsd, hF⟩ := gi_some hF
    cases hF
    refine q_aload_n X 5 dX12_ban_146 rfl rfl 147 rfl ?_
    refine q_sidS X hW hU (List.mem_of_getElem? (i := 2) rfl) dX12_ban_147 150 rfl ?_
    refine q_iload X 1 dX12_ban_150 rfl 152 rfl ?_
    refine q_sidA X hU hsd dX12_ban_152 153 rfl ?_
    refine ya_apS X hZ hO hV hb (fun A U H h => (hU A U H h).1 (19 + d.toNatClampNeg) (by have := vp_lt hsd; omega)) (tcs_128 _) (by (try simp only [List.length_append, List.length_cons, List.length_nil]); have a0 := tcs_le (19 + d.toNatClampNeg); omega) kL_X12_60 ⟨Nat.le_of_ble_eq_true rfl, Nat.le_of_ble_eq_true rfl⟩ (Nat.le_of_ble_eq_true rfl) ⟨Nat.le_of_ble_eq_true rfl, Nat.le_of_ble_eq_true rfl⟩ dX12_ban_153 156 rfl ?_
    intro b15 hb15
    refine q_ldcU X hU 12 rfl dX12_ban_156 158 rfl ?_
    refine ya_apS X hZ hO hV hb15 (fun A U H h => (hU A U H h).1 12 (by omega)) (tcs_128 _) (by (try simp only [List.length_append, List.length_cons, List.length_nil]); have a0 := tcs_le (19 + d.toNatClampNeg); have a1 := tcs_le 12; omega) kL_X12_60 ⟨Nat.le_of_ble_eq_true rfl, Nat.le_of_ble_eq_true rfl⟩ (Nat.le_of_ble_eq_true rfl) ⟨Nat.le_of_ble_eq_true rfl, Nat.le_of_ble_eq_true rfl⟩ dX12_ban_158 161 rfl ?_
    intro b16 hb16
    refine q_aload X 0 dX12_ban_161 rfl 163 rfl ?_
    refine q_iconst X 3 dX12_ban_163 rfl 164 rfl ?_
    refine ya_ial (t0 := 0) (iN := 3) X (2 + a4) rfl rfl (by decide) (by decide) rfl dX12_ban_164 165 rfl ?_
    refine ya_apI X hZ hO hV hG hb16 (k := k3) (gB_some g3).1 (gB_some g3).2 (by (try simp only [List.length_append, List.length_cons, List.length_nil]); have a0 := tcs_le (19 + d.toNatClampNeg); have a1 := tcs_le 12; omega) kL_X12_64 ⟨Nat.le_of_ble_eq_true rfl, Nat.le_of_ble_eq_true rfl⟩ (Nat.le_of_ble_eq_true rfl) ⟨Nat.le_of_ble_eq_true rfl, Nat.le_of_ble_eq_true rfl⟩ dX12_ban_165 168 rfl ?_
    intro b17 hb17
    refine q_ldcU X hU 13 rfl dX12_ban_168 170 rfl ?_
    refine ya_apS X hZ hO hV hb17 (fun A U H h => (hU A U H h).1 13 (by omega)) (tcs_128 _) (by (try simp only [List.length_append, List.length_cons, List.length_nil]); have a0 := tcs_le (19 + d.toNatClampNeg); have a1 := tcs_le 12; have a2 := tcs_le 13; omega) kL_X12_60 ⟨Nat.le_of_ble_eq_true rfl, Nat.le_of_ble_eq_true rfl⟩ (Nat.le_of_ble_eq_true rfl) ⟨Nat.le_of_ble_eq_true rfl, Nat.le_of_ble_eq_true rfl⟩ dX12_ban_170 173 rfl ?_
    intro b18 hb18
    refine q_aload X 0 dX12_ban_173 rfl 175 rfl ?_
    refine q_iconst X 4 dX12_ban_175 rfl 176 rfl ?_
    refine ya_ial (t0 := 0) (iN := 4) X c4 rfl rfl (by decide) (by decide) rfl dX12_ban_176 177 rfl ?_
    refine ya_apI X hZ hO hV hG hb18 (k := k4) (gB_some g4).1 (gB_some g4).2 (by (try simp only [List.length_append, List.length_cons, List.length_nil]); have a0 := tcs_le (19 + d.toNatClampNeg); have a1 := tcs_le 12; have a2 := tcs_le 13; omega) kL_X12_64 ⟨Nat.le_of_ble_eq_true rfl, Nat.le_of_ble_eq_true rfl⟩ (Nat.le_of_ble_eq_true rfl) ⟨Nat.le_of_ble_eq_true rfl, Nat.le_of_ble_eq_true rfl⟩ dX12_ban_177 180 rfl ?_
    intro b19 hb19
    refine q_ldcU X hU 3 rfl dX12_ban_180 182 rfl ?_
    refine ya_apS X hZ hO hV hb19 (fun A U H h => (hU A U H h).1 3 (by omega)) (tcs_128 _) (by (try simp only [List.length_append, List.length_cons, List.length_nil]); have a0 := tcs_le (19 + d.toNatClampNeg); have a1 := tcs_le 12; have a2 := tcs_le 13; have a3 := tcs_le 3; omega) kL_X12_60 ⟨Nat.le_of_ble_eq_true rfl, Nat.le_of_ble_eq_true rfl⟩ (Nat.le_of_ble_eq_true rfl) ⟨Nat.le_of_ble_eq_true rfl, Nat.le_of_ble_eq_true rfl⟩ dX12_ban_182 185 rfl ?_
    intro b20 hb20
    refine q_pop X dX12_ban_185 rfl 186 rfl ?_
    refine q_iload_n X 2 dX12_ban_186 rfl rfl 187 rfl ?_
    refine q_iconst X 3 dX12_ban_187 rfl 188 rfl ?_
    refine q_icmp_ne (A1 := none) (B1 := some ()) (res := ()) X (if_neg (by rw [hk2]; decide)) 300 191 dX12_ban_188 (by decide) rfl (fun z => nomatch z) (fun _ => ?_)
    refine q_wd (k := 26) (k2 := 19000) (Nat.le_of_ble_eq_true rfl) (Nat.le_of_ble_eq_true rfl) ?_
    exact ban_300 l hZ hO hV hW hU hG hE hp0 hn hb20 hQ hf X
  by_cases hk3 : k = 3
  · rw [if_neg hk, if_neg hk1, if_neg hk2, if_pos hk3] at hF
    unfold KG_b3 at hF
    refine q_iload_n X 2 dX12_ban_95 rfl rfl 96 rfl ?_
    refine q_if_ne (A1 := none) (B1 := some ()) (res := ()) X (if_neg hk) 106 99 dX12_ban_96 (by decide) rfl (fun z => nomatch z) (fun _ => ?_)
    refine q_iload_n X 2 dX12_ban_106 rfl rfl 107 rfl ?_
    refine q_iconst X 1 dX12_ban_107 rfl 108 rfl ?_
    refine q_icmp_ne (A1 := none) (B1 := some ()) (res := ()) X (if_neg hk1) 118 111 dX12_ban_108 (by decide) rfl (fun z => nomatch z) (fun _ => ?_)
    refine q_iload_n X 2 dX12_ban_118 rfl rfl 119 rfl ?_
    refine q_iconst X 2 dX12_ban_119 rfl 120 rfl ?_
    refine q_icmp_ne (A1 := none) (B1 := some ()) (res := ()) X (if_neg hk2) 186 123 dX12_ban_120 (by decide) rfl (fun z => nomatch z) (fun _ => ?_)
    refine q_iload_n X 2 dX12_ban_186 rfl rfl 187 rfl ?_
    refine q_iconst X 3 dX12_ban_187 rfl 188 rfl ?_
    refine q_icmp_ne (A1 := some ()) (B1 := none) (res := ()) X (if_pos hk3) 300 191 dX12_ban_188 (by decide) rfl (fun _ => ?_) (fun z => nomatch z)
    refine q_iconst X 3 dX12_ban_191 rfl 192 rfl ?_
    refine q_istore X [(6, .int 3), (5, .ref v), (4, .int d), (3, .int k), (2, .int pp), (0, .ref (ad 0)), (1, .ref sb)] dX12_ban_192 (by decide) rfl 194 rfl ?_
    refine q_iload X 0 dX12_ban_194 rfl 196 rfl ?_
    refine q_bipush X 7 dX12_ban_196 rfl 198 rfl ?_
    refine q_icmp_ge (A1 := some ()) (B1 := none) (res := ()) X (if_pos (by decide)) 235 201 dX12_ban_198 (by decide) rfl (fun _ => ?_) (fun z => nomatch z)
    refine q_aload X 1 dX12_ban_201 rfl 203 rfl ?_
    refine q_iload X 0 dX12_ban_203 rfl 205 rfl ?_
    refine q_aload_n X 5 dX12_ban_205 rfl rfl 206 rfl ?_
    refine q_iload X 0 dX12_ban_206 rfl 208 rfl ?_
    refine q_iconst X 2 dX12_ban_208 rfl 209 rfl ?_
    refine q_irem X (by decide) dX12_ban_209 210 rfl ?_
    refine q_as 1 (by decide) ?_
    refine q_iconst X 1 dX12_ban_210 rfl 211 rfl ?_
    refine q_icmp_ne (A1 := some ()) (B1 := none) (res := ()) X (if_pos rfl) 221 214 dX12_ban_211 (by decide) rfl (fun _ => ?_) (fun z => nomatch z)
    refine q_aload_n X 5 dX12_ban_214 rfl rfl 215 rfl ?_
    refine y_getV (v := .int (rd mem 0 0)) X 0 nw_0 kw_0 (T := TX12) (N := 11) rfl in_X12 0 (by decide) kF_X12_7 rfl rfl dX12_ban_215 218 rfl ?_
    refine q_goto X 225 dX12_ban_218 (by decide) ?_
    obtain ⟨⟨a3, m3⟩, j3, hF⟩ := bd_some hF
    dsimp only at hF
    refine y_call X hZ [.int (rd mem 0 0)] rfl rfl kB_X12_next kL_X12_54 (cw_nx l hZ hW fu j3) rfl ⟨Nat.le_of_ble_eq_true rfl, Nat.le_of_ble_eq_true rfl⟩ (Nat.le_of_ble_eq_true rfl) ⟨Nat.le_of_ble_eq_true rfl, Nat.le_of_ble_eq_true rfl⟩ dX12_ban_225 228 rfl ?_
    refine ya_ias (t0 := 0) (iN := 3) X rfl rfl (by decide) (by decide) dX12_ban_228 229 rfl ?_
    refine q_iinc X 0 4 [(6, .int 4), (5, .ref v), (4, .int d), (3, .int k), (2, .int pp), (0, .ref (ad 0)), (1, .ref sb)] dX12_ban_229 rfl (by decide) (by decide) rfl 232 rfl ?_
    refine q_goto X 194 dX12_ban_232 (by decide) ?_
    refine q_iload X 0 dX12_ban_194 rfl 196 rfl ?_
    refine q_bipush X 7 dX12_ban_196 rfl 198 rfl ?_
    refine q_icmp_ge (A1 := some ()) (B1 := none) (res := ()) X (if_pos (by decide)) 235 201 dX12_ban_198 (by decide) rfl (fun _ => ?_) (fun z => nomatch z)
    refine q_aload X 1 dX12_ban_201 rfl 203 rfl ?_
    refine q_iload X 0 dX12_ban_203 rfl 205 rfl ?_
    refine q_aload_n X 5 dX12_ban_205 rfl rfl 206 rfl ?_
    refine q_iload X 0 dX12_ban_206 rfl 208 rfl ?_
    refine q_iconst X 2 dX12_ban_208 rfl 209 rfl ?_
    refine q_irem X (by decide) dX12_ban_209 210 rfl ?_
    refine q_as 0 (by decide) ?_
    refine q_iconst X 1 dX12_ban_210 rfl 211 rfl ?_
    refine q_icmp_ne (A1 := none) (B1 := some ()) (res := ()) X (if_neg (by decide)) 221 214 dX12_ban_211 (by decide) rfl (fun z => nomatch z) (fun _ => ?_)
    refine q_aload_n X 5 dX12_ban_221 rfl rfl 222 rfl ?_
    refine y_getV (v := .int (rd m3 0 1)) X 0 nw_0 kw_0 (T := TX12) (N := 11) rfl in_X12 1 (by decide) kF_X12_13 rfl rfl dX12_ban_222 225 rfl ?_
    obtain ⟨⟨a4, m4⟩, j4, hF⟩ := bd_some hF
    dsimp only at hF
    refine y_call X hZ [.int (rd m3 0 1)] rfl rfl kB_X12_next kL_X12_54 (cw_nx l hZ hW fu j4) rfl ⟨Nat.le_of_ble_eq_true rfl, Nat.le_of_ble_eq_true rfl⟩ (Nat.le_of_ble_eq_true rfl) ⟨Nat.le_of_ble_eq_true rfl, Nat.le_of_ble_eq_true rfl⟩ dX12_ban_225 228 rfl ?_
    refine ya_ias (t0 := 0) (iN := 4) X rfl rfl (by decide) (by decide) dX12_ban_228 229 rfl ?_
    refine q_iinc X 0 5 [(6, .int 5), (5, .ref v), (4, .int d), (3, .int k), (2, .int pp), (0, .ref (ad 0)), (1, .ref sb)] dX12_ban_229 rfl (by decide) (by decide) rfl 232 rfl ?_
    refine q_goto X 194 dX12_ban_232 (by decide) ?_
    refine q_iload X 0 dX12_ban_194 rfl 196 rfl ?_
    refine q_bipush X 7 dX12_ban_196 rfl 198 rfl ?_
    refine q_icmp_ge (A1 := some ()) (B1 := none) (res := ()) X (if_pos (by decide)) 235 201 dX12_ban_198 (by decide) rfl (fun _ => ?_) (fun z => nomatch z)
    refine q_aload X 1 dX12_ban_201 rfl 203 rfl ?_
    refine q_iload X 0 dX12_ban_203 rfl 205 rfl ?_
    refine q_aload_n X 5 dX12_ban_205 rfl rfl 206 rfl ?_
    refine q_iload X 0 dX12_ban_206 rfl 208 rfl ?_
    refine q_iconst X 2 dX12_ban_208 rfl 209 rfl ?_
    refine q_irem X (by decide) dX12_ban_209 210 rfl ?_
    refine q_as 1 (by decide) ?_
    refine q_iconst X 1 dX12_ban_210 rfl 211 rfl ?_
    refine q_icmp_ne (A1 := some ()) (B1 := none) (res := ()) X (if_pos rfl) 221 214 dX12_ban_211 (by decide) rfl (fun _ => ?_) (fun z => nomatch z)
    refine q_aload_n X 5 dX12_ban_214 rfl rfl 215 rfl ?_
    refine y_getV (v := .int (rd m4 0 0)) X 0 nw_0 kw_0 (T := TX12) (N := 11) rfl in_X12 0 (by decide) kF_X12_7 rfl rfl dX12_ban_215 218 rfl ?_
    refine q_goto X 225 dX12_ban_218 (by decide) ?_
    obtain ⟨⟨a5, m5⟩, j5, hF⟩ := bd_some hF
    dsimp only at hF
    refine y_call X hZ [.int (rd m4 0 0)] rfl rfl kB_X12_next kL_X12_54 (cw_nx l hZ hW fu j5) rfl ⟨Nat.le_of_ble_eq_true rfl, Nat.le_of_ble_eq_true rfl⟩ (Nat.le_of_ble_eq_true rfl) ⟨Nat.le_of_ble_eq_true rfl, Nat.le_of_ble_eq_true rfl⟩ dX12_ban_225 228 rfl ?_
    refine ya_ias (t0 := 0) (iN := 5) X rfl rfl (by decide) (by decide) dX12_ban_228 229 rfl ?_
    refine q_iinc X 0 6 [(6, .int 6), (5, .ref v), (4, .int d), (3, .int k), (2, .int pp), (0, .ref (ad 0)), (1, .ref sb)] dX12_ban_229 rfl (by decide) (by decide) rfl 232 rfl ?_
    refine q_goto X 194 dX12_ban_232 (by decide) ?_
    refine q_iload X 0 dX12_ban_194 rfl 196 rfl ?_
    refine q_bipush X 7 dX12_ban_196 rfl 198 rfl ?_
    refine q_icmp_ge (A1 := some ()) (B1 := none) (res := ()) X (if_pos (by decide)) 235 201 dX12_ban_198 (by decide) rfl (fun _ => ?_) (fun z => nomatch z)
    refine q_aload X 1 dX12_ban_201 rfl 203 rfl ?_
    refine q_iload X 0 dX12_ban_203 rfl 205 rfl ?_
    refine q_aload_n X 5 dX12_ban_205 rfl rfl 206 rfl ?_
    refine q_iload X 0 dX12_ban_206 rfl 208 rfl ?_
    refine q_iconst X 2 dX12_ban_208 rfl 209 rfl ?_
    refine q_irem X (by decide) dX12_ban_209 210 rfl ?_
    refine q_as 0 (by decide) ?_
    refine q_iconst X 1 dX12_ban_210 rfl 211 rfl ?_
    refine q_icmp_ne (A1 := none) (B1 := some ()) (res := ()) X (if_neg (by decide)) 221 214 dX12_ban_211 (by decide) rfl (fun z => nomatch z) (fun _ => ?_)
    refine q_aload_n X 5 dX12_ban_221 rfl rfl 222 rfl ?_
    refine y_getV (v := .int (rd m5 0 1)) X 0 nw_0 kw_0 (T := TX12) (N := 11) rfl in_X12 1 (by decide) kF_X12_13 rfl rfl dX12_ban_222 225 rfl ?_
    obtain ⟨⟨a6, m6⟩, j6, hF⟩ := bd_some hF
    dsimp only at hF
    refine y_call X hZ [.int (rd m5 0 1)] rfl rfl kB_X12_next kL_X12_54 (cw_nx l hZ hW fu j6) rfl ⟨Nat.le_of_ble_eq_true rfl, Nat.le_of_ble_eq_true rfl⟩ (Nat.le_of_ble_eq_true rfl) ⟨Nat.le_of_ble_eq_true rfl, Nat.le_of_ble_eq_true rfl⟩ dX12_ban_225 228 rfl ?_
    refine ya_ias (t0 := 0) (iN := 6) X rfl rfl (by decide) (by decide) dX12_ban_228 229 rfl ?_
    refine q_iinc X 0 7 [(6, .int 7), (5, .ref v), (4, .int d), (3, .int k), (2, .int pp), (0, .ref (ad 0)), (1, .ref sb)] dX12_ban_229 rfl (by decide) (by decide) rfl 232 rfl ?_
    refine q_goto X 194 dX12_ban_232 (by decide) ?_
    refine q_iload X 0 dX12_ban_194 rfl 196 rfl ?_
    refine q_bipush X 7 dX12_ban_196 rfl 198 rfl ?_
    refine q_icmp_ge (A1 := none) (B1 := some ()) (res := ()) X (if_neg (by decide)) 235 201 dX12_ban_198 (by decide) rfl (fun z => nomatch z) (fun _ => ?_)
    obtain ⟨k3, g3, hF⟩ := bd_some hF
    obtain ⟨k4, g4, hF⟩ := bd_some hF
    obtain ⟨k5, g5, hF⟩ := bd_some hF
    obtain ⟨k6, g6, hF⟩ := bd_some hF
    obtain ⟨hsd, hF⟩ := gi_some hF
    cases hF
    refine q_aload_n X 6 dX12_ban_235 rfl rfl 236 rfl ?_
    refine q_sidS X hW hU (List.mem_of_getElem? (i := 2) rfl) dX12_ban_236 239 rfl ?_
    refine q_iload X 2 dX12_ban_239 rfl 241 rfl ?_
    refine q_sidA X hU hsd dX12_ban_241 242 rfl ?_
    refine ya_apS X hZ hO hV hb (fun A U H h => (hU A U H h).1 (19 + d.toNatClampNeg) (by have := vp_lt hsd; omega)) (tcs_128 _) (by (try simp only [List.length_append, List.length_cons, List.length_nil]); have a0 := tcs_le (19 + d.toNatClampNeg); omega) kL_X12_60 ⟨Nat.le_of_ble_eq_true rfl, Nat.le_of_ble_eq_true rfl⟩ (Nat.le_of_ble_eq_true rfl) ⟨Nat.le_of_ble_eq_true rfl, Nat.le_of_ble_eq_true rfl⟩ dX12_ban_242 245 rfl ?_
    intro b21 hb21
    refine q_ldcU X hU 14 rfl dX12_ban_245 247 rfl ?_
    refine ya_apS X hZ hO hV hb21 (fun A U H h => (hU A U H h).1 14 (by omega)) (tcs_128 _) (by (try simp only [List.length_append, List.length_cons, List.length_nil]); have a0 := tcs_le (19 + d.toNatClampNeg); have a1 := tcs_le 14; omega) kL_X12_60 ⟨Nat.le_of_ble_eq_true rfl, Nat.le_of_ble_eq_true rfl⟩ (Nat.le_of_ble_eq_true rfl) ⟨Nat.le_of_ble_eq_true rfl, Nat.le_of_ble_eq_true rfl⟩ dX12_ban_247 250 rfl ?_
    intro b22 hb22
    refine q_aload X 1 dX12_ban_250 rfl 252 rfl ?_
    refine q_iconst X 3 dX12_ban_252 rfl 253 rfl ?_
    refine ya_ial (t0 := 0) (iN := 3) X a3 rfl rfl (by decide) (by decide) rfl dX12_ban_253 254 rfl ?_
    refine ya_apI X hZ hO hV hG hb22 (k := k3) (gB_some g3).1 (gB_some g3).2 (by (try simp only [List.length_append, List.length_cons, List.length_nil]); have a0 := tcs_le (19 + d.toNatClampNeg); have a1 := tcs_le 14; omega) kL_X12_64 ⟨Nat.le_of_ble_eq_true rfl, Nat.le_of_ble_eq_true rfl⟩ (Nat.le_of_ble_eq_true rfl) ⟨Nat.le_of_ble_eq_true rfl, Nat.le_of_ble_eq_true rfl⟩ dX12_ban_254 257 rfl ?_
    intro b23 hb23
    refine q_ldcU X hU 2 rfl dX12_ban_257 259 rfl ?_
    refine ya_apS X hZ hO hV hb23 (fun A U H h => (hU A U H h).1 2 (by omega)) (tcs_128 _) (by (try simp only [List.length_append, List.length_cons, List.length_nil]); have a0 := tcs_le (19 + d.toNatClampNeg); have a1 := tcs_le 14; have a2 := tcs_le 2; omega) kL_X12_60 ⟨Nat.le_of_ble_eq_true rfl, Nat.le_of_ble_eq_true rfl⟩ (Nat.le_of_ble_eq_true rfl) ⟨Nat.le_of_ble_eq_true rfl, Nat.le_of_ble_eq_true rfl⟩ dX12_ban_259 262 rfl ?_
    intro b24 hb24
    refine q_aload X 1 dX12_ban_262 rfl 264 rfl ?_
    refine q_iconst X 4 dX12_ban_264 rfl 265 rfl ?_
    refine ya_ial (t0 := 0) (iN := 4) X a4 rfl rfl (by decide) (by decide) rfl dX12_ban_265 266 rfl ?_
    refine ya_apI X hZ hO hV hG hb24 (k := k4) (gB_some g4).1 (gB_some g4).2 (by (try simp only [List.length_append, List.length_cons, List.length_nil]); have a0 := tcs_le (19 + d.toNatClampNeg); have a1 := tcs_le 14; have a2 := tcs_le 2; omega) kL_X12_64 ⟨Nat.le_of_ble_eq_true rfl, Nat.le_of_ble_eq_true rfl⟩ (Nat.le_of_ble_eq_true rfl) ⟨Nat.le_of_ble_eq_true rfl, Nat.le_of_ble_eq_true rfl⟩ dX12_ban_266 269 rfl ?_
    intro b25 hb25
    refine q_ldcU X hU 15 rfl dX12_ban_269 271 rfl ?_
    refine ya_apS X hZ hO hV hb25 (fun A U H h => (hU A U H h).1 15 (by omega)) (tcs_128 _) (by (try simp only [List.length_append, List.length_cons, List.length_nil]); have a0 := tcs_le (19 + d.toNatClampNeg); have a1 := tcs_le 14; have a2 := tcs_le 2; have a3 := tcs_le 15; omega) kL_X12_60 ⟨Nat.le_of_ble_eq_true rfl, Nat.le_of_ble_eq_true rfl⟩ (Nat.le_of_ble_eq_true rfl) ⟨Nat.le_of_ble_eq_true rfl, Nat.le_of_ble_eq_true rfl⟩ dX12_ban_271 274 rfl ?_
    intro b26 hb26
    refine q_aload X 1 dX12_ban_274 rfl 276 rfl ?_
    refine q_iconst X 5 dX12_ban_276 rfl 277 rfl ?_
    refine ya_ial (t0 := 0) (iN := 5) X a5 rfl rfl (by decide) (by decide) rfl dX12_ban_277 278 rfl ?_
    refine ya_apI X hZ hO hV hG hb26 (k := k5) (gB_some g5).1 (gB_some g5).2 (by (try simp only [List.length_append, List.length_cons, List.length_nil]); have a0 := tcs_le (19 + d.toNatClampNeg); have a1 := tcs_le 14; have a2 := tcs_le 2; have a3 := tcs_le 15; omega) kL_X12_64 ⟨Nat.le_of_ble_eq_true rfl, Nat.le_of_ble_eq_true rfl⟩ (Nat.le_of_ble_eq_true rfl) ⟨Nat.le_of_ble_eq_true rfl, Nat.le_of_ble_eq_true rfl⟩ dX12_ban_278 281 rfl ?_
    intro b27 hb27
    refine q_ldcU X hU 2 rfl dX12_ban_281 283 rfl ?_
    refine ya_apS X hZ hO hV hb27 (fun A U H h => (hU A U H h).1 2 (by omega)) (tcs_128 _) (by (try simp only [List.length_append, List.length_cons, List.length_nil]); have a0 := tcs_le (19 + d.toNatClampNeg); have a1 := tcs_le 14; have a2 := tcs_le 2; have a3 := tcs_le 15; omega) kL_X12_60 ⟨Nat.le_of_ble_eq_true rfl, Nat.le_of_ble_eq_true rfl⟩ (Nat.le_of_ble_eq_true rfl) ⟨Nat.le_of_ble_eq_true rfl, Nat.le_of_ble_eq_true rfl⟩ dX12_ban_283 286 rfl ?_
    intro b28 hb28
    refine q_aload X 1 dX12_ban_286 rfl 288 rfl ?_
    refine q_bipush X 6 dX12_ban_288 rfl 290 rfl ?_
    refine ya_ial (t0 := 0) (iN := 6) X a6 rfl rfl (by decide) (by decide) rfl dX12_ban_290 291 rfl ?_
    refine ya_apI X hZ hO hV hG hb28 (k := k6) (gB_some g6).1 (gB_some g6).2 (by (try simp only [List.length_append, List.length_cons, List.length_nil]); have a0 := tcs_le (19 + d.toNatClampNeg); have a1 := tcs_le 14; have a2 := tcs_le 2; have a3 := tcs_le 15; omega) kL_X12_64 ⟨Nat.le_of_ble_eq_true rfl, Nat.le_of_ble_eq_true rfl⟩ (Nat.le_of_ble_eq_true rfl) ⟨Nat.le_of_ble_eq_true rfl, Nat.le_of_ble_eq_true rfl⟩ dX12_ban_291 294 rfl ?_
    intro b29 hb29
    refine q_ldcU X hU 3 rfl dX12_ban_294 296 rfl ?_
    refine ya_apS X hZ hO hV hb29 (fun A U H h => (hU A U H h).1 3 (by omega)) (tcs_128 _) (by (try simp only [List.length_append, List.length_cons, List.length_nil]); have a0 := tcs_le (19 + d.toNatClampNeg); have a1 := tcs_le 14; have a2 := tcs_le 2; have a3 := tcs_le 15; have a4 := tcs_le 3; omega) kL_X12_60 ⟨Nat.le_of_ble_eq_true rfl, Nat.le_of_ble_eq_true rfl⟩ (Nat.le_of_ble_eq_true rfl) ⟨Nat.le_of_ble_eq_true rfl, Nat.le_of_ble_eq_true rfl⟩ dX12_ban_296 299 rfl ?_
    intro b30 hb30
    refine q_pop X dX12_ban_299 rfl 300 rfl ?_
    refine n_keep [1, 2, 3, 4, 5, 6] rfl ?_
    refine q_wd (k := 26) (k2 := 19000) (Nat.le_of_ble_eq_true rfl) (Nat.le_of_ble_eq_true rfl) ?_
    exact ban_300 l hZ hO hV hW hU hG hE hp0 hn hb30 hQ hf X
  · rw [if_neg hk, if_neg hk1, if_neg hk2, if_neg hk3] at hF
    cases hF
    refine q_iload_n X 2 dX12_ban_95 rfl rfl 96 rfl ?_
    refine q_if_ne (A1 := none) (B1 := some ()) (res := ()) X (if_neg hk) 106 99 dX12_ban_96 (by decide) rfl (fun z => nomatch z) (fun _ => ?_)
    refine q_iload_n X 2 dX12_ban_106 rfl rfl 107 rfl ?_
    refine q_iconst X 1 dX12_ban_107 rfl 108 rfl ?_
    refine q_icmp_ne (A1 := none) (B1 := some ()) (res := ()) X (if_neg hk1) 118 111 dX12_ban_108 (by decide) rfl (fun z => nomatch z) (fun _ => ?_)
    refine q_iload_n X 2 dX12_ban_118 rfl rfl 119 rfl ?_
    refine q_iconst X 2 dX12_ban_119 rfl 120 rfl ?_
    refine q_icmp_ne (A1 := none) (B1 := some ()) (res := ()) X (if_neg hk2) 186 123 dX12_ban_120 (by decide) rfl (fun z => nomatch z) (fun _ => ?_)
    refine q_iload_n X 2 dX12_ban_186 rfl rfl 187 rfl ?_
    refine q_iconst X 3 dX12_ban_187 rfl 188 rfl ?_
    refine q_icmp_ne (A1 := none) (B1 := some ()) (res := ()) X (if_neg hk3) 300 191 dX12_ban_188 (by decide) rfl (fun z => nomatch z) (fun _ => ?_)
    refine q_wd (k := 26) (k2 := 19000) (Nat.le_of_ble_eq_true rfl) (Nat.le_of_ble_eq_true rfl) ?_
    exact ban_300 l hZ hO hV hW hU hG hE hp0 hn hb hQ hf X
set_option maxRecDepth 100000 in
/-- a ban grows -/
theorem cg_ban {b : BLD} {tx : List Nat} (l : Launch) (hZ : ZOK Z) (hO : ZO Z tO sK sV) (hV : ZVO Z) (hW : ZWO Z tA tU sB L xs) (hU : ZUO Z uK uV tD) (hG : ∀ A U H, Z A U H → zDg tG A U H) (hE : ∀ A U H, Z A U H → zE eD A U H) {fu nb2 : Nat} {mem2 : Mem} {tx2 : List Nat} (hF : KG_ban L xs fu np nb mem tx = some (nb2, mem2, tx2)) (hb : SBK b tx) : LC l D (tyL ca) Z yX12_ban cX12_ban 7 none rw_ban [.ref (ad 0), .ref sb] (wf (nW np nb) ad (cWd ca ad np nb eD tS sB) mem ++ sbw ca sb b tx.length) (fun v w => v = none ∧ QGr ca ad np nb2 eD tS sB sb (nW np nb) mem2 tx2 w) := by
  refine qstart (own := RX12) rfl (by decide) (Nat.le_of_ble_eq_true rfl) ?_
  intro p e s m args below meth c Q hQ X hi
  unfold KG_ban at hF
  by_cases hgu : 0 < np ∧ np ≤ 4 ∧ nb < 4 ∧ tx.length ≤ 300
  · rw [if_pos hgu] at hF
    have hl := hgu.2.2.2
    refine q_aload_n X 0 dX12_ban_0 rfl rfl 1 rfl ?_
    refine q_aload_n X 0 dX12_ban_1 rfl rfl 2 rfl ?_
    refine y_getV (v := .ref (ad 1)) X 0 nw_0 kw_0 (T := TX12) (N := 11) rfl in_X12 5 (by decide) kF_X12_19 rfl rfl dX12_ban_2 5 rfl ?_
    refine y_size X hZ hW kL_X12_106 ⟨Nat.le_of_ble_eq_true rfl, Nat.le_of_ble_eq_true rfl⟩ (Nat.le_of_ble_eq_true rfl) ⟨Nat.le_of_ble_eq_true rfl, Nat.le_of_ble_eq_true rfl⟩ dX12_ban_5 10 rfl ?_
    obtain ⟨⟨pp, m1⟩, h1, hF⟩ := bd_some hF
    dsimp only at hF
    refine y_call X hZ [.int (nI np)] rfl rfl kB_X12_next kL_X12_54 (cw_nx l hZ hW fu h1) rfl ⟨Nat.le_of_ble_eq_true rfl, Nat.le_of_ble_eq_true rfl⟩ (Nat.le_of_ble_eq_true rfl) ⟨Nat.le_of_ble_eq_true rfl, Nat.le_of_ble_eq_true rfl⟩ dX12_ban_10 13 rfl ?_
    refine q_istore_n X [(2, .int pp), (0, .ref (ad 0)), (1, .ref sb)] dX12_ban_13 rfl (by decide) rfl 14 rfl ?_
    refine q_aload_n X 1 dX12_ban_14 rfl rfl 15 rfl ?_
    refine q_iconst X 4 dX12_ban_15 rfl 16 rfl ?_
    obtain ⟨⟨k, m2⟩, h2, hF⟩ := bd_some hF
    dsimp only at hF
    refine y_call X hZ [.int 4] rfl rfl kB_X12_next kL_X12_54 (cw_nx l hZ hW fu h2) rfl ⟨Nat.le_of_ble_eq_true rfl, Nat.le_of_ble_eq_true rfl⟩ (Nat.le_of_ble_eq_true rfl) ⟨Nat.le_of_ble_eq_true rfl, Nat.le_of_ble_eq_true rfl⟩ dX12_ban_16 19 rfl ?_
    refine q_istore_n X [(3, .int k), (2, .int pp), (0, .ref (ad 0)), (1, .ref sb)] dX12_ban_19 rfl (by decide) rfl 20 rfl ?_
    refine q_aload_n X 2 dX12_ban_20 rfl rfl 21 rfl ?_
    refine q_iconst X 4 dX12_ban_21 rfl 22 rfl ?_
    obtain ⟨⟨d, m3⟩, h3, hF⟩ := bd_some hF
    dsimp only at hF
    refine y_call X hZ [.int 4] rfl rfl kB_X12_next kL_X12_54 (cw_nx l hZ hW fu h3) rfl ⟨Nat.le_of_ble_eq_true rfl, Nat.le_of_ble_eq_true rfl⟩ (Nat.le_of_ble_eq_true rfl) ⟨Nat.le_of_ble_eq_true rfl, Nat.le_of_ble_eq_true rfl⟩ dX12_ban_22 25 rfl ?_
    refine q_istore X [(4, .int d), (3, .int k), (2, .int pp), (0, .ref (ad 0)), (1, .ref sb)] dX12_ban_25 (by decide) rfl 27 rfl ?_
    refine q_bipush X 7 dX12_ban_27 rfl 29 rfl ?_
    obtain ⟨kp, h4, hF⟩ := bd_some hF
    refine n_newa (atype := .int) (ty := .int) (t0 := 0) (N' := 7) (7, .inl (fun _ => 0)) X rfl kA_int rfl (fun _ => rfl) (by decide) (by decide) (by decide) ⟨Nat.le_of_ble_eq_true rfl, Nat.le_of_ble_eq_true rfl⟩ dX12_ban_29 31 rfl ?_
    intro v
    refine n_perm (ws' := wf (nW np nb) ad (cWd ca ad np nb eD tS sB) m3 ++ ((v, .inl (ca 0, 7, .inl (fun _ => 0))) :: sbw ca sb b tx.length)) ?_ ?_
    · rw [List.append_assoc]
      exact List.Perm.append_left _ (pm_rotE rfl rfl).symm
    refine q_dup X dX12_ban_31 rfl 32 rfl ?_
    refine q_iconst X 0 dX12_ban_32 rfl 33 rfl ?_
    refine q_iload_n X 2 dX12_ban_33 rfl rfl 34 rfl ?_
    refine ya_ias (t0 := 0) (iN := 0) X rfl nI_0.symm (by decide) (by decide) dX12_ban_34 35 rfl ?_
    refine q_dup X dX12_ban_35 rfl 36 rfl ?_
    refine q_iconst X 1 dX12_ban_36 rfl 37 rfl ?_
    refine q_iload_n X 1 dX12_ban_37 rfl rfl 38 rfl ?_
    refine ya_ias (t0 := 0) (iN := 1) X rfl rfl (by decide) (by decide) dX12_ban_38 39 rfl ?_
    refine q_dup X dX12_ban_39 rfl 40 rfl ?_
    refine q_iconst X 2 dX12_ban_40 rfl 41 rfl ?_
    refine q_iload X 0 dX12_ban_41 rfl 43 rfl ?_
    refine ya_ias (t0 := 0) (iN := 2) X rfl rfl (by decide) (by decide) dX12_ban_43 44 rfl ?_
    refine q_dup X dX12_ban_44 rfl 45 rfl ?_
    refine q_iconst X 3 dX12_ban_45 rfl 46 rfl ?_
    refine q_iconst X 0 dX12_ban_46 rfl 47 rfl ?_
    refine ya_ias (t0 := 0) (iN := 3) X rfl rfl (by decide) (by decide) dX12_ban_47 48 rfl ?_
    refine q_dup X dX12_ban_48 rfl 49 rfl ?_
    refine q_iconst X 4 dX12_ban_49 rfl 50 rfl ?_
    refine q_iconst X 0 dX12_ban_50 rfl 51 rfl ?_
    refine ya_ias (t0 := 0) (iN := 4) X rfl rfl (by decide) (by decide) dX12_ban_51 52 rfl ?_
    refine q_dup X dX12_ban_52 rfl 53 rfl ?_
    refine q_iconst X 5 dX12_ban_53 rfl 54 rfl ?_
    refine q_iconst X 0 dX12_ban_54 rfl 55 rfl ?_
    refine ya_ias (t0 := 0) (iN := 5) X rfl rfl (by decide) (by decide) dX12_ban_55 56 rfl ?_
    refine q_dup X dX12_ban_56 rfl 57 rfl ?_
    refine q_bipush X 6 dX12_ban_57 rfl 59 rfl ?_
    refine q_iconst X 0 dX12_ban_59 rfl 60 rfl ?_
    refine ya_ias (t0 := 0) (iN := 6) X rfl rfl (by decide) (by decide) dX12_ban_60 61 rfl ?_
    refine q_astore X [(5, .ref v), (4, .int d), (3, .int k), (2, .int pp), (0, .ref (ad 0)), (1, .ref sb)] dX12_ban_61 (by decide) rfl 63 rfl ?_
    refine q_aload_n X 5 dX12_ban_63 rfl rfl 64 rfl ?_
    refine q_ldcU X hU 9 rfl dX12_ban_64 66 rfl ?_
    refine ya_apS X hZ hO hV hb (fun A U H h => (hU A U H h).1 9 (by omega)) (tcs_128 _) (by (try simp only [List.length_append, List.length_cons, List.length_nil]); have a0 := tcs_le 9; omega) kL_X12_60 ⟨Nat.le_of_ble_eq_true rfl, Nat.le_of_ble_eq_true rfl⟩ (Nat.le_of_ble_eq_true rfl) ⟨Nat.le_of_ble_eq_true rfl, Nat.le_of_ble_eq_true rfl⟩ dX12_ban_66 69 rfl ?_
    intro b31 hb31
    refine q_bipush X 97 dX12_ban_69 rfl 71 rfl ?_
    refine q_iload_n X 3 dX12_ban_71 rfl rfl 72 rfl ?_
    refine q_iadd X dX12_ban_72 73 rfl ?_
    refine q_as (nI (97 + kp)) (by rw [(gB_some h4).1]; exact nI_add 97 kp) ?_
    refine q_i2c X dX12_ban_73 74 rfl ?_
    refine q_as (nI (97 + kp)) (nI_65 (by have := (gB_some h4).2; omega)) ?_
    refine ya_apC X hZ hO hV hb31 (k := 97 + kp) rfl (by have := (gB_some h4).2; omega) (by (try simp only [List.length_append, List.length_cons, List.length_nil]); have a0 := tcs_le 9; omega) kL_X12_110 ⟨Nat.le_of_ble_eq_true rfl, Nat.le_of_ble_eq_true rfl⟩ (Nat.le_of_ble_eq_true rfl) ⟨Nat.le_of_ble_eq_true rfl, Nat.le_of_ble_eq_true rfl⟩ dX12_ban_74 77 rfl ?_
    intro b32 hb32
    refine q_iload_n X 3 dX12_ban_77 rfl rfl 78 rfl ?_
    refine q_iconst X 2 dX12_ban_78 rfl 79 rfl ?_
    refine q_irem X (by decide) dX12_ban_79 80 rfl ?_
    refine q_as (nI (kp % 2)) (by rw [(gB_some h4).1]; exact pk_rem (a := kp) (d := 2) (by have := (gB_some h4).2; omega) (by decide) (by decide)) ?_
    refine q_ternS X hU 7 2 (kp % 2 = 1) (nI_eq (a := kp % 2) (b := 1) (by omega) (by decide)) rfl rfl dX12_ban_80 81 rfl dX12_ban_81 84 rfl dX12_ban_84 86 rfl dX12_ban_86 89 rfl dX12_ban_89 91 rfl ?_
    refine ya_apS X hZ hO hV hb32 (fun A U H h => (hU A U H h).1 (if kp % 2 = 1 then 7 else 2) (by split <;> omega)) (tcs_128 _) (by (try simp only [List.length_append, List.length_cons, List.length_nil]); have a0 := tcs_le 9; have a1 := tcs_le (if kp % 2 = 1 then 7 else 2); omega) kL_X12_60 ⟨Nat.le_of_ble_eq_true rfl, Nat.le_of_ble_eq_true rfl⟩ (Nat.le_of_ble_eq_true rfl) ⟨Nat.le_of_ble_eq_true rfl, Nat.le_of_ble_eq_true rfl⟩ dX12_ban_91 94 rfl ?_
    intro b33 hb33
    refine q_pop X dX12_ban_94 rfl 95 rfl ?_
    refine q_wd (k := 4) (k2 := 4000) (Nat.le_of_ble_eq_true rfl) (Nat.le_of_ble_eq_true rfl) ?_
    exact ban_95 (r := fun _ => 0) l hZ hO hV hW hU hG hE hF hgu.1 ⟨hgu.2.1, hgu.2.2.1⟩ hb33 (by unfold bnTx; (try simp only [List.length_append, List.length_cons, List.length_nil]); have a0 := tcs_le 9; have a1 := tcs_le (if kp % 2 = 1 then 7 else 2); omega) hQ (fun w h => ⟨rfl, h⟩) X
  · rw [if_neg hgu] at hF
    cases hF
end GHB
