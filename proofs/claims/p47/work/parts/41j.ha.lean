section GHA
variable {D : va_G} {Z : (Nat → Prop) → State → Heap → Prop}
variable {tO tD tA tU tG L np eD tS sB : Nat} {xs : Nat → Int32} {sK sV uK uV : Nat → Nat} {ca ad : Nat → Nat} {sb : Nat} {mem : Mem}
theorem ZW_S (hW : ZWO Z tA tU sB L xs) : ∀ A U H, Z A U H → va_Nw (.sameField "java/util/ArrayList" "java/util/AbstractList" "modCount" "I") U := fun A U H h => (hW A U H h).2.2.2.1 _ (List.mem_of_getElem? (i := 6) rfl)
theorem ZW_O (hW : ZWO Z tA tU sB L xs) : ∀ A U H, Z A U H → va_AO "java/lang/Object" U := fun A U H h => (hW A U H h).2.2.2.2.2.2
def wlTx (wl own : Int32) (kw : Nat) : List Nat := if wl = own then tcs 0 else tcs 8 ++ [48 + kw]
def pwTx (np kx ky sd kw : Nat) (wl own : Int32) (tx : List Nat) : List Nat := tx ++ tcs 6 ++ [97 + np] ++ tcs (if np % 2 = 1 then 7 else 2) ++ [48 + kx] ++ tcs 2 ++ [48 + ky] ++ tcs 2 ++ tcs (19 + sd) ++ wlTx wl own kw ++ tcs 3
def pwRow (px py sd wl : Int32) : Row := (upd (upd (upd (upd (upd (upd (upd (fun _ => 0) 0 px) 1 py) 2 sd) 3 wl) 4 0) 5 (-1)) 6 0, fun _ => 0)
def KG_pw (np : Nat) (px py sd wl own : Int32) (mem : Mem) (tx : List Nat) : Option (Nat × Mem × List Nat) :=
  if np < 4 ∧ tx.length ≤ 300 then bd (gBk px) (fun kx => bd (gBk py) (fun ky => bd (gBk wl) (fun kw => gi sd 4 (some (np + 1, gM mem (13 + np) 1 (pwRow px py sd wl), pwTx np kx ky sd.toNatClampNeg kw wl own tx))))) else none
def KG_pawn3 (fu np : Nat) (px py sd own wl : Int32) (mem : Mem) (tx : List Nat) : Option (Nat × Mem × List Nat) :=
  bd (KW_pawnAt np 0 fu px py mem) (fun r => if r < 0 then bd (KW_isAtSide np 0 fu px py sd mem) (fun z => if z = 0 then KG_pw np px py sd wl own mem tx else some (np, mem, tx)) else some (np, mem, tx))
def KG_pawn (L : Nat) (xs : Nat → Int32) (fu np : Nat) (own : Int32) (mem : Mem) (tx : List Nat) : Option (Nat × Mem × List Nat) :=
  bd (KW_nx L xs fu (rd mem 0 0) mem) (fun p => bd (KW_nx L xs fu (rd p.2 0 1) p.2) (fun q => bd (KW_nx L xs fu 4 q.2) (fun d => bd (KW_nx L xs fu 2 d.2) (fun c => if c.1 = 0 then KG_pawn3 fu np p.1 q.1 d.1 own own c.2 tx else bd (KW_nx L xs fu 6 c.2) (fun w => KG_pawn3 fu np p.1 q.1 d.1 own w.1 w.2 tx)))))
/-- what stands behind a growing: the world at its places, the builder -/
def QGr (ca : Nat → Nat) (ad : Nat → Nat) (np nb eD tS sB sb : Nat) (n0 : Nat) (mem : Mem) (tx : List Nat) (w : va_W) : Prop := ∃ (ad' : Nat → Nat) (b' : BLD), w = wf (nW np nb) ad' (cWd ca ad' np nb eD tS sB) mem ++ sbw ca sb b' tx.length ∧ SBK b' tx ∧ ∀ k, k < n0 → ad' k = ad k
def rw_pawn : Room := { frames := 7, cells := 30, slots := 20000, locals := 240 }
theorem tcs_le : ∀ i, (tcs i).length ≤ 11 := by
  intro i
  unfold tcs
  split <;> decide
section
variable {A : Nat → Prop} {p : Program} {l : Launch} {e : Env} {R : Room} {s : State} {m : MethodId} {args : Array Value} {below : List Frame} {meth : Method} {c : Code} {cc : ByteArray} {nL : Nat} {own : String} {ret : Option FieldType} {cells slots : Nat} {Q : State → Prop} {ws : va_W} {pc : Nat} {lv : List (Nat × Value)} {st : List Value}
theorem q_ternS {ia ib : Nat} {ta tb : String} {x : Int32} (X : CN D (tyL ca) A Z p s m args meth c cc nL RX12 ret) (hU : ZUO Z uK uV tD) (a b : Nat) (P : Prop) [Decidable P] (hP : x = 1 ↔ P) (hta : txL[a]? = some (ia, ta)) (htb : txL[b]? = some (ib, tb)) (d0 : decode cc pc = .ok (.iconst 1, 1)) (p1 : Nat) (e1 : pc + 1 = p1) (d1 : decode cc p1 = .ok (.if_icmp .ne 8, 3)) (p2 : Nat) (e2 : p1 + 3 = p2) (d2 : decode cc p2 = .ok (.ldc ia, 2)) (p3 : Nat) (e3 : p2 + 2 = p3) (d3 : decode cc p3 = .ok (.goto 5, 3)) (p4 : Nat) (e4 : p1 + 8 = p4) (d4 : decode cc p4 = .ok (.ldc ib, 2)) (p5 : Nat) (e5 : p4 + 2 = p5) (kk : NN D A p l e R s m args below meth c nL cells slots Q ws p5 lv (.ref (uK (if P then a else b)) :: st)) : NN D A p l e R s m args below meth c nL cells slots Q ws pc lv (.int x :: st) := by
  refine q_iconst X 1 d0 rfl p1 e1 ?_
  by_cases h : x = 1
  · refine q_icmp_ne (A1 := some ()) (B1 := none) (res := ()) X (if_pos h) p4 p2 d1 (by omega) e2 (fun _ => ?_) (fun z => nomatch z)
    refine q_ldcU X hU a hta d2 p3 e3 ?_
    refine q_goto X p5 d3 (by omega) ?_
    rw [if_pos (hP.mp h)] at kk
    exact kk
  · refine q_icmp_ne (A1 := none) (B1 := some ()) (res := ()) X (if_neg h) p4 p2 d1 (by omega) e2 (fun z => nomatch z) (fun _ => ?_)
    refine q_ldcU X hU b htb d4 p5 e5 ?_
    rw [if_neg (fun z => h (hP.mpr z))] at kk
    exact kk
theorem q_ternZ {ia ib : Nat} {ta tb : String} {x : Int32} (X : CN D (tyL ca) A Z p s m args meth c cc nL RX12 ret) (hU : ZUO Z uK uV tD) (a b : Nat) (hta : txL[a]? = some (ia, ta)) (htb : txL[b]? = some (ib, tb)) (d1 : decode cc pc = .ok (.ifCond .ne 8, 3)) (p2 : Nat) (e2 : pc + 3 = p2) (d2 : decode cc p2 = .ok (.ldc ia, 2)) (p3 : Nat) (e3 : p2 + 2 = p3) (d3 : decode cc p3 = .ok (.goto 5, 3)) (p4 : Nat) (e4 : pc + 8 = p4) (d4 : decode cc p4 = .ok (.ldc ib, 2)) (p5 : Nat) (e5 : p4 + 2 = p5) (kk : NN D A p l e R s m args below meth c nL cells slots Q ws p5 lv (.ref (uK (if x = 0 then a else b)) :: st)) : NN D A p l e R s m args below meth c nL cells slots Q ws pc lv (.int x :: st) := by
  by_cases h : x = 0
  · refine q_if_ne (A1 := some ()) (B1 := none) (res := ()) X (if_pos h) p4 p2 d1 (by omega) e2 (fun _ => ?_) (fun z => nomatch z)
    refine q_ldcU X hU a hta d2 p3 e3 ?_
    refine q_goto X p5 d3 (by omega) ?_
    rw [if_pos h] at kk
    exact kk
  · refine q_if_ne (A1 := none) (B1 := some ()) (res := ()) X (if_neg h) p4 p2 d1 (by omega) e2 (fun z => nomatch z) (fun _ => ?_)
    refine q_ldcU X hU b htb d4 p5 e5 ?_
    rw [if_neg h] at kk
    exact kk
end
theorem pm_3z {α : Type} {a b v : α} {l : List α} : (a :: b :: v :: l).Perm (v :: a :: b :: l) := ((List.Perm.cons a (List.Perm.swap v b l)).trans (List.Perm.swap v a (b :: l)))
set_option maxRecDepth 100000 in
theorem pawn_180 {b : BLD} {tx : List Nat} {px py sd wl ow : Int32} (l : Launch) (hZ : ZOK Z) (hO : ZO Z tO sK sV) (hV : ZVO Z) (hW : ZWO Z tA tU sB L xs) (hU : ZUO Z uK uV tD) (hG : ∀ A U H, Z A U H → zDg tG A U H) (hE : ∀ A U H, Z A U H → zE eD A U H) (hn : np < 4) (hb : SBK b tx) (hl : tx.length + 11 ≤ 400) {p : Program} {e : Env} {s : State} {m : MethodId} {args : Array Value} {below : List Frame} {meth : Method} {c : Code} {Q : State → Prop} {wc : va_W} {Qf : Option Value → va_W → Prop} (hQ : Q = MQ below (QL D wc Qf s.heap.size) args s rw_pawn.cells rw_pawn.slots (va_A wc s.heap.size)) (hf : ∀ w, QGr ca ad (np + 1) 0 eD tS sB sb (nW np 0) (gM mem (13 + np) 1 (pwRow px py sd wl)) (tx ++ tcs 3) w → Qf none w) (X : CN D (tyL ca) (va_A wc s.heap.size) Z p s m args meth c cX12_pawn 7 RX12 none) : NN D (va_A wc s.heap.size) p l e rw_pawn s m args below meth c 7 20 15000 Q (wf (nW np 0) ad (cWd ca ad np 0 eD tS sB) mem ++ sbw ca sb b tx.length) 180 [(6, .int wl), (5, .int sd), (4, .int py), (3, .int px), (0, .ref (ad 0)), (1, .ref sb), (2, .int ow)] [.ref sb] := by
  have bl := hl
  refine q_ldcU X hU 3 rfl dX12_pawn_180 182 rfl ?_
  refine y_apS X hZ hO hV hb (fun A U H h => (hU A U H h).1 3 (by omega)) (tcs_128 _) (by (try simp only [List.length_append, List.length_cons, List.length_nil]); have a0 := tcs_le 3; omega) kL_X12_60 ⟨Nat.le_of_ble_eq_true rfl, Nat.le_of_ble_eq_true rfl⟩ (Nat.le_of_ble_eq_true rfl) ⟨Nat.le_of_ble_eq_true rfl, Nat.le_of_ble_eq_true rfl⟩ dX12_pawn_182 185 rfl ?_
  intro b1 hb1
  refine q_pop X dX12_pawn_185 rfl 186 rfl ?_
  refine q_aload_n X 4 dX12_pawn_186 rfl rfl 187 rfl ?_
  refine y_getV (v := .ref (ad 1)) X 0 nw_0 kw_0 (T := TX12) (N := 11) rfl in_X12 5 (by decide) kF_X12_19 rfl rfl dX12_pawn_187 190 rfl ?_
  refine q_bipush X 7 dX12_pawn_190 rfl 192 rfl ?_
  refine n_newa (atype := .int) (ty := .int) (t0 := 0) (N' := 7) (7, .inl (fun _ => 0)) X rfl kA_int rfl (fun _ => rfl) (by decide) (by decide) (by decide) ⟨Nat.le_of_ble_eq_true rfl, Nat.le_of_ble_eq_true rfl⟩ dX12_pawn_192 194 rfl ?_
  intro v
  refine n_perm (ws' := (v, .inl (ca 0, 7, .inl (fun _ => 0))) :: (wf (nW np 0) ad (cWd ca ad np 0 eD tS sB) mem ++ sbw ca sb b1 (tx ++ tcs 3).length)) (List.perm_append_comm (l₁ := [_])) ?_
  refine q_dup X dX12_pawn_194 rfl 195 rfl ?_
  refine q_iconst X 0 dX12_pawn_195 rfl 196 rfl ?_
  refine q_iload_n X 3 dX12_pawn_196 rfl rfl 197 rfl ?_
  refine q_ias (t0 := 0) X 0 0 ((v, .inl (ca 0, 7, .inl (upd (fun _ => 0) 0 px))) :: (wf (nW np 0) ad (cWd ca ad np 0 eD tS sB) mem ++ sbw ca sb b1 (tx ++ tcs 3).length)) rfl rfl nI_0.symm (by decide) (by decide) rfl dX12_pawn_197 198 rfl ?_
  refine q_dup X dX12_pawn_198 rfl 199 rfl ?_
  refine q_iconst X 1 dX12_pawn_199 rfl 200 rfl ?_
  refine q_iload X 2 dX12_pawn_200 rfl 202 rfl ?_
  refine q_ias (t0 := 0) X 0 1 ((v, .inl (ca 0, 7, .inl (upd (upd (fun _ => 0) 0 px) 1 py))) :: (wf (nW np 0) ad (cWd ca ad np 0 eD tS sB) mem ++ sbw ca sb b1 (tx ++ tcs 3).length)) rfl rfl rfl (by decide) (by decide) rfl dX12_pawn_202 203 rfl ?_
  refine q_dup X dX12_pawn_203 rfl 204 rfl ?_
  refine q_iconst X 2 dX12_pawn_204 rfl 205 rfl ?_
  refine q_iload X 1 dX12_pawn_205 rfl 207 rfl ?_
  refine q_ias (t0 := 0) X 0 2 ((v, .inl (ca 0, 7, .inl (upd (upd (upd (fun _ => 0) 0 px) 1 py) 2 sd))) :: (wf (nW np 0) ad (cWd ca ad np 0 eD tS sB) mem ++ sbw ca sb b1 (tx ++ tcs 3).length)) rfl rfl rfl (by decide) (by decide) rfl dX12_pawn_207 208 rfl ?_
  refine q_dup X dX12_pawn_208 rfl 209 rfl ?_
  refine q_iconst X 3 dX12_pawn_209 rfl 210 rfl ?_
  refine q_iload X 0 dX12_pawn_210 rfl 212 rfl ?_
  refine q_ias (t0 := 0) X 0 3 ((v, .inl (ca 0, 7, .inl (upd (upd (upd (upd (fun _ => 0) 0 px) 1 py) 2 sd) 3 wl))) :: (wf (nW np 0) ad (cWd ca ad np 0 eD tS sB) mem ++ sbw ca sb b1 (tx ++ tcs 3).length)) rfl rfl rfl (by decide) (by decide) rfl dX12_pawn_212 213 rfl ?_
  refine q_dup X dX12_pawn_213 rfl 214 rfl ?_
  refine q_iconst X 4 dX12_pawn_214 rfl 215 rfl ?_
  refine q_iconst X 0 dX12_pawn_215 rfl 216 rfl ?_
  refine q_ias (t0 := 0) X 0 4 ((v, .inl (ca 0, 7, .inl (upd (upd (upd (upd (upd (fun _ => 0) 0 px) 1 py) 2 sd) 3 wl) 4 0))) :: (wf (nW np 0) ad (cWd ca ad np 0 eD tS sB) mem ++ sbw ca sb b1 (tx ++ tcs 3).length)) rfl rfl rfl (by decide) (by decide) rfl dX12_pawn_216 217 rfl ?_
  refine q_dup X dX12_pawn_217 rfl 218 rfl ?_
  refine q_iconst X 5 dX12_pawn_218 rfl 219 rfl ?_
  refine q_iconst X (-1) dX12_pawn_219 rfl 220 rfl ?_
  refine q_ias (t0 := 0) X 0 5 ((v, .inl (ca 0, 7, .inl (upd (upd (upd (upd (upd (upd (fun _ => 0) 0 px) 1 py) 2 sd) 3 wl) 4 0) 5 (-1)))) :: (wf (nW np 0) ad (cWd ca ad np 0 eD tS sB) mem ++ sbw ca sb b1 (tx ++ tcs 3).length)) rfl rfl rfl (by decide) (by decide) rfl dX12_pawn_220 221 rfl ?_
  refine q_dup X dX12_pawn_221 rfl 222 rfl ?_
  refine q_bipush X 6 dX12_pawn_222 rfl 224 rfl ?_
  refine q_iconst X 0 dX12_pawn_224 rfl 225 rfl ?_
  refine q_ias (t0 := 0) X 0 6 ((v, .inl (ca 0, 7, .inl (upd (upd (upd (upd (upd (upd (upd (fun _ => 0) 0 px) 1 py) 2 sd) 3 wl) 4 0) 5 (-1)) 6 0))) :: (wf (nW np 0) ad (cWd ca ad np 0 eD tS sB) mem ++ sbw ca sb b1 (tx ++ tcs 3).length)) rfl rfl rfl (by decide) (by decide) rfl dX12_pawn_225 226 rfl ?_
  have hfin : ∀ (ad2 : Nat → Nat), (∀ k, k < nW np 0 → ad2 k = ad k) → Qf none (gL ca ad2 (np + 1) 0 eD tS sB (gM mem (13 + np) 1 (pwRow px py sd wl)) ++ sbw ca sb b1 (tx ++ tcs 3).length) := fun ad2 h2 => hf _ ⟨ad2, b1, rfl, hb1, h2⟩
  by_cases h0 : np = 0
  · subst h0
    refine n_perm (ws' := ((ad 1, .inr (16, [.int (rd mem 1 0), .ref eD, .int 0])) :: (v, .inl (ca 0, 7, .inl (pwRow px py sd wl).1)) :: (((List.range 12).filter (fun k => decide (k ≠ 1))).map (gE ca ad 0 0 eD tS sB mem) ++ sbw ca sb b1 (tx ++ tcs 3).length))) ?_ ?_
    · exact ((List.Perm.swap _ _ _).trans (List.Perm.cons _ ((gp_1a (nb' := 0)).symm.append_right _)))
    refine q_callF (rm := rmAg) X hZ [.ref v] (((List.range 12).filter (fun k => decide (k ≠ 1))).map (gE ca ad 0 0 eD tS sB mem) ++ sbw ca sb b1 (tx ++ tcs 3).length) rfl 0 rfl (q := (RJx4a65c, TJx4a65c, 3)) rfl rfl kFB_add kL_X12_121 ((hW _ _ _ X.2.2.2.2.2).2.2.2.2.1 ("java/util/ArrayList", yI_add, yJx4a65c_add_9ea2d) (List.mem_of_getElem? (i := 2) rfl)) (cl_add0 hZ hE (ZW_O hW) hV (ZW_S hW)) rfl ⟨Nat.le_of_ble_eq_true rfl, Nat.le_of_ble_eq_true rfl⟩ (Nat.le_of_ble_eq_true rfl) ⟨Nat.le_of_ble_eq_true rfl, Nat.le_of_ble_eq_true rfl⟩ dX12_pawn_226 231 rfl ?_
    intro v_ w1 hq
    obtain ⟨rfl, dat, rfl⟩ := hq
    refine n_perm (ws' := gL ca (adS (adS ad 12 dat) 13 v) 1 0 eD tS sB (gM mem 13 1 (pwRow px py sd wl)) ++ sbw ca sb b1 (tx ++ tcs 3).length) ((gp_1b rfl).symm.append_right _) ?_
    refine q_pop X dX12_pawn_231 rfl 232 rfl ?_
    exact q_vret X hQ (hfin _ (fun k hk => (adS_o (by rw [nW_0] at hk; omega)).trans (adS_o (by rw [nW_0] at hk; omega)))) (Nat.le_of_ble_eq_true rfl) (Nat.le_of_ble_eq_true rfl) dX12_pawn_232
  · refine n_perm (ws' := ((ad 1, .inr (16, [.int (rd mem 1 0), .ref (ad 12), .int (nI np)])) :: (ad 12, .inl (ca 5, 10, .inr (.inr (.inr (.inr (fun i => if i < np then some (ad (13 + i)) else none)))))) :: (v, .inl (ca 0, 7, .inl (pwRow px py sd wl).1)) :: (((List.range (13 + np)).filter (fun k => decide (k ≠ 1 ∧ k ≠ 12))).map (gE ca ad np 0 eD tS sB mem) ++ sbw ca sb b1 (tx ++ tcs 3).length))) ?_ ?_
    · have hq : qW eD np (ad 12) = .ref (ad 12) := if_neg h0
      have h3 := (gp_2a (ca := ca) (ad := ad) (eD := eD) (tS := tS) (sB := sB) (mem := mem) (np := np) (by omega)).symm
      rw [show gE ca ad np 0 eD tS sB mem 1 = (ad 1, .inr (16, [.int (rd mem 1 0), .ref (ad 12), .int (nI np)])) by unfold gE; rw [kw_1, hq]; rfl, show gE ca ad np 0 eD tS sB mem 12 = (ad 12, .inl (ca 5, 10, .inr (.inr (.inr (.inr (fun i => if i < np then some (ad (13 + i)) else none)))))) from rfl] at h3
      refine List.Perm.trans ?_ (List.Perm.cons _ (h3.append_right _))
      exact pm_3z
    refine q_callF (rm := rmAg) X hZ [.ref v] (((List.range (13 + np)).filter (fun k => decide (k ≠ 1 ∧ k ≠ 12))).map (gE ca ad np 0 eD tS sB mem) ++ sbw ca sb b1 (tx ++ tcs 3).length) rfl 0 rfl (q := (RJx4a65c, TJx4a65c, 3)) rfl rfl kFB_add kL_X12_121 ((hW _ _ _ X.2.2.2.2.2).2.2.2.2.1 ("java/util/ArrayList", yI_add, yJx4a65c_add_9ea2d) (List.mem_of_getElem? (i := 2) rfl)) (cl_add1 hZ hV (by omega) (ZW_S hW)) rfl ⟨Nat.le_of_ble_eq_true rfl, Nat.le_of_ble_eq_true rfl⟩ (Nat.le_of_ble_eq_true rfl) ⟨Nat.le_of_ble_eq_true rfl, Nat.le_of_ble_eq_true rfl⟩ dX12_pawn_226 231 rfl ?_
    intro v_ w1 hq
    obtain ⟨rfl, rfl⟩ := hq
    refine n_perm (ws' := gL ca (adS ad (13 + np) v) (np + 1) 0 eD tS sB (gM mem (13 + np) 1 (pwRow px py sd wl)) ++ sbw ca sb b1 (tx ++ tcs 3).length) ((gp_2b (by omega)).symm.append_right _) ?_
    refine q_pop X dX12_pawn_231 rfl 232 rfl ?_
    exact q_vret X hQ (hfin _ (fun k hk => adS_o (by rw [nW_p (by omega)] at hk; omega))) (Nat.le_of_ble_eq_true rfl) (Nat.le_of_ble_eq_true rfl) dX12_pawn_232
theorem pm_acb {α : Type} {a b c : List α} : ((a ++ b) ++ c).Perm ((a ++ c) ++ b) := by
  rw [List.append_assoc, List.append_assoc]
  exact List.Perm.append_left _ List.perm_append_comm
set_option maxRecDepth 100000 in
theorem pawn_145 {b : BLD} {tx : List Nat} {px py sd wl ow : Int32} (l : Launch) (hZ : ZOK Z) (hO : ZO Z tO sK sV) (hV : ZVO Z) (hW : ZWO Z tA tU sB L xs) (hU : ZUO Z uK uV tD) (hG : ∀ A U H, Z A U H → zDg tG A U H) (hE : ∀ A U H, Z A U H → zE eD A U H) {kw : Nat} (hkw : wl = nI kw) (hk10 : kw < 10) (hn : np < 4) (hb : SBK b tx) (hl : tx.length + 23 ≤ 400) {p : Program} {e : Env} {s : State} {m : MethodId} {args : Array Value} {below : List Frame} {meth : Method} {c : Code} {Q : State → Prop} {wc : va_W} {Qf : Option Value → va_W → Prop} (hQ : Q = MQ below (QL D wc Qf s.heap.size) args s rw_pawn.cells rw_pawn.slots (va_A wc s.heap.size)) (hf : ∀ w, QGr ca ad (np + 1) 0 eD tS sB sb (nW np 0) (gM mem (13 + np) 1 (pwRow px py sd wl)) (tx ++ wlTx wl ow kw ++ tcs 3) w → Qf none w) (X : CN D (tyL ca) (va_A wc s.heap.size) Z p s m args meth c cX12_pawn 7 RX12 none) : NN D (va_A wc s.heap.size) p l e rw_pawn s m args below meth c 7 10 8000 Q (wf (nW np 0) ad (cWd ca ad np 0 eD tS sB) mem ++ sbw ca sb b tx.length) 145 [(6, .int wl), (5, .int sd), (4, .int py), (3, .int px), (0, .ref (ad 0)), (1, .ref sb), (2, .int ow)] [] := by
  by_cases hw : wl = ow
  · refine q_aload_n X 5 dX12_pawn_145 rfl rfl 146 rfl ?_
    refine q_iload X 0 dX12_pawn_146 rfl 148 rfl ?_
    refine q_iload_n X 6 dX12_pawn_148 rfl rfl 149 rfl ?_
    refine q_icmp_ne (A1 := some ()) (B1 := none) (res := ()) X (if_pos hw) 157 152 dX12_pawn_149 (by decide) rfl (fun _ => ?_) (fun z => nomatch z)
    refine q_ldcU X hU 0 rfl dX12_pawn_152 154 rfl ?_
    refine q_goto X 177 dX12_pawn_154 (by decide) ?_
    refine y_apS X hZ hO hV hb (fun A U H h => (hU A U H h).1 0 (by omega)) (tcs_128 _) (by (try simp only [List.length_append, List.length_cons, List.length_nil]); have a0 := tcs_le 0; omega) kL_X12_60 ⟨Nat.le_of_ble_eq_true rfl, Nat.le_of_ble_eq_true rfl⟩ (Nat.le_of_ble_eq_true rfl) ⟨Nat.le_of_ble_eq_true rfl, Nat.le_of_ble_eq_true rfl⟩ dX12_pawn_177 180 rfl ?_
    intro b2 hb2
    refine q_wd (k := 20) (k2 := 15000) (Nat.le_of_ble_eq_true rfl) (Nat.le_of_ble_eq_true rfl) ?_
    refine pawn_180 l hZ hO hV hW hU hG hE hn hb2 (by rw [List.length_append]; have := tcs_le 0; omega) hQ (fun w hw2 => hf w ?_) X
    unfold wlTx
    rw [if_pos hw]
    exact hw2
  · refine q_aload_n X 5 dX12_pawn_145 rfl rfl 146 rfl ?_
    refine q_iload X 0 dX12_pawn_146 rfl 148 rfl ?_
    refine q_iload_n X 6 dX12_pawn_148 rfl rfl 149 rfl ?_
    refine q_icmp_ne (A1 := none) (B1 := some ()) (res := ()) X (if_neg hw) 157 152 dX12_pawn_149 (by decide) rfl (fun z => nomatch z) (fun _ => ?_)
    refine y_newSB X hZ hO kCl_X12_51 kL_X12_53 ⟨Nat.le_of_ble_eq_true rfl, Nat.le_of_ble_eq_true rfl⟩ (Nat.le_of_ble_eq_true rfl) ⟨Nat.le_of_ble_eq_true rfl, Nat.le_of_ble_eq_true rfl⟩ dX12_pawn_157 160 rfl dX12_pawn_160 161 rfl dX12_pawn_161 164 rfl ?_
    intro q2 c0 hc0
    refine q_ldcU X hU 8 rfl dX12_pawn_164 166 rfl ?_
    refine y_apS X hZ hO hV hc0 (fun A U H h => (hU A U H h).1 8 (by omega)) (tcs_128 _) (by (try simp only [List.length_append, List.length_cons, List.length_nil]); have a0 := tcs_le 8; omega) kL_X12_60 ⟨Nat.le_of_ble_eq_true rfl, Nat.le_of_ble_eq_true rfl⟩ (Nat.le_of_ble_eq_true rfl) ⟨Nat.le_of_ble_eq_true rfl, Nat.le_of_ble_eq_true rfl⟩ dX12_pawn_166 169 rfl ?_
    intro b3 hb3
    refine q_iload X 0 dX12_pawn_169 rfl 171 rfl ?_
    refine y_apI X hZ hO hV hG hb3 (k := kw) hkw hk10 (by (try simp only [List.length_append, List.length_cons, List.length_nil]); have a0 := tcs_le 8; omega) kL_X12_64 ⟨Nat.le_of_ble_eq_true rfl, Nat.le_of_ble_eq_true rfl⟩ (Nat.le_of_ble_eq_true rfl) ⟨Nat.le_of_ble_eq_true rfl, Nat.le_of_ble_eq_true rfl⟩ dX12_pawn_171 174 rfl ?_
    intro b4 hb4
    refine y_toS X hZ hO hV hb4 kL_X12_92 ⟨Nat.le_of_ble_eq_true rfl, Nat.le_of_ble_eq_true rfl⟩ (Nat.le_of_ble_eq_true rfl) ⟨Nat.le_of_ble_eq_true rfl, Nat.le_of_ble_eq_true rfl⟩ dX12_pawn_174 177 rfl ?_
    intro str v0 g hg1 hg2
    refine n_perm (ws' := (wf (nW np 0) ad (cWd ca ad np 0 eD tS sB) mem ++ [(str, .inr (13, [.ref v0, .int 0, .int 0, .int 0])), (v0, .inl (ca 1, (([] : List Nat) ++ tcs 8 ++ [48 + kw]).length, .inl g))]) ++ sbw ca sb b tx.length) pm_acb ?_
    refine y_apP (k1 := nW np 0 + 0) (k2 := nW np 0 + 1) X hZ hO hV hb we_at we_at hg1 hg2 (by simp only [List.length_append, List.length_cons, List.length_nil]; have := tcs_le 8; omega) kL_X12_60 ⟨Nat.le_of_ble_eq_true rfl, Nat.le_of_ble_eq_true rfl⟩ (Nat.le_of_ble_eq_true rfl) ⟨Nat.le_of_ble_eq_true rfl, Nat.le_of_ble_eq_true rfl⟩ dX12_pawn_177 180 rfl ?_
    intro b9 hb9
    refine q_sub (wf (nW np 0) ad (cWd ca ad np 0 eD tS sB) mem ++ sbw ca sb b9 (tx ++ (([] : List Nat) ++ tcs 8 ++ [48 + kw])).length) (List.Sublist.append_right (List.sublist_append_left _ _) _) ?_
    refine q_wd (k := 20) (k2 := 15000) (Nat.le_of_ble_eq_true rfl) (Nat.le_of_ble_eq_true rfl) ?_
    refine pawn_180 l hZ hO hV hW hU hG hE hn hb9 (by simp only [List.length_append, List.length_cons, List.length_nil]; have := tcs_le 8; omega) hQ (fun w hw2 => hf w ?_) X
    unfold wlTx
    rw [if_neg hw]
    exact hw2
set_option maxRecDepth 100000 in
theorem pawn_69 {b : BLD} {tx : List Nat} {px py sd wl ow : Int32} (l : Launch) (hZ : ZOK Z) (hO : ZO Z tO sK sV) (hV : ZVO Z) (hW : ZWO Z tA tU sB L xs) (hU : ZUO Z uK uV tD) (hG : ∀ A U H, Z A U H → zDg tG A U H) (hE : ∀ A U H, Z A U H → zE eD A U H) {kx ky kw : Nat} (hkx : px = nI kx) (hx10 : kx < 10) (hky : py = nI ky) (hy10 : ky < 10) (hkw : wl = nI kw) (hk10 : kw < 10) (hsd : vp_in sd 4) (hn : np < 4) (hb : SBK b tx) (hl : tx.length ≤ 300) {p : Program} {e : Env} {s : State} {m : MethodId} {args : Array Value} {below : List Frame} {meth : Method} {c : Code} {Q : State → Prop} {wc : va_W} {Qf : Option Value → va_W → Prop} (hQ : Q = MQ below (QL D wc Qf s.heap.size) args s rw_pawn.cells rw_pawn.slots (va_A wc s.heap.size)) (hf : ∀ w, QGr ca ad (np + 1) 0 eD tS sB sb (nW np 0) (gM mem (13 + np) 1 (pwRow px py sd wl)) (pwTx np kx ky sd.toNatClampNeg kw wl ow tx) w → Qf none w) (X : CN D (tyL ca) (va_A wc s.heap.size) Z p s m args meth c cX12_pawn 7 RX12 none) : NN D (va_A wc s.heap.size) p l e rw_pawn s m args below meth c 7 0 0 Q (wf (nW np 0) ad (cWd ca ad np 0 eD tS sB) mem ++ sbw ca sb b tx.length) 69 [(6, .int wl), (5, .int sd), (4, .int py), (3, .int px), (0, .ref (ad 0)), (1, .ref sb), (2, .int ow)] [] := by
  refine q_aload_n X 5 dX12_pawn_69 rfl rfl 70 rfl ?_
  refine q_ldcU X hU 6 rfl dX12_pawn_70 72 rfl ?_
  refine y_apS X hZ hO hV hb (fun A U H h => (hU A U H h).1 6 (by omega)) (tcs_128 _) (by (try simp only [List.length_append, List.length_cons, List.length_nil]); have a0 := tcs_le 6; omega) kL_X12_60 ⟨Nat.le_of_ble_eq_true rfl, Nat.le_of_ble_eq_true rfl⟩ (Nat.le_of_ble_eq_true rfl) ⟨Nat.le_of_ble_eq_true rfl, Nat.le_of_ble_eq_true rfl⟩ dX12_pawn_72 75 rfl ?_
  intro b5 hb5
  refine q_bipush X 97 dX12_pawn_75 rfl 77 rfl ?_
  refine q_aload_n X 4 dX12_pawn_77 rfl rfl 78 rfl ?_
  refine y_getV (v := .ref (ad 1)) X 0 nw_0 kw_0 (T := TX12) (N := 11) rfl in_X12 5 (by decide) kF_X12_19 rfl rfl dX12_pawn_78 81 rfl ?_
  refine y_size X hZ hW kL_X12_106 ⟨Nat.le_of_ble_eq_true rfl, Nat.le_of_ble_eq_true rfl⟩ (Nat.le_of_ble_eq_true rfl) ⟨Nat.le_of_ble_eq_true rfl, Nat.le_of_ble_eq_true rfl⟩ dX12_pawn_81 86 rfl ?_
  refine q_iadd X dX12_pawn_86 87 rfl ?_
  refine q_as (nI (97 + np)) (nI_add 97 np) ?_
  refine q_i2c X dX12_pawn_87 88 rfl ?_
  refine q_as (nI (97 + np)) (nI_65 (by omega)) ?_
  refine y_apC X hZ hO hV hb5 (k := 97 + np) rfl (by omega) (by (try simp only [List.length_append, List.length_cons, List.length_nil]); have a0 := tcs_le 6; omega) kL_X12_110 ⟨Nat.le_of_ble_eq_true rfl, Nat.le_of_ble_eq_true rfl⟩ (Nat.le_of_ble_eq_true rfl) ⟨Nat.le_of_ble_eq_true rfl, Nat.le_of_ble_eq_true rfl⟩ dX12_pawn_88 91 rfl ?_
  intro b6 hb6
  refine q_aload_n X 4 dX12_pawn_91 rfl rfl 92 rfl ?_
  refine y_getV (v := .ref (ad 1)) X 0 nw_0 kw_0 (T := TX12) (N := 11) rfl in_X12 5 (by decide) kF_X12_19 rfl rfl dX12_pawn_92 95 rfl ?_
  refine y_size X hZ hW kL_X12_106 ⟨Nat.le_of_ble_eq_true rfl, Nat.le_of_ble_eq_true rfl⟩ (Nat.le_of_ble_eq_true rfl) ⟨Nat.le_of_ble_eq_true rfl, Nat.le_of_ble_eq_true rfl⟩ dX12_pawn_95 100 rfl ?_
  refine q_iconst X 2 dX12_pawn_100 rfl 101 rfl ?_
  refine q_irem X (by decide) dX12_pawn_101 102 rfl ?_
  refine q_as (nI (np % 2)) (pk_rem (a := np) (d := 2) (by omega) (by decide) (by decide)) ?_
  refine q_ternS X hU 7 2 (np % 2 = 1) (nI_eq (a := np % 2) (b := 1) (by omega) (by decide)) rfl rfl dX12_pawn_102 103 rfl dX12_pawn_103 106 rfl dX12_pawn_106 108 rfl dX12_pawn_108 111 rfl dX12_pawn_111 113 rfl ?_
  refine y_apS X hZ hO hV hb6 (fun A U H h => (hU A U H h).1 (if np % 2 = 1 then 7 else 2) (by split <;> omega)) (tcs_128 _) (by (try simp only [List.length_append, List.length_cons, List.length_nil]); have a0 := tcs_le 6; have a1 := tcs_le (if np % 2 = 1 then 7 else 2); omega) kL_X12_60 ⟨Nat.le_of_ble_eq_true rfl, Nat.le_of_ble_eq_true rfl⟩ (Nat.le_of_ble_eq_true rfl) ⟨Nat.le_of_ble_eq_true rfl, Nat.le_of_ble_eq_true rfl⟩ dX12_pawn_113 116 rfl ?_
  intro b7 hb7
  refine q_iload_n X 3 dX12_pawn_116 rfl rfl 117 rfl ?_
  refine y_apI X hZ hO hV hG hb7 (k := kx) hkx hx10 (by (try simp only [List.length_append, List.length_cons, List.length_nil]); have a0 := tcs_le 6; have a1 := tcs_le (if np % 2 = 1 then 7 else 2); omega) kL_X12_64 ⟨Nat.le_of_ble_eq_true rfl, Nat.le_of_ble_eq_true rfl⟩ (Nat.le_of_ble_eq_true rfl) ⟨Nat.le_of_ble_eq_true rfl, Nat.le_of_ble_eq_true rfl⟩ dX12_pawn_117 120 rfl ?_
  intro b8 hb8
  refine q_ldcU X hU 2 rfl dX12_pawn_120 122 rfl ?_
  refine y_apS X hZ hO hV hb8 (fun A U H h => (hU A U H h).1 2 (by omega)) (tcs_128 _) (by (try simp only [List.length_append, List.length_cons, List.length_nil]); have a0 := tcs_le 6; have a1 := tcs_le (if np % 2 = 1 then 7 else 2); have a2 := tcs_le 2; omega) kL_X12_60 ⟨Nat.le_of_ble_eq_true rfl, Nat.le_of_ble_eq_true rfl⟩ (Nat.le_of_ble_eq_true rfl) ⟨Nat.le_of_ble_eq_true rfl, Nat.le_of_ble_eq_true rfl⟩ dX12_pawn_122 125 rfl ?_
  intro b9 hb9
  refine q_iload X 2 dX12_pawn_125 rfl 127 rfl ?_
  refine y_apI X hZ hO hV hG hb9 (k := ky) hky hy10 (by (try simp only [List.length_append, List.length_cons, List.length_nil]); have a0 := tcs_le 6; have a1 := tcs_le (if np % 2 = 1 then 7 else 2); have a2 := tcs_le 2; omega) kL_X12_64 ⟨Nat.le_of_ble_eq_true rfl, Nat.le_of_ble_eq_true rfl⟩ (Nat.le_of_ble_eq_true rfl) ⟨Nat.le_of_ble_eq_true rfl, Nat.le_of_ble_eq_true rfl⟩ dX12_pawn_127 130 rfl ?_
  intro b10 hb10
  refine q_ldcU X hU 2 rfl dX12_pawn_130 132 rfl ?_
  refine y_apS X hZ hO hV hb10 (fun A U H h => (hU A U H h).1 2 (by omega)) (tcs_128 _) (by (try simp only [List.length_append, List.length_cons, List.length_nil]); have a0 := tcs_le 6; have a1 := tcs_le (if np % 2 = 1 then 7 else 2); have a2 := tcs_le 2; omega) kL_X12_60 ⟨Nat.le_of_ble_eq_true rfl, Nat.le_of_ble_eq_true rfl⟩ (Nat.le_of_ble_eq_true rfl) ⟨Nat.le_of_ble_eq_true rfl, Nat.le_of_ble_eq_true rfl⟩ dX12_pawn_132 135 rfl ?_
  intro b11 hb11
  refine q_sidS X hW hU (List.mem_of_getElem? (i := 2) rfl) dX12_pawn_135 138 rfl ?_
  refine q_iload X 1 dX12_pawn_138 rfl 140 rfl ?_
  refine q_sidA X hU hsd dX12_pawn_140 141 rfl ?_
  refine y_apS X hZ hO hV hb11 (fun A U H h => (hU A U H h).1 (19 + sd.toNatClampNeg) (by have := vp_lt hsd; omega)) (tcs_128 _) (by (try simp only [List.length_append, List.length_cons, List.length_nil]); have a0 := tcs_le 6; have a1 := tcs_le (if np % 2 = 1 then 7 else 2); have a2 := tcs_le 2; have a3 := tcs_le (19 + sd.toNatClampNeg); omega) kL_X12_60 ⟨Nat.le_of_ble_eq_true rfl, Nat.le_of_ble_eq_true rfl⟩ (Nat.le_of_ble_eq_true rfl) ⟨Nat.le_of_ble_eq_true rfl, Nat.le_of_ble_eq_true rfl⟩ dX12_pawn_141 144 rfl ?_
  intro b12 hb12
  refine q_pop X dX12_pawn_144 rfl 145 rfl ?_
  refine q_wd (k := 10) (k2 := 8000) (Nat.le_of_ble_eq_true rfl) (Nat.le_of_ble_eq_true rfl) ?_
  exact pawn_145 l hZ hO hV hW hU hG hE hkw hk10 hn hb12 (by (try simp only [List.length_append, List.length_cons, List.length_nil]); have a0 := tcs_le 6; have a1 := tcs_le (if np % 2 = 1 then 7 else 2); have a2 := tcs_le 2; have a3 := tcs_le (19 + sd.toNatClampNeg); omega) hQ hf X
set_option maxRecDepth 100000 in
theorem pawn_44 {b : BLD} {tx : List Nat} {px py sd wl ow : Int32} (l : Launch) (hZ : ZOK Z) (hO : ZO Z tO sK sV) (hV : ZVO Z) (hW : ZWO Z tA tU sB L xs) (hU : ZUO Z uK uV tD) (hG : ∀ A U H, Z A U H → zDg tG A U H) (hE : ∀ A U H, Z A U H → zE eD A U H) {fu np2 : Nat} {mem2 : Mem} {tx2 : List Nat} (hg : np ≤ 4 ∧ 0 ≤ 4 ∧ (np = 0 → 0 = 0)) (hF : KG_pawn3 fu np px py sd ow wl mem tx = some (np2, mem2, tx2)) (hb : SBK b tx) {p : Program} {e : Env} {s : State} {m : MethodId} {args : Array Value} {below : List Frame} {meth : Method} {c : Code} {Q : State → Prop} {wc : va_W} {Qf : Option Value → va_W → Prop} (hQ : Q = MQ below (QL D wc Qf s.heap.size) args s rw_pawn.cells rw_pawn.slots (va_A wc s.heap.size)) (hf : ∀ w, QGr ca ad np2 0 eD tS sB sb (nW np 0) mem2 tx2 w → Qf none w) (X : CN D (tyL ca) (va_A wc s.heap.size) Z p s m args meth c cX12_pawn 7 RX12 none) : NN D (va_A wc s.heap.size) p l e rw_pawn s m args below meth c 7 0 0 Q (wf (nW np 0) ad (cWd ca ad np 0 eD tS sB) mem ++ sbw ca sb b tx.length) 44 [(5, .int sd), (4, .int py), (3, .int px), (0, .ref (ad 0)), (1, .ref sb), (2, .int ow)] [.int wl] := by
  unfold KG_pawn3 at hF
  refine q_istore X [(6, .int wl), (5, .int sd), (4, .int py), (3, .int px), (0, .ref (ad 0)), (1, .ref sb), (2, .int ow)] dX12_pawn_44 (by decide) rfl 46 rfl ?_
  refine q_aload_n X 4 dX12_pawn_46 rfl rfl 47 rfl ?_
  refine q_iload_n X 3 dX12_pawn_47 rfl rfl 48 rfl ?_
  refine q_iload X 2 dX12_pawn_48 rfl 50 rfl ?_
  obtain ⟨r, h6, hF⟩ := bd_some hF
  refine y_call X hZ [.int px, .int py] rfl rfl kB_X12_pawnAt kL_X12_96 (cw_pawnAt l hZ hW hg fu px py mem r h6) rfl ⟨Nat.le_of_ble_eq_true rfl, Nat.le_of_ble_eq_true rfl⟩ (Nat.le_of_ble_eq_true rfl) ⟨Nat.le_of_ble_eq_true rfl, Nat.le_of_ble_eq_true rfl⟩ dX12_pawn_50 53 rfl ?_
  by_cases hr : r < 0
  · rw [if_pos hr] at hF
    refine q_if_ge (A1 := some ()) (B1 := none) (res := ()) X (if_pos hr) 68 56 dX12_pawn_53 (by decide) rfl (fun _ => ?_) (fun z => nomatch z)
    refine q_aload_n X 4 dX12_pawn_56 rfl rfl 57 rfl ?_
    refine q_iload_n X 3 dX12_pawn_57 rfl rfl 58 rfl ?_
    refine q_iload X 2 dX12_pawn_58 rfl 60 rfl ?_
    refine q_iload X 1 dX12_pawn_60 rfl 62 rfl ?_
    obtain ⟨z, h7, hF⟩ := bd_some hF
    refine y_call X hZ [.int px, .int py, .int sd] rfl rfl kB_X12_isAtSide kL_X12_100 (cw_isAtSide l hZ hW hg fu px py sd mem z h7) rfl ⟨Nat.le_of_ble_eq_true rfl, Nat.le_of_ble_eq_true rfl⟩ (Nat.le_of_ble_eq_true rfl) ⟨Nat.le_of_ble_eq_true rfl, Nat.le_of_ble_eq_true rfl⟩ dX12_pawn_62 65 rfl ?_
    by_cases hz : z = 0
    · rw [if_pos hz] at hF
      unfold KG_pw at hF
      refine q_if_eq (A1 := some ()) (B1 := none) (res := ()) X (if_pos hz) 69 68 dX12_pawn_65 (by decide) rfl (fun _ => ?_) (fun z => nomatch z)
      by_cases hgu : np < 4 ∧ tx.length ≤ 300
      · rw [if_pos hgu] at hF
        obtain ⟨kx, gx, hF⟩ := bd_some hF
        obtain ⟨ky, gy, hF⟩ := bd_some hF
        obtain ⟨kw, gw, hF⟩ := bd_some hF
        obtain ⟨hsd, hF⟩ := gi_some hF
        cases hF
        refine q_wd (k := 0) (k2 := 0) (Nat.le_of_ble_eq_true rfl) (Nat.le_of_ble_eq_true rfl) ?_
        exact pawn_69 l hZ hO hV hW hU hG hE (gB_some gx).1 (gB_some gx).2 (gB_some gy).1 (gB_some gy).2 (gB_some gw).1 (gB_some gw).2 hsd hgu.1 hb hgu.2 hQ hf X
      · rw [if_neg hgu] at hF
        cases hF
    · rw [if_neg hz] at hF
      cases hF
      refine q_if_eq (A1 := none) (B1 := some ()) (res := ()) X (if_neg hz) 69 68 dX12_pawn_65 (by decide) rfl (fun z => nomatch z) (fun _ => ?_)
      exact q_vret X hQ (hf _ ⟨ad, b, rfl, hb, fun _ _ => rfl⟩) (Nat.le_of_ble_eq_true rfl) (Nat.le_of_ble_eq_true rfl) dX12_pawn_68
  · rw [if_neg hr] at hF
    cases hF
    refine q_if_ge (A1 := none) (B1 := some ()) (res := ()) X (if_neg hr) 68 56 dX12_pawn_53 (by decide) rfl (fun z => nomatch z) (fun _ => ?_)
    exact q_vret X hQ (hf _ ⟨ad, b, rfl, hb, fun _ _ => rfl⟩) (Nat.le_of_ble_eq_true rfl) (Nat.le_of_ble_eq_true rfl) dX12_pawn_68
set_option maxRecDepth 100000 in
/-- a pawn grows -/
theorem cg_pawn {b : BLD} {tx : List Nat} {ow : Int32} (l : Launch) (hZ : ZOK Z) (hO : ZO Z tO sK sV) (hV : ZVO Z) (hW : ZWO Z tA tU sB L xs) (hU : ZUO Z uK uV tD) (hG : ∀ A U H, Z A U H → zDg tG A U H) (hE : ∀ A U H, Z A U H → zE eD A U H) {fu np2 : Nat} {mem2 : Mem} {tx2 : List Nat} (hg : np ≤ 4 ∧ 0 ≤ 4 ∧ (np = 0 → 0 = 0)) (hF : KG_pawn L xs fu np ow mem tx = some (np2, mem2, tx2)) (hb : SBK b tx) : LC l D (tyL ca) Z yX12_pawn cX12_pawn 7 none rw_pawn [.ref (ad 0), .ref sb, .int ow] (wf (nW np 0) ad (cWd ca ad np 0 eD tS sB) mem ++ sbw ca sb b tx.length) (fun v w => v = none ∧ QGr ca ad np2 0 eD tS sB sb (nW np 0) mem2 tx2 w) := by
  refine qstart (own := RX12) rfl (by decide) (Nat.le_of_ble_eq_true rfl) ?_
  intro p e s m args below meth c Q hQ X hi
  unfold KG_pawn at hF
  refine q_aload_n X 0 dX12_pawn_0 rfl rfl 1 rfl ?_
  refine q_aload_n X 0 dX12_pawn_1 rfl rfl 2 rfl ?_
  refine y_getV (v := .int (rd mem 0 0)) X 0 nw_0 kw_0 (T := TX12) (N := 11) rfl in_X12 0 (by decide) kF_X12_7 rfl rfl dX12_pawn_2 5 rfl ?_
  obtain ⟨⟨px, m1⟩, h1, hF⟩ := bd_some hF
  dsimp only at hF
  refine y_call X hZ [.int (rd mem 0 0)] rfl rfl kB_X12_next kL_X12_54 (cw_nx l hZ hW fu h1) rfl ⟨Nat.le_of_ble_eq_true rfl, Nat.le_of_ble_eq_true rfl⟩ (Nat.le_of_ble_eq_true rfl) ⟨Nat.le_of_ble_eq_true rfl, Nat.le_of_ble_eq_true rfl⟩ dX12_pawn_5 8 rfl ?_
  refine q_istore_n X [(3, .int px), (0, .ref (ad 0)), (1, .ref sb), (2, .int ow)] dX12_pawn_8 rfl (by decide) rfl 9 rfl ?_
  refine q_aload_n X 1 dX12_pawn_9 rfl rfl 10 rfl ?_
  refine q_aload_n X 1 dX12_pawn_10 rfl rfl 11 rfl ?_
  refine y_getV (v := .int (rd m1 0 1)) X 0 nw_0 kw_0 (T := TX12) (N := 11) rfl in_X12 1 (by decide) kF_X12_13 rfl rfl dX12_pawn_11 14 rfl ?_
  obtain ⟨⟨py, m2⟩, h2, hF⟩ := bd_some hF
  dsimp only at hF
  refine y_call X hZ [.int (rd m1 0 1)] rfl rfl kB_X12_next kL_X12_54 (cw_nx l hZ hW fu h2) rfl ⟨Nat.le_of_ble_eq_true rfl, Nat.le_of_ble_eq_true rfl⟩ (Nat.le_of_ble_eq_true rfl) ⟨Nat.le_of_ble_eq_true rfl, Nat.le_of_ble_eq_true rfl⟩ dX12_pawn_14 17 rfl ?_
  refine q_istore X [(4, .int py), (3, .int px), (0, .ref (ad 0)), (1, .ref sb), (2, .int ow)] dX12_pawn_17 (by decide) rfl 19 rfl ?_
  refine q_aload_n X 2 dX12_pawn_19 rfl rfl 20 rfl ?_
  refine q_iconst X 4 dX12_pawn_20 rfl 21 rfl ?_
  obtain ⟨⟨sd, m3⟩, h3, hF⟩ := bd_some hF
  dsimp only at hF
  refine y_call X hZ [.int 4] rfl rfl kB_X12_next kL_X12_54 (cw_nx l hZ hW fu h3) rfl ⟨Nat.le_of_ble_eq_true rfl, Nat.le_of_ble_eq_true rfl⟩ (Nat.le_of_ble_eq_true rfl) ⟨Nat.le_of_ble_eq_true rfl, Nat.le_of_ble_eq_true rfl⟩ dX12_pawn_21 24 rfl ?_
  refine q_istore X [(5, .int sd), (4, .int py), (3, .int px), (0, .ref (ad 0)), (1, .ref sb), (2, .int ow)] dX12_pawn_24 (by decide) rfl 26 rfl ?_
  refine q_aload_n X 3 dX12_pawn_26 rfl rfl 27 rfl ?_
  refine q_iconst X 2 dX12_pawn_27 rfl 28 rfl ?_
  obtain ⟨⟨c0, m4⟩, h4, hF⟩ := bd_some hF
  dsimp only at hF
  refine y_call X hZ [.int 2] rfl rfl kB_X12_next kL_X12_54 (cw_nx l hZ hW fu h4) rfl ⟨Nat.le_of_ble_eq_true rfl, Nat.le_of_ble_eq_true rfl⟩ (Nat.le_of_ble_eq_true rfl) ⟨Nat.le_of_ble_eq_true rfl, Nat.le_of_ble_eq_true rfl⟩ dX12_pawn_28 31 rfl ?_
  by_cases hc : c0 = 0
  · rw [if_pos hc] at hF
    refine q_if_ne (A1 := some ()) (B1 := none) (res := ()) X (if_pos hc) 38 34 dX12_pawn_31 (by decide) rfl (fun _ => ?_) (fun z => nomatch z)
    refine q_iload_n X 5 dX12_pawn_34 rfl rfl 35 rfl ?_
    refine q_goto X 44 dX12_pawn_35 (by decide) ?_
    refine q_wd (k := 0) (k2 := 0) (Nat.le_of_ble_eq_true rfl) (Nat.le_of_ble_eq_true rfl) ?_
    exact pawn_44 l hZ hO hV hW hU hG hE hg hF hb hQ (fun w h => ⟨rfl, h⟩) X
  · rw [if_neg hc] at hF
    refine q_if_ne (A1 := none) (B1 := some ()) (res := ()) X (if_neg hc) 38 34 dX12_pawn_31 (by decide) rfl (fun z => nomatch z) (fun _ => ?_)
    refine q_aload_n X 3 dX12_pawn_38 rfl rfl 39 rfl ?_
    refine q_bipush X 6 dX12_pawn_39 rfl 41 rfl ?_
    obtain ⟨⟨wl, m5⟩, h5, hF⟩ := bd_some hF
    dsimp only at hF
    refine y_call X hZ [.int 6] rfl rfl kB_X12_next kL_X12_54 (cw_nx l hZ hW fu h5) rfl ⟨Nat.le_of_ble_eq_true rfl, Nat.le_of_ble_eq_true rfl⟩ (Nat.le_of_ble_eq_true rfl) ⟨Nat.le_of_ble_eq_true rfl, Nat.le_of_ble_eq_true rfl⟩ dX12_pawn_41 44 rfl ?_
    refine q_wd (k := 0) (k2 := 0) (Nat.le_of_ble_eq_true rfl) (Nat.le_of_ble_eq_true rfl) ?_
    exact pawn_44 l hZ hO hV hW hU hG hE hg hF hb hQ (fun w h => ⟨rfl, h⟩) X
end GHA
