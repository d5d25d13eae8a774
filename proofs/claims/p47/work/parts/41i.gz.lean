section GRZ
variable {D : va_G} {tys : List (ClassId × FieldType)} {A : Nat → Prop} {Z : (Nat → Prop) → State → Heap → Prop} {p : Program} {l : Launch} {e : Env} {R : Room} {s : State} {m : MethodId} {args : Array Value} {below : List Frame} {meth : Method} {c : Code} {cc : ByteArray} {nL : Nat} {own : String} {ret : Option FieldType} {cells slots : Nat} {Q : State → Prop} {ws : va_W} {pc : Nat} {lv : List (Nat × Value)} {st : List Value}
variable {tO tD tA tU tG L np nb eD tS sB : Nat} {xs : Nat → Int32} {sK sV uK uV : Nat → Nat} {ca ad : Nat → Nat} {sb : Nat} {mem : Mem} {ex : va_W}

def KW_nx (L : Nat) (xs : Nat → Int32) (fu : Nat) (of : Int32) (mem : Mem) : Option (Int32 × Mem) := bd (KL_pick L xs fu (rd (mw mem 0 10 (rd mem 0 10 + 1)) 0 10) of) (fun x => some (x, mw mem 0 10 (rd mem 0 10 + 1)))
def rw_nx : Room := { frames := 2, cells := 0, slots := 0, locals := 48 }
set_option maxRecDepth 100000 in
theorem cw_nx (l : Launch) (hZ : ZOK Z) (hW : ZWO Z tA tU sB L xs) (fu : Nat) {of x : Int32} {m1 : Mem} (hF : KW_nx L xs fu of mem = some (x, m1)) : CJ l D (tyL ca) (nW np nb) ad (cWd ca ad np nb eD tS sB) Z yX12_next cX12_next 2 .int rw_nx [.ref (ad 0), .int of] mem x m1 := by
  refine xstart_i (own := RX12) rfl (by decide) (Nat.le_of_ble_eq_true rfl) ?_
  intro p e s m args below meth c Q hQ X
  rw [KW_nx] at hF
  refine x_aload_n X 0 dX12_next_0 rfl rfl 1 rfl ?_
  refine x_dup X dX12_next_1 rfl 2 rfl ?_
  refine x_getV (v := .int (rd mem 0 10)) X 0 nw_0 kw_0 (T := TX12) (N := 11) rfl in_X12 10 (by decide) kF_X12_41 rfl rfl dX12_next_2 5 rfl ?_
  refine x_iconst X 1 dX12_next_5 rfl 6 rfl ?_
  refine x_iadd X dX12_next_6 7 rfl ?_
  refine x_putI X 0 nw_0 kw_0 (T := TX12) (N := 11) rfl in_X12 tyX12 tyX12_ok nmX12 10 (by decide) kF_X12_41 rfl rfl rfl rfl (Nat.le_of_ble_eq_true rfl) rfl dX12_next_7 10 rfl ?_
  refine x_aload_n X 0 dX12_next_10 rfl rfl 11 rfl ?_
  refine x_getV (v := .ref sB) X 0 nw_0 kw_0 (T := TX12) (N := 11) rfl in_X12 9 (by decide) kF_X12_37 rfl rfl dX12_next_11 14 rfl ?_
  refine x_aload_n X 0 dX12_next_14 rfl rfl 15 rfl ?_
  refine x_getV (v := .int (rd (mw mem 0 10 (rd mem 0 10 + 1)) 0 10)) X 0 nw_0 kw_0 (T := TX12) (N := 11) rfl in_X12 10 (by decide) kF_X12_41 rfl rfl dX12_next_15 18 rfl ?_
  refine x_iload_n X 1 dX12_next_18 rfl rfl 19 rfl ?_
  refine x_callNi (fun x => x) (fun _ => mw mem 0 10 (rd mem 0 10 + 1)) X hZ hF [.ref sB, .int (rd (mw mem 0 10 (rd mem 0 10 + 1)) 0 10), .int of] rfl kB_L_pick ((hW _ _ _ X.2.2.2.2.2).2.2.2.1 _ (List.mem_of_getElem? (i := 3) rfl)) (fun r h => cl_pick l hZ hW fu _ _ r h) rfl ⟨Nat.le_of_ble_eq_true rfl, Nat.le_of_ble_eq_true rfl⟩ (Nat.le_of_ble_eq_true rfl) ⟨Nat.le_of_ble_eq_true rfl, Nat.le_of_ble_eq_true rfl⟩ dX12_next_19 22 rfl (fun r hF => ?_)
  exact x_iret X hQ (o_inj1 hF) (o_inj2 hF) rfl (Nat.le_of_ble_eq_true rfl) (Nat.le_of_ble_eq_true rfl) dX12_next_22
theorem y_size {index : Nat} (X : CN D (tyL ca) A Z p s m args meth c cc nL own ret) (hZ : ZOK Z) (hW : ZWO Z tA tU sB L xs) (w1 : Cond.methodLink own index yI_size ∈ GW) (hR : 1 ≤ R.frames ∧ 20 ≤ R.locals) (hst : (st.map fun v => v.category).sum ≤ 8) (hcs : cells ≤ R.cells ∧ slots ≤ R.slots) (hdg : decode cc pc = .ok (.invokeinterface index 1, 5)) (pc2 : Nat) (hp : pc + 5 = pc2) (kk : NN D A p l e R s m args below meth c nL cells slots Q (wf (nW np nb) ad (cWd ca ad np nb eD tS sB) mem ++ ex) pc2 lv (.int (nI np) :: st)) : NN D A p l e R s m args below meth c nL cells slots Q (wf (nW np nb) ad (cWd ca ad np nb eD tS sB) mem ++ ex) pc lv (.ref (ad 1) :: st) :=
  q_callF (rm := rmA0) X hZ [] ex rfl 1 ((wx_at nw_1).trans (by rw [kw_1])) (q := (RJx4a65c, TJx4a65c, 3)) rfl rfl kFB_size w1 ((hW _ _ _ X.2.2.2.2.2).2.2.2.2.1 ("java/util/ArrayList", yI_size, yJx4a65c_size_8abf5) (List.mem_of_getElem? (i := 0) rfl)) (lc_i cw_size1) rfl hR hst hcs hdg pc2 hp (fun v w1 hv => by
    obtain ⟨rfl, rfl⟩ := hv
    exact kk)
theorem y_call {y : MethodName} {bytes : ByteArray} {nY index na : Nat} {rty : FieldType} {rm : Room} {x : Int32} {mem' : Mem} {stk : List Value} (X : CN D (tyL ca) A Z p s m args meth c cc nL RX12 ret) (hZ : ZOK Z) (As : List Value) (hqy : y.cls = RX12) (hs : As.reverse ++ .ref (ad 0) :: st = stk) (b : MB y bytes nY (some rty) na) (w1 : Cond.methodLink RX12 index y ∈ GW) (hM : CJ l D (tyL ca) (nW np nb) ad (cWd ca ad np nb eD tS sB) Z y bytes nY rty rm (.ref (ad 0) :: As) mem x mem') (hna : As.length = na) (hR : rm.frames + 1 ≤ R.frames ∧ 8 + (nY + 11) + rm.locals ≤ R.locals) (hst : (st.map fun v => v.category).sum ≤ 8) (hcs : cells + rm.cells ≤ R.cells ∧ slots + rm.slots ≤ R.slots) (hdg : decode cc pc = .ok (.invokevirtual index, 3)) (pc2 : Nat) (hp : pc + 3 = pc2) (kk : NN D A p l e R s m args below meth c nL (cells + rm.cells) (slots + rm.slots) Q (wf (nW np nb) ad (cWd ca ad np nb eD tS sB) mem' ++ ex) pc2 lv (.int x :: st)) : NN D A p l e R s m args below meth c nL cells slots Q (wf (nW np nb) ad (cWd ca ad np nb eD tS sB) mem ++ ex) pc lv stk :=
  y_callI X hZ As 0 nw_0 kw_0 (q := (RX12, TX12, 11)) rfl hqy hs b w1 hM hna hR hst hcs hdg pc2 hp kk
/-- new StringBuilder() -/
theorem y_newSB {ic ii : Nat} (X : CN D (tyL ca) A Z p s m args meth c cc nL own ret) (hZ : ZOK Z) (hO : ZO Z tO sK sV) (w0 : Cond.classLink own ic "java/lang/StringBuilder" ∈ GW) (w1 : Cond.methodLink own ii yJ4_init_da8c8 ∈ GW) (hR : 3 ≤ R.frames ∧ 80 ≤ R.locals) (hst : ((Value.ref 0 :: st).map fun v => v.category).sum ≤ 8) (hcs : cells + 2 ≤ R.cells ∧ slots + 20 ≤ R.slots) (d0 : decode cc pc = .ok (.new ic, 3)) (pc2 : Nat) (hp : pc + 3 = pc2) (d1 : decode cc pc2 = .ok (.dup, 1)) (pc3 : Nat) (hp3 : pc2 + 1 = pc3) (d2 : decode cc pc3 = .ok (.invokespecial ii, 3)) (pc4 : Nat) (hp4 : pc3 + 3 = pc4) (kk : ∀ (q : Nat) (b : BLD), SBK b [] → NN D A p l e R s m args below meth c nL (cells + 2) (slots + 20) Q (ws ++ sbw ca q b ([] : List Nat).length) pc4 lv (.ref q :: st)) : NN D A p l e R s m args below meth c nL cells slots Q ws pc lv st := by
  refine n_new X in_J4 tyJ4 tyJ4_ok w0 (gw_c tb_4 232 rfl rfl) kN_J4 (ci := 14) rfl [.null, .int 0, .int 0, .int 0] (by decide +kernel) ⟨by omega, by omega⟩ d0 pc2 hp ?_
  intro q
  refine q_dup X d1 rfl pc3 hp3 ?_
  refine n_perm (ws' := [(q, .inr (14, [.null, .int 0, .int 0, .int 0]))] ++ ws) pm_ab ?_
  refine q_callI X hZ [] ws rfl (stk := .ref q :: .ref q :: st) (st := .ref q :: st) rfl kT_J4_init_da8c8 w1 (cl_sb4 hZ hO) rfl hR hst ⟨?_, ?_⟩ d2 pc4 hp4 (fun v w1 hq => ?_)
  · show cells + 1 + 1 ≤ R.cells
    omega
  · show slots + 4 + 16 ≤ R.slots
    omega
  obtain ⟨rfl, V, rfl⟩ := hq
  refine n_perm (ws' := ws ++ sbw ca q (V, 16, fun _ => 0) ([] : List Nat).length) pm_ab ?_
  exact kk q (V, 16, fun _ => 0) ⟨Nat.zero_le _, (by decide : 16 ≤ 1000), fun _ => rfl, fun j c h => by cases h⟩
/-- toString(): the builder is given up -/
theorem y_toS {index : Nat} {tx : List Nat} {b : BLD} {wP : va_W} (X : CN D (tyL ca) A Z p s m args meth c cc nL own ret) (hZ : ZOK Z) (hO : ZO Z tO sK sV) (hV : ZVO Z) (hb : SBK b tx) (w1 : Cond.methodLink own index yJ4_toString_0e30d ∈ GW) (hR : 6 ≤ R.frames ∧ 170 ≤ R.locals) (hst : (st.map fun v => v.category).sum ≤ 8) (hcs : cells + 2 ≤ R.cells ∧ slots + 1004 ≤ R.slots) (hdg : decode cc pc = .ok (.invokevirtual index, 3)) (pc2 : Nat) (hp : pc + 3 = pc2) (kk : ∀ (str v0 : Nat) (g : Nat → Int32), (∀ i, fits .byte (.int (g i)) = true) → (∀ j c, tx[j]? = some c → g j = nI c) → NN D A p l e R s m args below meth c nL (cells + 2) (slots + 1004) Q (wP ++ [(str, .inr (13, [.ref v0, .int 0, .int 0, .int 0])), (v0, .inl (ca 1, tx.length, .inl g))]) pc2 lv (.ref str :: st)) : NN D A p l e R s m args below meth c nL cells slots Q (wP ++ sbw ca sb b tx.length) pc lv (.ref sb :: st) := by
  refine n_perm (ws' := sbw ca sb b tx.length ++ wP) pm_ab ?_
  refine q_callV X hZ [] wP rfl 0 rfl (q := (RJ4, TJ4, 4)) rfl rfl rfl kB_J4_toString_0e30d w1 (cl_tos hZ hO hV hb.2.1 hb.1 hb.2.2.1) rfl hR hst hcs hdg pc2 hp (fun v w1 hq => ?_)
  obtain ⟨str, V2, f2, rfl, rfl, e1, e2⟩ := hq
  refine n_perm (ws' := wP ++ (([(sb, .inr (14, [.ref b.1, .int 0, .int 0, .int (nI tx.length)])), (b.1, .inl (ca 1, b.2.1, .inl b.2.2))] : va_W) ++ [(V2, .inl (ca 1, tx.length, .inl f2)), (str, .inr (13, [.ref V2, .int 0, .int 0, .int 0]))])) pm_ab ?_
  refine q_sub (wP ++ [(V2, .inl (ca 1, tx.length, .inl f2)), (str, .inr (13, [.ref V2, .int 0, .int 0, .int 0]))]) (List.Sublist.append_left (List.sublist_append_right _ _) _) ?_
  refine n_perm (ws' := wP ++ [(str, .inr (13, [.ref V2, .int 0, .int 0, .int 0])), (V2, .inl (ca 1, tx.length, .inl f2))]) (List.Perm.append_left _ (List.Perm.swap _ _ _)) ?_
  exact kk str V2 f2 e1 (fun j c h => (e2 j (List.getElem?_eq_some_iff.mp h).1).trans (hb.2.2.2 j c h))
/-- guards: a digit; room for a statement -/
def gBk (x : Int32) : Option Nat := if ¬ x < 0 ∧ x.toNatClampNeg < 10 then some x.toNatClampNeg else none
theorem gB_some {x : Int32} {k : Nat} (h : gBk x = some k) : x = nI k ∧ k < 10 := by
  unfold gBk at h
  by_cases hc : ¬ x < 0 ∧ x.toNatClampNeg < 10
  · rw [if_pos hc] at h
    cases h
    obtain ⟨j, hj, rfl⟩ := nI_of hc.1
    rw [nI_clamp hj] at hc ⊢
    exact ⟨rfl, hc.2⟩
  · rw [if_neg hc] at h
    cases h
end GRZ
