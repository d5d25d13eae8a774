section GRX
/-- the law's own texts: 19 constants, then the four sides -/
def txL : List (Nat × String) := [(31, ""), (58, "board "), (67, " "), (69, ";"), (71, "walls "), (73, " ;\n"), (104, "pawn "), (113, "at "), (119, " walls "), (125, "ban "), (127, "back;"), (129, "again;"), (131, " every "), (133, " at "), (135, " from "), (137, " to "), (142, "block "), (144, " level;"), (146, " upright ;")]
def tcs (i : Nat) : List Nat := match i with
  | 0 => []
  | 1 => [98, 111, 97, 114, 100, 32]
  | 2 => [32]
  | 3 => [59]
  | 4 => [119, 97, 108, 108, 115, 32]
  | 5 => [32, 59, 10]
  | 6 => [112, 97, 119, 110, 32]
  | 7 => [97, 116, 32]
  | 8 => [32, 119, 97, 108, 108, 115, 32]
  | 9 => [98, 97, 110, 32]
  | 10 => [98, 97, 99, 107, 59]
  | 11 => [97, 103, 97, 105, 110, 59]
  | 12 => [32, 101, 118, 101, 114, 121, 32]
  | 13 => [32, 97, 116, 32]
  | 14 => [32, 102, 114, 111, 109, 32]
  | 15 => [32, 116, 111, 32]
  | 16 => [98, 108, 111, 99, 107, 32]
  | 17 => [32, 108, 101, 118, 101, 108, 59]
  | 18 => [32, 117, 112, 114, 105, 103, 104, 116, 32, 59]
  | 19 => [110, 111, 114, 116, 104]
  | 20 => [101, 97, 115, 116]
  | 21 => [115, 111, 117, 116, 104]
  | _ => [119, 101, 115, 116]
theorem tcs_128 : ∀ i, ∀ c ∈ tcs i, c < 128 := by
  intro i
  unfold tcs
  split <;> decide
def txf (cs : List Nat) (j : Nat) : Int32 := nI (cs.getD j 0)
theorem txf_fit {cs : List Nat} (h : ∀ c ∈ cs, c < 128) : ∀ i, fits .byte (.int (txf cs i)) = true := fun i => by
  unfold txf
  refine nI_fit ?_
  rw [List.getD_eq_getElem?_getD]
  cases hc : cs[i]? with
  | none => exact (by decide : (0 : Nat) < 128)
  | some c => exact h c (List.mem_of_getElem? hc)
theorem txf_at {cs : List Nat} {j c : Nat} (h : cs[j]? = some c) : txf cs j = nI c := by
  unfold txf
  rw [List.getD_eq_getElem?_getD, h]
  rfl
def zU (uK uV : Nat → Nat) (tD : Nat) (A : Nat → Prop) (U : State) (H : Heap) : Prop := (∀ i, i < 23 → zt (uK i) (uV i) (tcs i).length (txf (tcs i)) A U H) ∧ (∀ i q, txL[i]? = some q → vk_R RX12 q.1 q.2 (uK i) U) ∧ va_Z "PawnRaceLaw" "SIDES" "[Ljava/lang/String;" (.ref tD) A U H ∧ va_T (.object "java/lang/String") tD 4 (fun j => .ref (uK (19 + j))) A U H
def ZUO (Z : (Nat → Prop) → State → Heap → Prop) (uK uV : Nat → Nat) (tD : Nat) : Prop := ∀ A U H, Z A U H → zU uK uV tD A U H
variable {D : va_G} {tys : List (ClassId × FieldType)} {A : Nat → Prop} {Z : (Nat → Prop) → State → Heap → Prop} {p : Program} {l : Launch} {e : Env} {R : Room} {s : State} {m : MethodId} {args : Array Value} {below : List Frame} {meth : Method} {c : Code} {cc : ByteArray} {nL : Nat} {own : String} {ret : Option FieldType} {cells slots : Nat} {Q : State → Prop} {ws : va_W} {pc : Nat} {lv : List (Nat × Value)} {st : List Value}
variable {tO tD : Nat} {sK sV uK uV : Nat → Nat} {ca : Nat → Nat} {sb : Nat}
theorem q_ldcU {index : Nat} {tx : String} (X : CN D tys A Z p s m args meth c cc nL RX12 ret) (hU : ZUO Z uK uV tD) (t : Nat) (ht : txL[t]? = some (index, tx)) (hdg : decode cc pc = .ok (.ldc index, 2)) (pc2 : Nat) (hp : pc + 2 = pc2) (kk : NN D A p l e R s m args below meth c nL cells slots Q ws pc2 lv (.ref (uK t) :: st)) : NN D A p l e R s m args below meth c nL cells slots Q ws pc lv st := by
  subst hp
  exact fun H locs ls hP hD hS hl => va_ldcS X.1.1 X.1.2.1 X.1.2.2.2.1 ((hU _ _ _ X.2.2.2.2.2).2.1 t _ ht) hdg (kk H locs ls hP hD hS hl)
theorem q_sidS {tA tU sB L index : Nat} {xs : Nat → Int32} (X : CN D tys A Z p s m args meth c cc nL own ret) (hW : ZWO Z tA tU sB L xs) (hU : ZUO Z uK uV tD) (hw : Cond.fieldLinkNest own index "PawnRaceLaw" "SIDES" "[Ljava/lang/String;" "PawnRaceLaw" ∈ nstW) (hdg : decode cc pc = .ok (.getstatic index, 3)) (pc2 : Nat) (hp : pc + 3 = pc2) (kk : NN D A p l e R s m args below meth c nL cells slots Q ws pc2 lv (.ref tD :: st)) : NN D A p l e R s m args below meth c nL cells slots Q ws pc lv st := by
  subst hp
  exact fun H locs ls hP hD hS hl => va_getsN X.1.1 X.1.2.1 (hU _ _ _ X.2.2.2.2.2).2.2.1 hS X.1.2.2.2.1 (va_Nw.use rfl ((hW _ _ _ X.2.2.2.2.2).2.2.2.1 _ hw)) (fun _ h => h) hdg (kk H locs ls hP hD hS hl)
theorem q_sidA {i : Int32} (X : CN D tys A Z p s m args meth c cc nL own ret) (hU : ZUO Z uK uV tD) (hi : vp_in i 4) (hdg : decode cc pc = .ok (.aaload, 1)) (pc2 : Nat) (hp : pc + 1 = pc2) (kk : NN D A p l e R s m args below meth c nL cells slots Q ws pc2 lv (.ref (uK (19 + i.toNatClampNeg)) :: st)) : NN D A p l e R s m args below meth c nL cells slots Q ws pc lv (.int i :: .ref tD :: st) := by
  subst hp
  exact fun H locs ls hP hD hS hl => vb_tq X.1.1 X.1.2.1 (hU _ _ _ X.2.2.2.2.2).2.2.2 hS hi rfl hdg (kk H locs ls hP hD hS hl)
/-- a builder: its row, the row's length, the row's bytes; what it holds -/
abbrev BLD : Type := Nat × Nat × (Nat → Int32)
def sbw (ca : Nat → Nat) (sb : Nat) (b : BLD) (n : Nat) : va_W := [(sb, .inr (14, [.ref b.1, .int 0, .int 0, .int (nI n)])), (b.1, .inl (ca 1, b.2.1, .inl b.2.2))]
def SBK (b : BLD) (tx : List Nat) : Prop := tx.length ≤ b.2.1 ∧ b.2.1 ≤ 1000 ∧ (∀ i, fits .byte (.int (b.2.2 i)) = true) ∧ ∀ j c, tx[j]? = some c → b.2.2 j = nI c
theorem SBK_app {b : BLD} {tx cs : List Nat} (h : SBK b tx) {V2 cap2 : Nat} {f2 : Nat → Int32} (h1 : tx.length + cs.length ≤ cap2) (h2 : cap2 ≤ 1000) (h3 : ∀ i, fits .byte (.int (f2 i)) = true) (h4 : ∀ j, j < tx.length → f2 j = b.2.2 j) (h5 : ∀ j c, cs[j]? = some c → f2 (tx.length + j) = nI c) : SBK (V2, cap2, f2) (tx ++ cs) := by
  refine ⟨by rw [List.length_append]; exact h1, h2, h3, fun j c hc => ?_⟩
  by_cases hj : j < tx.length
  · rw [List.getElem?_append_left hj] at hc
    exact (h4 j hj).trans (h.2.2.2 j c hc)
  · rw [List.getElem?_append_right (by omega)] at hc
    have := h5 _ c hc
    rw [show tx.length + (j - tx.length) = j by omega] at this
    exact this
theorem pm_ab {α : Type} {a b : List α} : (a ++ b).Perm (b ++ a) := List.perm_append_comm
theorem y_apS {index a v0 : Nat} {cs tx : List Nat} {b : BLD} {wP : va_W} (X : CN D (tyL ca) A Z p s m args meth c cc nL own ret) (hZ : ZOK Z) (hO : ZO Z tO sK sV) (hV : ZVO Z) (hb : SBK b tx) (hT : ∀ A U H, Z A U H → zt a v0 cs.length (txf cs) A U H) (hc : ∀ c ∈ cs, c < 128) (hl : tx.length + cs.length ≤ 400) (w1 : Cond.methodLink own index yJ4_append_15ec4 ∈ GW) (hR : 6 ≤ R.frames ∧ 171 ≤ R.locals) (hst : (st.map fun v => v.category).sum ≤ 8) (hcs : cells + 1 ≤ R.cells ∧ slots + 1000 ≤ R.slots) (hdg : decode cc pc = .ok (.invokevirtual index, 3)) (pc2 : Nat) (hp : pc + 3 = pc2) (kk : ∀ b' : BLD, SBK b' (tx ++ cs) → NN D A p l e R s m args below meth c nL (cells + 1) (slots + 1000) Q (wP ++ sbw ca sb b' (tx ++ cs).length) pc2 lv (.ref sb :: st)) : NN D A p l e R s m args below meth c nL cells slots Q (wP ++ sbw ca sb b tx.length) pc lv (.ref a :: .ref sb :: st) := by
  refine n_perm (ws' := sbw ca sb b tx.length ++ wP) pm_ab ?_
  refine q_callV X hZ [.ref a] wP rfl 0 rfl (q := (RJ4, TJ4, 4)) rfl rfl rfl kB_J4_append_15ec4 w1 (cl_apS hZ hO hV hT (txf_fit hc) hl hb.2.1 hb.1 hb.2.2.1) rfl hR hst hcs hdg pc2 hp (fun v w1 hq => ?_)
  obtain ⟨rfl, V2, cap2, f2, rfl, e1, e2, e3, e4, e5⟩ := hq
  refine n_perm (ws' := wP ++ sbw ca sb (V2, cap2, f2) (tx ++ cs).length) (by rw [List.length_append]; exact pm_ab) ?_
  exact kk _ (SBK_app hb e1 e2 e3 e4 (fun j c hj => (e5 j (List.getElem?_eq_some_iff.mp hj).1).trans (txf_at hj)))
theorem y_apC {index k : Nat} {tx : List Nat} {b : BLD} {wP : va_W} {x : Int32} (X : CN D (tyL ca) A Z p s m args meth c cc nL own ret) (hZ : ZOK Z) (hO : ZO Z tO sK sV) (hV : ZVO Z) (hb : SBK b tx) (hx : x = nI k) (hk : k < 128) (hl : tx.length + 1 ≤ 400) (w1 : Cond.methodLink own index yJ4_append_cf468 ∈ GW) (hR : 6 ≤ R.frames ∧ 171 ≤ R.locals) (hst : (st.map fun v => v.category).sum ≤ 8) (hcs : cells + 1 ≤ R.cells ∧ slots + 1000 ≤ R.slots) (hdg : decode cc pc = .ok (.invokevirtual index, 3)) (pc2 : Nat) (hp : pc + 3 = pc2) (kk : ∀ b' : BLD, SBK b' (tx ++ [k]) → NN D A p l e R s m args below meth c nL (cells + 1) (slots + 1000) Q (wP ++ sbw ca sb b' (tx ++ [k]).length) pc2 lv (.ref sb :: st)) : NN D A p l e R s m args below meth c nL cells slots Q (wP ++ sbw ca sb b tx.length) pc lv (.int x :: .ref sb :: st) := by
  subst hx
  refine n_perm (ws' := sbw ca sb b tx.length ++ wP) pm_ab ?_
  refine q_callV X hZ [.int (nI k)] wP rfl 0 rfl (q := (RJ4, TJ4, 4)) rfl rfl rfl kB_J4_append_cf468 w1 (cl_apC hZ hO hV hk hl hb.2.1 hb.1 hb.2.2.1) rfl hR hst hcs hdg pc2 hp (fun v w1 hq => ?_)
  obtain ⟨rfl, V2, cap2, f2, rfl, e1, e2, e3, e4, e5⟩ := hq
  refine n_perm (ws' := wP ++ sbw ca sb (V2, cap2, f2) (tx ++ [k]).length) (by rw [List.length_append]; exact pm_ab) ?_
  exact kk _ (SBK_app hb e1 e2 e3 e4 (fun j c hj => by
    cases j with
    | zero => cases hj; exact e5
    | succ j => cases hj))
theorem y_apI {index k tG : Nat} {tx : List Nat} {b : BLD} {wP : va_W} {x : Int32} (X : CN D (tyL ca) A Z p s m args meth c cc nL own ret) (hZ : ZOK Z) (hO : ZO Z tO sK sV) (hV : ZVO Z) (hG : ∀ A U H, Z A U H → zDg tG A U H) (hb : SBK b tx) (hx : x = nI k) (hk : k < 10) (hl : tx.length + 1 ≤ 400) (w1 : Cond.methodLink own index yJ4_append_bf812 ∈ GW) (hR : 6 ≤ R.frames ∧ 171 ≤ R.locals) (hst : (st.map fun v => v.category).sum ≤ 8) (hcs : cells + 1 ≤ R.cells ∧ slots + 1000 ≤ R.slots) (hdg : decode cc pc = .ok (.invokevirtual index, 3)) (pc2 : Nat) (hp : pc + 3 = pc2) (kk : ∀ b' : BLD, SBK b' (tx ++ [48 + k]) → NN D A p l e R s m args below meth c nL (cells + 1) (slots + 1000) Q (wP ++ sbw ca sb b' (tx ++ [48 + k]).length) pc2 lv (.ref sb :: st)) : NN D A p l e R s m args below meth c nL cells slots Q (wP ++ sbw ca sb b tx.length) pc lv (.int x :: .ref sb :: st) := by
  subst hx
  refine n_perm (ws' := sbw ca sb b tx.length ++ wP) pm_ab ?_
  refine q_callV X hZ [.int (nI k)] wP rfl 0 rfl (q := (RJ4, TJ4, 4)) rfl rfl rfl kB_J4_append_bf812 w1 (cl_apI hZ hO hV hG hk hl hb.2.1 hb.1 hb.2.2.1) rfl hR hst hcs hdg pc2 hp (fun v w1 hq => ?_)
  obtain ⟨rfl, V2, cap2, f2, rfl, e1, e2, e3, e4, e5⟩ := hq
  refine n_perm (ws' := wP ++ sbw ca sb (V2, cap2, f2) (tx ++ [48 + k]).length) (by rw [List.length_append]; exact pm_ab) ?_
  exact kk _ (SBK_app hb e1 e2 e3 e4 (fun j c hj => by
    cases j with
    | zero => cases hj; exact e5
    | succ j => cases hj))
/-- .. of a text that lies among the things -/
theorem q_callVz {Zx : (Nat → Prop) → State → Heap → Prop} {y : MethodName} {bytes : ByteArray} {nY index na : Nat} {rt : Option FieldType} {rm : Room} {wc : va_W} {Qf : Option Value → va_W → Prop} {stk : List Value} (X : CN D tys A Z p s m args meth c cc nL own ret) (hZ : ZOK Z) (hZ' : ZOK (fun A U H => Z A U H ∧ Zx A U H)) (hz : ∀ H, va_P D vwCl ws H → va_D A ws → (∀ q, s.heap.size ≤ q → A q) → Zx (va_A wc H.size) s H) (As : List Value) (wr : va_W) (hw : ws = wc ++ wr) (k : Nat) {a ci : Nat} {fs : List Value} {q : vw_C} (he : ws[k]? = some (a, .inr (ci, fs))) (hq : vwCl[ci]? = some q) (hqy : y.cls = q.1) (hs : As.reverse ++ .ref a :: st = stk) (b : MB y bytes nY rt na) (w1 : Cond.methodLink own index y ∈ GW) (hM : LC l D tys (fun A U H => Z A U H ∧ Zx A U H) y bytes nY rt rm (.ref a :: As) wc Qf) (hna : As.length = na) (hR : rm.frames + 1 ≤ R.frames ∧ 8 + (nY + 11) + rm.locals ≤ R.locals) (hst : (st.map fun v => v.category).sum ≤ 8) (hcs : cells + rm.cells ≤ R.cells ∧ slots + rm.slots ≤ R.slots) (hdg : decode cc pc = .ok (.invokevirtual index, 3)) (pc2 : Nat) (hp : pc + 3 = pc2) (kk : ∀ (v : Option Value) (w1 : va_W), Qf v w1 → NN D A p l e R s m args below meth c nL (cells + rm.cells) (slots + rm.slots) Q (w1 ++ wr) pc2 lv (v.toList ++ st)) : NN D A p l e R s m args below meth c nL cells slots Q ws pc lv stk := by
  subst hs; subst hw
  intro H locs ls hP hD hS hl
  have hpre : ∀ U : State, U.heap = H → s.WarmedH U.vm → va_Pc (.ref a :: As) (PLq D tys (fun A U H => Z A U H ∧ Zx A U H) wc H.size) ((.ref a :: As) : List Value).toArray U := fun U hU hW => by
    obtain ⟨p1, p2, p3, p4, p5⟩ := PL_of X hZ hP hD hS hU hW
    have z0 : Z (va_A wc H.size) s H := hZ.2.1 _ _ _ _ (hZ.1 _ _ _ _ X.2.2.2.2.2 (fun a ha hn => hS.2.1 a ha hn)) (wl_sub hD X.2.2.2.2.1 hS.1)
    refine ⟨rfl, p1, p2, p3, p4, ?_⟩
    have := hZ'.2.2 _ s U _ (Or.inr hW) ⟨z0, hz H hP hD X.2.2.2.2.1⟩
    rw [hU]
    exact this
  obtain ⟨w2, w4, w3, w5, hd⟩ := b
  have hg : GoodIn GW (Cond.code y bytes nY rt :: GW) := gw_cons w5
  have cw : CallW R s args own y.cls index y bytes nY rt (Cond.code y bytes nY rt :: GW) rm rm.cells rm.slots na := ⟨callB_of na X.1.2.2.2.2 hg rfl rfl rfl (X.1.2.2.2.2 _ w3) (X.1.2.2.2.2 _ w1) hd hR, X.1.2.2.2.2 _ w2, X.1.2.2.2.2 _ w4⟩
  have hrv : ∃ cellB : Cell, H[a]? = some cellB ∧ cellB.vm.isStatics = false ∧ s.vm.findClass y.cls = some cellB.cls := by
    rw [hqy]
    exact va_recv X.2.2.2.1 hP hq he
  exact q_ran X hP hD hS hl hp (va_runV (rest := st) X.1 (hM H.size) cw ⟨PL_bl hZ', hrv, hpre⟩ (g := F0 m pc ls (As.reverse ++ .ref a :: st)) (H := H) (locs := locs) (cells := cells) (slots := slots) (below := below) (e := e) (meth := meth) rfl hna hl.1 rfl (lv_room hst) hdg hcs) kk
theorem zt_ok (hZ : ZOK Z) {a v len : Nat} {f : Nat → Int32} : ZOK (fun A U H => Z A U H ∧ zt a v len f A U H) := by
  refine ⟨fun A U H H1 h hq => ⟨hZ.1 _ _ _ _ h.1 hq, h.2.1.kept hq, h.2.2.1.kept hq, h.2.2.2.1.kept hq, h.2.2.2.2.kept hq⟩, fun A B U H h hAB => ⟨hZ.2.1 _ _ _ _ h.1 hAB, h.2.1.narrow hAB, h.2.2.1.narrow hAB, h.2.2.2.1.narrow hAB, h.2.2.2.2.narrow hAB⟩, fun A u U H hv h => ?_⟩
  have al : u.vm.Alike U.vm := by
    rcases hv with h | h
    · rw [h]
      exact Vm.Alike.refl U.vm
    · exact h.alike
  exact ⟨hZ.2.2 _ _ _ _ hv h.1, va_O.moved al h.2.1, va_OF.moved al h.2.2.1, va_OF.moved al h.2.2.2.1, va_T.moved al h.2.2.2.2⟩
theorem y_apP {index str v0 k1 k2 : Nat} {g : Nat → Int32} {cs tx : List Nat} {b : BLD} {wP : va_W} (X : CN D (tyL ca) A Z p s m args meth c cc nL own ret) (hZ : ZOK Z) (hO : ZO Z tO sK sV) (hV : ZVO Z) (hb : SBK b tx) (h1 : wP[k1]? = some (str, .inr (13, [.ref v0, .int 0, .int 0, .int 0]))) (h2 : wP[k2]? = some (v0, .inl (ca 1, cs.length, .inl g))) (hg : ∀ i, fits .byte (.int (g i)) = true) (hgc : ∀ j c, cs[j]? = some c → g j = nI c) (hl : tx.length + cs.length ≤ 400) (w1 : Cond.methodLink own index yJ4_append_15ec4 ∈ GW) (hR : 6 ≤ R.frames ∧ 171 ≤ R.locals) (hst : (st.map fun v => v.category).sum ≤ 8) (hcs : cells + 1 ≤ R.cells ∧ slots + 1000 ≤ R.slots) (hdg : decode cc pc = .ok (.invokevirtual index, 3)) (pc2 : Nat) (hp : pc + 3 = pc2) (kk : ∀ b' : BLD, SBK b' (tx ++ cs) → NN D A p l e R s m args below meth c nL (cells + 1) (slots + 1000) Q (wP ++ sbw ca sb b' (tx ++ cs).length) pc2 lv (.ref sb :: st)) : NN D A p l e R s m args below meth c nL cells slots Q (wP ++ sbw ca sb b tx.length) pc lv (.ref str :: .ref sb :: st) := by
  refine n_perm (ws' := sbw ca sb b tx.length ++ wP) pm_ab ?_
  refine q_callVz (Zx := zt str v0 cs.length g) X hZ (zt_ok hZ) (fun H hP hD hA => ?_) [.ref str] wP rfl 0 rfl (q := (RJ4, TJ4, 4)) rfl rfl rfl kB_J4_append_15ec4 w1 (cl_apS (zt_ok hZ) (fun A U H h => hO A U H h.1) (fun A U H h => hV A U H h.1) (fun A U H h => h.2) hg hl hb.2.1 hb.1 hb.2.2.1) rfl hR hst hcs hdg pc2 hp (fun v w1 hq => ?_)
  · have hlen : (sbw ca sb b tx.length).length = 2 := rfl
    have g1 : (sbw ca sb b tx.length ++ wP)[2 + k1]? = some (str, .inr (13, [.ref v0, .int 0, .int 0, .int 0])) := by
      rw [List.getElem?_append_right (by rw [hlen]; omega), hlen, show 2 + k1 - 2 = k1 by omega]
      exact h1
    have g2 : (sbw ca sb b tx.length ++ wP)[2 + k2]? = some (v0, .inl (ca 1, cs.length, .inl g)) := by
      rw [List.getElem?_append_right (by rw [hlen]; omega), hlen, show 2 + k2 - 2 = k2 by omega]
      exact h2
    have hout : ∀ (k x : Nat) (q : va_E), (sbw ca sb b tx.length ++ wP)[2 + k]? = some (x, q) → ¬ va_A (sbw ca sb b tx.length) H.size x := fun k x q hk hA2 => by
      rcases hA2 with ⟨j, e, hj⟩ | hA2
      · have hj2 : j < 2 := (List.getElem?_eq_some_iff.mp hj).1
        have hj3 : (sbw ca sb b tx.length ++ wP)[j]? = some (x, e) := by
          rw [List.getElem?_append_left (by rw [hlen]; exact hj2)]
          exact hj
        have := hD.1 _ _ _ _ hk hj3 rfl
        omega
      · exact absurd (vx_lt hP hk) (Nat.not_lt.mpr hA2)
    exact zt_of X hP g1 g2 (t0 := 1) rfl (hout _ _ _ g1) (hout _ _ _ g2) (by omega)
  obtain ⟨rfl, V2, cap2, f2, rfl, e1, e2, e3, e4, e5⟩ := hq
  refine n_perm (ws' := wP ++ sbw ca sb (V2, cap2, f2) (tx ++ cs).length) (by rw [List.length_append]; exact pm_ab) ?_
  exact kk _ (SBK_app hb e1 e2 e3 e4 (fun j c hj => (e5 j (List.getElem?_eq_some_iff.mp hj).1).trans (hgc j c hj)))
end GRX
