section GHG
section
variable {D : va_G} {tys : List (ClassId × FieldType)} {A : Nat → Prop} {Z : (Nat → Prop) → State → Heap → Prop} {p : Program} {l : Launch} {e : Env} {R : Room} {s : State} {m : MethodId} {args : Array Value} {below : List Frame} {meth : Method} {c : Code} {cc : ByteArray} {nL : Nat} {own : String} {ret : Option FieldType} {cells slots : Nat} {Q : State → Prop} {ws : va_W} {pc : Nat} {lv : List (Nat × Value)} {st : List Value}
theorem q_callSz {Zx : (Nat → Prop) → State → Heap → Prop} {y : MethodName} {bytes : ByteArray} {nY index na : Nat} {rt : Option FieldType} {rm : Room} {wc : va_W} {Qf : Option Value → va_W → Prop} {stk : List Value} (X : CN D tys A Z p s m args meth c cc nL own ret) (hZ : ZOK Z) (hZ' : ZOK (fun A U H => Z A U H ∧ Zx A U H)) (hz : ∀ H, va_P D vwCl ws H → va_D A ws → (∀ q, s.heap.size ≤ q → A q) → Zx (va_A wc H.size) s H) (As : List Value) (wr : va_W) (hw : ws = wc ++ wr) (hs : As.reverse ++ st = stk) (b : SB y bytes nY rt na) (w1 : Cond.methodLink own index y ∈ GW) (hM : LC l D tys (fun A U H => Z A U H ∧ Zx A U H) y bytes nY rt rm As wc Qf) (hna : As.length = na) (hR : rm.frames + 1 ≤ R.frames ∧ 8 + (nY + 11) + rm.locals ≤ R.locals) (hst : (st.map fun v => v.category).sum ≤ 8) (hcs : cells + rm.cells ≤ R.cells ∧ slots + rm.slots ≤ R.slots) (hdg : decode cc pc = .ok (.invokestatic index, 3)) (pc2 : Nat) (hp : pc + 3 = pc2) (kk : ∀ (v : Option Value) (w1 : va_W), Qf v w1 → NN D A p l e R s m args below meth c nL (cells + rm.cells) (slots + rm.slots) Q (w1 ++ wr) pc2 lv (v.toList ++ st)) : NN D A p l e R s m args below meth c nL cells slots Q ws pc lv stk := by
  subst hs; subst hw
  intro H locs ls hP hD hS hl
  have hpre : ∀ U : State, U.heap = H → s.WarmedH U.vm → va_Pc As (PLq D tys (fun A U H => Z A U H ∧ Zx A U H) wc H.size) (As : List Value).toArray U := fun U hU hW => by
    obtain ⟨p1, p2, p3, p4, p5⟩ := PL_of X hZ hP hD hS hU hW
    have z0 : Z (va_A wc H.size) s H := hZ.2.1 _ _ _ _ (hZ.1 _ _ _ _ X.2.2.2.2.2 (fun a ha hn => hS.2.1 a ha hn)) (wl_sub hD X.2.2.2.2.1 hS.1)
    refine ⟨rfl, p1, p2, p3, p4, ?_⟩
    have := hZ'.2.2 _ s U _ (Or.inr hW) ⟨z0, hz H hP hD X.2.2.2.2.1⟩
    rw [hU]
    exact this
  obtain ⟨w2, w3, w5, hd⟩ := b
  have hg : GoodIn GW (Cond.code y bytes nY rt :: GW) := gw_cons w5
  have cw : CallB R s args own index y bytes nY rt (Cond.code y bytes nY rt :: GW) rm rm.cells rm.slots na ∧ (Cond.static y).before args s = true := ⟨callB_of na X.1.2.2.2.2 hg rfl rfl rfl (X.1.2.2.2.2 _ w3) (X.1.2.2.2.2 _ w1) hd hR, X.1.2.2.2.2 _ w2⟩
  exact q_ran X hP hD hS hl hp (va_runS (rest := st) X.1 (hM H.size) cw ⟨PL_bl hZ', hpre⟩ (g := F0 m pc ls (As.reverse ++ st)) (H := H) (locs := locs) (cells := cells) (slots := slots) (below := below) (e := e) (meth := meth) rfl hna hl.1 rfl (lv_room hst) hdg hcs) kk
theorem n_toX {n : Nat} {ad : Nat → Nat} {cf : Nat → Row → va_E} {mem : Mem} {ex : va_W} (X : CN D tys (fun q => s.heap.size ≤ q) Z p s m args meth c cc nL own ret) (hZ : ZOK Z) (kk : CX D tys n ad Z p s m args meth c cc nL own ret → (∀ k, k < n → s.heap.size ≤ ad k) → XX D n ad cf p l e R s m args below meth c nL cells slots Q mem ex pc lv st) : NN D (fun q => s.heap.size ≤ q) p l e R s m args below meth c nL cells slots Q (wf n ad cf mem ++ ex) pc lv st := by
  intro H locs ls hP hD hS hl
  have hA : ∀ k, k < n → s.heap.size ≤ ad k := fun k hk => hD.2 k _ (wx_at hk)
  have hI := wD_I hD
  have s1 : ∀ x, AA n ad s.heap.size x → s.heap.size ≤ x := fun x h => h.elim (fun ⟨k, h1, h2⟩ => by rw [h2]; exact hA k h1) id
  exact kk ⟨X.1, X.2.1, X.2.2.1, X.2.2.2.1, hI, hZ.2.1 _ _ _ _ X.2.2.2.2.2 s1⟩ hA H locs ls hP ⟨hD.1, fun k q hk => Or.inr (hD.2 k q hk)⟩ ⟨hS.1, fun x h1 h2 => hS.2.1 x h1 (fun h => h2 (Or.inr h)), fun x hx => Or.inr (hS.2.2 x hx)⟩ hl
end
def KL_it (L : Nat) (xs : Nat → Int32) (np nb fu : Nat) : Nat → Int32 → Mem → Option Int32
  | 0, _, _ => none
  | f + 1, i, mem => if i < 8 then bd (KL_acts L xs np nb fu i mem) (fun a => if a.1 = 0 then some 0 else bd (KL_fields L xs np nb fu a.2) (fun b => if b.1 = 0 then some 0 else bd (KL_gates L xs np nb fu b.2) (fun c => if c.1 = 0 then some 0 else bd (KL_builds L xs np nb fu i c.2) (fun d => if d.1 = 0 then some 0 else KL_it L xs np nb fu f (i + 1) d.2)))) else bd (KL_plays L xs np nb fu mem) (fun a => some a.1)
variable {D : va_G} {ca ad : Nat → Nat} {np nb eD tS sB : Nat} {Z : (Nat → Prop) → State → Heap → Prop} {tA tU tD tG L tO : Nat} {xs : Nat → Int32} {sK sV uK uV : Nat → Nat} {p : Program} {e : Env} {R : Room} {s : State} {m : MethodId} {args : Array Value} {below : List Frame} {meth : Method} {c : Code} {Q : State → Prop}
set_option maxRecDepth 100000 in
theorem lw_it (l : Launch) (hl : l.stackTraces = false) (hZ : ZOK Z) (hX : ZX Z) (hO : ZO Z tO sK sV) (hW : ZWO Z tA tU sB L xs) (hg : np ≤ 4 ∧ nb ≤ 4 ∧ (np = 0 → nb = 0)) (fu : Nat) {ex : va_W} (X : CX D (tyL ca) (255 + nW np nb) ad Z p s m args meth c cL_law 4 RL (some .boolean)) {K1 K2 : Nat} (hR : 40 ≤ R.frames ∧ 1000 ≤ R.locals ∧ K1 ≤ R.cells ∧ K2 ≤ R.slots) (kk : ∀ (mem : Mem) (lv : List (Nat × Value)), XX D (255 + nW np nb) ad (cJ ca ad np nb eD tS sB) p l e R s m args below meth c 4 K1 K2 Q mem ex 99 lv [.int 1]) : ∀ (f : Nat) (i : Int32) (mem : Mem) (cells slots : Nat), KL_it L xs np nb fu f i mem = some 1 → cells + f * 39367 ≤ K1 → slots + f * 293098 ≤ K2 → XX D (255 + nW np nb) ad (cJ ca ad np nb eD tS sB) p l e R s m args below meth c 4 cells slots Q mem ex 44 [(3, .int i), (2, .ref (ad 0)), (1, .ref (ad (255 + 0))), (0, .ref sB)] [] := by
  intro f
  induction f with
  | zero =>
    intro i mem cells slots hF
    cases hF
  | succ f ih =>
    intro i mem cells slots hF hc1 hc2
    rw [KL_it] at hF
    by_cases hi : i < 8
    · rw [if_pos hi] at hF
      refine x_iload_n X 0 dL_law_44 rfl rfl 45 rfl ?_
      refine x_bipush X 8 dL_law_45 rfl 47 rfl ?_
      refine x_icmp_ge (A := some ()) (B := none) (res := ()) X (if_pos hi) 94 50 dL_law_47 (by decide) rfl (fun _ => ?_) (fun z => nomatch z)
      refine x_aload_n X 1 dL_law_50 rfl rfl 51 rfl ?_
      refine x_aload_n X 2 dL_law_51 rfl rfl 52 rfl ?_
      refine x_aload_n X 3 dL_law_52 rfl rfl 53 rfl ?_
      refine x_iload_n X 0 dL_law_53 rfl rfl 54 rfl ?_
      refine x_callSi (fun x => x.1) (fun x => x.2) X hZ hF [.ref (ad 0), .ref (ad (255 + 0)), .ref sB, .int i] rfl kB_L_acts kL_L_150 (fun r h => cl_acts l hl hZ hX hO hW hg fu i mem r h) rfl ⟨Nat.le_trans (m := 40) (Nat.le_of_ble_eq_true rfl) hR.1, Nat.le_trans (m := 1000) (Nat.le_of_ble_eq_true rfl) hR.2.1⟩ (Nat.le_of_ble_eq_true rfl) ⟨by show cells + 29299 ≤ R.cells; omega, by show slots + 232690 ≤ R.slots; omega⟩ dL_law_54 57 rfl (fun a1 hF => ?_)
      by_cases ha : a1.1 = 0
      · rw [if_pos ha] at hF
        exact absurd (o_inj hF) (by decide)
      rw [if_neg ha] at hF
      refine x_if_eq (A := none) (B := some ()) (res := ()) X (if_neg ha) 86 60 dL_law_57 (by decide) rfl (fun z => nomatch z) (fun _ => ?_)
      refine x_aload_n X 1 dL_law_60 rfl rfl 61 rfl ?_
      refine x_aload_n X 2 dL_law_61 rfl rfl 62 rfl ?_
      refine x_callSi (fun x => x.1) (fun x => x.2) X hZ hF [.ref (ad 0), .ref (ad (255 + 0))] rfl kB_L_fields kL_L_154 (fun r h => cl_fields l hl hZ hX hO hW hg fu a1.2 r h) rfl ⟨Nat.le_trans (m := 40) (Nat.le_of_ble_eq_true rfl) hR.1, Nat.le_trans (m := 1000) (Nat.le_of_ble_eq_true rfl) hR.2.1⟩ (Nat.le_of_ble_eq_true rfl) ⟨by show cells + 29299 + 8913 ≤ R.cells; omega, by show slots + 232690 + 53478 ≤ R.slots; omega⟩ dL_law_62 65 rfl (fun a2 hF => ?_)
      by_cases hb : a2.1 = 0
      · rw [if_pos hb] at hF
        exact absurd (o_inj hF) (by decide)
      rw [if_neg hb] at hF
      refine x_if_eq (A := none) (B := some ()) (res := ()) X (if_neg hb) 86 68 dL_law_65 (by decide) rfl (fun z => nomatch z) (fun _ => ?_)
      refine x_aload_n X 1 dL_law_68 rfl rfl 69 rfl ?_
      refine x_aload_n X 2 dL_law_69 rfl rfl 70 rfl ?_
      refine x_callSi (fun x => x.1) (fun x => x.2) X hZ hF [.ref (ad 0), .ref (ad (255 + 0))] rfl kB_L_gates kL_L_158 (fun r h => cl_gates l hl hZ hX hO hW hg fu a2.2 r h) rfl ⟨Nat.le_trans (m := 40) (Nat.le_of_ble_eq_true rfl) hR.1, Nat.le_trans (m := 1000) (Nat.le_of_ble_eq_true rfl) hR.2.1⟩ (Nat.le_of_ble_eq_true rfl) ⟨by show cells + 29299 + 8913 + 834 ≤ R.cells; omega, by show slots + 232690 + 53478 + 5004 ≤ R.slots; omega⟩ dL_law_70 73 rfl (fun a3 hF => ?_)
      by_cases hc : a3.1 = 0
      · rw [if_pos hc] at hF
        exact absurd (o_inj hF) (by decide)
      rw [if_neg hc] at hF
      refine x_if_eq (A := none) (B := some ()) (res := ()) X (if_neg hc) 86 76 dL_law_73 (by decide) rfl (fun z => nomatch z) (fun _ => ?_)
      refine x_aload_n X 1 dL_law_76 rfl rfl 77 rfl ?_
      refine x_aload_n X 2 dL_law_77 rfl rfl 78 rfl ?_
      refine x_aload_n X 3 dL_law_78 rfl rfl 79 rfl ?_
      refine x_iload_n X 0 dL_law_79 rfl rfl 80 rfl ?_
      refine x_callSw (na := 4) (fun x => x.1) (fun x => x.2) X hZ hF [.ref (ad 0), .ref (ad (255 + 0)), .ref sB, .int i] rfl (gw_c tb_8 115 rfl rfl) kN_L (gw_c tb_8 116 rfl rfl) ⟨by decide +kernel, by decide +kernel, by decide +kernel⟩ kL_L_161 (fun r h => cl_builds l hl hZ hX hO hW hg fu i a3.2 r h) rfl ⟨Nat.le_trans (m := 40) (Nat.le_of_ble_eq_true rfl) hR.1, Nat.le_trans (m := 1000) (Nat.le_of_ble_eq_true rfl) hR.2.1⟩ (Nat.le_of_ble_eq_true rfl) ⟨by show cells + 29299 + 8913 + 834 + 321 ≤ R.cells; omega, by show slots + 232690 + 53478 + 5004 + 1926 ≤ R.slots; omega⟩ dL_law_80 83 rfl (fun a4 hF => ?_)
      by_cases hd : a4.1 = 0
      · rw [if_pos hd] at hF
        exact absurd (o_inj hF) (by decide)
      rw [if_neg hd] at hF
      refine x_if_ne (A := none) (B := some ()) (res := ()) X (if_neg hd) 88 86 dL_law_83 (by decide) rfl (fun z => nomatch z) (fun _ => ?_)
      refine x_iinc X 0 (i + 1) [(3, .int (i + 1)), (2, .ref (ad 0)), (1, .ref (ad (255 + 0))), (0, .ref sB)] dL_law_88 rfl rfl (by decide) rfl 91 rfl ?_
      refine x_goto X 44 dL_law_91 (by decide) ?_
      exact ih (i + 1) _ _ _ hF (by show cells + 29299 + 8913 + 834 + 321 + _ ≤ _; omega) (by show slots + 232690 + 53478 + 5004 + 1926 + _ ≤ _; omega)
    · rw [if_neg hi] at hF
      refine x_iload_n X 0 dL_law_44 rfl rfl 45 rfl ?_
      refine x_bipush X 8 dL_law_45 rfl 47 rfl ?_
      refine x_icmp_ge (A := none) (B := some ()) (res := ()) X (if_neg hi) 94 50 dL_law_47 (by decide) rfl (fun z => nomatch z) (fun _ => ?_)
      refine x_aload_n X 1 dL_law_94 rfl rfl 95 rfl ?_
      refine x_aload_n X 2 dL_law_95 rfl rfl 96 rfl ?_
      refine x_callSi (fun x => x.1) (fun x => x.2) X hZ hF [.ref (ad 0), .ref (ad (255 + 0))] rfl kB_L_plays kL_L_164 (fun r h => cl_plays l hl hZ hX hO hW hg fu mem r h) rfl ⟨Nat.le_trans (m := 40) (Nat.le_of_ble_eq_true rfl) hR.1, Nat.le_trans (m := 1000) (Nat.le_of_ble_eq_true rfl) hR.2.1⟩ (Nat.le_of_ble_eq_true rfl) ⟨by show cells + 286 ≤ R.cells; omega, by show slots + 1714 ≤ R.slots; omega⟩ dL_law_96 99 rfl (fun a1 hF => ?_)
      rw [show a1.1 = 1 from o_inj hF]
      refine x_widen (k := K1) (k2 := K2) (by show cells + 286 ≤ K1; omega) (by show slots + 1714 ≤ K2; omega) ?_
      exact kk _ _
set_option maxRecDepth 100000 in
/-- the law, from its entry: where the pure functions answer so, it comes to its end with true -/
theorem lw_nn (l : Launch) (hl : l.stackTraces = false) (hZ : ZOK Z) (hX : ZX Z) (hO : ZO Z tO sK sV) (hA : ZA Z) (hV : ZVO Z) (hW : ZWO Z tA tU sB L xs) (hU : ZUO Z uK uV tD) (hG : ∀ A U H, Z A U H → zDg tG A U H) (hE : ∀ A U H, Z A U H → zE eD A U H) {fu : Nat} {memB memW m1 m2 : Mem} {tx : List Nat} {x1 : Int32} (hB : K_B_clear fu 5 5 (fun _ => z0) = some memB) (hgr : KG_grown L xs fu = some (np, nb, memW, tx)) (hg : np ≤ 4 ∧ nb ≤ 4 ∧ (np = 0 → nb = 0)) (hc : ∀ c ∈ tx, c < 128) (hn : tx.length ≤ 400) (hfe : KL_feeds fu tx (mJ (mC0 memB) memW) = some (x1, m1)) (hx1 : ¬ x1 = 0) (hrd : K_X11_readText fu m1 = some (0, nI np, m2)) (hit : KL_it L xs np nb fu 9 0 (mset 0 255 m1 m2) = some 1) (X : CN D (tyL ca) (fun q => s.heap.size ≤ q) Z p s m args meth c cL_law 4 RL (some .boolean)) (hR : 40 ≤ R.frames ∧ 1000 ≤ R.locals ∧ 356000 ≤ R.cells ∧ 2950000 ≤ R.slots) (kk : ∀ (H : Heap) (locs : List Loc) (ls : Array Slot), va_S (fun q => s.heap.size ≤ q) s.heap H locs → ls.size = 4 → W p l e R s m args below meth c H locs 356000 2950000 Q (F0 m 99 ls [.int 1])) : NN D (fun q => s.heap.size ≤ q) p l e R s m args below meth c 4 0 0 Q [] 0 [(0, .ref sB)] [] := by
  refine q_aload_n X 0 dL_law_0 rfl rfl 1 rfl ?_
  refine q_callS (rm := rw_grown) X hZ [.ref sB] [] rfl rfl kB_X12_grown kL_L_134 (cg_grown l hZ hO hV hW hU hG hE hgr) rfl ⟨Nat.le_trans (m := 40) (Nat.le_of_ble_eq_true rfl) hR.1, Nat.le_trans (m := 1000) (Nat.le_of_ble_eq_true rfl) hR.2.1⟩ (Nat.le_of_ble_eq_true rfl) ⟨by show 0 + 760 ≤ R.cells; omega, by show 0 + 300000 ≤ R.slots; omega⟩ dL_law_1 4 rfl ?_
  intro v w1 hq
  obtain ⟨ad, str, v0, g, rfl, rfl, hg1, hg2⟩ := hq
  rw [List.append_nil]
  dsimp only
  dsimp only at hg2
  refine q_astore_n X [(1, .ref (ad 0)), (0, .ref sB)] dL_law_4 rfl (by decide) rfl 5 rfl ?_
  refine n_new X in_X11 tyX11 tyX11_ok kCl_L_26 (gw_c tb_1 38 rfl rfl) kN_X11 (ci := 11) rfl [.null, .null, .null, .null, .null, .null, .null, .null, .null, .null, .int 0, .null, .null, .int 0] (by decide +kernel) ⟨by show 0 + 760 + 1 ≤ R.cells; omega, by show 0 + 300000 + 14 ≤ R.slots; omega⟩ dL_law_5 8 rfl ?_
  intro q
  refine q_dup X dL_law_8 rfl 9 rfl ?_
  refine n_ctor (rm := rm_X11_init) X hZ [] rfl kIB_X11 kL_L_138 (ct_X11_init l hZ hO hA hB q) rfl ⟨Nat.le_trans (m := 40) (Nat.le_of_ble_eq_true rfl) hR.1, Nat.le_trans (m := 1000) (Nat.le_of_ble_eq_true rfl) hR.2.1⟩ (Nat.le_of_ble_eq_true rfl) ⟨by show 0 + 760 + 1 + 254 ≤ R.cells; omega, by show 0 + 300000 + 14 + 8226 ≤ R.slots; omega⟩ dL_law_9 12 rfl ?_
  intro ws1 hw1
  obtain ⟨f, rfl, hp⟩ := cls_W hw1
  refine n_perm (ws' := wf (255 + nW np nb) (adJ f ad) (cJ ca (adJ f ad) np nb eD str sB) (mJ (mC0 memB) memW) ++ [(str, .inr (13, [.ref v0, .int 0, .int 0, .int 0])), (v0, .inl (ca 1, tx.length, .inl g))]) ?_ ?_
  · rw [wf_J, List.append_assoc]
    exact List.perm_append_comm.trans (List.Perm.append_left _ hp)
  show NN D _ p l e R s m args below meth c 4 _ _ Q _ 12 [(1, .ref (adJ f ad (255 + 0))), (0, .ref sB)] [.ref (adJ f ad 0)]
  clear hw1 hp
  generalize adJ f ad = ad2
  refine q_astore_n X [(2, .ref (ad2 0)), (1, .ref (ad2 (255 + 0))), (0, .ref sB)] dL_law_12 rfl (by decide) rfl 13 rfl ?_
  refine q_aload_n X 0 dL_law_13 rfl rfl 14 rfl ?_
  refine q_aload_n X 1 dL_law_14 rfl rfl 15 rfl ?_
  refine y_getV (v := .ref str) X (255 + 0) (lj nw_0) kj_0 (T := TX12) (N := 11) rfl in_X12 8 (by decide) kF_L_139 rfl rfl dL_law_15 18 rfl ?_
  refine q_callSz (rm := rl_feeds) (Zx := zt str v0 tx.length g) X hZ (zt_ok hZ) (fun H hP hD _ => ?_) [.ref (ad2 0), .ref str] [(str, .inr (13, [.ref v0, .int 0, .int 0, .int 0])), (v0, .inl (ca 1, tx.length, .inl g))] rfl rfl kB_L_feeds kL_L_143 (lc_i (cl_feeds l hl (zt_ok hZ) (fun A U H h => hX A U H h.1) (fun A U H h => hO A U H h.1) (fun A U H h => h.2) hg2 hc hn hfe)) rfl ⟨Nat.le_trans (m := 40) (Nat.le_of_ble_eq_true rfl) hR.1, Nat.le_trans (m := 1000) (Nat.le_of_ble_eq_true rfl) hR.2.1⟩ (Nat.le_of_ble_eq_true rfl) ⟨by show 0 + 760 + 1 + 254 + 90 ≤ R.cells; omega, by show 0 + 300000 + 14 + 8226 + 520 ≤ R.slots; omega⟩ dL_law_18 21 rfl ?_
  · have hout : ∀ (k x : Nat) (q : va_E), (wf (255 + nW np nb) ad2 (cJ ca ad2 np nb eD str sB) (mJ (mC0 memB) memW) ++ [(str, .inr (13, [.ref v0, .int 0, .int 0, .int 0])), (v0, .inl (ca 1, tx.length, .inl g))])[255 + nW np nb + k]? = some (x, q) → ¬ va_A (wf (255 + nW np nb) ad2 (cJ ca ad2 np nb eD str sB) (mJ (mC0 memB) memW)) H.size x := fun k x q hk hA2 => by
      rcases hA2 with ⟨j, e, hj⟩ | hA2
      · obtain ⟨hj2, -⟩ := wf_of hj
        have hj3 := hD.1 _ j _ (x, e) hk (by rw [List.getElem?_append_left (by rw [wf_len]; exact hj2)]; exact hj) rfl
        omega
      · exact absurd (vx_lt hP hk) (Nat.not_lt.mpr hA2)
    exact zt_of X hP (k1 := 255 + nW np nb + 0) (k2 := 255 + nW np nb + 1) we_at we_at (t0 := 1) rfl (hout 0 _ _ we_at) (hout 1 _ _ we_at) (by omega)
  intro v w1 hq
  obtain ⟨rfl, rfl⟩ := hq
  show NN D _ p l e R s m args below meth c 4 _ _ Q _ 21 _ [.int x1]
  refine q_if_eq (A1 := none) (B1 := some ()) (res := ()) X (if_neg hx1) 40 24 dL_law_21 (by decide) rfl (fun z => nomatch z) (fun _ => ?_)
  refine n_toX X hZ (fun XC hA2 => ?_)
  refine x_aload_n XC 0 dL_law_24 rfl rfl 25 rfl ?_
  refine j_callT (o := K_X11_readText fu m1) (F := fun x m => some (x, m)) (res := (nI np, m2)) (cf1 := cC ca ad2) hb_C (fun j f h => cJ_C j f h) XC hZ (by rw [hrd]; rfl) [] 0 lj_c kj_c rfl rfl rfl kB_X11_readText kL_L_147 (fun r h => by rw [ad_0, mem_0]; exact ct_X11_readText l hl hZ hX hO fu m1 r h) rfl rfl rfl ⟨Nat.le_trans (m := 40) (Nat.le_of_ble_eq_true rfl) hR.1, Nat.le_trans (m := 1000) (Nat.le_of_ble_eq_true rfl) hR.2.1⟩ (Nat.le_of_ble_eq_true rfl) ⟨by show 0 + 760 + 1 + 254 + 90 + 3 ≤ R.cells; omega, by show 0 + 300000 + 14 + 8226 + 520 + 18 ≤ R.slots; omega⟩ dL_law_25 28 rfl (fun x2 mm h2 => ?_)
  cases h2
  refine x_aload_n XC 1 dL_law_28 rfl rfl 29 rfl ?_
  refine x_getV (v := .ref (ad2 (255 + 1))) XC (255 + 0) (lj nw_0) kj_0 (T := TX12) (N := 11) rfl in_X12 5 (by decide) kF_L_61 rfl rfl dL_law_29 32 rfl ?_
  refine xj_size XC hZ hW kL_L_65 ⟨Nat.le_trans (m := 40) (Nat.le_of_ble_eq_true rfl) hR.1, Nat.le_trans (m := 1000) (Nat.le_of_ble_eq_true rfl) hR.2.1⟩ (Nat.le_of_ble_eq_true rfl) ⟨by show 0 + 760 + 1 + 254 + 90 + 3 ≤ R.cells; omega, by show 0 + 300000 + 14 + 8226 + 520 + 18 ≤ R.slots; omega⟩ dL_law_32 37 rfl ?_
  refine x_icmp_eq (A := some ()) (B := none) (res := ()) XC (if_pos (rfl : nI np = nI np)) 42 40 dL_law_37 (by decide) rfl (fun _ => ?_) (fun z => nomatch z)
  refine x_iconst XC 0 dL_law_42 rfl 43 rfl ?_
  refine x_istore_n XC [(3, .int 0), (2, .ref (ad2 0)), (1, .ref (ad2 (255 + 0))), (0, .ref sB)] dL_law_43 rfl (by decide) rfl 44 rfl ?_
  refine lw_it l hl hZ hX hO hW hg fu XC ⟨hR.1, hR.2.1, hR.2.2.1, hR.2.2.2⟩ (fun mem lv => ?_) 9 0 _ _ _ hit (by decide) (by decide)
  intro H locs ls hP hD hS hls
  have s1 : ∀ x, AA (255 + nW np nb) ad2 s.heap.size x → s.heap.size ≤ x := fun x h => h.elim (fun ⟨k, h1, h2⟩ => by rw [h2]; exact hA2 k h1) id
  exact kk H locs ls ⟨hS.1, fun x h1 h2 => hS.2.1 x h1 (fun h => h2 (s1 x h)), fun x hx => s1 _ (hS.2.2 x hx)⟩ hls.1
end GHG
