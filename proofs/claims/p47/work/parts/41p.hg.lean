section GHG
section
variable {D : va_G} {tys : List (ClassId × FieldType)} {A : Nat → Prop} {Z : (Nat → Prop) → State → Heap → Prop} {p : Program} {l : Launch} {e : Env} {R : Room} {s : State} {m : MethodId} {args : Array Value} {below : List Frame} {meth : Method} {c : Code} {cc : ByteArray} {nL : Nat} {own : String} {ret : Option FieldType} {cells slots : Nat} {Q : State → Prop} {ws : va_W} {pc : Nat} {lv : List (Nat × Value)} {st : List Value}
theorem q_callSz {Zx : (Nat → Prop) → State → Heap → Prop} {y : MethodName} {bytes : ByteArray} {nY index na : Nat} {rt : Option FieldType} {rm : Room} {wc : va_W} {Qf : Option Value → va_W → Prop} {stk : List Value} (X : CN D tys A Z p s m args meth c cc nL own ret) (hZ : ZOK Z) (hZ' : ZOK (fun A U H => Z A U H ∧ Zx A U H)) (hz : ∀ H, va_P D vwCl ws H → va_D A ws → (∀ q, s.heap.size ≤ q → A q) → Zx (va_A wc H.size) s H) (As : List Value) (wr : va_W) (hw : ws = wc ++ wr) (hs : As.reverse ++ st = stk) (b : SB y bytes nY rt na) (w1 : Cond.methodLink own index y ∈ GW) (hM : LC l D tys (fun A U H => Z A U H ∧ Zx A U H) y bytes nY rt rm As wc Qf) (hna : As.length = na) (hR : rm.frames + 1 ≤ R.frames ∧ 8 + (nY + 11) + rm.locals ≤ R.locals) (hst : (st.map fun v => v.category).sum ≤ 8) (hcs : cells + rm.cells ≤ R.cells ∧ slots + rm.slots ≤ R.slots) (hdg : decode cc pc = .ok (.invokestatic index, 3)) (pc2 : Nat) (hp : pc + 3 = pc2) (kk : ∀ (v : Option Value) (w1 : va_W), Qf v w1 → NN D A p l e R s m args below meth c nL (cells + rm.cells) (slots + rm.slots) Q (w1 ++ wr) pc2 lv (v.toList ++ st)) : NN D A p l e R s m args below meth c nL cells slots Q ws pc lv stk := by
  subst hs; subst hw
  intro H locs ls hP hD hS hl
  have hpre : ∀ U : State, U.heap = H → s.WarmedH U.vm → va_Pc As (PL D tys (fun A U H => Z A U H ∧ Zx A U H) wc H.size) (As : List Value).toArray U := fun U hU hW => by
    obtain ⟨p1, p2, p3, p4, p5⟩ := PL_of X hZ hP hD hS hU hW
    have z0 : Z (va_A wc H.size) s H := hZ.2.1 _ _ _ _ (hZ.1 _ _ _ _ X.2.2.2.2.2 (fun a ha hn => hS.2.1 a ha hn)) (wl_sub hD X.2.2.2.2.1 hS.1)
    refine ⟨rfl, p1, p2, p3, p4, ?_⟩
    have := hZ'.2.2 _ s U _ (Or.inr hW) ⟨z0, hz H hP hD X.2.2.2.2.1⟩
    rw [hU]
    exact this
  obtain ⟨w2, w3, w5, hd⟩ := b
  have hg : GoodIn GW (Cond.code y bytes nY rt :: GW) := gw_cons w5
  have cw : CallB R s args own index y bytes nY rt (Cond.code y bytes nY rt :: GW) rm rm.cells rm.slots na ∧ (Cond.static y).before args s = true := ⟨callB_of na X.1.2.2.2.2 hg rfl rfl rfl (X.1.2.2.2.2 _ w3) (X.1.2.2.2.2 _ w1) hd hR, X.1.2.2.2.2 _ w2⟩
  exact q_ran X hP hD hS hl hp (va_runS (rest := st) X.1 (hM H.size) cw ⟨PL_bl hZ', hpre⟩ (g := F0 m pc ls (As.reverse ++ st)) (H := H) (locs := locs) (cells := cells) (slots := slots) (below := below) (e := e) (meth := meth) rfl hna hl.1 rfl (lv_room hst) hdg hcs) kk
theorem n_toX {n : Nat} {ad : Nat → Nat} {cf : Nat → Row → va_E} {mem : Mem} {ex : va_W} (X : CN D tys (fun q => s.heap.size ≤ q) Z p s m args meth c cc nL own ret) (hZ : ZOK Z) (kk : CX D tys n ad Z p s m args meth c cc nL own ret → (∀ k, k < n → s.heap.size ≤ ad k) → XX D n ad cf p l e R s m args below meth c nL cells slots Q mem ex pc lv st) : NN D (fun q => s.heap.size ≤ q) p l e R s m args below meth c nL cells slots Q (wf n ad cf mem ++ ex) pc lv st := by
  intro H locs ls hP hD hS hl
  have hA : ∀ k, k < n → s.heap.size ≤ ad k := fun k hk => hD.2 k _ (wx_at hk)
  have hI := wD_I hD
  have s1 : ∀ x, AA n ad s.heap.size x → s.heap.size ≤ x := fun x h => h.elim (fun ⟨k, h1, h2⟩ => by rw [h2]; exact hA k h1) id
  exact kk ⟨X.1, X.2.1, X.2.2.1, X.2.2.2.1, hI, hZ.2.1 _ _ _ _ X.2.2.2.2.2 s1⟩ hA H locs ls hP ⟨hD.1, fun k q hk => Or.inr (hD.2 k q hk)⟩ ⟨hS.1, fun x h1 h2 => hS.2.1 x h1 (fun h => h2 (Or.inr h)), fun x hx => Or.inr (hS.2.2 x hx)⟩ hl
end
def KL_it (L : Nat) (xs : Nat → Int32) (np nb fu : Nat) : Nat → Int32 → Mem → Option Int32
  | 0, _, _ => none
  | f + 1, i, mem => if i < 8 then bd (KL_acts L xs np nb fu i mem) (fun a => if a.1 = 0 then some 0 else bd (KL_fields L xs np nb fu a.2) (fun b => if b.1 = 0 then some 0 else bd (KL_gates L xs np nb fu b.2) (fun c => if c.1 = 0 then some 0 else bd (KL_builds L xs np nb fu i c.2) (fun d => if d.1 = 0 then some 0 else KL_it L xs np nb fu f (i + 1) d.2)))) else bd (KL_plays L xs np nb fu mem) (fun a => some a.1)
variable {D : va_G} {ca ad : Nat → Nat} {np nb eD tS sB : Nat} {Z : (Nat → Prop) → State → Heap → Prop} {tA tU tD tG L tO : Nat} {xs : Nat → Int32} {sK sV uK uV : Nat → Nat} {p : Program} {e : Env} {R : Room} {s : State} {m : MethodId} {args : Array Value} {below : List Frame} {meth : Method} {c : Code} {Q : State → Prop}
set_option maxRecDepth 100000 in
theorem lw_it (l : Launch) (hl : l.stackTraces = false) (hZ : ZOK Z) (hX : ZX Z) (hO : ZO Z tO sK sV) (hW : ZWO Z tA tU sB L xs) (hg : np ≤ 4 ∧ nb ≤ 4 ∧ (np = 0 → nb = 0)) (fu : Nat) {ex : va_W} (X : CX D (tyL ca) (255 + nW np nb) ad Z p s m args meth c cL_law 4 RL (some .boolean)) {K1 K2 : Nat} (hR : 40 ≤ R.frames ∧ 1000 ≤ R.locals ∧ K1 ≤ R.cells ∧ K2 ≤ R.slots) (kk : ∀ (mem : Mem) (lv : List (Nat × Value)), XX D (255 + nW np nb) ad (cJ ca ad np nb eD tS sB) p l e R s m args below meth c 4 K1 K2 Q mem ex 99 lv [.int 1]) : ∀ (f : Nat) (i : Int32) (mem : Mem) (cells slots : Nat), KL_it L xs np nb fu f i mem = some 1 → cells + f * 39367 ≤ K1 → slots + f * 293098 ≤ K2 → XX D (255 + nW np nb) ad (cJ ca ad np nb eD tS sB) p l e R s m args below meth c 4 cells slots Q mem ex 44 [(3, .int i), (2, .ref (ad 0)), (1, .ref (ad (255 + 0))), (0, .ref sB)] [] := by
  intro f
  induction f with
  | zero =>
    intro i mem cells slots hF
    cases hF
  | succ f ih =>
    intro i mem cells slots hF hc1 hc2
    rw [KL_it] at hF
    by_cases hi : i < 8
    · rw [if_pos hi] at hF
      refine x_iload_n X 0 dL_law_44 rfl rfl 45 rfl ?_
      refine x_bipush X 8 dL_law_45 rfl 47 rfl ?_
      refine x_icmp_ge (A := some ()) (B := none) (res := ()) X (if_pos hi) 94 50 dL_law_47 (by decide) rfl (fun _ => ?_) (fun z => nomatch z)
      refine x_aload_n X 1 dL_law_50 rfl rfl 51 rfl ?_
      refine x_aload_n X 2 dL_law_51 rfl rfl 52 rfl ?_
      refine x_aload_n X 3 dL_law_52 rfl rfl 53 rfl ?_
      refine x_iload_n X 0 dL_law_53 rfl rfl 54 rfl ?_
      refine x_callSi (fun x => x.1) (fun x => x.2) X hZ hF [.ref (ad 0), .ref (ad (255 + 0)), .ref sB, .int i] rfl kB_L_acts kL_L_150 (fun r h => cl_acts l hl hZ hX hO hW hg fu i mem r h) rfl ⟨Nat.le_trans (m := 40) (Nat.le_of_ble_eq_true rfl) hR.1, Nat.le_trans (m := 1000) (Nat.le_of_ble_eq_true rfl) hR.2.1⟩ (Nat.le_of_ble_eq_true rfl) ⟨by show cells + 29299 ≤ R.cells; omega, by show slots + 232690 ≤ R.slots; omega⟩ dL_law_54 57 rfl (fun a1 hF => ?_)
      by_cases ha : a1.1 = 0
      · rw [if_pos ha] at hF
        exact absurd (o_inj hF) (by decide)
      rw [if_neg ha] at hF
      refine x_if_eq (A := none) (B := some ()) (res := ()) X (if_neg ha) 86 60 dL_law_57 (by decide) rfl (fun z => nomatch z) (fun _ => ?_)
      refine x_aload_n X 1 dL_law_60 rfl rfl 61 rfl ?_
      refine x_aload_n X 2 dL_law_61 rfl rfl 62 rfl ?_
      refine x_callSi (fun x => x.1) (fun x => x.2) X hZ hF [.ref (ad 0), .ref (ad (255 + 0))] rfl kB_L_fields kL_L_154 (fun r h => cl_fields l hl hZ hX hO hW hg fu a1.2 r h) rfl ⟨Nat.le_trans (m := 40) (Nat.le_of_ble_eq_true rfl) hR.1, Nat.le_trans (m := 1000) (Nat.le_of_ble_eq_true rfl) hR.2.1⟩ (Nat.le_of_ble_eq_true rfl) ⟨by show cells + 29299 + 8913 ≤ R.cells; omega, by show slots + 232690 + 53478 ≤ R.slots; omega⟩ dL_law_62 65 rfl (fun a2 hF => ?_)
      by_cases hb : a2.1 = 0
      · rw [if_pos hb] at hF
        exact absurd (o_inj hF) (by decide)
      rw [if_neg hb] at hF
      refine x_if_eq (A := none) (B := some ()) (res := ()) X (if_neg hb) 86 68 dL_law_65 (by decide) rfl (fun z => nomatch z) (fun _ => ?_)
      refine x_aload_n X 1 dL_law_68 rfl rfl 69 rfl ?_
      refine x_aload_n X 2 dL_law_69 rfl rfl 70 rfl ?_
      refine x_callSi (fun x => x.1) (fun x => x.2) X hZ hF [.ref (ad 0), .ref (ad (255 + 0))] rfl kB_L_gates kL_L_158 (fun r h => cl_gates l hl hZ hX hO hW hg fu a2.2 r h) rfl ⟨Nat.le_trans (m := 40) (Nat.le_of_ble_eq_true rfl) hR.1, Nat.le_trans (m := 1000) (Nat.le_of_ble_eq_true rfl) hR.2.1⟩ (Nat.le_of_ble_eq_true rfl) ⟨by show cells + 29299 + 8913 + 834 ≤ R.cells; omega, by show slots + 232690 + 53478 + 5004 ≤ R.slots; omega⟩ dL_law_70 73 rfl (fun a3 hF => ?_)
      by_cases hc : a3.1 = 0
      · rw [if_pos hc] at hF
        exact absurd (o_inj hF) (by decide)
      rw [if_neg hc] at hF
      refine x_if_eq (A := none) (B := some ()) (res := ()) X (if_neg hc) 86 76 dL_law_73 (by decide) rfl (fun z => nomatch z) (fun _ => ?_)
      refine x_aload_n X 1 dL_law_76 rfl rfl 77 rfl ?_
      refine x_aload_n X 2 dL_law_77 rfl rfl 78 rfl ?_
      refine x_aload_n X 3 dL_law_78 rfl rfl 79 rfl ?_
      refine x_iload_n X 0 dL_law_79 rfl rfl 80 rfl ?_
      refine x_callSw (na := 4) (fun x => x.1) (fun x => x.2) X hZ hF [.ref (ad 0), .ref (ad (255 + 0)), .ref sB, .int i] rfl (gw_c tb_8 115 rfl rfl) kN_L (gw_c tb_8 116 rfl rfl) ⟨by decide +kernel, by decide +kernel, by decide +kernel⟩ kL_L_161 (fun r h => cl_builds l hl hZ hX hO hW hg fu i a3.2 r h) rfl ⟨Nat.le_trans (m := 40) (Nat.le_of_ble_eq_true rfl) hR.1, Nat.le_trans (m := 1000) (Nat.le_of_ble_eq_true rfl) hR.2.1⟩ (Nat.le_of_ble_eq_true rfl) ⟨by show cells + 29299 + 8913 + 834 + 321 ≤ R.cells; omega, by show slots + 232690 + 53478 + 5004 + 1926 ≤ R.slots; omega⟩ dL_law_80 83 rfl (fun a4 hF => ?_)
      by_cases hd : a4.1 = 0
      · rw [if_pos hd] at hF
        exact absurd (o_inj hF) (by decide)
      rw [if_neg hd] at hF
      refine x_if_ne (A := none) (B := some ()) (res := ()) X (if_neg hd) 88 86 dL_law_83 (by decide) rfl (fun z => nomatch z) (fun _ => ?_)
      refine x_iinc X 0 (i + 1) [(3, .int (i + 1)), (2, .ref (ad 0)), (1, .ref (ad (255 + 0))), (0, .ref sB)] dL_law_88 rfl rfl (by decide) rfl 91 rfl ?_
      refine x_goto X 44 dL_law_91 (by decide) ?_
      exact ih (i + 1) _ _ _ hF (by show cells + 29299 + 8913 + 834 + 321 + _ ≤ _; omega) (by show slots + 232690 + 53478 + 5004 + 1926 + _ ≤ _; omega)
    · rw [if_neg hi] at hF
      refine x_iload_n X 0 dL_law_44 rfl rfl 45 rfl ?_
      refine x_bipush X 8 dL_law_45 rfl 47 rfl ?_
      refine x_icmp_ge (A := none) (B := some ()) (res := ()) X (if_neg hi) 94 50 dL_law_47 (by decide) rfl (fun z => nomatch z) (fun _ => ?_)
      refine x_aload_n X 1 dL_law_94 rfl rfl 95 rfl ?_
      refine x_aload_n X 2 dL_law_95 rfl rfl 96 rfl ?_
      refine x_callSi (fun x => x.1) (fun x => x.2) X hZ hF [.ref (ad 0), .ref (ad (255 + 0))] rfl kB_L_plays kL_L_164 (fun r h => cl_plays l hl hZ hX hO hW hg fu mem r h) rfl ⟨Nat.le_trans (m := 40) (Nat.le_of_ble_eq_true rfl) hR.1, Nat.le_trans (m := 1000) (Nat.le_of_ble_eq_true rfl) hR.2.1⟩ (Nat.le_of_ble_eq_true rfl) ⟨by show cells + 286 ≤ R.cells; omega, by show slots + 1714 ≤ R.slots; omega⟩ dL_law_96 99 rfl (fun a1 hF => ?_)
      rw [show a1.1 = 1 from o_inj hF]
      refine x_widen (k := K1) (k2 := K2) (by show cells + 286 ≤ K1; omega) (by show slots + 1714 ≤ K2; omega) ?_
      exact kk _ _
end GHG
