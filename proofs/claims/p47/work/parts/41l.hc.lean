section GHC
section
variable {D : va_G} {tys : List (ClassId × FieldType)} {A : Nat → Prop} {Z : (Nat → Prop) → State → Heap → Prop} {p : Program} {l : Launch} {e : Env} {R : Room} {s : State} {m : MethodId} {args : Array Value} {below : List Frame} {meth : Method} {c : Code} {cc : ByteArray} {nL : Nat} {own : String} {ret : Option FieldType} {cells slots : Nat} {Q : State → Prop} {ws : va_W} {pc : Nat} {lv : List (Nat × Value)} {st : List Value}
variable {n : Nat} {ad : Nat → Nat} {cf : Nat → Row → va_E} {mem : Mem} {ex : va_W}
theorem q_mna {index : Nat} {wI hI : Int32} {ca : Nat → Nat} (X : CN D (tyL ca) A Z p s m args meth c cc nL own ret) (hC : Cond.classLink own index "[[I" ∈ GW) (hA : Cond.arrayClass .int ∈ GW) (hO : va_AOA .int s) (hw : vn8 wI) (hh : vn8 hI) (hcs : cells + 9 ≤ R.cells ∧ slots + 72 ≤ R.slots) (hdg : decode cc pc = .ok (.multianewarray index 2, 4)) (pc2 : Nat) (hp : pc + 4 = pc2) (kk : ∀ (q : Nat) (r : Nat → Nat), NN D A p l e R s m args below meth c nL (cells + 9) (slots + 72) Q (ws ++ exD ca q r wI.toNatClampNeg hI.toNatClampNeg (fun _ _ => 0)) pc2 lv (.ref q :: st)) : NN D A p l e R s m args below meth c nL cells slots Q ws pc lv (.int hI :: .int wI :: st) := by
  subst hp
  intro H locs ls hP hD hS hl
  have h0 := ra_cls (X.2.2.2.1.2 0 (ca 0, .int) rfl).2
  have hP0 : va_P D vwCl ((ws) ++ va_pl [] (fun _ => .inr (0, []))) H := by rw [show va_pl [] (fun _ => (.inr (0, []) : va_E)) = [] from rfl, List.append_nil]; exact hP
  have hD0 : va_D A ((ws) ++ va_pl [] (fun _ => .inr (0, []))) := by rw [show va_pl [] (fun _ => (.inr (0, []) : va_E)) = [] from rfl, List.append_nil]; exact hD
  refine va_mna (ty := .int) (z := (hI.toNatClampNeg, .inl (fun _ => 0))) X.1.1 X.1.2.1 X.1.2.2.2.1 (X.1.2.2.2.2 _ hC) hO (X.1.2.2.2.2 _ hA) h0 X.2.2.2.1 hP0 hD0 hS X.2.2.2.2.1 hw.1 hh.1 rfl rfl (by have := hw.2; omega) (by have := hh.2; show _ * 4 ≤ _; omega) (by have := hh.2; omega) rfl rfl (by have := hw.2; omega) (by
    have a1 := hw.2
    have a2 := hh.2
    have : wI.toNatClampNeg * hI.toNatClampNeg ≤ 8 * 8 := Nat.mul_le_mul a1 a2
    omega) (fun c => ?_) hdg (fun q r cA H1 hr hL hK1 hP1 hD1 hS1 => ?_)
  · exact arrV_new c _ (.int 0)
  · have e9 : cA = ca 6 := ra_same X.2.2.2.1 (t0 := 6) rfl hK1
    subst e9
    have e : ∀ v : va_E, va_pl ([] ++ (List.range wI.toNatClampNeg).map r) (vr_up (fun _ => .inr (0, [])) ((List.range wI.toNatClampNeg).map r) v) = (List.range wI.toNatClampNeg).map (fun i => (r i, v)) := fun v => by
      rw [List.nil_append, va_pl, List.map_map]
      apply List.map_congr_left
      intro i hi
      show (r i, vr_up _ _ v (r i)) = (r i, v)
      rw [vr_up_in (List.mem_map.mpr ⟨i, hi, rfl⟩)]
    rw [e, List.append_assoc, List.singleton_append] at hP1 hD1
    refine W.widen (by have := hw.2; omega) (by
      have a1 := hw.2
      have a2 := hh.2
      have : wI.toNatClampNeg * hI.toNatClampNeg ≤ 8 * 8 := Nat.mul_le_mul a1 a2
      omega) (kk q r H1 locs ls hP1 hD1 hS1 hl)
theorem y_aar (X : CN D tys A Z p s m args meth c cc nL own ret) (k : Nat) (hk : k < n) {cA : ClassId} {ty : FieldType} {N t0 : Nat} {g : Nat → Option Nat} {i : Int32} (q : Nat) (he : ∀ f : Row, cf k f = .inl (cA, N, .inr (.inr (.inr (.inr g))))) (ht : tys[t0]? = some (cA, .array ty)) (hi : vp_in i N) (hq : g i.toNatClampNeg = some (ad q)) (hdg : decode cc pc = .ok (.aaload, 1)) (pc2 : Nat) (hp : pc + 1 = pc2) (kk : NN D A p l e R s m args below meth c nL cells slots Q (wf n ad cf mem ++ ex) pc2 lv (.ref (ad q) :: st)) : NN D A p l e R s m args below meth c nL cells slots Q (wf n ad cf mem ++ ex) pc lv (.int i :: .ref (ad k) :: st) := by
  subst hp
  intro H locs ls hP hD hS hl
  have hlt : i.toNatClampNeg < N := Nat.not_le.mp fun q => hi (Or.inr q)
  have ha : (wf n ad cf mem ++ ex)[k]? = some (ad k, .inl (cA, N, .inr (.inr (.inr (.inr g))))) := by rw [wx_at hk, he]
  exact W.aald (v := va_rf (g i.toNatClampNeg)) (ty := .array ty) X.1.1 X.1.2.1 (hP k _ ha) ((X.2.2.2.1.2 t0 _ ht).1 N (fun j => va_rf (g j))) rfl (fun q => by cases q) (by show ¬ (i < 0 ∨ (arrV _ _ _).slots.size ≤ _); rw [arrV_size]; exact hi) (by show (arrV _ _ _).slots[_]? = _; rw [arrV_read _ _ hlt]) rfl rfl hdg (by rw [hq]; exact kk H locs ls hP hD hS hl)
/-- rows on the further things, by their place there -/
theorem y_ias {cA : ClassId} {N t0 : Nat} {i x : Int32} (X : CN D tys A Z p s m args meth c cc nL own ret) (k : Nat) (hk : k < n) (he : ∀ f : Row, cf k f = .inl (cA, N, .inl f.1)) (ht : tys[t0]? = some (cA, .int)) (hi : vp_in i N) (hdg : decode cc pc = .ok (.iastore, 1)) (pc2 : Nat) (hp : pc + 1 = pc2) (kk : NN D A p l e R s m args below meth c nL cells slots Q (wf n ad cf (mw mem k i.toNatClampNeg x) ++ ex) pc2 lv st) : NN D A p l e R s m args below meth c nL cells slots Q (wf n ad cf mem ++ ex) pc lv (.int x :: .int i :: .ref (ad k) :: st) := by
  subst hp
  intro H locs ls hP hD hS hl
  refine va_iast X.1.1 X.1.2.1 X.2.2.2.1 hP hD hS k t0 ((wx_at hk).trans (by rw [he])) ht hi hdg (fun H1 locs1 hP1 hD1 hS1 => ?_)
  rw [wx_set (r := (upd (mem k).1 i.toNatClampNeg x, (mem k).2)) hk (he _)] at hP1 hD1
  exact kk H1 locs1 ls hP1 hD1 hS1 hl
end
variable {D : va_G} {Z : (Nat → Prop) → State → Heap → Prop}
variable {tO tD tA tU tG L np nb eD tS sB : Nat} {xs : Nat → Int32} {sK sV uK uV : Nat → Nat} {ca ad : Nat → Nat} {sb : Nat} {mem : Mem}
def KG_bk (x y w : Int32) (mem : Mem) (tx : List Nat) : Option (Mem × List Nat) :=
  if tx.length ≤ 300 then gi y 8 (gi x 8 (bd (gBk x) (fun kx => bd (gBk y) (fun ky => some (mw mem (4 + y.toNatClampNeg) x.toNatClampNeg w, tx ++ tcs 16 ++ [48 + kx] ++ tcs 2 ++ [48 + ky] ++ tcs (if w = 1 then 17 else 18)))))) else none
def KG_block (L : Nat) (xs : Nat → Int32) (fu np nb : Nat) (mem : Mem) (tx : List Nat) : Option (Mem × List Nat) :=
  bd (KW_nx L xs fu (rd mem 0 0 - 1) mem) (fun x => bd (KW_nx L xs fu (rd x.2 0 1 - 1) x.2) (fun y => bd (KW_nx L xs fu 2 y.2) (fun w => bd (KW_isAdmissible np nb fu x.1 y.1 (1 + w.1) w.2) (fun a => if a.1 = 0 then some (a.2, tx) else KG_bk x.1 y.1 (1 + w.1) a.2 tx))))
def rw_block : Room := { frames := 7, cells := 60, slots := 6000, locals := 240 }
set_option maxRecDepth 100000 in
/-- a wall grows -/
theorem cg_block {b : BLD} {tx : List Nat} (l : Launch) (hZ : ZOK Z) (hO : ZO Z tO sK sV) (hV : ZVO Z) (hW : ZWO Z tA tU sB L xs) (hU : ZUO Z uK uV tD) (hG : ∀ A U H, Z A U H → zDg tG A U H) (hE : ∀ A U H, Z A U H → zE eD A U H) {fu : Nat} {mem2 : Mem} {tx2 : List Nat} (hg : np ≤ 4 ∧ nb ≤ 4 ∧ (np = 0 → nb = 0)) (hF : KG_block L xs fu np nb mem tx = some (mem2, tx2)) (hb : SBK b tx) : LC l D (tyL ca) Z yX12_block cX12_block 5 none rw_block [.ref (ad 0), .ref sb] (wf (nW np nb) ad (cWd ca ad np nb eD tS sB) mem ++ sbw ca sb b tx.length) (fun v w => v = none ∧ QGr ca ad np nb eD tS sB sb (nW np nb) mem2 tx2 w) := by
  refine qstart (own := RX12) rfl (by decide) (Nat.le_of_ble_eq_true rfl) ?_
  intro p e s m args below meth c Q hQ X hi
  unfold KG_block at hF
  refine q_aload_n X 0 dX12_block_0 rfl rfl 1 rfl ?_
  refine q_aload_n X 0 dX12_block_1 rfl rfl 2 rfl ?_
  refine y_getV (v := .int (rd mem 0 0)) X 0 nw_0 kw_0 (T := TX12) (N := 11) rfl in_X12 0 (by decide) kF_X12_7 rfl rfl dX12_block_2 5 rfl ?_
  refine q_iconst X 1 dX12_block_5 rfl 6 rfl ?_
  refine q_isub X dX12_block_6 7 rfl ?_
  obtain ⟨⟨x, m1⟩, h1, hF⟩ := bd_some hF
  dsimp only at hF
  refine y_call X hZ [.int (rd mem 0 0 - 1)] rfl rfl kB_X12_next kL_X12_54 (cw_nx l hZ hW fu h1) rfl ⟨Nat.le_of_ble_eq_true rfl, Nat.le_of_ble_eq_true rfl⟩ (Nat.le_of_ble_eq_true rfl) ⟨Nat.le_of_ble_eq_true rfl, Nat.le_of_ble_eq_true rfl⟩ dX12_block_7 10 rfl ?_
  refine q_istore_n X [(2, .int x), (0, .ref (ad 0)), (1, .ref sb)] dX12_block_10 rfl (by decide) rfl 11 rfl ?_
  refine q_aload_n X 1 dX12_block_11 rfl rfl 12 rfl ?_
  refine q_aload_n X 1 dX12_block_12 rfl rfl 13 rfl ?_
  refine y_getV (v := .int (rd m1 0 1)) X 0 nw_0 kw_0 (T := TX12) (N := 11) rfl in_X12 1 (by decide) kF_X12_13 rfl rfl dX12_block_13 16 rfl ?_
  refine q_iconst X 1 dX12_block_16 rfl 17 rfl ?_
  refine q_isub X dX12_block_17 18 rfl ?_
  obtain ⟨⟨y, m2⟩, h2, hF⟩ := bd_some hF
  dsimp only at hF
  refine y_call X hZ [.int (rd m1 0 1 - 1)] rfl rfl kB_X12_next kL_X12_54 (cw_nx l hZ hW fu h2) rfl ⟨Nat.le_of_ble_eq_true rfl, Nat.le_of_ble_eq_true rfl⟩ (Nat.le_of_ble_eq_true rfl) ⟨Nat.le_of_ble_eq_true rfl, Nat.le_of_ble_eq_true rfl⟩ dX12_block_18 21 rfl ?_
  refine q_istore_n X [(3, .int y), (2, .int x), (0, .ref (ad 0)), (1, .ref sb)] dX12_block_21 rfl (by decide) rfl 22 rfl ?_
  refine q_iconst X 1 dX12_block_22 rfl 23 rfl ?_
  refine q_aload_n X 2 dX12_block_23 rfl rfl 24 rfl ?_
  refine q_iconst X 2 dX12_block_24 rfl 25 rfl ?_
  obtain ⟨⟨w0, m3⟩, h3, hF⟩ := bd_some hF
  dsimp only at hF
  refine y_call X hZ [.int 2] rfl rfl kB_X12_next kL_X12_54 (cw_nx l hZ hW fu h3) rfl ⟨Nat.le_of_ble_eq_true rfl, Nat.le_of_ble_eq_true rfl⟩ (Nat.le_of_ble_eq_true rfl) ⟨Nat.le_of_ble_eq_true rfl, Nat.le_of_ble_eq_true rfl⟩ dX12_block_25 28 rfl ?_
  refine q_iadd X dX12_block_28 29 rfl ?_
  refine q_istore X [(4, .int (1 + w0)), (3, .int y), (2, .int x), (0, .ref (ad 0)), (1, .ref sb)] dX12_block_29 (by decide) rfl 31 rfl ?_
  refine q_aload_n X 3 dX12_block_31 rfl rfl 32 rfl ?_
  refine q_iload_n X 2 dX12_block_32 rfl rfl 33 rfl ?_
  refine q_iload_n X 1 dX12_block_33 rfl rfl 34 rfl ?_
  refine q_iload X 0 dX12_block_34 rfl 36 rfl ?_
  obtain ⟨⟨a0, m4⟩, h4, hF⟩ := bd_some hF
  dsimp only at hF
  refine y_call X hZ [.int x, .int y, .int (1 + w0)] rfl rfl kB_X12_isAdmissible kL_X12_139 (cw_isAdmissible l hZ hW hg fu x y (1 + w0) m3 (a0, m4) h4) rfl ⟨Nat.le_of_ble_eq_true rfl, Nat.le_of_ble_eq_true rfl⟩ (Nat.le_of_ble_eq_true rfl) ⟨Nat.le_of_ble_eq_true rfl, Nat.le_of_ble_eq_true rfl⟩ dX12_block_36 39 rfl ?_
  by_cases ha : a0 = 0
  · rw [if_pos ha] at hF
    cases hF
    refine q_if_ne (A1 := some ()) (B1 := none) (res := ()) X (if_pos ha) 43 42 dX12_block_39 (by decide) rfl (fun _ => ?_) (fun z => nomatch z)
    exact q_vret X hQ ⟨rfl, ad, b, rfl, hb, fun _ _ => rfl⟩ (Nat.le_of_ble_eq_true rfl) (Nat.le_of_ble_eq_true rfl) dX12_block_42
  · rw [if_neg ha] at hF
    unfold KG_bk at hF
    by_cases hl : tx.length ≤ 300
    · rw [if_pos hl] at hF
      obtain ⟨hy, hF⟩ := gi_some hF
      obtain ⟨hx, hF⟩ := gi_some hF
      obtain ⟨kx, gx, hF⟩ := bd_some hF
      obtain ⟨ky, gy, hF⟩ := bd_some hF
      cases hF
      refine q_if_ne (A1 := none) (B1 := some ()) (res := ()) X (if_neg ha) 43 42 dX12_block_39 (by decide) rfl (fun z => nomatch z) (fun _ => ?_)
      refine q_aload_n X 3 dX12_block_43 rfl rfl 44 rfl ?_
      refine y_getV (v := .ref (ad 3)) X 0 nw_0 kw_0 (T := TX12) (N := 11) rfl in_X12 7 (by decide) kF_X12_28 rfl rfl dX12_block_44 47 rfl ?_
      refine q_iload_n X 1 dX12_block_47 rfl rfl 48 rfl ?_
      refine y_aar X 3 nw_3 (4 + y.toNatClampNeg) kw_3 (t0 := 6) rfl hy (el_rows (vp_lt hy)) dX12_block_48 49 rfl ?_
      refine q_iload_n X 2 dX12_block_49 rfl rfl 50 rfl ?_
      refine q_iload X 0 dX12_block_50 rfl 52 rfl ?_
      refine y_ias X (4 + y.toNatClampNeg) (nw_r (vp_lt hy)) (kw_r (vp_lt hy)) (t0 := 0) rfl hx dX12_block_52 53 rfl ?_
      refine q_aload_n X 4 dX12_block_53 rfl rfl 54 rfl ?_
      refine q_ldcU X hU 16 rfl dX12_block_54 56 rfl ?_
      refine y_apS X hZ hO hV hb (fun A U H h => (hU A U H h).1 16 (by omega)) (tcs_128 _) (by (try simp only [List.length_append, List.length_cons, List.length_nil]); have a0 := tcs_le 16; omega) kL_X12_60 ⟨Nat.le_of_ble_eq_true rfl, Nat.le_of_ble_eq_true rfl⟩ (Nat.le_of_ble_eq_true rfl) ⟨Nat.le_of_ble_eq_true rfl, Nat.le_of_ble_eq_true rfl⟩ dX12_block_56 59 rfl ?_
      intro b34 hb34
      refine q_iload_n X 2 dX12_block_59 rfl rfl 60 rfl ?_
      refine y_apI X hZ hO hV hG hb34 (k := kx) (gB_some gx).1 (gB_some gx).2 (by (try simp only [List.length_append, List.length_cons, List.length_nil]); have a0 := tcs_le 16; omega) kL_X12_64 ⟨Nat.le_of_ble_eq_true rfl, Nat.le_of_ble_eq_true rfl⟩ (Nat.le_of_ble_eq_true rfl) ⟨Nat.le_of_ble_eq_true rfl, Nat.le_of_ble_eq_true rfl⟩ dX12_block_60 63 rfl ?_
      intro b35 hb35
      refine q_ldcU X hU 2 rfl dX12_block_63 65 rfl ?_
      refine y_apS X hZ hO hV hb35 (fun A U H h => (hU A U H h).1 2 (by omega)) (tcs_128 _) (by (try simp only [List.length_append, List.length_cons, List.length_nil]); have a0 := tcs_le 16; have a1 := tcs_le 2; omega) kL_X12_60 ⟨Nat.le_of_ble_eq_true rfl, Nat.le_of_ble_eq_true rfl⟩ (Nat.le_of_ble_eq_true rfl) ⟨Nat.le_of_ble_eq_true rfl, Nat.le_of_ble_eq_true rfl⟩ dX12_block_65 68 rfl ?_
      intro b36 hb36
      refine q_iload_n X 1 dX12_block_68 rfl rfl 69 rfl ?_
      refine y_apI X hZ hO hV hG hb36 (k := ky) (gB_some gy).1 (gB_some gy).2 (by (try simp only [List.length_append, List.length_cons, List.length_nil]); have a0 := tcs_le 16; have a1 := tcs_le 2; omega) kL_X12_64 ⟨Nat.le_of_ble_eq_true rfl, Nat.le_of_ble_eq_true rfl⟩ (Nat.le_of_ble_eq_true rfl) ⟨Nat.le_of_ble_eq_true rfl, Nat.le_of_ble_eq_true rfl⟩ dX12_block_69 72 rfl ?_
      intro b37 hb37
      refine q_iload X 0 dX12_block_72 rfl 74 rfl ?_
      refine q_ternS X hU 17 18 (1 + w0 = 1) Iff.rfl rfl rfl dX12_block_74 75 rfl dX12_block_75 78 rfl dX12_block_78 80 rfl dX12_block_80 83 rfl dX12_block_83 85 rfl ?_
      refine y_apS X hZ hO hV hb37 (fun A U H h => (hU A U H h).1 (if 1 + w0 = 1 then 17 else 18) (by split <;> omega)) (tcs_128 _) (by (try simp only [List.length_append, List.length_cons, List.length_nil]); have a0 := tcs_le 16; have a1 := tcs_le 2; have a2 := tcs_le (if 1 + w0 = 1 then 17 else 18); omega) kL_X12_60 ⟨Nat.le_of_ble_eq_true rfl, Nat.le_of_ble_eq_true rfl⟩ (Nat.le_of_ble_eq_true rfl) ⟨Nat.le_of_ble_eq_true rfl, Nat.le_of_ble_eq_true rfl⟩ dX12_block_85 88 rfl ?_
      intro b38 hb38
      refine q_pop X dX12_block_88 rfl 89 rfl ?_
      exact q_vret X hQ ⟨rfl, ad, b38, rfl, hb38, fun _ _ => rfl⟩ (Nat.le_of_ble_eq_true rfl) (Nat.le_of_ble_eq_true rfl) dX12_block_89
    · rw [if_neg hl] at hF
      cases hF
def rw_init : Room := { frames := 5, cells := 12, slots := 80, locals := 160 }
theorem kT_X12_init : IB yX12_init cX12_init 1 0 := ⟨gw_c tb_4 154 rfl rfl, kN_X12, kIc_X12_init, rfl, ⟨by decide +kernel, by decide +kernel, by decide +kernel⟩⟩
set_option maxRecDepth 100000 in
/-- new World() -/
theorem cg_init {w0 : Nat} (l : Launch) (hZ : ZOK Z) (hO : ZO Z tO sK sV) (hV : ZVO Z) (hW : ZWO Z tA tU sB L xs) (hU : ZUO Z uK uV tD) (hG : ∀ A U H, Z A U H → zDg tG A U H) (hE : ∀ A U H, Z A U H → zE eD A U H) : LC l D (tyL ca) Z yX12_init cX12_init 1 none rw_init [.ref w0] [(w0, .inr (12, [.int 0, .int 0, .int 0, .int 0, .int 0, .null, .null, .null, .null, .null, .int 0]))] (fun v w => v = none ∧ ∃ (l1 l2 q8 s0 : Nat) (r8 : Nat → Nat), w = ((w0, .inr (12, [.int 5, .int 5, .int 0, .int 0, .int 0, .ref l1, .ref l2, .ref q8, .ref (uK 0), .ref s0, .int 0])) :: (([(l1, .inr (16, [.int 0, .ref eD, .int 0])), (l2, .inr (16, [.int 0, .ref eD, .int 0]))] ++ exD ca q8 r8 8 8 (fun _ _ => 0)) ++ [(s0, .inl (ca 0, 0, .inl (fun _ => 0)))]))) := by
  refine qstart (own := RX12) rfl (by decide) (Nat.le_of_ble_eq_true rfl) ?_
  intro p e s m args below meth c Q hQ X hi
  refine q_aload_n X 0 dX12_init_0 rfl rfl 1 rfl ?_
  refine n_obj X kLi_X12_1 kOb1 kOb2 ⟨Nat.le_of_ble_eq_true rfl, Nat.le_of_ble_eq_true rfl⟩ (Nat.le_of_ble_eq_true rfl) dX12_init_1 4 rfl ?_
  refine q_aload_n X 0 dX12_init_4 rfl rfl 5 rfl ?_
  refine q_iconst X 5 dX12_init_5 rfl 6 rfl ?_
  refine q_put X 0 ((w0, .inr (12, [.int 5, .int 0, .int 0, .int 0, .int 0, .null, .null, .null, .null, .null, .int 0])) :: []) rfl (T := TX12) (N := 11) rfl in_X12 tyX12 tyX12_ok nmX12 0 (by decide) kF_X12_7 rfl rfl rfl rfl (Nat.le_of_ble_eq_true rfl) rfl dX12_init_6 9 rfl ?_
  refine q_aload_n X 0 dX12_init_9 rfl rfl 10 rfl ?_
  refine q_iconst X 5 dX12_init_10 rfl 11 rfl ?_
  refine q_put X 0 ((w0, .inr (12, [.int 5, .int 5, .int 0, .int 0, .int 0, .null, .null, .null, .null, .null, .int 0])) :: []) rfl (T := TX12) (N := 11) rfl in_X12 tyX12 tyX12_ok nmX12 1 (by decide) kF_X12_13 rfl rfl rfl rfl (Nat.le_of_ble_eq_true rfl) rfl dX12_init_11 14 rfl ?_
  refine q_aload_n X 0 dX12_init_14 rfl rfl 15 rfl ?_
  refine n_new X in_Jx4a65c tyJx4a65c tyJx4a65c_ok kCl_X12_16 (gw_c tb_4 158 rfl rfl) kN_Jx4a65c (ci := 16) rfl [.int 0, .null, .int 0] (by decide +kernel) ⟨Nat.le_of_ble_eq_true rfl, Nat.le_of_ble_eq_true rfl⟩ dX12_init_15 18 rfl ?_
  intro l1
  refine q_dup X dX12_init_18 rfl 19 rfl ?_
  refine n_perm (ws' := [(l1, .inr (16, [.int 0, .null, .int 0]))] ++ ((w0, .inr (12, [.int 5, .int 5, .int 0, .int 0, .int 0, .null, .null, .null, .null, .null, .int 0])) :: [])) pm_ab ?_
  refine q_callI X hZ [] ((w0, .inr (12, [.int 5, .int 5, .int 0, .int 0, .int 0, .null, .null, .null, .null, .null, .int 0])) :: []) rfl (stk := .ref l1 :: .ref l1 :: .ref w0 :: []) (st := .ref l1 :: .ref w0 :: []) rfl kT_Jx4a65c_init_da8c8 kL_X12_18 (cl_ali hZ hE) rfl ⟨Nat.le_of_ble_eq_true rfl, Nat.le_of_ble_eq_true rfl⟩ (Nat.le_of_ble_eq_true rfl) ⟨Nat.le_of_ble_eq_true rfl, Nat.le_of_ble_eq_true rfl⟩ dX12_init_19 22 rfl ?_
  intro v_ w1 hq
  obtain ⟨rfl, rfl⟩ := hq
  refine n_perm (ws' := (w0, .inr (12, [.int 5, .int 5, .int 0, .int 0, .int 0, .null, .null, .null, .null, .null, .int 0])) :: [(l1, .inr (16, [.int 0, .ref eD, .int 0]))]) ?_ ?_
  · exact (List.perm_append_comm (l₁ := ([_] : va_W)) (l₂ := (((w0, .inr (12, [.int 5, .int 5, .int 0, .int 0, .int 0, .null, .null, .null, .null, .null, .int 0])) :: []) : va_W))).symm
  refine q_put X 0 ((w0, .inr (12, [.int 5, .int 5, .int 0, .int 0, .int 0, .ref l1, .null, .null, .null, .null, .int 0])) :: [(l1, .inr (16, [.int 0, .ref eD, .int 0]))]) rfl (T := TX12) (N := 11) rfl in_X12 tyX12 tyX12_ok nmX12 5 (by decide) kF_X12_19 rfl rfl rfl rfl (Nat.le_of_ble_eq_true rfl) rfl dX12_init_22 25 rfl ?_
  refine q_aload_n X 0 dX12_init_25 rfl rfl 26 rfl ?_
  refine n_new X in_Jx4a65c tyJx4a65c tyJx4a65c_ok kCl_X12_16 (gw_c tb_4 158 rfl rfl) kN_Jx4a65c (ci := 16) rfl [.int 0, .null, .int 0] (by decide +kernel) ⟨Nat.le_of_ble_eq_true rfl, Nat.le_of_ble_eq_true rfl⟩ dX12_init_26 29 rfl ?_
  intro l2
  refine q_dup X dX12_init_29 rfl 30 rfl ?_
  refine n_perm (ws' := [(l2, .inr (16, [.int 0, .null, .int 0]))] ++ ((w0, .inr (12, [.int 5, .int 5, .int 0, .int 0, .int 0, .ref l1, .null, .null, .null, .null, .int 0])) :: [(l1, .inr (16, [.int 0, .ref eD, .int 0]))])) pm_ab ?_
  refine q_callI X hZ [] ((w0, .inr (12, [.int 5, .int 5, .int 0, .int 0, .int 0, .ref l1, .null, .null, .null, .null, .int 0])) :: [(l1, .inr (16, [.int 0, .ref eD, .int 0]))]) rfl (stk := .ref l2 :: .ref l2 :: .ref w0 :: []) (st := .ref l2 :: .ref w0 :: []) rfl kT_Jx4a65c_init_da8c8 kL_X12_18 (cl_ali hZ hE) rfl ⟨Nat.le_of_ble_eq_true rfl, Nat.le_of_ble_eq_true rfl⟩ (Nat.le_of_ble_eq_true rfl) ⟨Nat.le_of_ble_eq_true rfl, Nat.le_of_ble_eq_true rfl⟩ dX12_init_30 33 rfl ?_
  intro v_ w1 hq
  obtain ⟨rfl, rfl⟩ := hq
  refine n_perm (ws' := (w0, .inr (12, [.int 5, .int 5, .int 0, .int 0, .int 0, .ref l1, .null, .null, .null, .null, .int 0])) :: [(l1, .inr (16, [.int 0, .ref eD, .int 0])), (l2, .inr (16, [.int 0, .ref eD, .int 0]))]) ?_ ?_
  · exact (List.perm_append_comm (l₁ := ([_] : va_W)) (l₂ := (((w0, .inr (12, [.int 5, .int 5, .int 0, .int 0, .int 0, .ref l1, .null, .null, .null, .null, .int 0])) :: [(l1, .inr (16, [.int 0, .ref eD, .int 0]))]) : va_W))).symm
  refine q_put X 0 ((w0, .inr (12, [.int 5, .int 5, .int 0, .int 0, .int 0, .ref l1, .ref l2, .null, .null, .null, .int 0])) :: [(l1, .inr (16, [.int 0, .ref eD, .int 0])), (l2, .inr (16, [.int 0, .ref eD, .int 0]))]) rfl (T := TX12) (N := 11) rfl in_X12 tyX12 tyX12_ok nmX12 6 (by decide) kF_X12_23 rfl rfl rfl rfl (Nat.le_of_ble_eq_true rfl) rfl dX12_init_33 36 rfl ?_
  refine q_aload_n X 0 dX12_init_36 rfl rfl 37 rfl ?_
  refine q_bipush X 8 dX12_init_37 rfl 39 rfl ?_
  refine q_bipush X 8 dX12_init_39 rfl 41 rfl ?_
  refine q_mna (ca := ca) X kCl_X12_26 kA_int ((hW _ _ _ X.2.2.2.2.2).2.2.2.2.2.1) ⟨by decide, by decide⟩ ⟨by decide, by decide⟩ ⟨Nat.le_of_ble_eq_true rfl, Nat.le_of_ble_eq_true rfl⟩ dX12_init_41 45 rfl ?_
  intro q8 r8
  refine q_put X 0 ((w0, .inr (12, [.int 5, .int 5, .int 0, .int 0, .int 0, .ref l1, .ref l2, .ref q8, .null, .null, .int 0])) :: ([(l1, .inr (16, [.int 0, .ref eD, .int 0])), (l2, .inr (16, [.int 0, .ref eD, .int 0]))] ++ exD ca q8 r8 8 8 (fun _ _ => 0))) rfl (T := TX12) (N := 11) rfl in_X12 tyX12 tyX12_ok nmX12 7 (by decide) kF_X12_28 rfl rfl rfl rfl (Nat.le_of_ble_eq_true rfl) rfl dX12_init_45 48 rfl ?_
  refine q_aload_n X 0 dX12_init_48 rfl rfl 49 rfl ?_
  refine q_ldcU X hU 0 rfl dX12_init_49 51 rfl ?_
  refine q_put X 0 ((w0, .inr (12, [.int 5, .int 5, .int 0, .int 0, .int 0, .ref l1, .ref l2, .ref q8, .ref (uK 0), .null, .int 0])) :: ([(l1, .inr (16, [.int 0, .ref eD, .int 0])), (l2, .inr (16, [.int 0, .ref eD, .int 0]))] ++ exD ca q8 r8 8 8 (fun _ _ => 0))) rfl (T := TX12) (N := 11) rfl in_X12 tyX12 tyX12_ok nmX12 8 (by decide) kF_X12_33 rfl rfl rfl rfl (Nat.le_of_ble_eq_true rfl) rfl dX12_init_51 54 rfl ?_
  refine q_aload_n X 0 dX12_init_54 rfl rfl 55 rfl ?_
  refine q_iconst X 0 dX12_init_55 rfl 56 rfl ?_
  refine n_newa (atype := .int) (ty := .int) (t0 := 0) (N' := 0) (0, .inl (fun _ => 0)) X rfl kA_int rfl (fun _ => rfl) (by decide) (by decide) (by decide) ⟨Nat.le_of_ble_eq_true rfl, Nat.le_of_ble_eq_true rfl⟩ dX12_init_56 58 rfl ?_
  intro s0
  refine q_put X 0 ((w0, .inr (12, [.int 5, .int 5, .int 0, .int 0, .int 0, .ref l1, .ref l2, .ref q8, .ref (uK 0), .ref s0, .int 0])) :: (([(l1, .inr (16, [.int 0, .ref eD, .int 0])), (l2, .inr (16, [.int 0, .ref eD, .int 0]))] ++ exD ca q8 r8 8 8 (fun _ _ => 0)) ++ [(s0, .inl (ca 0, 0, .inl (fun _ => 0)))])) rfl (T := TX12) (N := 11) rfl in_X12 tyX12 tyX12_ok nmX12 9 (by decide) kF_X12_37 rfl rfl rfl rfl (Nat.le_of_ble_eq_true rfl) rfl dX12_init_58 61 rfl ?_
  exact q_vret X hQ ⟨rfl, l1, l2, q8, s0, r8, rfl⟩ (Nat.le_of_ble_eq_true rfl) (Nat.le_of_ble_eq_true rfl) dX12_init_61
end GHC
