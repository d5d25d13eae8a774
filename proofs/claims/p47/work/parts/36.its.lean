section ITB
variable {D : va_G} {tys : List (ClassId × FieldType)} {n : Nat} {ad : Nat → Nat} {cf : Nat → Row → va_E} {Z : (Nat → Prop) → State → Heap → Prop} {p : Program} {l : Launch} {e : Env} {R : Room} {s : State} {m : MethodId} {args : Array Value} {below : List Frame} {meth : Method} {c : Code} {cc : ByteArray} {nL : Nat} {own : String} {ret : Option FieldType} {cells slots : Nat} {Q : State → Prop} {mem : Mem} {ex : va_W} {pc : Nat} {lv : List (Nat × Value)} {st : List Value}
theorem x_callFn {ρ κ : Type} {o : Option κ} {F : κ → Option ρ} {res : ρ} {rty : FieldType} (vB : κ → Nat → va_W → Prop) (vm : κ → Mem) (X : CX D tys n ad Z p s m args meth c cc nL own ret) (hZ : ZOK Z) {x y : MethodName} {count : Nat} {bytes : ByteArray} {nY index na : Nat} {rm : Room} (hF : bd o F = some res) {stk : List Value} (As : List Value) (kb : Nat) (hk : kb < n) {ci : Nat} {fl : Row → List Value} {q : vw_C} (he : ∀ f : Row, cf kb f = .inr (ci, fl f)) (hq : vwCl[ci]? = some q)  (hs : As.reverse ++ .ref (ad kb) :: st = stk) (b : FB q.1 x y bytes nY (some rty) na) (w1 : Cond.methodLink own index x ∈ GW) (hFw : va_Fw q.1 x y s) (hM : ∀ r : κ, o = some r → CJr l D tys n ad cf Z y bytes nY rty rm (.ref (ad kb) :: As) mem (vB r) (vm r)) (hna : As.length = na) (hR : rm.frames + 1 ≤ R.frames ∧ 8 + (nY + 11) + rm.locals ≤ R.locals) (hst : (st.map fun v => v.category).sum ≤ 8) (hcs : cells + rm.cells ≤ R.cells ∧ slots + rm.slots ≤ R.slots) (hdg : decode cc pc = .ok (.invokeinterface index count, 5)) (pc2 : Nat) (hp : pc + 5 = pc2) (kk : ∀ (r : κ) (a : Nat) (w1 : va_W), F r = some res → vB r a w1 → XX D n ad cf p l e R s m args below meth c nL (cells + rm.cells) (slots + rm.slots) Q (vm r) (ex ++ w1) pc2 lv (.ref a :: st)) : XX D n ad cf p l e R s m args below meth c nL cells slots Q mem ex pc lv stk := by
  subst hp
  subst hs
  obtain ⟨r, ho, hF⟩ := bd_some hF
  intro H locs ls hP hD hS hl
  have hM := hM r ho H.size
  have hbl : FrameBlind (va_Pc (.ref (ad kb) :: As) (PW D tys n ad cf Z mem H.size)) := PW_bl hZ
  have hpre : ∀ U : State, U.heap = H → s.WarmedH U.vm → va_Pc (.ref (ad kb) :: As) (PW D tys n ad cf Z mem H.size) ((.ref (ad kb) :: As) : List Value).toArray U := fun U hU hW => ⟨rfl, PX_of X hZ hP hS hU hW⟩
  obtain ⟨w4, w2, w3, w5, hd⟩ := b
  have hg : GoodIn GW (va_wsF own index q.1 x y (Cond.code y bytes nY (some rty) :: GW)) := fun w hw => by
    have hg0 : GoodIn GW (Cond.code y bytes nY (some rty) :: GW) := gw_cons w5
    rcases List.mem_append.mp hw with h | h
    · simp only [List.mem_cons, List.not_mem_nil, or_false] at h
      rcases h with h | h | h | h
      · rw [h]; exact ⟨w1, gw_good w1⟩
      · rw [h]; exact ⟨w4, gw_good w4⟩
      · rw [h]; exact ⟨w2, gw_good w2⟩
      · rw [h]; exact ⟨w3, gw_good w3⟩
    · exact hg0 w h
  have cw : va_CI R s args own q.1 index x y bytes nY (some rty) (Cond.code y bytes nY (some rty) :: GW) rm rm.cells rm.slots na := va_cwF na X.1.2.2.2.2 hg rfl rfl rfl hFw hd hR
  have hrv : ∃ cellB : Cell, H[ad kb]? = some cellB ∧ cellB.vm.isStatics = false ∧ s.vm.findClass q.1 = some cellB.cls := va_recv X.2.2.2.1 hP hq (q0 := kb) (a := ad kb) (by rw [wx_at hk, he])
  have hr := va_runF (rest := st) (X.2.2.2.1.1 ci q hq).2 X.1 hM cw ⟨hbl, hrv, hpre⟩ (g := F0 m pc ls (As.reverse ++ .ref (ad kb) :: st)) (H := H) (locs := locs) (cells := cells) (slots := slots) (below := below) (e := e) (meth := meth) rfl hna hl.1 rfl (lv_room hst) hdg hcs
  refine va_callFr hr hS (fun q _ h => AA_le hS.1 q h) (fun q h => AA_le hS.1 q h) (fun u ra t H1 locs1 ht hvm hw hB hz1 hk1 hS1 => ?_)
  obtain ⟨rfl, hB, hDB, hNB⟩ := hB
  rw [ht] at hB
  obtain ⟨hP1, hD1⟩ := wx_fr2 hP hD hB hDB hNB hS.1 hk1
  exact kk r u.1 u.2 hF hw H1 locs1 ls hP1 hD1 hS1 hl
theorem x_callFb {ρ κ : Type} {o : Option κ} {F : κ → Option ρ} {res : ρ} {rty : FieldType} (vr : κ → Nat) (vm : κ → Mem) (X : CX D tys n ad Z p s m args meth c cc nL own ret) (hZ : ZOK Z) {x y : MethodName} {count : Nat} {bytes : ByteArray} {nY index na : Nat} {rm : Room} (hF : bd o F = some res) {stk : List Value} (As : List Value) (kb : Nat) (hk : kb < n) {ci : Nat} {fl : Row → List Value} {q : vw_C} (he : ∀ f : Row, cf kb f = .inr (ci, fl f)) (hq : vwCl[ci]? = some q)  (hs : As.reverse ++ .ref (ad kb) :: st = stk) (b : FB q.1 x y bytes nY (some rty) na) (w1 : Cond.methodLink own index x ∈ GW) (hFw : va_Fw q.1 x y s) (hM : ∀ r : κ, o = some r → CJb l D tys n ad cf Z y bytes nY rty rm (.ref (ad kb) :: As) mem (vr r) (vm r)) (hna : As.length = na) (hR : rm.frames + 1 ≤ R.frames ∧ 8 + (nY + 11) + rm.locals ≤ R.locals) (hst : (st.map fun v => v.category).sum ≤ 8) (hcs : cells + rm.cells ≤ R.cells ∧ slots + rm.slots ≤ R.slots) (hdg : decode cc pc = .ok (.invokeinterface index count, 5)) (pc2 : Nat) (hp : pc + 5 = pc2) (kk : ∀ r : κ, F r = some res → XX D n ad cf p l e R s m args below meth c nL (cells + rm.cells) (slots + rm.slots) Q (vm r) ex pc2 lv (.ref (vr r) :: st)) : XX D n ad cf p l e R s m args below meth c nL cells slots Q mem ex pc lv stk := by
  subst hp
  subst hs
  obtain ⟨r, ho, hF⟩ := bd_some hF
  intro H locs ls hP hD hS hl
  have hM := hM r ho H.size
  have hbl : FrameBlind (va_Pc (.ref (ad kb) :: As) (PW D tys n ad cf Z mem H.size)) := PW_bl hZ
  have hpre : ∀ U : State, U.heap = H → s.WarmedH U.vm → va_Pc (.ref (ad kb) :: As) (PW D tys n ad cf Z mem H.size) ((.ref (ad kb) :: As) : List Value).toArray U := fun U hU hW => ⟨rfl, PX_of X hZ hP hS hU hW⟩
  obtain ⟨w4, w2, w3, w5, hd⟩ := b
  have hg : GoodIn GW (va_wsF own index q.1 x y (Cond.code y bytes nY (some rty) :: GW)) := fun w hw => by
    have hg0 : GoodIn GW (Cond.code y bytes nY (some rty) :: GW) := gw_cons w5
    rcases List.mem_append.mp hw with h | h
    · simp only [List.mem_cons, List.not_mem_nil, or_false] at h
      rcases h with h | h | h | h
      · rw [h]; exact ⟨w1, gw_good w1⟩
      · rw [h]; exact ⟨w4, gw_good w4⟩
      · rw [h]; exact ⟨w2, gw_good w2⟩
      · rw [h]; exact ⟨w3, gw_good w3⟩
    · exact hg0 w h
  have cw : va_CI R s args own q.1 index x y bytes nY (some rty) (Cond.code y bytes nY (some rty) :: GW) rm rm.cells rm.slots na := va_cwF na X.1.2.2.2.2 hg rfl rfl rfl hFw hd hR
  have hrv : ∃ cellB : Cell, H[ad kb]? = some cellB ∧ cellB.vm.isStatics = false ∧ s.vm.findClass q.1 = some cellB.cls := va_recv X.2.2.2.1 hP hq (q0 := kb) (a := ad kb) (by rw [wx_at hk, he])
  have hr := va_runF (rest := st) (X.2.2.2.1.1 ci q hq).2 X.1 hM cw ⟨hbl, hrv, hpre⟩ (g := F0 m pc ls (As.reverse ++ .ref (ad kb) :: st)) (H := H) (locs := locs) (cells := cells) (slots := slots) (below := below) (e := e) (meth := meth) rfl hna hl.1 rfl (lv_room hst) hdg hcs
  refine va_callFr hr hS (fun q _ h => AA_le hS.1 q h) (fun q h => AA_le hS.1 q h) (fun u ra t H1 locs1 ht hvm hw hB hz1 hk1 hS1 => ?_)
  obtain ⟨rfl, hB⟩ := hB
  rw [ht] at hB
  obtain ⟨hP1, hD1⟩ := wx_fr hP hD hB hk1
  exact kk r hF H1 locs1 ls hP1 hD1 hS1 hl
theorem x_aretB {a ra : Nat} {mem' : Mem} {rt : FieldType} {k1 k2 : Nat} (X : CX D tys n ad Z p s m args meth c cc nL own (some rt)) (hrt : (∃ n, rt = .object n) ∨ ∃ t, rt = .array t) (hQ : Q = MQ below (va_Qr (fun (u : Unit) => u = ()) (fun _ a t => a = ra ∧ va_P D vwCl (wf n ad cf mem') t.heap) (AA n ad s.heap.size)) args s k1 k2 (AA n ad s.heap.size)) (ha : a = ra) (hm : mem = mem') (h1 : cells ≤ k1) (h2 : slots ≤ k2) (hdg : decode cc pc = .ok (.areturn, 1)) : XX D n ad cf p l e R s m args below meth c nL cells slots Q mem ex pc lv [.ref a] := x_aretA X hrt hQ ha hm h1 h2 hdg
end ITB
section ITC
def itR (c r mc t : Int32) : Row := (fun j => if j = 0 then c else if j = 1 then r else if j = 2 then mc else if j = 3 then t else 0, fun _ => 0)
def gI (ad : Nat → Nat) (f : Row) : va_E := .inr (15, [.int (f.1 0), .int (f.1 1), .int (f.1 2), if f.1 3 = 0 then .null else .ref (ad 2)])
theorem mw_mr (mem : Mem) (n j : Nat) (r : Row) (x : Int32) : mw (mr mem n r) n j x = mr mem n (upd r.1 j x, r.2) := by
  unfold mw
  rw [mr_n]
  funext k
  show (if k = n then _ else mr mem n r k) = _
  unfold mr
  by_cases h : k = n
  · rw [if_pos h, if_pos h]
  · rw [if_neg h, if_neg h, if_neg h]
theorem rd_mrI (mem : Mem) (n j : Nat) (r : Row) : rd (mr mem n r) n j = r.1 j := by
  unfold rd
  rw [mr_n]
theorem rd_mr2 (mem : Mem) (n k j : Nat) (r : Row) (h : k ≠ n) : rd (mr mem n r) k j = rd mem k j := by
  unfold rd
  rw [show mr mem n r k = mem k from if_neg h]
theorem it_0 (c r mc t x : Int32) : (upd (itR c r mc t).1 0 x, (itR c r mc t).2) = itR x r mc t := by
  refine Prod.ext (funext fun j => ?_) rfl
  show (if j = 0 then x else _) = _
  unfold itR
  by_cases h : j = 0
  · rw [if_pos h]; show x = if j = 0 then x else _; rw [if_pos h]
  · rw [if_neg h]; show (if j = 0 then c else _) = if j = 0 then x else _; rw [if_neg h, if_neg h]
theorem it_1 (c r mc t x : Int32) : (upd (itR c r mc t).1 1 x, (itR c r mc t).2) = itR c x mc t := by
  refine Prod.ext (funext fun j => ?_) rfl
  show (if j = 1 then x else _) = _
  unfold itR
  by_cases h : j = 1
  · subst h; rfl
  · rw [if_neg h]
    show (if j = 0 then c else if j = 1 then r else _) = if j = 0 then c else if j = 1 then x else _
    rw [if_neg h, if_neg h]
theorem it_2 (c r mc t x : Int32) : (upd (itR c r mc t).1 2 x, (itR c r mc t).2) = itR c r x t := by
  refine Prod.ext (funext fun j => ?_) rfl
  show (if j = 2 then x else _) = _
  unfold itR
  by_cases h : j = 2
  · subst h; rfl
  · rw [if_neg h]
    show (if j = 0 then c else if j = 1 then r else if j = 2 then mc else if j = 3 then t else 0) = if j = 0 then c else if j = 1 then r else if j = 2 then x else if j = 3 then t else 0
    rw [if_neg h, if_neg h]
theorem it_3 (c r mc x : Int32) : (upd (itR c r mc 0).1 3 1, (itR c r mc 0).2).1 3 = 1 := rfl
variable {D : va_G} {np nb eD tS sB q : Nat} {ad : Nat → Nat} {Z : (Nat → Prop) → State → Heap → Prop} {l : Launch} {mem : Mem} {ca : Nat → Nat} {tA tU L : Nat} {xs : Nat → Int32}
theorem ki_n : ∀ f : Row, cfI (cWd ca ad np nb eD tS sB) (nW np nb) (gI ad) (nW np nb) f = .inr (15, [.int (f.1 0), .int (f.1 1), .int (f.1 2), if f.1 3 = 0 then .null else .ref (ad 2)]) := fun f => cfI_n f
theorem ki_2 : ∀ f : Row, cfI (cWd ca ad np nb eD tS sB) (nW np nb) (gI ad) 2 f = .inr (16, [.int (f.1 0), qW eD nb (ad (13 + np)), .int (Int32.ofNat nb)]) := fun f => (cfI_lt nw_2 f).trans (kw_2 f)
theorem ni_n : nW np nb < nW np nb + 1 := Nat.lt_succ_self _
theorem ni_2 : 2 < nW np nb + 1 := Nat.lt_succ_of_lt nw_2
def rmI0 : Room := { frames := 0, cells := 0, slots := 0, locals := 0 }
def rmI1 : Room := { frames := 1, cells := 0, slots := 0, locals := 20 }
def rmI2 : Room := { frames := 2, cells := 1, slots := 4, locals := 41 }
set_option maxRecDepth 100000 in
/-- new Itr(this) -/
theorem cw_itr (mc : Int32) (hM : rd mem 2 0 = mc) (hW : ZWO Z tA tU sB L xs) : CJv l D (tyL ca) (nW np nb + 1) (adI ad (nW np nb) q) (cfI (cWd ca ad np nb eD tS sB) (nW np nb) (gI ad)) Z yJx35411_init_45d68 cJx35411_init_45d68 2 rmI1 [.ref (adI ad (nW np nb) q (nW np nb)), .ref (adI ad (nW np nb) q 2)] (mr mem (nW np nb) (itR 0 0 0 0)) (mr mem (nW np nb) (itR 0 (-1) mc 1)) := by
  refine xstart_c (own := RJx35411) rfl (by decide) rfl (Nat.le_of_ble_eq_true rfl) ?_
  intro p e s m args below meth c Q hQ X hi
  refine x_aload_n X 0 dJx35411_init_45d68_0 rfl rfl 1 rfl ?_
  refine x_aload_n X 1 dJx35411_init_45d68_1 rfl rfl 2 rfl ?_
  refine x_putFR (x := 1) X hi (nW np nb) ni_n ki_n (T := TJx35411) (N := 4) rfl in_Jx35411 tyJx35411 tyJx35411_ok nmJx35411 3 (by decide) kF_Jx35411_1 rfl rfl rfl rfl rfl (Nat.le_of_ble_eq_true rfl) (by
    rw [mr_n, adI_lt nw_2]
    rfl) dJx35411_init_45d68_2 5 rfl ?_
  rw [mw_mr, show (upd (itR 0 0 0 0).1 3 1, (itR 0 0 0 0).2) = itR 0 0 0 1 from Prod.ext (funext fun j => by
    show (if j = 3 then (1 : Int32) else _) = _
    unfold itR
    by_cases h : j = 3
    · subst h; rfl
    · rw [if_neg h]
      show (if j = 0 then (0 : Int32) else if j = 1 then 0 else if j = 2 then 0 else if j = 3 then 0 else 0) = if j = 0 then 0 else if j = 1 then 0 else if j = 2 then 0 else if j = 3 then 1 else 0
      rw [if_neg h, if_neg h]) rfl]
  refine x_aload_n X 0 dJx35411_init_45d68_5 rfl rfl 6 rfl ?_
  refine x_obj X kLi_Jx35411_7 ⟨Nat.le_of_ble_eq_true rfl, Nat.le_of_ble_eq_true rfl⟩ (Nat.le_of_ble_eq_true rfl) dJx35411_init_45d68_6 9 rfl ?_
  refine x_aload_n X 0 dJx35411_init_45d68_9 rfl rfl 10 rfl ?_
  refine x_iconst X (-1) dJx35411_init_45d68_10 rfl 11 rfl ?_
  refine x_putI X (nW np nb) ni_n ki_n (T := TJx35411) (N := 4) rfl in_Jx35411 tyJx35411 tyJx35411_ok nmJx35411 1 (by decide) kF_Jx35411_13 rfl rfl rfl rfl (Nat.le_of_ble_eq_true rfl) (by rw [mr_n, it_1]; rfl) dJx35411_init_45d68_11 14 rfl ?_
  rw [mw_mr, it_1]
  refine x_aload_n X 0 dJx35411_init_45d68_14 rfl rfl 15 rfl ?_
  refine x_aload_n X 0 dJx35411_init_45d68_15 rfl rfl 16 rfl ?_
  refine x_getV (v := .ref (adI ad (nW np nb) q 2)) X (nW np nb) ni_n ki_n (T := TJx35411) (N := 4) rfl in_Jx35411 3 (by decide) kF_Jx35411_1 rfl (by rw [mr_n, adI_lt nw_2]; rfl) dJx35411_init_45d68_16 19 rfl ?_
  refine x_getS (v := .int mc) X 2 ni_2 ki_2 (T := TJx4a65c) (N := 3) rfl in_Jx4a65c 0 (by decide) kF_Jx35411_17 ((hW _ _ _ X.2.2.2.2.2).2.2.2.1 _ (List.mem_of_getElem? (i := 6) rfl)) (by show some (Value.int (rd (mr mem (nW np nb) (itR 0 (-1) 0 1)) 2 0)) = _; rw [rd_mr2 _ _ _ _ _ (Nat.ne_of_lt nw_2), hM]) dJx35411_init_45d68_19 22 rfl ?_
  refine x_putI X (nW np nb) ni_n ki_n (T := TJx35411) (N := 4) rfl in_Jx35411 tyJx35411 tyJx35411_ok nmJx35411 2 (by decide) kF_Jx35411_22 rfl rfl rfl rfl (Nat.le_of_ble_eq_true rfl) (by rw [mr_n, it_2]; rfl) dJx35411_init_45d68_22 25 rfl ?_
  rw [mw_mr, it_2]
  exact x_vret X hQ rfl (Nat.le_refl _) (Nat.le_refl _) dJx35411_init_45d68_25
theorem kIB_Itr : IB yJx35411_init_45d68 cJx35411_init_45d68 2 1 := ⟨kIm_Jx35411_init_45d68, kN_Jx35411, kIc_Jx35411_init_45d68, rfl, ⟨by decide +kernel, by decide +kernel, by decide +kernel⟩⟩
theorem kIn_Itr : Cond.instantiable RJx35411 4 ∈ GW := gw_c tb_7 99 rfl rfl
def eI (ad : Nat → Nat) (c r mc : Int32) : va_E := .inr (15, [.int c, .int r, .int mc, .ref (ad 2)])
set_option maxRecDepth 100000 in
/-- bans.iterator() -/
theorem cw_iter (hZ : ZOK Z) (hW : ZWO Z tA tU sB L xs) : CJr l D (tyL ca) (nW np nb) ad (cWd ca ad np nb eD tS sB) Z yJx4a65c_iterator_32c93 cJx4a65c_iterator_32c93 1 (.object "java/util/Iterator") rmI2 [.ref (ad 2)] mem (fun a ws => ws = [(a, eI ad 0 (-1) (rd mem 2 0))]) mem := by
  refine xstart_r (own := RJx4a65c) rfl (by decide) (Nat.le_of_ble_eq_true rfl) ?_
  intro p e s m args below meth c Q hQ X
  refine x_new (C := RJx35411) (ci := 15) (T := TJx35411) (N := 4) X in_Jx35411 tyJx35411 tyJx35411_ok kCl_Jx4a65c_267 kIn_Itr kN_Jx35411 rfl [.int 0, .int 0, .int 0, .null] (fun j hj => by
    rcases (show j = 0 ∨ j = 1 ∨ j = 2 ∨ j = 3 by omega) with rfl | rfl | rfl | rfl <;> rfl) ⟨Nat.le_of_ble_eq_true rfl, Nat.le_of_ble_eq_true rfl⟩ dJx4a65c_iterator_32c93_0 3 rfl (fun q => ?_)
  rw [List.nil_append]
  refine x_view (gI ad) (itR 0 0 0 0) rfl X (fun hq X' => ?_)
  refine x_dup X' dJx4a65c_iterator_32c93_3 rfl 4 rfl ?_
  refine x_aload_n X' 0 dJx4a65c_iterator_32c93_4 rfl rfl 5 rfl ?_
  refine x_callIv (o := some ()) (F := fun _ => some ()) (res := ()) (fun _ => mr mem (nW np nb) (itR 0 (-1) (rd mem 2 0) 1)) X' hZ rfl [.ref (adI ad (nW np nb) q 2)] (nW np nb) (st := [.ref q]) (by rw [adI_n, adI_lt nw_2]; rfl) kIB_Itr kL_Jx4a65c_269 (fun _ _ => cw_itr _ rfl hW) rfl ⟨Nat.le_of_ble_eq_true rfl, Nat.le_of_ble_eq_true rfl⟩ (Nat.le_of_ble_eq_true rfl) ⟨Nat.le_of_ble_eq_true rfl, Nat.le_of_ble_eq_true rfl⟩ dJx4a65c_iterator_32c93_5 8 rfl (fun _ _ => ?_)
  refine x_back hq ?_
  exact x_aret (B := fun a ws => ws = [(a, eI ad 0 (-1) (rd mem 2 0))]) X (Or.inl ⟨_, rfl⟩) hQ rfl rfl (Nat.le_of_ble_eq_true rfl) (Nat.le_of_ble_eq_true rfl) dJx4a65c_iterator_32c93_8

set_option maxRecDepth 100000 in
theorem cw_has {c r mc : Int32} (hW : ZWO Z tA tU sB L xs) : CJ l D (tyL ca) (nW np nb + 1) (adI ad (nW np nb) q) (cfI (cWd ca ad np nb eD tS sB) (nW np nb) (gI ad)) Z yJx35411_hasNext_aae02 cJx35411_hasNext_aae02 1 .boolean rmI0 [.ref (adI ad (nW np nb) q (nW np nb))] (mr mem (nW np nb) (itR c r mc 1)) (if c = Int32.ofNat nb then 0 else 1) (mr mem (nW np nb) (itR c r mc 1)) := by
  refine xstart_i (own := RJx35411) rfl (by decide) (Nat.le_of_ble_eq_true rfl) ?_
  intro p e s m args below meth c' Q hQ X
  have hF : (if c = Int32.ofNat nb then some (0 : Int32) else some 1) = some (if c = Int32.ofNat nb then 0 else 1) := by split <;> rfl
  refine x_aload_n X 0 dJx35411_hasNext_aae02_0 rfl rfl 1 rfl ?_
  refine x_getV (v := .int c) X (nW np nb) ni_n ki_n (T := TJx35411) (N := 4) rfl in_Jx35411 0 (by decide) kF_Jx35411_25 rfl (by rw [mr_n]; rfl) dJx35411_hasNext_aae02_1 4 rfl ?_
  refine x_aload_n X 0 dJx35411_hasNext_aae02_4 rfl rfl 5 rfl ?_
  refine x_getV (v := .ref (adI ad (nW np nb) q 2)) X (nW np nb) ni_n ki_n (T := TJx35411) (N := 4) rfl in_Jx35411 3 (by decide) kF_Jx35411_1 rfl (by rw [mr_n, adI_lt nw_2]; rfl) dJx35411_hasNext_aae02_5 8 rfl ?_
  refine x_getN (v := .int (Int32.ofNat nb)) X 2 ni_2 ki_2 (T := TJx4a65c) (N := 3) rfl in_Jx4a65c 2 (by decide) ((hW _ _ _ X.2.2.2.2.2).2.2.2.1 _ (List.mem_of_getElem? (i := 5) rfl)) rfl rfl dJx35411_hasNext_aae02_8 11 rfl ?_
  refine x_icmp_eq X hF 18 14 dJx35411_hasNext_aae02_11 (by decide) rfl (fun hF => ?_) (fun hF => ?_)
  · refine x_iconst X 0 dJx35411_hasNext_aae02_18 rfl 19 rfl ?_
    exact x_iret X hQ (o_inj hF) rfl rfl (Nat.le_refl _) (Nat.le_refl _) dJx35411_hasNext_aae02_19
  · refine x_iconst X 1 dJx35411_hasNext_aae02_14 rfl 15 rfl ?_
    refine x_goto X 19 dJx35411_hasNext_aae02_15 (by decide) ?_
    exact x_iret X hQ (o_inj hF) rfl rfl (Nat.le_refl _) (Nat.le_refl _) dJx35411_hasNext_aae02_19
set_option maxRecDepth 100000 in
theorem cw_cfm {c r mc : Int32} (hM : rd mem 2 0 = mc) (hW : ZWO Z tA tU sB L xs) : CJv l D (tyL ca) (nW np nb + 1) (adI ad (nW np nb) q) (cfI (cWd ca ad np nb eD tS sB) (nW np nb) (gI ad)) Z yJx35411_checkForComodification_da8c8 cJx35411_checkForComodification_da8c8 1 rmI0 [.ref (adI ad (nW np nb) q (nW np nb))] (mr mem (nW np nb) (itR c r mc 1)) (mr mem (nW np nb) (itR c r mc 1)) := by
  refine xstart_v (own := RJx35411) rfl (by decide) (Nat.le_of_ble_eq_true rfl) ?_
  intro p e s m args below meth c' Q hQ X
  have hF : (if mc = mc then some () else none) = some () := if_pos rfl
  refine x_aload_n X 0 dJx35411_checkForComodification_da8c8_0 rfl rfl 1 rfl ?_
  refine x_getV (v := .ref (adI ad (nW np nb) q 2)) X (nW np nb) ni_n ki_n (T := TJx35411) (N := 4) rfl in_Jx35411 3 (by decide) kF_Jx35411_1 rfl (by rw [mr_n, adI_lt nw_2]; rfl) dJx35411_checkForComodification_da8c8_1 4 rfl ?_
  refine x_getS (v := .int mc) X 2 ni_2 ki_2 (T := TJx4a65c) (N := 3) rfl in_Jx4a65c 0 (by decide) kF_Jx35411_17 ((hW _ _ _ X.2.2.2.2.2).2.2.2.1 _ (List.mem_of_getElem? (i := 6) rfl)) (by show some (Value.int (rd (mr mem (nW np nb) (itR c r mc 1)) 2 0)) = _; rw [rd_mr2 _ _ _ _ _ (Nat.ne_of_lt nw_2), hM]) dJx35411_checkForComodification_da8c8_4 7 rfl ?_
  refine x_aload_n X 0 dJx35411_checkForComodification_da8c8_7 rfl rfl 8 rfl ?_
  refine x_getV (v := .int mc) X (nW np nb) ni_n ki_n (T := TJx35411) (N := 4) rfl in_Jx35411 2 (by decide) kF_Jx35411_22 rfl (by rw [mr_n]; rfl) dJx35411_checkForComodification_da8c8_8 11 rfl ?_
  refine x_icmp_eq X hF 22 14 dJx35411_checkForComodification_da8c8_11 (by decide) rfl (fun hF => ?_) (fun hF => no_none hF)
  exact x_vret X hQ rfl (Nat.le_refl _) (Nat.le_refl _) dJx35411_checkForComodification_da8c8_22
set_option maxRecDepth 100000 in
theorem cw_next {c r mc : Int32} (hb : nb ≤ 4) (h0 : np = 0 → nb = 0) (hc : vp_in c nb) (hM : rd mem 2 0 = mc) (hZ : ZOK Z) (hW : ZWO Z tA tU sB L xs) : CJb l D (tyL ca) (nW np nb + 1) (adI ad (nW np nb) q) (cfI (cWd ca ad np nb eD tS sB) (nW np nb) (gI ad)) Z yJx35411_next_0502b cJx35411_next_0502b 3 (.object "java/lang/Object") rmI1 [.ref (adI ad (nW np nb) q (nW np nb))] (mr mem (nW np nb) (itR c r mc 1)) (adI ad (nW np nb) q (14 + np + c.toNatClampNeg)) (mr mem (nW np nb) (itR (c + 1) c mc 1)) := by
  have hlt := vp_lt hc
  have hp0 : 0 < np := by omega
  have hf := nw_f hp0 (by omega : 0 < nb)
  have hbl := nw_b hp0 hlt
  have h1 : c < Int32.ofNat nb := vi_lt (by omega) hc
  have h2 : c < Int32.ofNat 10 := vi_lt (by decide) (vi_mono (by omega : nb ≤ 10) hc)
  refine xstart_b (own := RJx35411) rfl (by decide) (Nat.le_of_ble_eq_true rfl) ?_
  intro p e s m args below meth c' Q hQ X
  have hF1 : (if c < Int32.ofNat nb then some () else none) = some () := if_pos h1
  have hF2 : (if c < Int32.ofNat 10 then some () else none) = some () := if_pos h2
  refine x_aload_n X 0 dJx35411_next_0502b_0 rfl rfl 1 rfl ?_
  refine x_callVv (o := some ()) (F := fun _ => some ()) (res := ()) (fun _ => mr mem (nW np nb) (itR c r mc 1)) X hZ rfl [] (nW np nb) ni_n ki_n rfl rfl rfl kB_Jx35411_checkForComodification_da8c8 kL_Jx35411_31 (fun _ _ => cw_cfm hM hW) rfl ⟨Nat.le_of_ble_eq_true rfl, Nat.le_of_ble_eq_true rfl⟩ (Nat.le_of_ble_eq_true rfl) ⟨Nat.le_of_ble_eq_true rfl, Nat.le_of_ble_eq_true rfl⟩ dJx35411_next_0502b_1 4 rfl (fun _ _ => ?_)
  refine x_aload_n X 0 dJx35411_next_0502b_4 rfl rfl 5 rfl ?_
  refine x_getV (v := .int c) X (nW np nb) ni_n ki_n (T := TJx35411) (N := 4) rfl in_Jx35411 0 (by decide) kF_Jx35411_25 rfl (by rw [mr_n]; rfl) dJx35411_next_0502b_5 8 rfl ?_
  refine x_istore_n X [(1, .int c), (0, .ref (adI ad (nW np nb) q (nW np nb)))] dJx35411_next_0502b_8 rfl (by decide) rfl 9 rfl ?_
  refine x_iload_n X 0 dJx35411_next_0502b_9 rfl rfl 10 rfl ?_
  refine x_aload_n X 1 dJx35411_next_0502b_10 rfl rfl 11 rfl ?_
  refine x_getV (v := .ref (adI ad (nW np nb) q 2)) X (nW np nb) ni_n ki_n (T := TJx35411) (N := 4) rfl in_Jx35411 3 (by decide) kF_Jx35411_1 rfl (by rw [mr_n, adI_lt nw_2]; rfl) dJx35411_next_0502b_11 14 rfl ?_
  refine x_getN (v := .int (Int32.ofNat nb)) X 2 ni_2 ki_2 (T := TJx4a65c) (N := 3) rfl in_Jx4a65c 2 (by decide) ((hW _ _ _ X.2.2.2.2.2).2.2.2.1 _ (List.mem_of_getElem? (i := 5) rfl)) rfl rfl dJx35411_next_0502b_14 17 rfl ?_
  refine x_icmp_lt X hF1 28 20 dJx35411_next_0502b_17 (by decide) rfl (fun _ => ?_) (fun hF => no_none hF)
  refine x_aload_n X 1 dJx35411_next_0502b_28 rfl rfl 29 rfl ?_
  refine x_getV (v := .ref (adI ad (nW np nb) q 2)) X (nW np nb) ni_n ki_n (T := TJx35411) (N := 4) rfl in_Jx35411 3 (by decide) kF_Jx35411_1 rfl (by rw [mr_n, adI_lt nw_2]; rfl) dJx35411_next_0502b_29 32 rfl ?_
  refine x_getV (v := .ref (adI ad (nW np nb) q (13 + np))) X 2 ni_2 ki_2 (T := TJx4a65c) (N := 3) rfl in_Jx4a65c 1 (by decide) kF_Jx35411_37 rfl (by show some (qW eD nb (ad (13 + np))) = _; unfold qW; rw [if_neg (by omega), adI_lt hf]) dJx35411_next_0502b_32 35 rfl ?_
  refine x_astore_n X [(2, .ref (adI ad (nW np nb) q (13 + np))), (1, .int c), (0, .ref (adI ad (nW np nb) q (nW np nb)))] dJx35411_next_0502b_35 rfl (by decide) rfl 36 rfl ?_
  refine x_iload_n X 1 dJx35411_next_0502b_36 rfl rfl 37 rfl ?_
  refine x_aload_n X 0 dJx35411_next_0502b_37 rfl rfl 38 rfl ?_
  refine x_alen X (13 + np) (Nat.lt_succ_of_lt hf) (Int32.ofNat 10) ((cfI_lt hf _).trans (kw_f _)) (t0 := 5) rfl rfl dJx35411_next_0502b_38 39 rfl ?_
  refine x_icmp_lt X hF2 50 42 dJx35411_next_0502b_39 (by decide) rfl (fun _ => ?_) (fun hF => no_none hF)
  refine x_aload_n X 2 dJx35411_next_0502b_50 rfl rfl 51 rfl ?_
  refine x_iload_n X 1 dJx35411_next_0502b_51 rfl rfl 52 rfl ?_
  refine x_iconst X 1 dJx35411_next_0502b_52 rfl 53 rfl ?_
  refine x_iadd X dJx35411_next_0502b_53 54 rfl ?_
  refine x_putI X (nW np nb) ni_n ki_n (T := TJx35411) (N := 4) rfl in_Jx35411 tyJx35411 tyJx35411_ok nmJx35411 0 (by decide) kF_Jx35411_25 rfl rfl rfl rfl (Nat.le_of_ble_eq_true rfl) (by rw [mr_n, it_0]; rfl) dJx35411_next_0502b_54 57 rfl ?_
  rw [mw_mr, it_0]
  refine x_aload_n X 0 dJx35411_next_0502b_57 rfl rfl 58 rfl ?_
  refine x_aload_n X 2 dJx35411_next_0502b_58 rfl rfl 59 rfl ?_
  refine x_iload_n X 1 dJx35411_next_0502b_59 rfl rfl 60 rfl ?_
  refine x_dup_x1 X dJx35411_next_0502b_60 rfl rfl 61 rfl ?_
  refine x_putI X (nW np nb) ni_n ki_n (T := TJx35411) (N := 4) rfl in_Jx35411 tyJx35411 tyJx35411_ok nmJx35411 1 (by decide) kF_Jx35411_13 rfl rfl rfl rfl (Nat.le_of_ble_eq_true rfl) (by rw [mr_n, it_1]; rfl) dJx35411_next_0502b_61 64 rfl ?_
  rw [mw_mr, it_1]
  refine x_aal X (13 + np) (Nat.lt_succ_of_lt hf) (14 + np + c.toNatClampNeg) (fun f => (cfI_lt hf f).trans (kw_f f)) (t0 := 5) rfl (vi_mono (by omega : nb ≤ 10) hc) (by rw [adI_lt hbl]; exact el_ban hlt) dJx35411_next_0502b_64 65 rfl ?_
  exact x_aretA X (Or.inl ⟨_, rfl⟩) hQ rfl rfl (Nat.le_of_ble_eq_true rfl) (Nat.le_of_ble_eq_true rfl) dJx35411_next_0502b_65
end ITC
