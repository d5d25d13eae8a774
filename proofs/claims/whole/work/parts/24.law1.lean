section LAW1
variable {D : va_G} {tys : List (ClassId × FieldType)} {n : Nat} {ad : Nat → Nat} {cf : Nat → Row → va_E} {Z : (Nat → Prop) → State → Heap → Prop} {p : Program} {l : Launch} {e : Env} {R : Room} {s : State} {m : MethodId} {args : Array Value} {below : List Frame} {meth : Method} {c : Code} {cc : ByteArray} {nL : Nat} {own : String} {ret : Option FieldType} {cells slots : Nat} {Q : State → Prop} {mem : Mem} {pc : Nat} {lv : List (Nat × Value)} {st : List Value}
theorem lt279_255 : 255 < 279 := by decide
theorem w_widen {k k2 : Nat} (h1 : cells ≤ k) (h2 : slots ≤ k2) (kk : WW D n ad cf p l e R s m args below meth c nL k k2 Q mem pc lv st) : WW D n ad cf p l e R s m args below meth c nL cells slots Q mem pc lv st := fun H locs ls hP hS hl => W.widen h1 h2 (kk H locs ls hP hS hl)
theorem w_sld {b L : Nat} {xs : Nat → Int32} {i : Int32} (X : CX D tys n ad Z p s m args meth c cc nL own ret) (hX : va_X b L xs s s.heap) (hbl : b < s.heap.size) (hbA : ¬ AA n ad s.heap.size b) (hi : vp_in i L) (v : Int32) (hv : xs i.toNatClampNeg = v) (hdg : decode cc pc = .ok (.iaload, 1)) (pc2 : Nat) (hp : pc + 1 = pc2) (kk : WW D n ad cf p l e R s m args below meth c nL cells slots Q mem pc2 lv (.int v :: st)) : WW D n ad cf p l e R s m args below meth c nL cells slots Q mem pc lv (.int i :: .ref b :: st) := by
  subst hp
  subst hv
  exact fun H locs ls hP hS hl => va_sld X.1.1 X.1.2.1 hX hbl hbA hS hi hdg (kk H locs ls hP hS hl)
theorem w_slen {b L : Nat} {xs : Nat → Int32} (X : CX D tys n ad Z p s m args meth c cc nL own ret) (hX : va_X b L xs s s.heap) (hbl : b < s.heap.size) (hbA : ¬ AA n ad s.heap.size b) (hdg : decode cc pc = .ok (.arraylength, 1)) (pc2 : Nat) (hp : pc + 1 = pc2) (kk : WW D n ad cf p l e R s m args below meth c nL cells slots Q mem pc2 lv (.int (Int32.ofNat L) :: st)) : WW D n ad cf p l e R s m args below meth c nL cells slots Q mem pc lv (.ref b :: st) := by
  subst hp
  exact fun H locs ls hP hS hl => va_slen X.1.1 X.1.2.1 hX hbl hbA hS hdg (kk H locs ls hP hS hl)
theorem w_wcall {ca : Nat → Nat} {ρ : Type} {res : ρ} {o : Option (Int32 × Mem)} {F : Int32 × Mem → Option ρ} {hh : List (Nat × Nat × Nat × Nat)} {y : MethodName} {bytes : ByteArray} {nY index na : Nat} {rm : Room} (X : CX D (tyL ca) 279 ad Z p s m args meth c cc nL "PawnRaceLaw" ret) (hZ : ZOK Z) (hF : bd o F = some res) {stk : List Value} (As : List Value) (hs : As.reverse ++ st = stk) (b : WB y bytes nY hh na) (w1 : Cond.methodLink "PawnRaceLaw" index y ∈ GW) (hM : ∀ r : Int32 × Mem, o = some r → CW l D (tyL ca) 256 ad (cL ca ad) Z y bytes nY hh rm As mem r.1 r.2) (hna : As.length = na) (hrc : rm.cells = 3) (hrs : rm.slots = 18) (hR : rm.frames + 1 ≤ R.frames ∧ 8 + (nY + 11) + rm.locals ≤ R.locals) (hst : (st.map fun v => v.category).sum ≤ 8) (hcs : cells + 3 ≤ R.cells ∧ slots + 18 ≤ R.slots) (hdg : decode cc pc = .ok (.invokestatic index, 3)) (pc2 : Nat) (hp : pc + 3 = pc2) (kk : ∀ r : Int32 × Mem, F r = some res → WW D 279 ad (cW ca ad) p l e R s m args below meth c nL (cells + 3) (slots + 18) Q (mset 0 256 mem r.2) pc2 lv (.int r.1 :: st)) : WW D 279 ad (cW ca ad) p l e R s m args below meth c nL cells slots Q mem pc lv stk := by
  subst hp
  subst hs
  obtain ⟨r, ho, hF⟩ := bd_some hF
  intro H locs ls hP hS hl
  have hM := hM r ho H.size
  have hbl : FrameBlind (va_Pc As (PW D (tyL ca) 256 ad (cL ca ad) Z mem H.size)) := PW_bl hZ
  have hpre : ∀ U : State, U.heap = H → s.WarmedH U.vm → va_Pc As (PW D (tyL ca) 256 ad (cL ca ad) Z mem H.size) (As : List Value).toArray U := fun U hU hW => ⟨rfl, by
    have := PW_em (b := 0) (n1 := 256) (cf1 := cL ca ad) (by decide) (fun j f h => cW_L j f h) X hZ hP hS hU hW
    rw [ad_0, mem_0] at this
    exact this⟩
  obtain ⟨w2, w3, w5, hd⟩ := b
  have hG : GoodIn GW (va_wsS "PawnRaceLaw" index y (Cond.codeWith y bytes nY (some .int) hh :: GW)) := fun w hw => by
    unfold va_wsS at hw
    rcases List.mem_append.mp hw with h | h
    · have h9 : w ∈ GW := by
        simp only [List.mem_cons, List.not_mem_nil, or_false] at h
        rcases h with rfl | rfl | rfl <;> assumption
      exact ⟨h9, gw_good h9⟩
    · exact gw_cons w5 w h
  have cw : vx_CSW R s args "PawnRaceLaw" index y bytes nY (some .int) hh (Cond.codeWith y bytes nY (some .int) hh :: GW) rm 3 18 na := vx_cwSW na X.1.2.2.2.2 hG rfl hrc hrs hd hR
  have hsub : ∀ q, AA 256 ad H.size q → AA 279 ad s.heap.size q := fun q h => h.elim (fun ⟨k, h1, h2⟩ => Or.inl ⟨k, by omega, h2⟩) (fun h => Or.inr (Nat.le_trans hS.1 h))
  have hr := vx_runSW (rest := st) X.1 hM cw ⟨hbl, hpre⟩ (g := F0 m pc ls (As.reverse ++ st)) (H := H) (locs := locs) (cells := cells) (slots := slots) (below := below) (e := e) (meth := meth) rfl hna hl.1 rfl (lv_room hst) hdg hcs
  refine va_calli hr hS (fun q _ h => hsub q h) (fun q h => hsub q h) (fun x u t H1 locs1 ht hvm hw hB hz1 hk1 hS1 => ?_)
  obtain ⟨rfl, -⟩ := hw
  rw [ht] at hB
  exact kk r hF H1 locs1 ls (wf_in (b := 0) (n1 := 256) (cf1 := cL ca ad) (by decide) (fun j f h => cW_L j f h) X.2.2.2.2.1 hP (by rw [ad_0]; exact hB) (by rw [ad_0]; exact hk1)) hS1 hl
theorem w_subV {n1 b0 : Nat} {cf1 : Nat → Row → va_E} {ad1 : Nat → Nat} {mem1 : Mem} (hb0 : b0 + n1 ≤ n) (hcf : ∀ j f, j < n1 → cf (b0 + j) f = cf1 j f) (ha1 : (fun j => ad (b0 + j)) = ad1) (hm1 : (fun j => mem (b0 + j)) = mem1) (h0 : 0 < n1) {ρ κ : Type} {o : Option κ} {F : κ → Option ρ} {res : ρ} {rty : FieldType} (vx : κ → Int32) (vm : κ → Mem) (X : CX D tys n ad Z p s m args meth c cc nL own ret) (hZ : ZOK Z) {y : MethodName} {bytes : ByteArray} {nY index na : Nat} {rm : Room} (hF : bd o F = some res) {stk : List Value} (As : List Value) {ci : Nat} {fl : Row → List Value} {q : vw_C} (he : ∀ f : Row, cf1 0 f = .inr (ci, fl f)) (hq : vwCl[ci]? = some q) (hqy : y.cls = q.1) (hs : As.reverse ++ .ref (ad1 0) :: st = stk) (b : MB y bytes nY (some rty) na) (w1 : Cond.methodLink own index y ∈ GW) (hM : ∀ r : κ, o = some r → CI l D tys n1 ad1 cf1 Z y bytes nY rty rm (.ref (ad1 0) :: As) mem1 (vx r) (vm r)) (hna : As.length = na) (hrc : rm.cells = 0) (hrs : rm.slots = 0) (hR : rm.frames + 1 ≤ R.frames ∧ 8 + (nY + 11) + rm.locals ≤ R.locals) (hst : (st.map fun v => v.category).sum ≤ 8) (hcs : cells ≤ R.cells ∧ slots ≤ R.slots) (hdg : decode cc pc = .ok (.invokevirtual index, 3)) (pc2 : Nat) (hp : pc + 3 = pc2) (kk : ∀ r : κ, F r = some res → WW D n ad cf p l e R s m args below meth c nL cells slots Q (mset b0 n1 mem (vm r)) pc2 lv (.int (vx r) :: st)) : WW D n ad cf p l e R s m args below meth c nL cells slots Q mem pc lv stk := by
  subst hp
  subst hs
  subst ha1
  subst hm1
  obtain ⟨r, ho, hF⟩ := bd_some hF
  intro H locs ls hP hS hl
  have hM := hM r ho H.size
  have hbl : FrameBlind (va_Pc (.ref (ad (b0 + 0)) :: As) (PW D tys n1 (fun j => ad (b0 + j)) cf1 Z (fun j => mem (b0 + j)) H.size)) := PW_bl hZ
  have hpre : ∀ U : State, U.heap = H → s.WarmedH U.vm → va_Pc (.ref (ad (b0 + 0)) :: As) (PW D tys n1 (fun j => ad (b0 + j)) cf1 Z (fun j => mem (b0 + j)) H.size) ((.ref (ad (b0 + 0)) :: As) : List Value).toArray U := fun U hU hW => ⟨rfl, PW_em hb0 hcf X hZ hP hS hU hW⟩
  obtain ⟨w2, w4, w3, w5, hd⟩ := b
  have hg : GoodIn GW (Cond.code y bytes nY (some rty) :: GW) := gw_cons w5
  have cw : CallW R s args own y.cls index y bytes nY (some rty) (Cond.code y bytes nY (some rty) :: GW) rm 0 0 na := ⟨callB_of na X.1.2.2.2.2 hg rfl hrc hrs (X.1.2.2.2.2 _ w3) (X.1.2.2.2.2 _ w1) hd hR, X.1.2.2.2.2 _ w2, X.1.2.2.2.2 _ w4⟩
  have hrv : ∃ cellB : Cell, H[ad (b0 + 0)]? = some cellB ∧ cellB.vm.isStatics = false ∧ s.vm.findClass y.cls = some cellB.cls := by
    rw [hqy]
    exact va_recv X.2.2.2.1 hP hq (q0 := b0 + 0) (a := ad (b0 + 0)) (by rw [wf_at (by omega), hcf 0 _ h0, he])
  have hsub : ∀ q, AA n1 (fun j => ad (b0 + j)) H.size q → AA n ad s.heap.size q := fun q h => AA_le hS.1 q (AA_emb hb0 q h)
  have hr := va_runV (rest := st) X.1 hM cw ⟨hbl, hrv, hpre⟩ (g := F0 m pc ls (As.reverse ++ .ref (ad (b0 + 0)) :: st)) (H := H) (locs := locs) (cells := cells) (slots := slots) (below := below) (e := e) (meth := meth) rfl hna hl.1 rfl (lv_room hst) hdg hcs
  refine va_calli hr hS (fun q _ h => hsub q h) (fun q h => hsub q h) (fun x u t H1 locs1 ht hvm hw hB hz1 hk1 hS1 => ?_)
  obtain ⟨rfl, -⟩ := hw
  rw [ht] at hB
  exact kk r hF H1 locs1 ls (wf_in hb0 hcf X.2.2.2.2.1 hP hB hk1) hS1 hl
theorem w_mcall {ca : Nat → Nat} {ρ κ : Type} {o : Option κ} {F : κ → Option ρ} {res : ρ} {rty : FieldType} (vx : κ → Int32) (vm : κ → Mem) (X : CX D (tyL ca) 279 ad Z p s m args meth c cc nL own ret) (hZ : ZOK Z) {y : MethodName} {bytes : ByteArray} {nY index na : Nat} {rm : Room} (hF : bd o F = some res) {stk : List Value} (As : List Value) {q : vw_C} (hq : vwCl[12]? = some q) (hqy : y.cls = q.1) (hs : As.reverse ++ .ref (ad 256) :: st = stk) (b : MB y bytes nY (some rty) na) (w1 : Cond.methodLink own index y ∈ GW) (hM : ∀ r : κ, o = some r → CI l D (tyL ca) 23 (fun j => ad (256 + j)) (cM ca (fun j => ad (256 + j))) Z y bytes nY rty rm (.ref (ad 256) :: As) (fun j => mem (256 + j)) (vx r) (vm r)) (hna : As.length = na) (hrc : rm.cells = 0) (hrs : rm.slots = 0) (hR : rm.frames + 1 ≤ R.frames ∧ 8 + (nY + 11) + rm.locals ≤ R.locals) (hst : (st.map fun v => v.category).sum ≤ 8) (hcs : cells ≤ R.cells ∧ slots ≤ R.slots) (hdg : decode cc pc = .ok (.invokevirtual index, 3)) (pc2 : Nat) (hp : pc + 3 = pc2) (kk : ∀ r : κ, F r = some res → WW D 279 ad (cW ca ad) p l e R s m args below meth c nL cells slots Q (mset 256 23 mem (vm r)) pc2 lv (.int (vx r) :: st)) : WW D 279 ad (cW ca ad) p l e R s m args below meth c nL cells slots Q mem pc lv stk :=
  w_subV (b0 := 256) (n1 := 23) (cf1 := cM ca (fun j => ad (256 + j))) (by decide) (fun j f h => cW_M j f h) rfl rfl (by decide) vx vm X hZ hF As mo_0 hq hqy hs b w1 hM hna hrc hrs hR hst hcs hdg pc2 hp kk
theorem w_ccall {ca : Nat → Nat} {ρ κ : Type} {o : Option κ} {F : κ → Option ρ} {res : ρ} {rty : FieldType} (vx : κ → Int32) (vm : κ → Mem) (X : CX D (tyL ca) 279 ad Z p s m args meth c cc nL own ret) (hZ : ZOK Z) {y : MethodName} {bytes : ByteArray} {nY index na : Nat} {rm : Room} (hF : bd o F = some res) {stk : List Value} (As : List Value) {q : vw_C} (hq : vwCl[11]? = some q) (hqy : y.cls = q.1) (hs : As.reverse ++ .ref (ad 0) :: st = stk) (b : MB y bytes nY (some rty) na) (w1 : Cond.methodLink own index y ∈ GW) (hM : ∀ r : κ, o = some r → CI l D (tyL ca) 255 ad (cC ca ad) Z y bytes nY rty rm (.ref (ad 0) :: As) mem (vx r) (vm r)) (hna : As.length = na) (hrc : rm.cells = 0) (hrs : rm.slots = 0) (hR : rm.frames + 1 ≤ R.frames ∧ 8 + (nY + 11) + rm.locals ≤ R.locals) (hst : (st.map fun v => v.category).sum ≤ 8) (hcs : cells ≤ R.cells ∧ slots ≤ R.slots) (hdg : decode cc pc = .ok (.invokevirtual index, 3)) (pc2 : Nat) (hp : pc + 3 = pc2) (kk : ∀ r : κ, F r = some res → WW D 279 ad (cW ca ad) p l e R s m args below meth c nL cells slots Q (mset 0 255 mem (vm r)) pc2 lv (.int (vx r) :: st)) : WW D 279 ad (cW ca ad) p l e R s m args below meth c nL cells slots Q mem pc lv stk :=
  w_subV (b0 := 0) (n1 := 255) (cf1 := cC ca ad) (by decide) (fun j f h => cW_C j f h) ad_0 mem_0 (by decide) vx vm X hZ hF As ko_0 hq hqy hs b w1 hM hna hrc hrs hR hst hcs hdg pc2 hp kk
/-- a call's ints in the script -/
def LX (b L : Nat) (xs : Nat → Int32) (s : State) (A : Nat → Prop) (x4 : Int32) (a : Nat → Int32) : Prop := va_X b L xs s s.heap ∧ b < s.heap.size ∧ ¬ A b ∧ (vp_in (x4 + 1) L ∧ xs (Int32.toNatClampNeg (x4 + 1)) = a 1) ∧ (vp_in (x4 + 2) L ∧ xs (Int32.toNatClampNeg (x4 + 2)) = a 2) ∧ (vp_in (x4 + 3) L ∧ xs (Int32.toNatClampNeg (x4 + 3)) = a 3) ∧ (vp_in (x4 + 4) L ∧ xs (Int32.toNatClampNeg (x4 + 4)) = a 4) ∧ (vp_in (x4 + 5) L ∧ xs (Int32.toNatClampNeg (x4 + 5)) = a 5)
end LAW1
