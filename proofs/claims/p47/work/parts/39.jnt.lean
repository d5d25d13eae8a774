section JNT
/-- a part of a memory comes back -/
def mset (b n1 : Nat) (mem mem1 : Mem) : Mem := fun k => if b ≤ k ∧ k < b + n1 then mem1 (k - b) else mem k
theorem wf_out {D : va_G} {n n1 b : Nat} {ad : Nat → Nat} {cf cf1 : Nat → Row → va_E} {mem : Mem} {H : Heap} (hb : b + n1 ≤ n) (hcf : ∀ j f, j < n1 → cf (b + j) f = cf1 j f) (hP : va_P D vwCl (wf n ad cf mem) H) : va_P D vwCl (wf n1 (fun j => ad (b + j)) cf1 (fun j => mem (b + j))) H := by
  intro k q hk
  obtain ⟨h1, rfl⟩ := wf_of hk
  refine hP (b + k) _ ?_
  rw [wf_at (by omega), hcf k _ h1]
theorem AA_emb {n n1 b sz : Nat} {ad : Nat → Nat} (hb : b + n1 ≤ n) : ∀ q, AA n1 (fun j => ad (b + j)) sz q → AA n ad sz q := fun q h => h.elim (fun ⟨k, h1, h2⟩ => Or.inl ⟨b + k, by omega, h2⟩) Or.inr
theorem wf_in {D : va_G} {n n1 b : Nat} {ad : Nat → Nat} {cf cf1 : Nat → Row → va_E} {mem mem1 : Mem} {H H1 : Heap} (hb : b + n1 ≤ n) (hcf : ∀ j f, j < n1 → cf (b + j) f = cf1 j f) (hI : ∀ i j, i < n → j < n → ad i = ad j → i = j) (hP : va_P D vwCl (wf n ad cf mem) H) (hP1 : va_P D vwCl (wf n1 (fun j => ad (b + j)) cf1 mem1) H1) (hk : ∀ q : Nat, q < H.size → ¬ AA n1 (fun j => ad (b + j)) H.size q → H1[q]? = H[q]?) : va_P D vwCl (wf n ad cf (mset b n1 mem mem1)) H1 := by
  intro k q hkq
  obtain ⟨h1, rfl⟩ := wf_of hkq
  by_cases hc : b ≤ k ∧ k < b + n1
  · have e : mset b n1 mem mem1 k = mem1 (k - b) := if_pos hc
    rw [e]
    have h2 := hP1 (k - b) (ad (b + (k - b)), cf1 (k - b) (mem1 (k - b))) (wf_at (by omega))
    rw [← hcf _ _ (by omega)] at h2
    rw [show b + (k - b) = k by omega] at h2
    exact h2
  · have e : mset b n1 mem mem1 k = mem k := if_neg hc
    rw [e]
    have h2 := hP k (ad k, cf k (mem k)) (wf_at h1)
    refine h2.kept (hk _ (vx_lt hP (wf_at h1)) ?_)
    rintro (⟨j, hj, e2⟩ | h3)
    · have := hI _ _ h1 (by omega) e2
      omega
    · exact absurd (vx_lt hP (wf_at h1)) (Nat.not_lt.mpr h3)
theorem mset_id (b n1 : Nat) (mem : Mem) : mset b n1 mem (fun j => mem (b + j)) = mem := by
  funext k
  unfold mset
  by_cases h : b ≤ k ∧ k < b + n1
  · rw [if_pos h]
    show mem (b + (k - b)) = mem k
    rw [show b + (k - b) = k by omega]
  · rw [if_neg h]
theorem ad_0 {ad : Nat → Nat} : (fun j => ad (0 + j)) = ad := funext fun j => by rw [Nat.zero_add]
theorem mem_0 {mem : Mem} : (fun j => mem (0 + j)) = mem := funext fun j => by rw [Nat.zero_add]
variable {D : va_G} {tys : List (ClassId × FieldType)} {n : Nat} {ad : Nat → Nat} {cf : Nat → Row → va_E} {Z : (Nat → Prop) → State → Heap → Prop} {p : Program} {l : Launch} {e : Env} {R : Room} {s : State} {m : MethodId} {args : Array Value} {below : List Frame} {meth : Method} {c : Code} {cc : ByteArray} {nL : Nat} {own : String} {ret : Option FieldType} {cells slots : Nat} {Q : State → Prop} {mem : Mem} {ex : va_W} {pc : Nat} {lv : List (Nat × Value)} {st : List Value}
theorem PW_em {n1 b : Nat} {cf1 : Nat → Row → va_E} (hb : b + n1 ≤ n) (hcf : ∀ j f, j < n1 → cf (b + j) f = cf1 j f) (X : CX D tys n ad Z p s m args meth c cc nL own ret) (hZ : ZOK Z) {H : Heap} {locs : List Loc} (hP : va_P D vwCl (wf n ad cf mem) H) (hS : va_S (AA n ad s.heap.size) s.heap H locs) {U : State} (hU : U.heap = H) (hW : s.WarmedH U.vm) : PW D tys n1 (fun j => ad (b + j)) cf1 Z (fun j => mem (b + j)) H.size U := by
  obtain ⟨h1, h2, h3, h4, h5⟩ := PW_of X hZ hP hS hU hW
  exact ⟨h1, wf_out hb hcf h2, h3, fun i j hi hj e => by have := h4 _ _ (by omega) (by omega) e; omega, hZ.2.1 _ _ _ _ h5 (AA_emb hb)⟩
theorem PXe_of {n1 b0 : Nat} {cf1 : Nat → Row → va_E} (hb : b0 + n1 ≤ n) (hcf : ∀ j f, j < n1 → cf (b0 + j) f = cf1 j f) (X : CX D tys n ad Z p s m args meth c cc nL own ret) (hZ : ZOK Z) {H : Heap} {locs : List Loc} (hP : va_P D vwCl (wf n ad cf mem ++ ex) H) (hS : va_S (AA n ad s.heap.size) s.heap H locs) {U : State} (hU : U.heap = H) (hW : s.WarmedH U.vm) : PW D tys n1 (fun j => ad (b0 + j)) cf1 Z (fun j => mem (b0 + j)) H.size U := PW_em hb hcf X hZ (wP_l hP) hS hU hW
theorem wx_in {n1 b0 : Nat} {cf1 : Nat → Row → va_E} (hb : b0 + n1 ≤ n) (hcf : ∀ j f, j < n1 → cf (b0 + j) f = cf1 j f) (X : CX D tys n ad Z p s m args meth c cc nL own ret) {A : Nat → Prop} {mem1 : Mem} {H H1 : Heap} (hP : va_P D vwCl (wf n ad cf mem ++ ex) H) (hD : va_D A (wf n ad cf mem ++ ex)) (hP1 : va_P D vwCl (wf n1 (fun j => ad (b0 + j)) cf1 mem1) H1) (hk : ∀ q : Nat, q < H.size → ¬ AA n1 (fun j => ad (b0 + j)) H.size q → H1[q]? = H[q]?) : va_P D vwCl (wf n ad cf (mset b0 n1 mem mem1) ++ ex) H1 ∧ va_D A (wf n ad cf (mset b0 n1 mem mem1) ++ ex) :=
  wx_fr hP hD (wf_in hb hcf X.2.2.2.2.1 (wP_l hP) hP1 hk) (fun q h1 h2 => hk q h1 (fun h => h2 (AA_emb hb q h)))
theorem j_callVi {ρ κ : Type} {o : Option κ} {F : κ → Option ρ} {res : ρ} {rty : FieldType} (vx : κ → Int32) (vm : κ → Mem) {n1 b0 : Nat} {cf1 : Nat → Row → va_E} (hb : b0 + n1 ≤ n) (hcf : ∀ j f, j < n1 → cf (b0 + j) f = cf1 j f) (X : CX D tys n ad Z p s m args meth c cc nL own ret) (hZ : ZOK Z) {y : MethodName} {bytes : ByteArray} {nY index na : Nat} {rm : Room} (hF : bd o F = some res) {stk : List Value} (As : List Value) (kb : Nat) (hk : kb < n) {ci : Nat} {fl : Row → List Value} {q : vw_C} (he : ∀ f : Row, cf kb f = .inr (ci, fl f)) (hq : vwCl[ci]? = some q) (hqy : y.cls = q.1) (hs : As.reverse ++ .ref (ad kb) :: st = stk) (b : MB y bytes nY (some rty) na) (w1 : Cond.methodLink own index y ∈ GW) (hM : ∀ r : κ, o = some r → CJ l D tys n1 (fun j => ad (b0 + j)) cf1 Z y bytes nY rty rm (.ref (ad kb) :: As) (fun j => mem (b0 + j)) (vx r) (vm r)) (hna : As.length = na) (hR : rm.frames + 1 ≤ R.frames ∧ 8 + (nY + 11) + rm.locals ≤ R.locals) (hst : (st.map fun v => v.category).sum ≤ 8) (hcs : cells + rm.cells ≤ R.cells ∧ slots + rm.slots ≤ R.slots) (hdg : decode cc pc = .ok (.invokevirtual index, 3)) (pc2 : Nat) (hp : pc + 3 = pc2) (kk : ∀ r : κ, F r = some res → XX D n ad cf p l e R s m args below meth c nL (cells + rm.cells) (slots + rm.slots) Q (mset b0 n1 mem (vm r)) ex pc2 lv (.int (vx r) :: st)) : XX D n ad cf p l e R s m args below meth c nL cells slots Q mem ex pc lv stk := by
  subst hp
  subst hs
  obtain ⟨r, ho, hF⟩ := bd_some hF
  intro H locs ls hP hD hS hl
  have hM := hM r ho H.size
  have hbl : FrameBlind (va_Pc (.ref (ad kb) :: As) (PW D tys n1 (fun j => ad (b0 + j)) cf1 Z (fun j => mem (b0 + j)) H.size)) := PW_bl hZ
  have hpre : ∀ U : State, U.heap = H → s.WarmedH U.vm → va_Pc (.ref (ad kb) :: As) (PW D tys n1 (fun j => ad (b0 + j)) cf1 Z (fun j => mem (b0 + j)) H.size) ((.ref (ad kb) :: As) : List Value).toArray U := fun U hU hW => ⟨rfl, PXe_of hb hcf X hZ hP hS hU hW⟩
  obtain ⟨w2, w4, w3, w5, hd⟩ := b
  have hg : GoodIn GW (Cond.code y bytes nY (some rty) :: GW) := gw_cons w5
  have cw : CallW R s args own y.cls index y bytes nY (some rty) (Cond.code y bytes nY (some rty) :: GW) rm rm.cells rm.slots na := ⟨callB_of na X.1.2.2.2.2 hg rfl rfl rfl (X.1.2.2.2.2 _ w3) (X.1.2.2.2.2 _ w1) hd hR, X.1.2.2.2.2 _ w2, X.1.2.2.2.2 _ w4⟩
  have hrv : ∃ cellB : Cell, H[ad kb]? = some cellB ∧ cellB.vm.isStatics = false ∧ s.vm.findClass y.cls = some cellB.cls := by
    rw [hqy]
    exact va_recv X.2.2.2.1 hP hq (q0 := kb) (a := ad kb) (by rw [wx_at hk, he])
  have hr := va_runV (rest := st) X.1 hM cw ⟨hbl, hrv, hpre⟩ (g := F0 m pc ls (As.reverse ++ .ref (ad kb) :: st)) (H := H) (locs := locs) (cells := cells) (slots := slots) (below := below) (e := e) (meth := meth) rfl hna hl.1 rfl (lv_room hst) hdg hcs
  refine va_calli hr hS (fun q _ h => AA_le hS.1 q (AA_emb hb q h)) (fun q h => AA_le hS.1 q (AA_emb hb q h)) (fun x u t H1 locs1 ht hvm hw hB hz1 hk1 hS1 => ?_)
  obtain ⟨rfl, -⟩ := hw
  rw [ht] at hB
  obtain ⟨hP1, hD1⟩ := wx_in hb hcf X hP hD hB hk1
  exact kk r hF H1 locs1 ls hP1 hD1 hS1 hl
theorem j_callVv {ρ κ : Type} {o : Option κ} {F : κ → Option ρ} {res : ρ} (vm : κ → Mem) {n1 b0 : Nat} {cf1 : Nat → Row → va_E} (hb : b0 + n1 ≤ n) (hcf : ∀ j f, j < n1 → cf (b0 + j) f = cf1 j f) (X : CX D tys n ad Z p s m args meth c cc nL own ret) (hZ : ZOK Z) {y : MethodName} {bytes : ByteArray} {nY index na : Nat} {rm : Room} (hF : bd o F = some res) {stk : List Value} (As : List Value) (kb : Nat) (hk : kb < n) {ci : Nat} {fl : Row → List Value} {q : vw_C} (he : ∀ f : Row, cf kb f = .inr (ci, fl f)) (hq : vwCl[ci]? = some q) (hqy : y.cls = q.1) (hs : As.reverse ++ .ref (ad kb) :: st = stk) (b : MB y bytes nY (none) na) (w1 : Cond.methodLink own index y ∈ GW) (hM : ∀ r : κ, o = some r → CJv l D tys n1 (fun j => ad (b0 + j)) cf1 Z y bytes nY rm (.ref (ad kb) :: As) (fun j => mem (b0 + j)) (vm r)) (hna : As.length = na) (hR : rm.frames + 1 ≤ R.frames ∧ 8 + (nY + 11) + rm.locals ≤ R.locals) (hst : (st.map fun v => v.category).sum ≤ 8) (hcs : cells + rm.cells ≤ R.cells ∧ slots + rm.slots ≤ R.slots) (hdg : decode cc pc = .ok (.invokevirtual index, 3)) (pc2 : Nat) (hp : pc + 3 = pc2) (kk : ∀ r : κ, F r = some res → XX D n ad cf p l e R s m args below meth c nL (cells + rm.cells) (slots + rm.slots) Q (mset b0 n1 mem (vm r)) ex pc2 lv st) : XX D n ad cf p l e R s m args below meth c nL cells slots Q mem ex pc lv stk := by
  subst hp
  subst hs
  obtain ⟨r, ho, hF⟩ := bd_some hF
  intro H locs ls hP hD hS hl
  have hM := hM r ho H.size
  have hbl : FrameBlind (va_Pc (.ref (ad kb) :: As) (PW D tys n1 (fun j => ad (b0 + j)) cf1 Z (fun j => mem (b0 + j)) H.size)) := PW_bl hZ
  have hpre : ∀ U : State, U.heap = H → s.WarmedH U.vm → va_Pc (.ref (ad kb) :: As) (PW D tys n1 (fun j => ad (b0 + j)) cf1 Z (fun j => mem (b0 + j)) H.size) ((.ref (ad kb) :: As) : List Value).toArray U := fun U hU hW => ⟨rfl, PXe_of hb hcf X hZ hP hS hU hW⟩
  obtain ⟨w2, w4, w3, w5, hd⟩ := b
  have hg : GoodIn GW (Cond.code y bytes nY (none) :: GW) := gw_cons w5
  have cw : CallW R s args own y.cls index y bytes nY (none) (Cond.code y bytes nY (none) :: GW) rm rm.cells rm.slots na := ⟨callB_of na X.1.2.2.2.2 hg rfl rfl rfl (X.1.2.2.2.2 _ w3) (X.1.2.2.2.2 _ w1) hd hR, X.1.2.2.2.2 _ w2, X.1.2.2.2.2 _ w4⟩
  have hrv : ∃ cellB : Cell, H[ad kb]? = some cellB ∧ cellB.vm.isStatics = false ∧ s.vm.findClass y.cls = some cellB.cls := by
    rw [hqy]
    exact va_recv X.2.2.2.1 hP hq (q0 := kb) (a := ad kb) (by rw [wx_at hk, he])
  have hr := va_runV (rest := st) X.1 hM cw ⟨hbl, hrv, hpre⟩ (g := F0 m pc ls (As.reverse ++ .ref (ad kb) :: st)) (H := H) (locs := locs) (cells := cells) (slots := slots) (below := below) (e := e) (meth := meth) rfl hna hl.1 rfl (lv_room hst) hdg hcs
  refine va_callv hr hS (fun q _ h => AA_le hS.1 q (AA_emb hb q h)) (fun q h => AA_le hS.1 q (AA_emb hb q h)) (fun u t H1 locs1 ht hvm hw hB hz1 hk1 hS1 => ?_)
  rw [ht] at hB
  obtain ⟨hP1, hD1⟩ := wx_in hb hcf X hP hD hB hk1
  exact kk r hF H1 locs1 ls hP1 hD1 hS1 hl
theorem j_callFi {ρ κ : Type} {o : Option κ} {F : κ → Option ρ} {res : ρ} {rty : FieldType} (vx : κ → Int32) (vm : κ → Mem) {n1 b0 : Nat} {cf1 : Nat → Row → va_E} (hb : b0 + n1 ≤ n) (hcf : ∀ j f, j < n1 → cf (b0 + j) f = cf1 j f) (X : CX D tys n ad Z p s m args meth c cc nL own ret) (hZ : ZOK Z) {x y : MethodName} {count : Nat} {bytes : ByteArray} {nY index na : Nat} {rm : Room} (hF : bd o F = some res) {stk : List Value} (As : List Value) (kb : Nat) (hk : kb < n) {ci : Nat} {fl : Row → List Value} {q : vw_C} (he : ∀ f : Row, cf kb f = .inr (ci, fl f)) (hq : vwCl[ci]? = some q)  (hs : As.reverse ++ .ref (ad kb) :: st = stk) (b : FB q.1 x y bytes nY (some rty) na) (w1 : Cond.methodLink own index x ∈ GW) (hFw : va_Fw q.1 x y s) (hM : ∀ r : κ, o = some r → CJ l D tys n1 (fun j => ad (b0 + j)) cf1 Z y bytes nY rty rm (.ref (ad kb) :: As) (fun j => mem (b0 + j)) (vx r) (vm r)) (hna : As.length = na) (hR : rm.frames + 1 ≤ R.frames ∧ 8 + (nY + 11) + rm.locals ≤ R.locals) (hst : (st.map fun v => v.category).sum ≤ 8) (hcs : cells + rm.cells ≤ R.cells ∧ slots + rm.slots ≤ R.slots) (hdg : decode cc pc = .ok (.invokeinterface index count, 5)) (pc2 : Nat) (hp : pc + 5 = pc2) (kk : ∀ r : κ, F r = some res → XX D n ad cf p l e R s m args below meth c nL (cells + rm.cells) (slots + rm.slots) Q (mset b0 n1 mem (vm r)) ex pc2 lv (.int (vx r) :: st)) : XX D n ad cf p l e R s m args below meth c nL cells slots Q mem ex pc lv stk := by
  subst hp
  subst hs
  obtain ⟨r, ho, hF⟩ := bd_some hF
  intro H locs ls hP hD hS hl
  have hM := hM r ho H.size
  have hbl : FrameBlind (va_Pc (.ref (ad kb) :: As) (PW D tys n1 (fun j => ad (b0 + j)) cf1 Z (fun j => mem (b0 + j)) H.size)) := PW_bl hZ
  have hpre : ∀ U : State, U.heap = H → s.WarmedH U.vm → va_Pc (.ref (ad kb) :: As) (PW D tys n1 (fun j => ad (b0 + j)) cf1 Z (fun j => mem (b0 + j)) H.size) ((.ref (ad kb) :: As) : List Value).toArray U := fun U hU hW => ⟨rfl, PXe_of hb hcf X hZ hP hS hU hW⟩
  obtain ⟨w4, w2, w3, w5, hd⟩ := b
  have hg : GoodIn GW (va_wsF own index q.1 x y (Cond.code y bytes nY (some rty) :: GW)) := fun w hw => by
    have hg0 : GoodIn GW (Cond.code y bytes nY (some rty) :: GW) := gw_cons w5
    rcases List.mem_append.mp hw with h | h
    · simp only [List.mem_cons, List.not_mem_nil, or_false] at h
      rcases h with h | h | h | h
      · rw [h]; exact ⟨w1, gw_good w1⟩
      · rw [h]; exact ⟨w4, gw_good w4⟩
      · rw [h]; exact ⟨w2, gw_good w2⟩
      · rw [h]; exact ⟨w3, gw_good w3⟩
    · exact hg0 w h
  have cw : va_CI R s args own q.1 index x y bytes nY (some rty) (Cond.code y bytes nY (some rty) :: GW) rm rm.cells rm.slots na := va_cwF na X.1.2.2.2.2 hg rfl rfl rfl hFw hd hR
  have hrv : ∃ cellB : Cell, H[ad kb]? = some cellB ∧ cellB.vm.isStatics = false ∧ s.vm.findClass q.1 = some cellB.cls := va_recv X.2.2.2.1 hP hq (q0 := kb) (a := ad kb) (by rw [wx_at hk, he])
  have hr := va_runF (rest := st) (X.2.2.2.1.1 ci q hq).2 X.1 hM cw ⟨hbl, hrv, hpre⟩ (g := F0 m pc ls (As.reverse ++ .ref (ad kb) :: st)) (H := H) (locs := locs) (cells := cells) (slots := slots) (below := below) (e := e) (meth := meth) rfl hna hl.1 rfl (lv_room hst) hdg hcs
  refine va_callFi hr hS (fun q _ h => AA_le hS.1 q (AA_emb hb q h)) (fun q h => AA_le hS.1 q (AA_emb hb q h)) (fun x u t H1 locs1 ht hvm hw hB hz1 hk1 hS1 => ?_)
  obtain ⟨rfl, -⟩ := hw
  rw [ht] at hB
  obtain ⟨hP1, hD1⟩ := wx_in hb hcf X hP hD hB hk1
  exact kk r hF H1 locs1 ls hP1 hD1 hS1 hl
theorem j_callFa {ρ κ : Type} {o : Option κ} {F : κ → Option ρ} {res : ρ} {rty : FieldType} (vr : κ → Nat) {n1 b0 : Nat} {cf1 : Nat → Row → va_E} (hb : b0 + n1 ≤ n) (hcf : ∀ j f, j < n1 → cf (b0 + j) f = cf1 j f) (X : CX D tys n ad Z p s m args meth c cc nL own ret) (hZ : ZOK Z) {x y : MethodName} {count : Nat} {bytes : ByteArray} {nY index na : Nat} {rm : Room} (hF : bd o F = some res) {stk : List Value} (As : List Value) (kb : Nat) (hk : kb < n) {ci : Nat} {fl : Row → List Value} {q : vw_C} (he : ∀ f : Row, cf kb f = .inr (ci, fl f)) (hq : vwCl[ci]? = some q)  (hs : As.reverse ++ .ref (ad kb) :: st = stk) (b : FB q.1 x y bytes nY (some rty) na) (w1 : Cond.methodLink own index x ∈ GW) (hFw : va_Fw q.1 x y s) (hM : ∀ r : κ, o = some r → CJa l D tys n1 (fun j => ad (b0 + j)) cf1 Z y bytes nY rty rm (.ref (ad kb) :: As) (fun j => mem (b0 + j)) (vr r)) (hna : As.length = na) (hR : rm.frames + 1 ≤ R.frames ∧ 8 + (nY + 11) + rm.locals ≤ R.locals) (hst : (st.map fun v => v.category).sum ≤ 8) (hcs : cells + rm.cells ≤ R.cells ∧ slots + rm.slots ≤ R.slots) (hdg : decode cc pc = .ok (.invokeinterface index count, 5)) (pc2 : Nat) (hp : pc + 5 = pc2) (kk : ∀ r : κ, F r = some res → XX D n ad cf p l e R s m args below meth c nL (cells + rm.cells) (slots + rm.slots) Q mem ex pc2 lv (.ref (vr r) :: st)) : XX D n ad cf p l e R s m args below meth c nL cells slots Q mem ex pc lv stk := by
  subst hp
  subst hs
  obtain ⟨r, ho, hF⟩ := bd_some hF
  intro H locs ls hP hD hS hl
  have hM := hM r ho H.size
  have hbl : FrameBlind (va_Pc (.ref (ad kb) :: As) (PW D tys n1 (fun j => ad (b0 + j)) cf1 Z (fun j => mem (b0 + j)) H.size)) := PW_bl hZ
  have hpre : ∀ U : State, U.heap = H → s.WarmedH U.vm → va_Pc (.ref (ad kb) :: As) (PW D tys n1 (fun j => ad (b0 + j)) cf1 Z (fun j => mem (b0 + j)) H.size) ((.ref (ad kb) :: As) : List Value).toArray U := fun U hU hW => ⟨rfl, PXe_of hb hcf X hZ hP hS hU hW⟩
  obtain ⟨w4, w2, w3, w5, hd⟩ := b
  have hg : GoodIn GW (va_wsF own index q.1 x y (Cond.code y bytes nY (some rty) :: GW)) := fun w hw => by
    have hg0 : GoodIn GW (Cond.code y bytes nY (some rty) :: GW) := gw_cons w5
    rcases List.mem_append.mp hw with h | h
    · simp only [List.mem_cons, List.not_mem_nil, or_false] at h
      rcases h with h | h | h | h
      · rw [h]; exact ⟨w1, gw_good w1⟩
      · rw [h]; exact ⟨w4, gw_good w4⟩
      · rw [h]; exact ⟨w2, gw_good w2⟩
      · rw [h]; exact ⟨w3, gw_good w3⟩
    · exact hg0 w h
  have cw : va_CI R s args own q.1 index x y bytes nY (some rty) (Cond.code y bytes nY (some rty) :: GW) rm rm.cells rm.slots na := va_cwF na X.1.2.2.2.2 hg rfl rfl rfl hFw hd hR
  have hrv : ∃ cellB : Cell, H[ad kb]? = some cellB ∧ cellB.vm.isStatics = false ∧ s.vm.findClass q.1 = some cellB.cls := va_recv X.2.2.2.1 hP hq (q0 := kb) (a := ad kb) (by rw [wx_at hk, he])
  have hr := va_runF (rest := st) (X.2.2.2.1.1 ci q hq).2 X.1 hM cw ⟨hbl, hrv, hpre⟩ (g := F0 m pc ls (As.reverse ++ .ref (ad kb) :: st)) (H := H) (locs := locs) (cells := cells) (slots := slots) (below := below) (e := e) (meth := meth) rfl hna hl.1 rfl (lv_room hst) hdg hcs
  refine va_callFr hr hS (fun q _ h => AA_le hS.1 q (AA_emb hb q h)) (fun q h => AA_le hS.1 q (AA_emb hb q h)) (fun u ra t H1 locs1 ht hvm hw hB hz1 hk1 hS1 => ?_)
  obtain ⟨rfl, hB⟩ := hB
  rw [ht] at hB
  obtain ⟨hP1, hD1⟩ := wx_in hb hcf X hP hD hB hk1
  rw [mset_id] at hP1 hD1
  exact kk r hF H1 locs1 ls hP1 hD1 hS1 hl
theorem j_callNv {ρ κ : Type} {o : Option κ} {F : κ → Option ρ} {res : ρ} (vm : κ → Mem) {n1 b0 : Nat} {cf1 : Nat → Row → va_E} (hb : b0 + n1 ≤ n) (hcf : ∀ j f, j < n1 → cf (b0 + j) f = cf1 j f) (X : CX D tys n ad Z p s m args meth c cc nL own ret) (hZ : ZOK Z) {y : MethodName} {bytes : ByteArray} {nY index na : Nat} {rm : Room} (hF : bd o F = some res) {stk : List Value} (As : List Value) (kb : Nat) (hk : kb < n) {ci : Nat} {fl : Row → List Value} {q : vw_C} (he : ∀ f : Row, cf kb f = .inr (ci, fl f)) (hq : vwCl[ci]? = some q) (hqy : y.cls = q.1) (hs : As.reverse ++ .ref (ad kb) :: st = stk) (b : MB y bytes nY (none) na) {host : String} (w1 : va_Nw (.methodLinkNest own index y host) s) (hM : ∀ r : κ, o = some r → CJv l D tys n1 (fun j => ad (b0 + j)) cf1 Z y bytes nY rm (.ref (ad kb) :: As) (fun j => mem (b0 + j)) (vm r)) (hna : As.length = na) (hR : rm.frames + 1 ≤ R.frames ∧ 8 + (nY + 11) + rm.locals ≤ R.locals) (hst : (st.map fun v => v.category).sum ≤ 8) (hcs : cells + rm.cells ≤ R.cells ∧ slots + rm.slots ≤ R.slots) (hdg : decode cc pc = .ok (.invokevirtual index, 3)) (pc2 : Nat) (hp : pc + 3 = pc2) (kk : ∀ r : κ, F r = some res → XX D n ad cf p l e R s m args below meth c nL (cells + rm.cells) (slots + rm.slots) Q (mset b0 n1 mem (vm r)) ex pc2 lv st) : XX D n ad cf p l e R s m args below meth c nL cells slots Q mem ex pc lv stk := by
  subst hp
  subst hs
  obtain ⟨r, ho, hF⟩ := bd_some hF
  intro H locs ls hP hD hS hl
  have hM := hM r ho H.size
  have hbl : FrameBlind (va_Pc (.ref (ad kb) :: As) (PW D tys n1 (fun j => ad (b0 + j)) cf1 Z (fun j => mem (b0 + j)) H.size)) := PW_bl hZ
  have hpre : ∀ U : State, U.heap = H → s.WarmedH U.vm → va_Pc (.ref (ad kb) :: As) (PW D tys n1 (fun j => ad (b0 + j)) cf1 Z (fun j => mem (b0 + j)) H.size) ((.ref (ad kb) :: As) : List Value).toArray U := fun U hU hW => ⟨rfl, PXe_of hb hcf X hZ hP hS hU hW⟩
  obtain ⟨w2, w4, w3, w5, hd⟩ := b
  have hg : GoodIn GW (Cond.code y bytes nY (none) :: GW) := gw_cons w5
  have cw : va_CN R s args own index y host bytes nY none (Cond.code y bytes nY none :: GW) rm rm.cells rm.slots na ∧ (Cond.instanceMethod y).before args s = true ∧ (Cond.selects y.cls y y).before args s = true := ⟨va_cnB na X.1.2.2.2.2 hg rfl rfl rfl w1 (X.1.2.2.2.2 _ w3) hd hR, X.1.2.2.2.2 _ w2, X.1.2.2.2.2 _ w4⟩
  have hrv : ∃ cellB : Cell, H[ad kb]? = some cellB ∧ cellB.vm.isStatics = false ∧ s.vm.findClass y.cls = some cellB.cls := by
    rw [hqy]
    exact va_recv X.2.2.2.1 hP hq (q0 := kb) (a := ad kb) (by rw [wx_at hk, he])
  have hr := va_runVN (rest := st) X.1 hM cw ⟨hbl, hrv, hpre⟩ (g := F0 m pc ls (As.reverse ++ .ref (ad kb) :: st)) (H := H) (locs := locs) (cells := cells) (slots := slots) (below := below) (e := e) (meth := meth) rfl hna hl.1 rfl (lv_room hst) hdg hcs
  refine va_callv hr hS (fun q _ h => AA_le hS.1 q (AA_emb hb q h)) (fun q h => AA_le hS.1 q (AA_emb hb q h)) (fun u t H1 locs1 ht hvm hw hB hz1 hk1 hS1 => ?_)
  rw [ht] at hB
  obtain ⟨hP1, hD1⟩ := wx_in hb hcf X hP hD hB hk1
  exact kk r hF H1 locs1 ls hP1 hD1 hS1 hl
/-- a callee that may throw must not -/
def bdT {ρ : Type} (o : Option TR) (F : Int32 → Mem → Option ρ) : Option ρ := match o with
  | some (0, x, m) => F x m
  | _ => none
theorem bdT_some {ρ : Type} {o : Option TR} {F : Int32 → Mem → Option ρ} {r : ρ} (h : bdT o F = some r) : ∃ x m, o = some (0, x, m) ∧ F x m = some r := by
  unfold bdT at h
  split at h
  · exact ⟨_, _, rfl, h⟩
  · cases h
theorem j_callT {ρ : Type} {o : Option TR} {F : Int32 → Mem → Option ρ} {res : ρ} {rty : FieldType} {n1 b0 : Nat} {cf1 : Nat → Row → va_E} (hb : b0 + n1 ≤ n) (hcf : ∀ j f, j < n1 → cf (b0 + j) f = cf1 j f) (X : CX D tys n ad Z p s m args meth c cc nL own ret) (hZ : ZOK Z) {y : MethodName} {bytes : ByteArray} {nY index na : Nat} {rm : Room} (hF : bdT o F = some res) {stk : List Value} (As : List Value) (kb : Nat) (hk : kb < n) {ci : Nat} {fl : Row → List Value} {q : vw_C} (he : ∀ f : Row, cf kb f = .inr (ci, fl f)) (hq : vwCl[ci]? = some q) (hqy : y.cls = q.1) (hs : As.reverse ++ .ref (ad kb) :: st = stk) (b : MB y bytes nY (some rty) na) (w1 : Cond.methodLink own index y ∈ GW) (hM : ∀ r : TR, o = some r → CT l D tys n1 (fun j => ad (b0 + j)) cf1 Z y bytes nY rty rm (.ref (ad kb) :: As) (fun j => mem (b0 + j)) r) (hrc : rm.cells = 3) (hrs : rm.slots = 18) (hna : As.length = na) (hR : rm.frames + 1 ≤ R.frames ∧ 8 + (nY + 11) + rm.locals ≤ R.locals) (hst : (st.map fun v => v.category).sum ≤ 8) (hcs : cells + 3 ≤ R.cells ∧ slots + 18 ≤ R.slots) (hdg : decode cc pc = .ok (.invokevirtual index, 3)) (pc2 : Nat) (hp : pc + 3 = pc2) (kk : ∀ (x : Int32) (m1 : Mem), F x m1 = some res → XX D n ad cf p l e R s m args below meth c nL (cells + 3) (slots + 18) Q (mset b0 n1 mem m1) ex pc2 lv (.int x :: st)) : XX D n ad cf p l e R s m args below meth c nL cells slots Q mem ex pc lv stk := by
  subst hp
  subst hs
  obtain ⟨x0, m0, ho, hF⟩ := bdT_some hF
  intro H locs ls hP hD hS hl
  have hM := hM _ ho H.size
  have hbl : FrameBlind (va_Pc (.ref (ad kb) :: As) (PW D tys n1 (fun j => ad (b0 + j)) cf1 Z (fun j => mem (b0 + j)) H.size)) := PW_bl hZ
  have hpre : ∀ U : State, U.heap = H → s.WarmedH U.vm → va_Pc (.ref (ad kb) :: As) (PW D tys n1 (fun j => ad (b0 + j)) cf1 Z (fun j => mem (b0 + j)) H.size) ((.ref (ad kb) :: As) : List Value).toArray U := fun U hU hW => ⟨rfl, PXe_of hb hcf X hZ hP hS hU hW⟩
  obtain ⟨w2, w4, w3, w5, hd⟩ := b
  have hg : GoodIn GW (Cond.code y bytes nY (some rty) :: GW) := gw_cons w5
  have cw : CallW R s args own y.cls index y bytes nY (some rty) (Cond.code y bytes nY (some rty) :: GW) rm 3 18 na := ⟨callB_of na X.1.2.2.2.2 hg rfl hrc hrs (X.1.2.2.2.2 _ w3) (X.1.2.2.2.2 _ w1) hd hR, X.1.2.2.2.2 _ w2, X.1.2.2.2.2 _ w4⟩
  have hrv : ∃ cellB : Cell, H[ad kb]? = some cellB ∧ cellB.vm.isStatics = false ∧ s.vm.findClass y.cls = some cellB.cls := by
    rw [hqy]
    exact va_recv X.2.2.2.1 hP hq (q0 := kb) (a := ad kb) (by rw [wx_at hk, he])
  have hr := vx_runV (rest := st) X.1 hM cw ⟨hbl, hrv, hpre⟩ (g := F0 m pc ls (As.reverse ++ .ref (ad kb) :: st)) (H := H) (locs := locs) (cells := cells) (slots := slots) (below := below) (e := e) (meth := meth) rfl hna hl.1 rfl (lv_room hst) hdg hcs
  refine vx_calli hr hS (fun q _ h => AA_le hS.1 q (AA_emb hb q h)) (fun q h => AA_le hS.1 q (AA_emb hb q h)) (fun q _ h => AA_le hS.1 q (AA_emb hb q h)) (fun E ce q9 u t H1 locs1 ht hvm hu hB hz1 hk1 hS1 hc9 hv9 hf9 => ?_) (fun x u t H1 locs1 ht hvm hw hB hz1 hk1 hS1 => ?_)
  · exact absurd hB.1.1 (Nat.not_succ_le_zero 0)
  · obtain ⟨⟨-, h1⟩, -⟩ := hw
    have h1 : x = x0 := h1
    subst h1
    rw [ht] at hB
    obtain ⟨hP1, hD1⟩ := wx_in hb hcf X hP hD hB hk1
    exact kk x m0 hF H1 locs1 ls hP1 hD1 hS1 hl
end JNT
section JNC
/-- the law's world: the class's places, then its own race's -/
def cJ (ca ad : Nat → Nat) (np nb eD tS sB : Nat) (k : Nat) (f : Row) : va_E := if k < 255 then cC ca ad k f else cWd ca (fun j => ad (255 + j)) np nb eD tS sB (k - 255) f
variable {ca ad : Nat → Nat} {np nb eD tS sB : Nat}
theorem cJ_C (j : Nat) (f : Row) (h : j < 255) : cJ ca ad np nb eD tS sB (0 + j) f = cC ca ad j f := by
  unfold cJ
  rw [Nat.zero_add, if_pos h]
theorem cJ_W (j : Nat) (f : Row) : cJ ca ad np nb eD tS sB (255 + j) f = cWd ca (fun j => ad (255 + j)) np nb eD tS sB j f := by
  unfold cJ
  rw [if_neg (by omega), show 255 + j - 255 = j by omega]
theorem hb_C {np nb : Nat} : 0 + 255 ≤ 255 + nW np nb := by omega
theorem hb_W {np nb : Nat} : 255 + nW np nb ≤ 255 + nW np nb := Nat.le_refl _
theorem lj {np nb k : Nat} (h : k < nW np nb) : 255 + k < 255 + nW np nb := Nat.add_lt_add_left h 255
theorem lj_c {np nb : Nat} : 0 < 255 + nW np nb := by omega
theorem kj_c : ∀ f : Row, cJ ca ad np nb eD tS sB 0 f = .inr (11, [.ref (ad 2), .ref (ad 7), .ref (ad 10), .ref (ad 17), .ref (ad (pWays 1)), .ref (ad 28), .ref (ad (pRace 0)), .ref (ad (pRace 1)), .ref (ad (pRace 2)), .ref (ad (pRace 3)), .int (f.1 10), .ref (ad 33), .ref (ad 1), .int (f.1 13)]) := fun f => by
  have := cJ_C (ca := ca) (ad := ad) (np := np) (nb := nb) (eD := eD) (tS := tS) (sB := sB) 0 f (by decide)
  rw [Nat.zero_add] at this
  exact this.trans (ko_0 f)
theorem kj_0 (f : Row) : cJ ca ad np nb eD tS sB (255 + 0) f = .inr (12, [.int (f.1 0), .int (f.1 1), .int (f.1 2), .int (f.1 3), .int (f.1 4), .ref (ad (255 + 1)), .ref (ad (255 + 2)), .ref (ad (255 + 3)), .ref tS, .ref sB, .int (f.1 10)]) := (cJ_W 0 f).trans (kw_0 f)
theorem kj_1 (f : Row) : cJ ca ad np nb eD tS sB (255 + 1) f = .inr (16, [.int (f.1 0), qW eD np (ad (255 + 12)), .int (Int32.ofNat np)]) := (cJ_W 1 f).trans (kw_1 f)
theorem kj_3 (f : Row) : cJ ca ad np nb eD tS sB (255 + 3) f = .inl (ca 6, 8, .inr (.inr (.inr (.inr (fun i => if i < 8 then some (ad (255 + (4 + i))) else none))))) := (cJ_W 3 f).trans (kw_3 f)
theorem kj_r {i : Nat} (hi : i < 8) (f : Row) : cJ ca ad np nb eD tS sB (255 + (4 + i)) f = .inl (ca 0, 8, .inl f.1) := (cJ_W _ f).trans (kw_r hi f)
theorem kj_p {i : Nat} (hi : i < np) (f : Row) : cJ ca ad np nb eD tS sB (255 + (13 + i)) f = .inl (ca 0, 7, .inl f.1) := (cJ_W _ f).trans (kw_p hi f)
theorem ej_rows {i : Nat} (hi : i < 8) : (fun i => if i < 8 then some (ad (255 + (4 + i))) else none) i = some (ad (255 + (4 + i))) := if_pos hi
variable {D : va_G} {Z : (Nat → Prop) → State → Heap → Prop} {p : Program} {l : Launch} {e : Env} {R : Room} {s : State} {m : MethodId} {args : Array Value} {below : List Frame} {meth : Method} {c : Code} {cc : ByteArray} {nL : Nat} {own : String} {ret : Option FieldType} {cells slots : Nat} {Q : State → Prop} {mem : Mem} {ex : va_W} {pc : Nat} {lv : List (Nat × Value)} {st : List Value} {tA tU L : Nat} {xs : Nat → Int32}
theorem xj_size {index : Nat} (X : CX D (tyL ca) (255 + nW np nb) ad Z p s m args meth c cc nL own ret) (hZ : ZOK Z) (hW : ZWO Z tA tU sB L xs) (w1 : Cond.methodLink own index yI_size ∈ GW) (hR : 1 ≤ R.frames ∧ 20 ≤ R.locals) (hst : (st.map fun v => v.category).sum ≤ 8) (hcs : cells ≤ R.cells ∧ slots ≤ R.slots) (hdg : decode cc pc = .ok (.invokeinterface index 1, 5)) (pc2 : Nat) (hp : pc + 5 = pc2) (kk : XX D (255 + nW np nb) ad (cJ ca ad np nb eD tS sB) p l e R s m args below meth c nL cells slots Q mem ex pc2 lv (.int (Int32.ofNat np) :: st)) : XX D (255 + nW np nb) ad (cJ ca ad np nb eD tS sB) p l e R s m args below meth c nL cells slots Q mem ex pc lv (.ref (ad (255 + 1)) :: st) :=
  j_callFi (rm := rmA0) (o := some ()) (F := fun _ => some ()) (res := ()) (fun _ => Int32.ofNat np) (fun _ => (fun j => mem (255 + j))) hb_W (fun j f _ => cJ_W j f) X hZ rfl [] (255 + 1) (lj nw_1) kj_1 (q := ("java/util/ArrayList", TJx4a65c, 3)) rfl rfl kFB_size w1 ((hW _ _ _ X.2.2.2.2.2).2.2.2.2.1 ("java/util/ArrayList", yI_size, yJx4a65c_size_8abf5) (List.mem_of_getElem? (i := 0) rfl)) (fun _ _ => cw_size1) rfl hR hst hcs hdg pc2 hp (fun _ _ => by rw [mset_id]; exact kk)
theorem xj_get {index ic : Nat} {x : Int32} (X : CX D (tyL ca) (255 + nW np nb) ad Z p s m args meth c cc nL own ret) (hZ : ZOK Z) (hW : ZWO Z tA tU sB L xs) (h4 : np ≤ 4) (hx : vp_in x np) (w1 : Cond.methodLink own index yI_get ∈ GW) (w2 : Cond.classLink own ic "[I" ∈ GW) (hR : 3 ≤ R.frames ∧ 64 ≤ R.locals) (hst : (st.map fun v => v.category).sum ≤ 8) (hcs : cells ≤ R.cells ∧ slots ≤ R.slots) (hdg : decode cc pc = .ok (.invokeinterface index 2, 5)) (pc2 : Nat) (hp : pc + 5 = pc2) (hdc : decode cc pc2 = .ok (.checkcast ic, 3)) (pc3 : Nat) (hp3 : pc2 + 3 = pc3) (kk : XX D (255 + nW np nb) ad (cJ ca ad np nb eD tS sB) p l e R s m args below meth c nL cells slots Q mem ex pc3 lv (.ref (ad (255 + (13 + x.toNatClampNeg))) :: st)) : XX D (255 + nW np nb) ad (cJ ca ad np nb eD tS sB) p l e R s m args below meth c nL cells slots Q mem ex pc lv (.int x :: .ref (ad (255 + 1)) :: st) := by
  refine j_callFa (rm := rmA2) (o := some ()) (F := fun _ => some ()) (res := ()) (fun _ => ad (255 + (13 + x.toNatClampNeg))) hb_W (fun j f _ => cJ_W j f) X hZ rfl [.int x] (255 + 1) (lj nw_1) kj_1 (q := ("java/util/ArrayList", TJx4a65c, 3)) rfl rfl kFB_get w1 ((hW _ _ _ X.2.2.2.2.2).2.2.2.2.1 ("java/util/ArrayList", yI_get, yJx4a65c_get_915e3) (List.mem_of_getElem? (i := 1) rfl)) (fun _ _ => cw_get1 (ad := fun j => ad (255 + j)) hZ h4 hx) rfl hR hst hcs hdg pc2 hp (fun _ _ => ?_)
  exact x_castI X (255 + (13 + x.toNatClampNeg)) (lj (nw_p (vp_lt hx))) (x := (7, .inl (fun _ => 0))) (fun f => ⟨_, kj_p (vp_lt hx) f⟩) (t0 := 0) rfl rfl w2 hdc pc3 hp3 kk
end JNC
