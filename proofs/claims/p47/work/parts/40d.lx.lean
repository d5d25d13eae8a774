section LX
/-- what a wrapper does behind the call of a method that may throw -/
def bdc {ρ : Type} (o : Option TR) (F : Int32 → Mem → Option ρ) (G : Nat → Mem → Option ρ) : Option ρ := match o with
  | none => none
  | some (0, x, m) => F x m
  | some (k + 1, _, m) => G (k + 1) m
variable {D : va_G} {tys : List (ClassId × FieldType)} {n : Nat} {ad : Nat → Nat} {cf : Nat → Row → va_E} {Z : (Nat → Prop) → State → Heap → Prop} {p : Program} {l : Launch} {e : Env} {R : Room} {s : State} {m : MethodId} {args : Array Value} {below : List Frame} {meth : Method} {c : Code} {cc : ByteArray} {nL : Nat} {own : String} {ret : Option FieldType} {cells slots : Nat} {Q : State → Prop} {mem : Mem} {ex : va_W} {pc : Nat} {lv : List (Nat × Value)} {st : List Value}
def CJw (l : Launch) (D : va_G) (tys : List (ClassId × FieldType)) (n : Nat) (ad : Nat → Nat) (cf : Nat → Row → va_E) (Z : (Nat → Prop) → State → Heap → Prop) (y : MethodName) (cc : ByteArray) (nL : Nat) (ret : FieldType) (hh : List (Nat × Nat × Nat × Nat)) (rm : Room) (av : List Value) (mem : Mem) (x : Int32) (mem' : Mem) : Prop :=
  ∀ sz : Nat, Met l y (Cond.codeWith y cc nL (some ret) hh :: GW) rm (va_Pc av (PW D tys n ad cf Z mem sz)) (va_Qi (fun (r : Int32) (u : Unit) => r = x ∧ u = ()) (fun _ t => va_P D vwCl (wf n ad cf mem') t.heap) (AA n ad sz)) rm.cells rm.slots (AA n ad sz)
theorem xstart_w {y : MethodName} {rt : FieldType} {hh : List (Nat × Nat × Nat × Nat)} {rm : Room} {av : List Value} {x : Int32} {mem' : Mem} (ho : y.cls = own) (hy : plainName y.cls = true) (hn : (lg_sl av).length ≤ nL)
    (body : ∀ p e s m args below meth c Q, Q = MQ below (va_Qi (fun (r : Int32) (u : Unit) => r = x ∧ u = ()) (fun _ t => va_P D vwCl (wf n ad cf mem') t.heap) (AA n ad s.heap.size)) args s rm.cells rm.slots (AA n ad s.heap.size) → c.exceptionTable.toList = tableOf hh → CX D tys n ad Z p s m args meth c cc nL own (some rt) → XX D n ad cf p l e rm s m args below meth c nL 0 0 Q mem [] 0 (lv_args 0 av) []) : CJw l D tys n ad cf Z y cc nL rt hh rm av mem x mem' := by
  subst ho
  intro sz
  refine va_MetW (cc := cc) (maxL := nL) (ret := some rt) (hh := hh) hy rfl ?_
  intro p e s m args below meth c s₁ B hml hv
  obtain ⟨rfl, hsz, hP, hK, hI, hZ⟩ := hv
  subst hsz
  have hts := atoms_spec (ws := Cond.codeWith y cc nL (some rt) hh :: GW) B.pre
  rw [lg_entry_eq]
  exact body p e s m _ below meth c _ rfl (vx_table (x := y) B (hts _ List.mem_cons_self)) ⟨⟨B.exec, B.bytes, hml, findClass_of_methodNamed B.named, fun w hw => hts w (List.mem_cons_of_mem _ hw)⟩, B.returns, B.notSynchronized, hK, hI, hZ⟩ s.heap [] _ (by rw [List.append_nil]; exact hP) (by rw [List.append_nil]; exact wf_D hI) va_S.rf (lv_entry av hn)
/-- a method of the class's that may throw, caught here -/
theorem j_callX {ca : Nat → Nat} {ρ : Type} {res : ρ} {o : Option TR} {F : Int32 → Mem → Option ρ} {G : Nat → Mem → Option ρ} {hh : List (Nat × Nat × Nat × Nat)} {y : MethodName} {bytes : ByteArray} {nY index na : Nat} {rty : FieldType} {rm : Room} (hb : 0 + 255 ≤ n) (hcf : ∀ j f, j < 255 → cf (0 + j) f = cC ca ad j f) (X : CX D (tyL ca) n ad Z p s m args meth c cc nL own ret) (hZ : ZOK Z) (hX : ZX Z) (htb : c.exceptionTable.toList = tableOf hh) (hF : bdc o F G = some res) {stk : List Value} (As : List Value) (hqy : y.cls = "PawnRace") (hs : As.reverse ++ .ref (ad 0) :: st = stk) (b : MB y bytes nY (some rty) na) (w1 : Cond.methodLink own index y ∈ GW)
    (hM : ∀ r : TR, o = some r → CT l D (tyL ca) 255 ad (cC ca ad) Z y bytes nY rty rm (.ref (ad 0) :: As) mem r) (hna : As.length = na) (hrc : rm.cells = 3) (hrs : rm.slots = 18) (hR : rm.frames + 1 ≤ R.frames ∧ 8 + (nY + 11) + rm.locals ≤ R.locals) (hst : (st.map fun v => v.category).sum ≤ 8) (hcs : cells + 3 ≤ R.cells ∧ slots + 18 ≤ R.slots) (hdg : decode cc pc = .ok (.invokevirtual index, 3)) (pc2 : Nat) (hp : pc + 3 = pc2)
    (hcat : ∀ (k : Nat) (m' : Mem), 1 ≤ k → k ≤ 3 → G k m' = some res → ∃ (x : ExceptionTableEntry) (suf : List ExceptionTableEntry), tableOf hh = x :: suf ∧ covers x pc = true ∧ x.catchType ≠ 0 ∧ Cond.classLink own x.catchType (exN k) ∈ GW ∧ ∀ a : Nat, XX D n ad cf p l e R s m args below meth c nL (cells + 3) (slots + 18) Q (mset 0 255 mem m') ex x.handlerPc lv [.ref a])
    (kk : ∀ (x : Int32) (m' : Mem), F x m' = some res → XX D n ad cf p l e R s m args below meth c nL (cells + 3) (slots + 18) Q (mset 0 255 mem m') ex pc2 lv (.int x :: st)) : XX D n ad cf p l e R s m args below meth c nL cells slots Q mem ex pc lv stk := by
  subst hp
  subst hs
  obtain ⟨r, ho⟩ : ∃ r, o = some r := by
    cases o with
    | none => cases hF
    | some r => exact ⟨r, rfl⟩
  intro H locs ls hP hD hS hl
  have hM := hM r ho H.size
  have hbl : FrameBlind (va_Pc (.ref (ad 0) :: As) (PW D (tyL ca) 255 ad (cC ca ad) Z mem H.size)) := PW_bl hZ
  have hpre : ∀ U : State, U.heap = H → s.WarmedH U.vm → va_Pc (.ref (ad 0) :: As) (PW D (tyL ca) 255 ad (cC ca ad) Z mem H.size) ((.ref (ad 0) :: As) : List Value).toArray U := fun U hU hW => ⟨rfl, by
    have := PXe_of (b0 := 0) (n1 := 255) (cf1 := cC ca ad) hb hcf X hZ hP hS hU hW
    rw [ad_0, mem_0] at this
    exact this⟩
  obtain ⟨w2, w4, w3, w5, hd⟩ := b
  have hg : GoodIn GW (Cond.code y bytes nY (some rty) :: GW) := gw_cons w5
  have cw : CallW R s args own y.cls index y bytes nY (some rty) (Cond.code y bytes nY (some rty) :: GW) rm 3 18 na := ⟨callB_of na X.1.2.2.2.2 hg rfl hrc hrs (X.1.2.2.2.2 _ w3) (X.1.2.2.2.2 _ w1) hd hR, X.1.2.2.2.2 _ w2, X.1.2.2.2.2 _ w4⟩
  have hrv : ∃ cellB : Cell, H[ad 0]? = some cellB ∧ cellB.vm.isStatics = false ∧ s.vm.findClass y.cls = some cellB.cls := by
    rw [hqy]
    have h0 : (wf n ad cf mem ++ ex)[0]? = some (ad 0, cf 0 (mem 0)) := wx_at (by omega)
    have h1 : cf 0 (mem 0) = cC ca ad 0 (mem 0) := by
      have := hcf 0 (mem 0) (by decide)
      rw [Nat.zero_add] at this
      exact this
    rw [h1] at h0
    exact va_recv (q := ("PawnRace", TX11, 14)) (ci := 11) X.2.2.2.1 hP rfl (q0 := 0) (a := ad 0) (h0.trans rfl)
  have hsub : ∀ q, AA 255 ad H.size q → AA n ad s.heap.size q := fun q h => h.elim (fun ⟨k, h1, h2⟩ => Or.inl ⟨k, by omega, h2⟩) (fun h => Or.inr (Nat.le_trans hS.1 h))
  have hback : ∀ (m' : Mem) (H1 : Heap), va_P D vwCl (wf 255 ad (cC ca ad) m') H1 → (∀ q : Nat, q < H.size → ¬ AA 255 ad H.size q → H1[q]? = H[q]?) → va_P D vwCl (wf n ad cf (mset 0 255 mem m') ++ ex) H1 ∧ va_D (AA n ad s.heap.size) (wf n ad cf (mset 0 255 mem m') ++ ex) := fun m' H1 h1 h2 =>
    wx_in (b0 := 0) (n1 := 255) (cf1 := cC ca ad) hb hcf X hP hD (by rw [ad_0]; exact h1) (by rw [ad_0]; exact h2)
  have hr := vx_runV (rest := st) X.1 hM cw ⟨hbl, hrv, hpre⟩ (g := F0 m pc ls (As.reverse ++ .ref (ad 0) :: st)) (H := H) (locs := locs) (cells := cells) (slots := slots) (below := below) (e := e) (meth := meth) rfl hna hl.1 rfl (lv_room hst) hdg hcs
  refine vx_calli hr hS (fun q _ h => hsub q h) (fun q h => hsub q h) (fun q _ h => hsub q h) (fun E ce q9 u t H1 locs1 ht hvm hu hB hz1 hk1 hS1 hc9 hv9 hf9 => ?_) (fun x u t H1 locs1 ht hvm hw hB hz1 hk1 hS1 => ?_)
  · obtain ⟨⟨hb1, hb2⟩, hE, hP1⟩ := hB
    rw [ht] at hP1
    obtain ⟨k, x, m'⟩ := r
    have hG : G k m' = some res := by
      rw [ho] at hF
      cases k with
      | zero => exact absurd hb1 (Nat.not_succ_le_zero 0)
      | succ k => exact hF
    obtain ⟨x, suf, e1, e3, e4, e5, e6⟩ := hcat k m' hb1 hb2 hG
    obtain ⟨-, -, zC, -, -, -⟩ := hX _ _ _ X.2.2.2.2.2
    have hE : E = exN k := hE
    subst hE
    obtain ⟨hP2, hD2⟩ := hback m' H1 hP1 hk1
    exact vx_catch X.1.2.2.2.1 [] x suf (htb.trans e1) (fun z hz => absurd hz List.not_mem_nil) e3 e4 (X.1.2.2.2.2 _ e5) ((zC k ⟨hb1, hb2⟩).use rfl) hc9 hv9 hf9 (e6 q9 H1 locs1 ls hP2 hD2 hS1 hl)
  · obtain ⟨⟨h0, h1⟩, -⟩ := hw
    obtain ⟨k, x', m'⟩ := r
    have h0 : k = 0 := h0
    have h1 : x = x' := h1
    subst h0; subst h1
    rw [ho] at hF
    rw [ht] at hB
    obtain ⟨hP2, hD2⟩ := hback m' H1 hB hk1
    exact kk x m' hF H1 locs1 ls hP2 hD2 hS1 hl
theorem x_callSw {ρ κ : Type} {o : Option κ} {F : κ → Option ρ} {res : ρ} {rty : FieldType} {hh : List (Nat × Nat × Nat × Nat)} (vx : κ → Int32) (vm : κ → Mem) (X : CX D tys n ad Z p s m args meth c cc nL own ret) (hZ : ZOK Z) {y : MethodName} {bytes : ByteArray} {nY index na : Nat} {rm : Room} (hF : bd o F = some res) {stk : List Value} (As : List Value) (hs : As.reverse ++ st = stk) (w2 : Cond.static y ∈ GW) (w3 : Cond.initialized y.cls ∈ GW) (w5 : Cond.codeWith y bytes nY (some rty) hh ∈ GW) (hd : y.cls ≠ "java/lang/invoke/MethodHandle" ∧ y.cls ≠ "java/lang/invoke/VarHandle" ∧ (parseMethodDescriptor y.desc).map (fun d => d.parameters.length) = some na) (w1 : Cond.methodLink own index y ∈ GW) (hM : ∀ r : κ, o = some r → CJw l D tys n ad cf Z y bytes nY rty hh rm As mem (vx r) (vm r)) (hna : As.length = na) (hR : rm.frames + 1 ≤ R.frames ∧ 8 + (nY + 11) + rm.locals ≤ R.locals) (hst : (st.map fun v => v.category).sum ≤ 8) (hcs : cells + rm.cells ≤ R.cells ∧ slots + rm.slots ≤ R.slots) (hdg : decode cc pc = .ok (.invokestatic index, 3)) (pc2 : Nat) (hp : pc + 3 = pc2) (kk : ∀ r : κ, F r = some res → XX D n ad cf p l e R s m args below meth c nL (cells + rm.cells) (slots + rm.slots) Q (vm r) ex pc2 lv (.int (vx r) :: st)) : XX D n ad cf p l e R s m args below meth c nL cells slots Q mem ex pc lv stk := by
  subst hp
  subst hs
  obtain ⟨r, ho, hF⟩ := bd_some hF
  intro H locs ls hP hD hS hl
  have hM := hM r ho H.size
  have hbl : FrameBlind (va_Pc As (PW D tys n ad cf Z mem H.size)) := PW_bl hZ
  have hpre : ∀ U : State, U.heap = H → s.WarmedH U.vm → va_Pc As (PW D tys n ad cf Z mem H.size) (As : List Value).toArray U := fun U hU hW => ⟨rfl, PX_of X hZ hP hS hU hW⟩
  have hG : GoodIn GW (va_wsS own index y (Cond.codeWith y bytes nY (some rty) hh :: GW)) := fun w hw => by
    unfold va_wsS at hw
    rcases List.mem_append.mp hw with h | h
    · have h9 : w ∈ GW := by
        simp only [List.mem_cons, List.not_mem_nil, or_false] at h
        rcases h with rfl | rfl | rfl <;> assumption
      exact ⟨h9, gw_good h9⟩
    · exact gw_cons w5 w h
  have cw : vx_CSW R s args own index y bytes nY (some rty) hh (Cond.codeWith y bytes nY (some rty) hh :: GW) rm rm.cells rm.slots na := vx_cwSW na X.1.2.2.2.2 hG rfl rfl rfl hd hR
  have hr := vx_runSW (rest := st) X.1 hM cw ⟨hbl, hpre⟩ (g := F0 m pc ls (As.reverse ++ st)) (H := H) (locs := locs) (cells := cells) (slots := slots) (below := below) (e := e) (meth := meth) rfl hna hl.1 rfl (lv_room hst) hdg hcs
  refine va_calli hr hS (fun q _ h => AA_le hS.1 q h) (fun q h => AA_le hS.1 q h) (fun x u t H1 locs1 ht hvm hw hB hz1 hk1 hS1 => ?_)
  obtain ⟨rfl, -⟩ := hw
  rw [ht] at hB
  obtain ⟨hP1, hD1⟩ := wx_fr hP hD hB hk1
  exact kk r hF H1 locs1 ls hP1 hD1 hS1 hl
end LX
