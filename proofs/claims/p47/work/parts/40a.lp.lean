section LP
variable {D : va_G} {tys : List (ClassId × FieldType)} {n : Nat} {ad : Nat → Nat} {cf : Nat → Row → va_E} {Z : (Nat → Prop) → State → Heap → Prop} {mem : Mem}
def KL_cell (L : Nat) (xs : Nat → Int32) (fu : Nat) (k : Int32) : Option Int32 := (if k < Int32.ofNat L then gi k L (some (xs (Int32.toNatClampNeg k))) else some ((1664525 * k) + 15552))
set_option maxRecDepth 100000 in
theorem cl_cell (l : Launch) {tA tU sB L : Nat} {xs : Nat → Int32} (hZ : ZOK Z) (hW : ZWO Z tA tU sB L xs) (fu : Nat) (k res : Int32) (hF : KL_cell L xs fu k = some res) : CJ l D tys n ad cf Z yL_cell cL_cell 2 .int rmA0 [.ref sB, .int k] mem res mem := by
  refine xstart_i (own := RL) rfl (by decide) (Nat.le_of_ble_eq_true rfl) ?_
  intro p e s m args below meth c Q hQ X
  rw [KL_cell] at hF
  refine x_iload_n X 1 dL_cell_0 rfl rfl 1 rfl ?_
  refine x_aload_n X 0 dL_cell_1 rfl rfl 2 rfl ?_
  refine x_scn X hW dL_cell_2 3 rfl ?_
  refine x_icmp_ge X hF 12 6 dL_cell_3 (by decide) rfl (fun hF => ?_) (fun hF => ?_)
  · refine x_aload_n X 0 dL_cell_6 rfl rfl 7 rfl ?_
    refine x_iload_n X 1 dL_cell_7 rfl rfl 8 rfl ?_
    refine x_gi hF (fun h hF => ?_)
    refine x_scl X hW h dL_cell_8 9 rfl ?_
    refine x_goto X 20 dL_cell_9 (by decide) ?_
    exact x_iret X hQ (o_inj hF) rfl rfl (Nat.le_refl _) (Nat.le_refl _) dL_cell_20
  · refine x_ldc X 1664525 kK_L_7 dL_cell_12 14 rfl ?_
    refine x_iload_n X 1 dL_cell_14 rfl rfl 15 rfl ?_
    refine x_imul X dL_cell_15 16 rfl ?_
    refine x_sipush X 15552 dL_cell_16 rfl 19 rfl ?_
    refine x_iadd X dL_cell_19 20 rfl ?_
    exact x_iret X hQ (o_inj hF) rfl rfl (Nat.le_refl _) (Nat.le_refl _) dL_cell_20
def KL_pick (L : Nat) (xs : Nat → Int32) (fu : Nat) (k o : Int32) : Option Int32 := bd (KL_cell L xs fu k) (fun x => gz o (some ((x &&& 2147483647) - (x &&& 2147483647) / o * o)))
set_option maxRecDepth 100000 in
theorem cl_pick (l : Launch) {tA tU sB L : Nat} {xs : Nat → Int32} (hZ : ZOK Z) (hW : ZWO Z tA tU sB L xs) (fu : Nat) (k o res : Int32) (hF : KL_pick L xs fu k o = some res) : CJ l D tys n ad cf Z yL_pick cL_pick 3 .int rmA1 [.ref sB, .int k, .int o] mem res mem := by
  refine xstart_i (own := RL) rfl (by decide) (Nat.le_of_ble_eq_true rfl) ?_
  intro p e s m args below meth c Q hQ X
  rw [KL_pick] at hF
  refine x_aload_n X 0 dL_pick_0 rfl rfl 1 rfl ?_
  refine x_iload_n X 1 dL_pick_1 rfl rfl 2 rfl ?_
  refine x_callSi (fun x => x) (fun _ => mem) X hZ hF [.ref sB, .int k] rfl kB_L_cell kL_L_8 (fun res h => cl_cell l hZ hW fu k res h) rfl ⟨Nat.le_of_ble_eq_true rfl, Nat.le_of_ble_eq_true rfl⟩ (Nat.le_of_ble_eq_true rfl) ⟨Nat.le_of_ble_eq_true rfl, Nat.le_of_ble_eq_true rfl⟩ dL_pick_2 5 rfl (fun x hF => ?_)
  refine x_ldc X 2147483647 kK_L_14 dL_pick_5 7 rfl ?_
  refine x_iand X dL_pick_7 8 rfl ?_
  refine x_iload_n X 2 dL_pick_8 rfl rfl 9 rfl ?_
  refine x_gz hF (fun h hF => ?_)
  refine x_irem X h dL_pick_9 10 rfl ?_
  exact x_iret X hQ (o_inj hF) rfl rfl (Nat.le_refl _) (Nat.le_refl _) dL_pick_10
variable {p : Program} {l : Launch} {e : Env} {R : Room} {s : State} {m : MethodId} {args : Array Value} {below : List Frame} {meth : Method} {c : Code} {cc : ByteArray} {nL : Nat} {own : String} {ret : Option FieldType} {cells slots : Nat} {Q : State → Prop} {ex : va_W} {pc : Nat} {lv : List (Nat × Value)} {st : List Value}
def KJ_abs (x : Int32) : Option Int32 := some (if 0 ≤ x then x else 0 - x)
theorem x_mabs {ρ : Type} {F : Int32 → Option ρ} {res : ρ} {x : Int32} {index : Nat} (X : CX D tys n ad Z p s m args meth c cc nL own ret) (hF : bd (KJ_abs x) F = some res) (w1 : Cond.methodLink own index yJ9_abs_0f7a4 ∈ GW) (hR : 1 ≤ R.frames ∧ 21 ≤ R.locals) (hst : (st.map fun v => v.category).sum ≤ 8) (hcs : cells ≤ R.cells ∧ slots ≤ R.slots) (hdg : decode cc pc = .ok (.invokestatic index, 3)) (pc2 : Nat) (hp : pc + 3 = pc2) (kk : ∀ r : Int32, F r = some res → XX D n ad cf p l e R s m args below meth c nL cells slots Q mem ex pc2 lv (.int r :: st)) : XX D n ad cf p l e R s m args below meth c nL cells slots Q mem ex pc lv (.int x :: st) := by
  subst hp
  intro H locs ls hP hD hS hl
  have h2 := X.1.2.2.2.2
  exact va_mabs X.1.1 X.1.2.1 (X.1.2.2.1.trans hl.1.symm) X.1.2.2.2.1 (h2 _ w1) (h2 _ kB_J9_abs_0f7a4.1) (h2 _ kB_J9_abs_0f7a4.2.1) (h2 _ kB_J9_abs_0f7a4.2.2.1) hR.1 (by have := hR.2; omega) hcs.1 hcs.2 hdg (kk _ hF H locs ls hP hD hS hl)
theorem x_acs {tA tU sB L index : Nat} {xs : Nat → Int32} (X : CX D tys n ad Z p s m args meth c cc nL own ret) (hW : ZWO Z tA tU sB L xs) (hlk : Cond.fieldLink own index "PawnRaceLaw" "ACROSS" "[I" ∈ GW) (hdg : decode cc pc = .ok (.getstatic index, 3)) (pc2 : Nat) (hp : pc + 3 = pc2) (kk : XX D n ad cf p l e R s m args below meth c nL cells slots Q mem ex pc2 lv (.ref tA :: st)) : XX D n ad cf p l e R s m args below meth c nL cells slots Q mem ex pc lv st := by
  subst hp
  exact fun H locs ls hP hD hS hl => va_gets X.1.1 X.1.2.1 (hW _ _ _ X.2.2.2.2.2).1.1 hS X.1.2.2.2.1 (X.1.2.2.2.2 _ hlk) (fun _ h => h) hdg (kk H locs ls hP hD hS hl)
theorem x_ups2 {tA tU sB L index : Nat} {xs : Nat → Int32} (X : CX D tys n ad Z p s m args meth c cc nL own ret) (hW : ZWO Z tA tU sB L xs) (hlk : Cond.fieldLink own index "PawnRaceLaw" "UP" "[I" ∈ GW) (hdg : decode cc pc = .ok (.getstatic index, 3)) (pc2 : Nat) (hp : pc + 3 = pc2) (kk : XX D n ad cf p l e R s m args below meth c nL cells slots Q mem ex pc2 lv (.ref tU :: st)) : XX D n ad cf p l e R s m args below meth c nL cells slots Q mem ex pc lv st := by
  subst hp
  exact fun H locs ls hP hD hS hl => va_gets X.1.1 X.1.2.1 (hW _ _ _ X.2.2.2.2.2).2.1.1 hS X.1.2.2.2.1 (X.1.2.2.2.2 _ hlk) (fun _ h => h) hdg (kk H locs ls hP hD hS hl)
theorem e_alen (X : CX D tys n ad Z p s m args meth c cc nL own ret) (j : Nat) (v : Int32) {a : Nat} {cA : ClassId} {ty : FieldType} {x : vp_A} {t0 : Nat} (he : ex[j]? = some (a, .inl (cA, x))) (ht : tys[t0]? = some (cA, ty)) (hv : Int32.ofNat x.1 = v) (hdg : decode cc pc = .ok (.arraylength, 1)) (pc2 : Nat) (hp : pc + 1 = pc2) (kk : XX D n ad cf p l e R s m args below meth c nL cells slots Q mem ex pc2 lv (.int v :: st)) : XX D n ad cf p l e R s m args below meth c nL cells slots Q mem ex pc lv (.ref a :: st) := by
  subst hp
  exact fun H locs ls hP hD hS hl => va_alen X.1.1 X.1.2.1 X.2.2.2.1 hP (n + j) t0 (we_at.trans he) ht hv hdg (kk H locs ls hP hD hS hl)
theorem x_letf {ca : Nat → Nat} {q N : Nat} {f : Nat → Int32} {ρ : Type} {F : (Nat → Int32) → Option ρ} {res : ρ} (hF : lt_ f F = some res) (kk : ∀ f : Nat → Int32, F f = some res → XX D n ad cf p l e R s m args below meth c nL cells slots Q mem [(q, .inl (ca 0, N, .inl f))] pc lv st) : XX D n ad cf p l e R s m args below meth c nL cells slots Q mem [(q, .inl (ca 0, N, .inl f))] pc lv st := kk f hF
end LP
