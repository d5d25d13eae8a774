section ZC
/-- all that stands in the statics: nobody writes it -/
def zQ (U : State) : Prop := va_AO "PawnRace$Pawn" U ∧ va_AO "PawnRace$Ban" U ∧ va_AO "PawnRace$Race" U
def ZC (tO : Nat) (sK sV : Nat → Nat) (A : Nat → Prop) (U : State) (H : Heap) : Prop := zO tO A U H ∧ zS sK sV A U H ∧ zX A U H ∧ zQ U
theorem zc_O {tO : Nat} {sK sV : Nat → Nat} : ZO (ZC tO sK sV) tO sK sV := fun _ _ _ h => ⟨h.1, h.2.1⟩
theorem zc_X {tO : Nat} {sK sV : Nat → Nat} : ZX (ZC tO sK sV) := fun _ _ _ h => h.2.2.1
theorem zc_A {tO : Nat} {sK sV : Nat → Nat} : ZA (ZC tO sK sV) := fun _ _ _ h => h.2.2.2
theorem zc_al {u U : State} (h : u.vm = U.vm ∨ u.WarmedH U.vm) : u.vm.Alike U.vm := by
  rcases h with h | h
  · rw [h]
    exact Vm.Alike.refl U.vm
  · exact h.alike
theorem zc_dc {u U : State} (h : u.vm = U.vm ∨ u.WarmedH U.vm) {x : MethodName} (hd : va_Nw (.declares x) u) : va_Nw (.declares x) U := h.elim (fun h => va_Nw.same rfl h hd) (fun h => va_Nw.warmD h hd)
theorem zc_ok {tO : Nat} {sK sV : Nat → Nat} : ZOK (ZC tO sK sV) := by
  refine ⟨fun A U H H1 h hq => ?_, fun A B U H h hAB => ?_, fun A u U H hvm h => ?_⟩
  · obtain ⟨⟨o1, o2, o3⟩, ⟨s1, s2, s3, s4⟩, ⟨x1, x2, x3⟩, q⟩ := h
    exact ⟨⟨o1.kept hq, o2.kept hq, o3⟩, ⟨fun i hi => ⟨(s1 i hi).1.kept hq, (s1 i hi).2.1.kept hq, (s1 i hi).2.2.1.kept hq, (s1 i hi).2.2.2.kept hq⟩, s2, s3.kept hq, s4.kept hq⟩, ⟨x1.kept hq, x2.kept hq, x3⟩, q⟩
  · obtain ⟨⟨o1, o2, o3⟩, ⟨s1, s2, s3, s4⟩, ⟨x1, x2, x3⟩, q⟩ := h
    exact ⟨⟨o1.narrow hAB, o2.narrow hAB, o3⟩, ⟨fun i hi => ⟨(s1 i hi).1.narrow hAB, (s1 i hi).2.1.narrow hAB, (s1 i hi).2.2.1.narrow hAB, (s1 i hi).2.2.2.narrow hAB⟩, s2, s3.narrow hAB, s4.narrow hAB⟩, ⟨x1.narrow hAB, x2.narrow hAB, x3⟩, q⟩
  · have al := zc_al hvm
    obtain ⟨⟨o1, o2, o3, o4, o5, o6, o7⟩, ⟨s1, s2, s3, s4⟩, ⟨x1, x2, x3, x4, x5, x6⟩, q1, q2, q3⟩ := h
    have wF : ∀ {a : String} {i : Nat} {b n d h : String}, va_Nw (.fieldLinkNest a i b n d h) u → va_Nw (.fieldLinkNest a i b n d h) U := fun hd => hvm.elim (fun h => va_Nw.same rfl h hd) (fun h => va_Nw.warmF h hd)
    have wM : ∀ {a : String} {i : Nat} {x : MethodName} {h : String}, va_Nw (.methodLinkNest a i x h) u → va_Nw (.methodLinkNest a i x h) U := fun hd => hvm.elim (fun h => va_Nw.same rfl h hd) (fun h => va_Nw.warmM h hd)
    have wC : ∀ {a b : String}, va_Nw (.castable a b) u → va_Nw (.castable a b) U := fun hd => hvm.elim (fun h => va_Nw.same rfl h hd) (fun h => va_Nw.warmC h hd)
    have wR : ∀ {own tx : String} {k a : Nat}, vk_R own k tx a u → vk_R own k tx a U := fun hd => hvm.elim (fun h => vk_R.same h.symm hd) (fun h => vk_R.warm h hd)
    refine ⟨⟨va_Z.moved al o1, va_T.moved al o2, wF o3, wF o4, wF o5, wF o6, trivial⟩, ⟨fun i hi => ⟨va_O.moved al (s1 i hi).1, va_OF.moved al (s1 i hi).2.1, va_OF.moved al (s1 i hi).2.2.1, va_T.moved al (s1 i hi).2.2.2⟩, fun i q hq => wR (s2 i q hq), va_Z.moved al s3, va_Zq.moved al s4⟩, ⟨vx_Zq.moved al x1, vx_Zq.moved al x2, fun k hk => wC (x3 k hk), fun w hw => ?_, trivial, fun t q hq => ?_⟩, va_AO.moved al q1, va_AO.moved al q2, va_AO.moved al q3⟩
    · have h4 := x4 w hw
      simp only [dcX, List.mem_cons, List.not_mem_nil, or_false] at hw
      rcases hw with rfl | rfl | rfl <;> exact zc_dc hvm h4
    · obtain ⟨a, ha⟩ := x6 t q hq
      exact ⟨a, wR ha⟩
theorem zs_one {args : Array Value} {s : State} {A : Nat → Prop} {tm : Term} {len : Nat} {byt : Nat → Int32} (hN : len < 2 ^ 31) (hex : (Cond.exactly tm "java/lang/String").before args s = true) (hco : (Cond.eq (.field tm "java/lang/String" "coder" "B") (.int 0)).before args s = true)
    (har : (Cond.arrayOf (.field tm "java/lang/String" "value" "[B") .byte).before args s = true) (hle : (Cond.eq (.length (.field tm "java/lang/String" "value" "[B")) (.int (Int32.ofNat len))).before args s = true)
    (hel : ∀ j : Nat, j < len → (Cond.eq (.elem (.field tm "java/lang/String" "value" "[B") (.int (Int32.ofNat j))) (.int (byt j))).before args s = true) (hA : ∀ a : Nat, a < s.heap.size → ¬ A a) :
    ∃ a v : Nat, tm.eval args s none [] s = some (.ref a) ∧ va_O "java/lang/String" a A s s.heap ∧ va_OF "java/lang/String" "coder" "B" (.int 0) a A s s.heap ∧ va_OF "java/lang/String" "value" "[B" (.ref v) a A s s.heap ∧ va_T .byte v len (fun j => .int (byt j)) A s s.heap := by
  obtain ⟨a, c, cA, kA, q1, q2, q3, q4, q5, q6, -⟩ := Cond.exactly_spec (args := args) (first := s) (o := none) (s := s) (idx := []) (t := tm) (cls := "java/lang/String") hex
  obtain ⟨t, ht, hT⟩ := va_Tof (f := fun j => .int (byt j)) (A := A) hN har (va_eqt hle) (fun j hj => va_eqt (hel j hj)) hA
  exact ⟨a, t, q1, ⟨cA, q3, q5, by rw [q6]; exact q2, hA a (Array.getElem?_eq_some_iff.mp q3).1⟩, vk_OFof q1 (va_eqt hco) hA, vk_OFof q1 ht hA, hT⟩
theorem zs_ref {args : Array Value} {s : State} {tm : Term} (hex : (Cond.exactly tm "java/lang/String").before args s = true) : ∃ a : Nat, tm.eval args s none [] s = some (.ref a) := by
  obtain ⟨a, c, cA, kA, q1, -⟩ := Cond.exactly_spec (args := args) (first := s) (o := none) (s := s) (idx := []) (t := tm) (cls := "java/lang/String") hex
  exact ⟨a, q1⟩
/-- what the Statement gives of the start -/
def stC : List Cond := flatC (Jvm.Cond.and given_1 narrow_1)
theorem st_in {w : Cond} {args : Array Value} {s : State} (h : (Jvm.Cond.and given_1 narrow_1).before args s = true) (hw : w ∈ stC) : w.before args s = true := flat_of_before _ h w hw
set_option maxRecDepth 100000 in
theorem zs_0 {args : Array Value} {s : State} {A : Nat → Prop} (h : (Jvm.Cond.and given_1 narrow_1).before args s = true) (hA : ∀ a : Nat, a < s.heap.size → ¬ A a) : ∃ a v : Nat, (Term.string "PawnRace$RaceReader" 61).eval args s none [] s = some (.ref a) ∧ va_O "java/lang/String" a A s s.heap ∧ va_OF "java/lang/String" "coder" "B" (.int 0) a A s s.heap ∧ va_OF "java/lang/String" "value" "[B" (.ref v) a A s s.heap ∧ va_T .byte v (sLen 0) (fun j => .int (sByt 0 j)) A s s.heap :=
  zs_one (by decide) (st_in h (by decide +kernel)) (st_in h (by decide +kernel)) (st_in h (by decide +kernel)) (st_in h (by decide +kernel)) (fun j hj => by
    rcases (show j = 0 ∨ j = 1 ∨ j = 2 ∨ j = 3 ∨ j = 4 from by have : j < 5 := hj; omega) with rfl | rfl | rfl | rfl | rfl <;> exact st_in h (by decide +kernel)) hA
set_option maxRecDepth 100000 in
theorem zs_1 {args : Array Value} {s : State} {A : Nat → Prop} (h : (Jvm.Cond.and given_1 narrow_1).before args s = true) (hA : ∀ a : Nat, a < s.heap.size → ¬ A a) : ∃ a v : Nat, (Term.string "PawnRace$RaceReader" 70).eval args s none [] s = some (.ref a) ∧ va_O "java/lang/String" a A s s.heap ∧ va_OF "java/lang/String" "coder" "B" (.int 0) a A s s.heap ∧ va_OF "java/lang/String" "value" "[B" (.ref v) a A s s.heap ∧ va_T .byte v (sLen 1) (fun j => .int (sByt 1 j)) A s s.heap :=
  zs_one (by decide) (st_in h (by decide +kernel)) (st_in h (by decide +kernel)) (st_in h (by decide +kernel)) (st_in h (by decide +kernel)) (fun j hj => by
    rcases (show j = 0 ∨ j = 1 ∨ j = 2 ∨ j = 3 ∨ j = 4 from by have : j < 5 := hj; omega) with rfl | rfl | rfl | rfl | rfl <;> exact st_in h (by decide +kernel)) hA
set_option maxRecDepth 100000 in
theorem zs_2 {args : Array Value} {s : State} {A : Nat → Prop} (h : (Jvm.Cond.and given_1 narrow_1).before args s = true) (hA : ∀ a : Nat, a < s.heap.size → ¬ A a) : ∃ a v : Nat, (Term.string "PawnRace$RaceReader" 75).eval args s none [] s = some (.ref a) ∧ va_O "java/lang/String" a A s s.heap ∧ va_OF "java/lang/String" "coder" "B" (.int 0) a A s s.heap ∧ va_OF "java/lang/String" "value" "[B" (.ref v) a A s s.heap ∧ va_T .byte v (sLen 2) (fun j => .int (sByt 2 j)) A s s.heap :=
  zs_one (by decide) (st_in h (by decide +kernel)) (st_in h (by decide +kernel)) (st_in h (by decide +kernel)) (st_in h (by decide +kernel)) (fun j hj => by
    rcases (show j = 0 ∨ j = 1 ∨ j = 2 ∨ j = 3 from by have : j < 4 := hj; omega) with rfl | rfl | rfl | rfl <;> exact st_in h (by decide +kernel)) hA
set_option maxRecDepth 100000 in
theorem zs_3 {args : Array Value} {s : State} {A : Nat → Prop} (h : (Jvm.Cond.and given_1 narrow_1).before args s = true) (hA : ∀ a : Nat, a < s.heap.size → ¬ A a) : ∃ a v : Nat, (Term.string "PawnRace$Tokens" 70).eval args s none [] s = some (.ref a) ∧ va_O "java/lang/String" a A s s.heap ∧ va_OF "java/lang/String" "coder" "B" (.int 0) a A s s.heap ∧ va_OF "java/lang/String" "value" "[B" (.ref v) a A s s.heap ∧ va_T .byte v (sLen 3) (fun j => .int (sByt 3 j)) A s s.heap :=
  zs_one (by decide) (st_in h (by decide +kernel)) (st_in h (by decide +kernel)) (st_in h (by decide +kernel)) (st_in h (by decide +kernel)) (fun j hj => by
    rcases (show j = 0 ∨ j = 1 ∨ j = 2 ∨ j = 3 ∨ j = 4 from by have : j < 5 := hj; omega) with rfl | rfl | rfl | rfl | rfl <;> exact st_in h (by decide +kernel)) hA
set_option maxRecDepth 100000 in
theorem zs_4 {args : Array Value} {s : State} {A : Nat → Prop} (h : (Jvm.Cond.and given_1 narrow_1).before args s = true) (hA : ∀ a : Nat, a < s.heap.size → ¬ A a) : ∃ a v : Nat, (Term.string "PawnRace$Tokens" 76).eval args s none [] s = some (.ref a) ∧ va_O "java/lang/String" a A s s.heap ∧ va_OF "java/lang/String" "coder" "B" (.int 0) a A s s.heap ∧ va_OF "java/lang/String" "value" "[B" (.ref v) a A s s.heap ∧ va_T .byte v (sLen 4) (fun j => .int (sByt 4 j)) A s s.heap :=
  zs_one (by decide) (st_in h (by decide +kernel)) (st_in h (by decide +kernel)) (st_in h (by decide +kernel)) (st_in h (by decide +kernel)) (fun j hj => by
    rcases (show j = 0 ∨ j = 1 ∨ j = 2 ∨ j = 3 from by have : j < 4 := hj; omega) with rfl | rfl | rfl | rfl <;> exact st_in h (by decide +kernel)) hA
set_option maxRecDepth 100000 in
theorem zs_5 {args : Array Value} {s : State} {A : Nat → Prop} (h : (Jvm.Cond.and given_1 narrow_1).before args s = true) (hA : ∀ a : Nat, a < s.heap.size → ¬ A a) : ∃ a v : Nat, (Term.string "PawnRace$Tokens" 78).eval args s none [] s = some (.ref a) ∧ va_O "java/lang/String" a A s s.heap ∧ va_OF "java/lang/String" "coder" "B" (.int 0) a A s s.heap ∧ va_OF "java/lang/String" "value" "[B" (.ref v) a A s s.heap ∧ va_T .byte v (sLen 5) (fun j => .int (sByt 5 j)) A s s.heap :=
  zs_one (by decide) (st_in h (by decide +kernel)) (st_in h (by decide +kernel)) (st_in h (by decide +kernel)) (st_in h (by decide +kernel)) (fun j hj => by
    rcases (show j = 0 ∨ j = 1 ∨ j = 2 ∨ j = 3 ∨ j = 4 from by have : j < 5 := hj; omega) with rfl | rfl | rfl | rfl | rfl <;> exact st_in h (by decide +kernel)) hA
set_option maxRecDepth 100000 in
theorem zs_6 {args : Array Value} {s : State} {A : Nat → Prop} (h : (Jvm.Cond.and given_1 narrow_1).before args s = true) (hA : ∀ a : Nat, a < s.heap.size → ¬ A a) : ∃ a v : Nat, (Term.string "PawnRace$Tokens" 80).eval args s none [] s = some (.ref a) ∧ va_O "java/lang/String" a A s s.heap ∧ va_OF "java/lang/String" "coder" "B" (.int 0) a A s s.heap ∧ va_OF "java/lang/String" "value" "[B" (.ref v) a A s s.heap ∧ va_T .byte v (sLen 6) (fun j => .int (sByt 6 j)) A s s.heap :=
  zs_one (by decide) (st_in h (by decide +kernel)) (st_in h (by decide +kernel)) (st_in h (by decide +kernel)) (st_in h (by decide +kernel)) (fun j hj => by
    rcases (show j = 0 ∨ j = 1 ∨ j = 2 ∨ j = 3 from by have : j < 4 := hj; omega) with rfl | rfl | rfl | rfl <;> exact st_in h (by decide +kernel)) hA
set_option maxRecDepth 100000 in
theorem zs_7 {args : Array Value} {s : State} {A : Nat → Prop} (h : (Jvm.Cond.and given_1 narrow_1).before args s = true) (hA : ∀ a : Nat, a < s.heap.size → ¬ A a) : ∃ a v : Nat, (Term.string "PawnRace$RaceReader" 80).eval args s none [] s = some (.ref a) ∧ va_O "java/lang/String" a A s s.heap ∧ va_OF "java/lang/String" "coder" "B" (.int 0) a A s s.heap ∧ va_OF "java/lang/String" "value" "[B" (.ref v) a A s s.heap ∧ va_T .byte v (sLen 7) (fun j => .int (sByt 7 j)) A s s.heap :=
  zs_one (by decide) (st_in h (by decide +kernel)) (st_in h (by decide +kernel)) (st_in h (by decide +kernel)) (st_in h (by decide +kernel)) (fun j hj => by
    rcases (show j = 0 ∨ j = 1 ∨ j = 2 from by have : j < 3 := hj; omega) with rfl | rfl | rfl <;> exact st_in h (by decide +kernel)) hA
set_option maxRecDepth 100000 in
theorem zs_8 {args : Array Value} {s : State} {A : Nat → Prop} (h : (Jvm.Cond.and given_1 narrow_1).before args s = true) (hA : ∀ a : Nat, a < s.heap.size → ¬ A a) : ∃ a v : Nat, (Term.string "PawnRace$RaceReader" 183).eval args s none [] s = some (.ref a) ∧ va_O "java/lang/String" a A s s.heap ∧ va_OF "java/lang/String" "coder" "B" (.int 0) a A s s.heap ∧ va_OF "java/lang/String" "value" "[B" (.ref v) a A s s.heap ∧ va_T .byte v (sLen 8) (fun j => .int (sByt 8 j)) A s s.heap :=
  zs_one (by decide) (st_in h (by decide +kernel)) (st_in h (by decide +kernel)) (st_in h (by decide +kernel)) (st_in h (by decide +kernel)) (fun j hj => by
    rcases (show j = 0 ∨ j = 1 ∨ j = 2 ∨ j = 3 from by have : j < 4 := hj; omega) with rfl | rfl | rfl | rfl <;> exact st_in h (by decide +kernel)) hA
set_option maxRecDepth 100000 in
theorem zs_9 {args : Array Value} {s : State} {A : Nat → Prop} (h : (Jvm.Cond.and given_1 narrow_1).before args s = true) (hA : ∀ a : Nat, a < s.heap.size → ¬ A a) : ∃ a v : Nat, (Term.string "PawnRace$RaceReader" 186).eval args s none [] s = some (.ref a) ∧ va_O "java/lang/String" a A s s.heap ∧ va_OF "java/lang/String" "coder" "B" (.int 0) a A s s.heap ∧ va_OF "java/lang/String" "value" "[B" (.ref v) a A s s.heap ∧ va_T .byte v (sLen 9) (fun j => .int (sByt 9 j)) A s s.heap :=
  zs_one (by decide) (st_in h (by decide +kernel)) (st_in h (by decide +kernel)) (st_in h (by decide +kernel)) (st_in h (by decide +kernel)) (fun j hj => by
    rcases (show j = 0 ∨ j = 1 ∨ j = 2 ∨ j = 3 ∨ j = 4 from by have : j < 5 := hj; omega) with rfl | rfl | rfl | rfl | rfl <;> exact st_in h (by decide +kernel)) hA
set_option maxRecDepth 100000 in
theorem zs_10 {args : Array Value} {s : State} {A : Nat → Prop} (h : (Jvm.Cond.and given_1 narrow_1).before args s = true) (hA : ∀ a : Nat, a < s.heap.size → ¬ A a) : ∃ a v : Nat, (Term.string "PawnRace$RaceReader" 191).eval args s none [] s = some (.ref a) ∧ va_O "java/lang/String" a A s s.heap ∧ va_OF "java/lang/String" "coder" "B" (.int 0) a A s s.heap ∧ va_OF "java/lang/String" "value" "[B" (.ref v) a A s s.heap ∧ va_T .byte v (sLen 10) (fun j => .int (sByt 10 j)) A s s.heap :=
  zs_one (by decide) (st_in h (by decide +kernel)) (st_in h (by decide +kernel)) (st_in h (by decide +kernel)) (st_in h (by decide +kernel)) (fun j hj => by
    rcases (show j = 0 ∨ j = 1 ∨ j = 2 ∨ j = 3 ∨ j = 4 from by have : j < 5 := hj; omega) with rfl | rfl | rfl | rfl | rfl <;> exact st_in h (by decide +kernel)) hA
set_option maxRecDepth 100000 in
theorem zs_11 {args : Array Value} {s : State} {A : Nat → Prop} (h : (Jvm.Cond.and given_1 narrow_1).before args s = true) (hA : ∀ a : Nat, a < s.heap.size → ¬ A a) : ∃ a v : Nat, (Term.string "PawnRace$RaceReader" 202).eval args s none [] s = some (.ref a) ∧ va_O "java/lang/String" a A s s.heap ∧ va_OF "java/lang/String" "coder" "B" (.int 0) a A s s.heap ∧ va_OF "java/lang/String" "value" "[B" (.ref v) a A s s.heap ∧ va_T .byte v (sLen 11) (fun j => .int (sByt 11 j)) A s s.heap :=
  zs_one (by decide) (st_in h (by decide +kernel)) (st_in h (by decide +kernel)) (st_in h (by decide +kernel)) (st_in h (by decide +kernel)) (fun j hj => by
    rcases (show j = 0 ∨ j = 1 from by have : j < 2 := hj; omega) with rfl | rfl <;> exact st_in h (by decide +kernel)) hA
set_option maxRecDepth 100000 in
theorem zs_12 {args : Array Value} {s : State} {A : Nat → Prop} (h : (Jvm.Cond.and given_1 narrow_1).before args s = true) (hA : ∀ a : Nat, a < s.heap.size → ¬ A a) : ∃ a v : Nat, (Term.string "PawnRace$RaceReader" 197).eval args s none [] s = some (.ref a) ∧ va_O "java/lang/String" a A s s.heap ∧ va_OF "java/lang/String" "coder" "B" (.int 0) a A s s.heap ∧ va_OF "java/lang/String" "value" "[B" (.ref v) a A s s.heap ∧ va_T .byte v (sLen 12) (fun j => .int (sByt 12 j)) A s s.heap :=
  zs_one (by decide) (st_in h (by decide +kernel)) (st_in h (by decide +kernel)) (st_in h (by decide +kernel)) (st_in h (by decide +kernel)) (fun j hj => by
    rcases (show j = 0 ∨ j = 1 ∨ j = 2 ∨ j = 3 from by have : j < 4 := hj; omega) with rfl | rfl | rfl | rfl <;> exact st_in h (by decide +kernel)) hA
set_option maxRecDepth 100000 in
theorem zs_13 {args : Array Value} {s : State} {A : Nat → Prop} (h : (Jvm.Cond.and given_1 narrow_1).before args s = true) (hA : ∀ a : Nat, a < s.heap.size → ¬ A a) : ∃ a v : Nat, (Term.string "PawnRace$RaceReader" 207).eval args s none [] s = some (.ref a) ∧ va_O "java/lang/String" a A s s.heap ∧ va_OF "java/lang/String" "coder" "B" (.int 0) a A s s.heap ∧ va_OF "java/lang/String" "value" "[B" (.ref v) a A s s.heap ∧ va_T .byte v (sLen 13) (fun j => .int (sByt 13 j)) A s s.heap :=
  zs_one (by decide) (st_in h (by decide +kernel)) (st_in h (by decide +kernel)) (st_in h (by decide +kernel)) (st_in h (by decide +kernel)) (fun j hj => by
    rcases (show j = 0 ∨ j = 1 from by have : j < 2 := hj; omega) with rfl | rfl <;> exact st_in h (by decide +kernel)) hA
set_option maxRecDepth 100000 in
theorem zs_14 {args : Array Value} {s : State} {A : Nat → Prop} (h : (Jvm.Cond.and given_1 narrow_1).before args s = true) (hA : ∀ a : Nat, a < s.heap.size → ¬ A a) : ∃ a v : Nat, (Term.string "PawnRace$RaceReader" 85).eval args s none [] s = some (.ref a) ∧ va_O "java/lang/String" a A s s.heap ∧ va_OF "java/lang/String" "coder" "B" (.int 0) a A s s.heap ∧ va_OF "java/lang/String" "value" "[B" (.ref v) a A s s.heap ∧ va_T .byte v (sLen 14) (fun j => .int (sByt 14 j)) A s s.heap :=
  zs_one (by decide) (st_in h (by decide +kernel)) (st_in h (by decide +kernel)) (st_in h (by decide +kernel)) (st_in h (by decide +kernel)) (fun j hj => by
    rcases (show j = 0 ∨ j = 1 ∨ j = 2 ∨ j = 3 ∨ j = 4 from by have : j < 5 := hj; omega) with rfl | rfl | rfl | rfl | rfl <;> exact st_in h (by decide +kernel)) hA
set_option maxRecDepth 100000 in
theorem zs_15 {args : Array Value} {s : State} {A : Nat → Prop} (h : (Jvm.Cond.and given_1 narrow_1).before args s = true) (hA : ∀ a : Nat, a < s.heap.size → ¬ A a) : ∃ a v : Nat, (Term.string "PawnRace$Tokens" 92).eval args s none [] s = some (.ref a) ∧ va_O "java/lang/String" a A s s.heap ∧ va_OF "java/lang/String" "coder" "B" (.int 0) a A s s.heap ∧ va_OF "java/lang/String" "value" "[B" (.ref v) a A s s.heap ∧ va_T .byte v (sLen 15) (fun j => .int (sByt 15 j)) A s s.heap :=
  zs_one (by decide) (st_in h (by decide +kernel)) (st_in h (by decide +kernel)) (st_in h (by decide +kernel)) (st_in h (by decide +kernel)) (fun j hj => by
    rcases (show j = 0 ∨ j = 1 ∨ j = 2 ∨ j = 3 ∨ j = 4 from by have : j < 5 := hj; omega) with rfl | rfl | rfl | rfl | rfl <;> exact st_in h (by decide +kernel)) hA
set_option maxRecDepth 100000 in
theorem zs_16 {args : Array Value} {s : State} {A : Nat → Prop} (h : (Jvm.Cond.and given_1 narrow_1).before args s = true) (hA : ∀ a : Nat, a < s.heap.size → ¬ A a) : ∃ a v : Nat, (Term.string "PawnRace$Tokens" 94).eval args s none [] s = some (.ref a) ∧ va_O "java/lang/String" a A s s.heap ∧ va_OF "java/lang/String" "coder" "B" (.int 0) a A s s.heap ∧ va_OF "java/lang/String" "value" "[B" (.ref v) a A s s.heap ∧ va_T .byte v (sLen 16) (fun j => .int (sByt 16 j)) A s s.heap :=
  zs_one (by decide) (st_in h (by decide +kernel)) (st_in h (by decide +kernel)) (st_in h (by decide +kernel)) (st_in h (by decide +kernel)) (fun j hj => by
    rcases (show j = 0 ∨ j = 1 ∨ j = 2 ∨ j = 3 ∨ j = 4 ∨ j = 5 ∨ j = 6 from by have : j < 7 := hj; omega) with rfl | rfl | rfl | rfl | rfl | rfl | rfl <;> exact st_in h (by decide +kernel)) hA
theorem zx_s {args : Array Value} {s : State} (h : (Jvm.Cond.and given_1 narrow_1).before args s = true) (hts : ∀ w ∈ lw_tbl, w.before args s = true) : ∀ (t : Nat) (q : Nat × String), strX[t]? = some q → ∃ a, vk_R RX11 q.1 q.2 a s := by
  intro t q hq
  have ht : t < 14 := (List.getElem?_eq_some_iff.mp hq).1
  rcases (show t = 0 ∨ t = 1 ∨ t = 2 ∨ t = 3 ∨ t = 4 ∨ t = 5 ∨ t = 6 ∨ t = 7 ∨ t = 8 ∨ t = 9 ∨ t = 10 ∨ t = 11 ∨ t = 12 ∨ t = 13 by omega) with rfl | rfl | rfl | rfl | rfl | rfl | rfl | rfl | rfl | rfl | rfl | rfl | rfl | rfl
  · cases hq
    obtain ⟨a, ha⟩ := zs_ref (tm := .string RX11 95) (st_in h (by decide +kernel))
    exact ⟨a, vk_R.of (hts _ (tb_6 _ (List.mem_of_getElem? (i := 163) rfl))) ha⟩
  · cases hq
    obtain ⟨a, ha⟩ := zs_ref (tm := .string RX11 106) (st_in h (by decide +kernel))
    exact ⟨a, vk_R.of (hts _ (tb_6 _ (List.mem_of_getElem? (i := 182) rfl))) ha⟩
  · cases hq
    obtain ⟨a, ha⟩ := zs_ref (tm := .string RX11 113) (st_in h (by decide +kernel))
    exact ⟨a, vk_R.of (hts _ (tb_4 _ (List.mem_of_getElem? (i := 99) rfl))) ha⟩
  · cases hq
    obtain ⟨a, ha⟩ := zs_ref (tm := .string RX11 167) (st_in h (by decide +kernel))
    exact ⟨a, vk_R.of (hts _ (tb_8 _ (List.mem_of_getElem? (i := 153) rfl))) ha⟩
  · cases hq
    obtain ⟨a, ha⟩ := zs_ref (tm := .string RX11 198) (st_in h (by decide +kernel))
    exact ⟨a, vk_R.of (hts _ (tb_8 _ (List.mem_of_getElem? (i := 3) rfl))) ha⟩
  · cases hq
    obtain ⟨a, ha⟩ := zs_ref (tm := .string RX11 303) (st_in h (by decide +kernel))
    exact ⟨a, vk_R.of (hts _ (tb_8 _ (List.mem_of_getElem? (i := 122) rfl))) ha⟩
  · cases hq
    obtain ⟨a, ha⟩ := zs_ref (tm := .string RX11 319) (st_in h (by decide +kernel))
    exact ⟨a, vk_R.of (hts _ (tb_7 _ (List.mem_of_getElem? (i := 148) rfl))) ha⟩
  · cases hq
    obtain ⟨a, ha⟩ := zs_ref (tm := .string RX11 330) (st_in h (by decide +kernel))
    exact ⟨a, vk_R.of (hts _ (tb_7 _ (List.mem_of_getElem? (i := 206) rfl))) ha⟩
  · cases hq
    obtain ⟨a, ha⟩ := zs_ref (tm := .string RX11 339) (st_in h (by decide +kernel))
    exact ⟨a, vk_R.of (hts _ (tb_7 _ (List.mem_of_getElem? (i := 173) rfl))) ha⟩
  · cases hq
    obtain ⟨a, ha⟩ := zs_ref (tm := .string RX11 362) (st_in h (by decide +kernel))
    exact ⟨a, vk_R.of (hts _ (tb_7 _ (List.mem_of_getElem? (i := 67) rfl))) ha⟩
  · cases hq
    obtain ⟨a, ha⟩ := zs_ref (tm := .string RX11 368) (st_in h (by decide +kernel))
    exact ⟨a, vk_R.of (hts _ (tb_8 _ (List.mem_of_getElem? (i := 13) rfl))) ha⟩
  · cases hq
    obtain ⟨a, ha⟩ := zs_ref (tm := .string RX11 373) (st_in h (by decide +kernel))
    exact ⟨a, vk_R.of (hts _ (tb_7 _ (List.mem_of_getElem? (i := 189) rfl))) ha⟩
  · cases hq
    obtain ⟨a, ha⟩ := zs_ref (tm := .string RX11 375) (st_in h (by decide +kernel))
    exact ⟨a, vk_R.of (hts _ (tb_7 _ (List.mem_of_getElem? (i := 78) rfl))) ha⟩
  · cases hq
    obtain ⟨a, ha⟩ := zs_ref (tm := .string RX11 380) (st_in h (by decide +kernel))
    exact ⟨a, vk_R.of (hts _ (tb_6 _ (List.mem_of_getElem? (i := 210) rfl))) ha⟩
set_option maxRecDepth 100000 in
theorem zc_start {args : Array Value} {s : State} {A : Nat → Prop} (h : (Jvm.Cond.and given_1 narrow_1).before args s = true) (hts : ∀ w ∈ lw_tbl, w.before args s = true) (hA : ∀ a : Nat, a < s.heap.size → ¬ A a) : ∃ (tO : Nat) (sK sV : Nat → Nat), ZC tO sK sV A s s.heap := by
  obtain ⟨tO, hO1, hO2⟩ := va_Tof (s := s) (args := args) (tm := .static "PawnRace" "OFFSETS" "[I") (ty := .int) (N := 4) (f := fun j => .int (offV j)) (A := A) (by decide) (st_in h (by decide +kernel)) (va_eqt (st_in h (by decide +kernel))) (fun j hj => by
    rcases (show j = 0 ∨ j = 1 ∨ j = 2 ∨ j = 3 by omega) with rfl | rfl | rfl | rfl <;> exact va_eqt (st_in h (by decide +kernel))) hA
  obtain ⟨k0, v0, s0⟩ := zs_0 h hA
  obtain ⟨k1, v1, s1⟩ := zs_1 h hA
  obtain ⟨k2, v2, s2⟩ := zs_2 h hA
  obtain ⟨k3, v3, s3⟩ := zs_3 h hA
  obtain ⟨k4, v4, s4⟩ := zs_4 h hA
  obtain ⟨k5, v5, s5⟩ := zs_5 h hA
  obtain ⟨k6, v6, s6⟩ := zs_6 h hA
  obtain ⟨k7, v7, s7⟩ := zs_7 h hA
  obtain ⟨k8, v8, s8⟩ := zs_8 h hA
  obtain ⟨k9, v9, s9⟩ := zs_9 h hA
  obtain ⟨k10, v10, s10⟩ := zs_10 h hA
  obtain ⟨k11, v11, s11⟩ := zs_11 h hA
  obtain ⟨k12, v12, s12⟩ := zs_12 h hA
  obtain ⟨k13, v13, s13⟩ := zs_13 h hA
  obtain ⟨k14, v14, s14⟩ := zs_14 h hA
  obtain ⟨k15, v15, s15⟩ := zs_15 h hA
  obtain ⟨k16, v16, s16⟩ := zs_16 h hA
  refine ⟨tO, fun i => [k0, k1, k2, k3, k4, k5, k6, k7, k8, k9, k10, k11, k12, k13, k14, k15, k16].getD i 0, fun i => [v0, v1, v2, v3, v4, v5, v6, v7, v8, v9, v10, v11, v12, v13, v14, v15, v16].getD i 0, ⟨va_Zref (hts _ (tb_3 _ (List.mem_of_getElem? (i := 203) rfl))) (hts _ (tb_1 _ (List.mem_of_getElem? (i := 18) rfl))) hO1 hA, hO2, va_Nw.of rfl (hts _ (tb_8 _ (List.mem_of_getElem? (i := 60) rfl))), va_Nw.of rfl (hts _ (tb_4 _ (List.mem_of_getElem? (i := 48) rfl))), va_Nw.of rfl (hts _ (tb_4 _ (List.mem_of_getElem? (i := 23) rfl))), va_Nw.of rfl (hts _ (tb_3 _ (List.mem_of_getElem? (i := 202) rfl))), trivial⟩, ⟨fun i hi => ?_, fun i q hq => ?_, va_Zof (hts _ (tb_3 _ (List.mem_of_getElem? (i := 55) rfl))) (hts _ (tb_1 _ (List.mem_of_getElem? (i := 7) rfl))) (va_eqt (st_in h (by decide +kernel))) hA, va_Zqof (hts _ (tb_3 _ (List.mem_of_getElem? (i := 71) rfl))) (hts _ (tb_1 _ (List.mem_of_getElem? (i := 13) rfl))) (st_in h (by decide +kernel)) hA⟩, ⟨vx_Zqof (hts _ (tb_4 _ (List.mem_of_getElem? (i := 85) rfl))) (hts _ (tb_1 _ (List.mem_of_getElem? (i := 30) rfl))) (st_in h (by decide +kernel)) hA, vx_Zqof (hts _ (tb_4 _ (List.mem_of_getElem? (i := 87) rfl))) (hts _ (tb_1 _ (List.mem_of_getElem? (i := 30) rfl))) (st_in h (by decide +kernel)) hA, fun k hk => ?_, fun w hw => ?_, trivial, zx_s h hts⟩, va_AO.of (hts _ (tb_1 _ (List.mem_of_getElem? (i := 222) rfl))), va_AO.of (hts _ (tb_2 _ (List.mem_of_getElem? (i := 32) rfl))), va_AO.of (hts _ (tb_2 _ (List.mem_of_getElem? (i := 189) rfl)))⟩
  · rcases (show i = 0 ∨ i = 1 ∨ i = 2 ∨ i = 3 ∨ i = 4 ∨ i = 5 ∨ i = 6 ∨ i = 7 ∨ i = 8 ∨ i = 9 ∨ i = 10 ∨ i = 11 ∨ i = 12 ∨ i = 13 ∨ i = 14 ∨ i = 15 ∨ i = 16 by omega) with rfl | rfl | rfl | rfl | rfl | rfl | rfl | rfl | rfl | rfl | rfl | rfl | rfl | rfl | rfl | rfl | rfl
    · exact s0.2
    · exact s1.2
    · exact s2.2
    · exact s3.2
    · exact s4.2
    · exact s5.2
    · exact s6.2
    · exact s7.2
    · exact s8.2
    · exact s9.2
    · exact s10.2
    · exact s11.2
    · exact s12.2
    · exact s13.2
    · exact s14.2
    · exact s15.2
    · exact s16.2
  · have hi : i < 17 := (List.getElem?_eq_some_iff.mp hq).1
    rcases (show i = 0 ∨ i = 1 ∨ i = 2 ∨ i = 3 ∨ i = 4 ∨ i = 5 ∨ i = 6 ∨ i = 7 ∨ i = 8 ∨ i = 9 ∨ i = 10 ∨ i = 11 ∨ i = 12 ∨ i = 13 ∨ i = 14 ∨ i = 15 ∨ i = 16 by omega) with rfl | rfl | rfl | rfl | rfl | rfl | rfl | rfl | rfl | rfl | rfl | rfl | rfl | rfl | rfl | rfl | rfl
    · cases hq
      exact vk_R.of (hts _ (tb_3 _ (List.mem_of_getElem? (i := 41) rfl))) s0.1
    · cases hq
      exact vk_R.of (hts _ (tb_3 _ (List.mem_of_getElem? (i := 117) rfl))) s1.1
    · cases hq
      exact vk_R.of (hts _ (tb_3 _ (List.mem_of_getElem? (i := 122) rfl))) s2.1
    · cases hq
      exact vk_R.of (hts _ (tb_3 _ (List.mem_of_getElem? (i := 155) rfl))) s3.1
    · cases hq
      exact vk_R.of (hts _ (tb_3 _ (List.mem_of_getElem? (i := 157) rfl))) s4.1
    · cases hq
      exact vk_R.of (hts _ (tb_3 _ (List.mem_of_getElem? (i := 158) rfl))) s5.1
    · cases hq
      exact vk_R.of (hts _ (tb_3 _ (List.mem_of_getElem? (i := 159) rfl))) s6.1
    · cases hq
      exact vk_R.of (hts _ (tb_3 _ (List.mem_of_getElem? (i := 204) rfl))) s7.1
    · cases hq
      exact vk_R.of (hts _ (tb_3 _ (List.mem_of_getElem? (i := 209) rfl))) s8.1
    · cases hq
      exact vk_R.of (hts _ (tb_3 _ (List.mem_of_getElem? (i := 210) rfl))) s9.1
    · cases hq
      exact vk_R.of (hts _ (tb_3 _ (List.mem_of_getElem? (i := 212) rfl))) s10.1
    · cases hq
      exact vk_R.of (hts _ (tb_3 _ (List.mem_of_getElem? (i := 217) rfl))) s11.1
    · cases hq
      exact vk_R.of (hts _ (tb_3 _ (List.mem_of_getElem? (i := 222) rfl))) s12.1
    · cases hq
      exact vk_R.of (hts _ (tb_3 _ (List.mem_of_getElem? (i := 227) rfl))) s13.1
    · cases hq
      exact vk_R.of (hts _ (tb_3 _ (List.mem_of_getElem? (i := 238) rfl))) s14.1
    · cases hq
      exact vk_R.of (hts _ (tb_4 _ (List.mem_of_getElem? (i := 7) rfl))) s15.1
    · cases hq
      exact vk_R.of (hts _ (tb_4 _ (List.mem_of_getElem? (i := 8) rfl))) s16.1
  · rcases (show k = 1 ∨ k = 2 ∨ k = 3 by omega) with rfl | rfl | rfl
    · exact va_Nw.of rfl (hts _ (tb_4 _ (List.mem_of_getElem? (i := 60) rfl)))
    · exact va_Nw.of rfl (hts _ (tb_6 _ (List.mem_of_getElem? (i := 156) rfl)))
    · exact va_Nw.of rfl (hts _ (tb_7 _ (List.mem_of_getElem? (i := 60) rfl)))
  · simp only [dcX, List.mem_cons, List.not_mem_nil, or_false] at hw
    rcases hw with rfl | rfl | rfl
    · exact va_Nw.of rfl (hts _ (tb_4 _ (List.mem_of_getElem? (i := 62) rfl)))
    · exact va_Nw.of rfl (hts _ (tb_4 _ (List.mem_of_getElem? (i := 64) rfl)))
    · exact va_Nw.of rfl (hts _ (tb_4 _ (List.mem_of_getElem? (i := 66) rfl)))
end ZC
