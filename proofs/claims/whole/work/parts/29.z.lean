section ZZ
/-- all that stands in the statics: nobody writes it -/
def zQ (U : State) : Prop := va_AO "PawnRace$Pawn" U ∧ va_AO "PawnRace$Ban" U ∧ va_AO "PawnRace$Race" U
def ZZ (tO : Nat) (sK sV : Nat → Nat) (A : Nat → Prop) (U : State) (H : Heap) : Prop := zO tO A U H ∧ zS sK sV A U H ∧ zX A U H ∧ zQ U
theorem zz_O {tO : Nat} {sK sV : Nat → Nat} : ZO (ZZ tO sK sV) tO sK sV := fun _ _ _ h => ⟨h.1, h.2.1⟩
theorem zz_X {tO : Nat} {sK sV : Nat → Nat} : ZX (ZZ tO sK sV) := fun _ _ _ h => h.2.2.1
theorem zz_A {tO : Nat} {sK sV : Nat → Nat} : ZA (ZZ tO sK sV) := fun _ _ _ h => h.2.2.2
theorem zz_al {u U : State} (h : u.vm = U.vm ∨ u.WarmedH U.vm) : u.vm.Alike U.vm := by
  rcases h with h | h
  · rw [h]
    exact Vm.Alike.refl U.vm
  · exact h.alike
theorem zz_dc {u U : State} (h : u.vm = U.vm ∨ u.WarmedH U.vm) {x : MethodName} (hd : va_Nw (.declares x) u) : va_Nw (.declares x) U := h.elim (fun h => va_Nw.same rfl h hd) (fun h => va_Nw.warmD h hd)
theorem zz_ok {tO : Nat} {sK sV : Nat → Nat} : ZOK (ZZ tO sK sV) := by
  refine ⟨fun A U H H1 h hq => ?_, fun A B U H h hAB => ?_, fun A u U H hvm h => ?_⟩
  · obtain ⟨⟨o1, o2, o3⟩, ⟨s1, s2, s3, s4⟩, ⟨x1, x2, x3⟩, q⟩ := h
    exact ⟨⟨o1.kept hq, o2.kept hq, o3⟩, ⟨fun i hi => ⟨(s1 i hi).1.kept hq, (s1 i hi).2.1.kept hq, (s1 i hi).2.2.1.kept hq, (s1 i hi).2.2.2.kept hq⟩, s2, s3.kept hq, s4.kept hq⟩, ⟨x1.kept hq, x2.kept hq, x3⟩, q⟩
  · obtain ⟨⟨o1, o2, o3⟩, ⟨s1, s2, s3, s4⟩, ⟨x1, x2, x3⟩, q⟩ := h
    exact ⟨⟨o1.narrow hAB, o2.narrow hAB, o3⟩, ⟨fun i hi => ⟨(s1 i hi).1.narrow hAB, (s1 i hi).2.1.narrow hAB, (s1 i hi).2.2.1.narrow hAB, (s1 i hi).2.2.2.narrow hAB⟩, s2, s3.narrow hAB, s4.narrow hAB⟩, ⟨x1.narrow hAB, x2.narrow hAB, x3⟩, q⟩
  · have al := zz_al hvm
    obtain ⟨⟨o1, o2, o3, o4, o5, o6, o7⟩, ⟨s1, s2, s3, s4⟩, ⟨x1, x2, x3, x4, x5, x6⟩, q1, q2, q3⟩ := h
    have wF : ∀ {a : String} {i : Nat} {b n d h : String}, va_Nw (.fieldLinkNest a i b n d h) u → va_Nw (.fieldLinkNest a i b n d h) U := fun hd => hvm.elim (fun h => va_Nw.same rfl h hd) (fun h => va_Nw.warmF h hd)
    have wM : ∀ {a : String} {i : Nat} {x : MethodName} {h : String}, va_Nw (.methodLinkNest a i x h) u → va_Nw (.methodLinkNest a i x h) U := fun hd => hvm.elim (fun h => va_Nw.same rfl h hd) (fun h => va_Nw.warmM h hd)
    have wC : ∀ {a b : String}, va_Nw (.castable a b) u → va_Nw (.castable a b) U := fun hd => hvm.elim (fun h => va_Nw.same rfl h hd) (fun h => va_Nw.warmC h hd)
    have wR : ∀ {own tx : String} {k a : Nat}, vk_R own k tx a u → vk_R own k tx a U := fun hd => hvm.elim (fun h => vk_R.same h.symm hd) (fun h => vk_R.warm h hd)
    refine ⟨⟨va_Z.moved al o1, va_T.moved al o2, wF o3, wF o4, wF o5, wF o6, wM o7⟩, ⟨fun i hi => ⟨va_O.moved al (s1 i hi).1, va_OF.moved al (s1 i hi).2.1, va_OF.moved al (s1 i hi).2.2.1, va_T.moved al (s1 i hi).2.2.2⟩, fun i q hq => wR (s2 i q hq), va_Z.moved al s3, va_Zq.moved al s4⟩, ⟨vx_Zq.moved al x1, vx_Zq.moved al x2, fun k hk => wC (x3 k hk), fun w hw => ?_, fun j k hj hk hn => va_Nc.moved al (x5 j k hj hk hn), fun t q hq => ?_⟩, va_AO.moved al q1, va_AO.moved al q2, va_AO.moved al q3⟩
    · have h4 := x4 w hw
      simp only [dcX, List.mem_cons, List.not_mem_nil, or_false] at hw
      rcases hw with rfl | rfl | rfl <;> exact zz_dc hvm h4
    · obtain ⟨a, ha⟩ := x6 t q hq
      exact ⟨a, wR ha⟩
theorem zs_one {args : Array Value} {s : State} {A : Nat → Prop} {tm : Term} {len : Nat} {byt : Nat → Int32} (hN : len < 2 ^ 31) (hex : (Cond.exactly tm "java/lang/String").before args s = true) (hco : (Cond.eq (.field tm "java/lang/String" "coder" "B") (.int 0)).before args s = true)
    (har : (Cond.arrayOf (.field tm "java/lang/String" "value" "[B") .byte).before args s = true) (hle : (Cond.eq (.length (.field tm "java/lang/String" "value" "[B")) (.int (Int32.ofNat len))).before args s = true)
    (hel : ∀ j : Nat, j < len → (Cond.eq (.elem (.field tm "java/lang/String" "value" "[B") (.int (Int32.ofNat j))) (.int (byt j))).before args s = true) (hA : ∀ a : Nat, a < s.heap.size → ¬ A a) :
    ∃ a v : Nat, tm.eval args s none [] s = some (.ref a) ∧ va_O "java/lang/String" a A s s.heap ∧ va_OF "java/lang/String" "coder" "B" (.int 0) a A s s.heap ∧ va_OF "java/lang/String" "value" "[B" (.ref v) a A s s.heap ∧ va_T .byte v len (fun j => .int (byt j)) A s s.heap := by
  obtain ⟨a, c, cA, kA, q1, q2, q3, q4, q5, q6, -⟩ := Cond.exactly_spec (args := args) (first := s) (o := none) (s := s) (idx := []) (t := tm) (cls := "java/lang/String") hex
  obtain ⟨t, ht, hT⟩ := va_Tof (f := fun j => .int (byt j)) (A := A) hN har (va_eqt hle) (fun j hj => va_eqt (hel j hj)) hA
  exact ⟨a, t, q1, ⟨cA, q3, q5, by rw [q6]; exact q2, hA a (Array.getElem?_eq_some_iff.mp q3).1⟩, vk_OFof q1 (va_eqt hco) hA, vk_OFof q1 ht hA, hT⟩
theorem zs_ref {args : Array Value} {s : State} {tm : Term} (hex : (Cond.exactly tm "java/lang/String").before args s = true) : ∃ a : Nat, tm.eval args s none [] s = some (.ref a) := by
  obtain ⟨a, c, cA, kA, q1, -⟩ := Cond.exactly_spec (args := args) (first := s) (o := none) (s := s) (idx := []) (t := tm) (cls := "java/lang/String") hex
  exact ⟨a, q1⟩
/-- what the Statement gives of the start -/
def stC : List Cond := flatC (Jvm.Cond.and given_1 narrow_1)
theorem st_in {w : Cond} {args : Array Value} {s : State} (h : (Jvm.Cond.and given_1 narrow_1).before args s = true) (hw : w ∈ stC) : w.before args s = true := flat_of_before _ h w hw
set_option maxRecDepth 100000 in
theorem zs_0 {args : Array Value} {s : State} {A : Nat → Prop} (h : (Jvm.Cond.and given_1 narrow_1).before args s = true) (hA : ∀ a : Nat, a < s.heap.size → ¬ A a) : ∃ a v : Nat, (Term.string "PawnRace$RaceReader" 61).eval args s none [] s = some (.ref a) ∧ va_O "java/lang/String" a A s s.heap ∧ va_OF "java/lang/String" "coder" "B" (.int 0) a A s s.heap ∧ va_OF "java/lang/String" "value" "[B" (.ref v) a A s s.heap ∧ va_T .byte v (sLen 0) (fun j => .int (sByt 0 j)) A s s.heap :=
  zs_one (by decide) (st_in h (by decide +kernel)) (st_in h (by decide +kernel)) (st_in h (by decide +kernel)) (st_in h (by decide +kernel)) (fun j hj => by
    rcases (show j = 0 ∨ j = 1 ∨ j = 2 ∨ j = 3 ∨ j = 4 from by have : j < 5 := hj; omega) with rfl | rfl | rfl | rfl | rfl <;> exact st_in h (by decide +kernel)) hA
set_option maxRecDepth 100000 in
theorem zs_1 {args : Array Value} {s : State} {A : Nat → Prop} (h : (Jvm.Cond.and given_1 narrow_1).before args s = true) (hA : ∀ a : Nat, a < s.heap.size → ¬ A a) : ∃ a v : Nat, (Term.string "PawnRace$RaceReader" 70).eval args s none [] s = some (.ref a) ∧ va_O "java/lang/String" a A s s.heap ∧ va_OF "java/lang/String" "coder" "B" (.int 0) a A s s.heap ∧ va_OF "java/lang/String" "value" "[B" (.ref v) a A s s.heap ∧ va_T .byte v (sLen 1) (fun j => .int (sByt 1 j)) A s s.heap :=
  zs_one (by decide) (st_in h (by decide +kernel)) (st_in h (by decide +kernel)) (st_in h (by decide +kernel)) (st_in h (by decide +kernel)) (fun j hj => by
    rcases (show j = 0 ∨ j = 1 ∨ j = 2 ∨ j = 3 ∨ j = 4 from by have : j < 5 := hj; omega) with rfl | rfl | rfl | rfl | rfl <;> exact st_in h (by decide +kernel)) hA
set_option maxRecDepth 100000 in
theorem zs_2 {args : Array Value} {s : State} {A : Nat → Prop} (h : (Jvm.Cond.and given_1 narrow_1).before args s = true) (hA : ∀ a : Nat, a < s.heap.size → ¬ A a) : ∃ a v : Nat, (Term.string "PawnRace$RaceReader" 75).eval args s none [] s = some (.ref a) ∧ va_O "java/lang/String" a A s s.heap ∧ va_OF "java/lang/String" "coder" "B" (.int 0) a A s s.heap ∧ va_OF "java/lang/String" "value" "[B" (.ref v) a A s s.heap ∧ va_T .byte v (sLen 2) (fun j => .int (sByt 2 j)) A s s.heap :=
  zs_one (by decide) (st_in h (by decide +kernel)) (st_in h (by decide +kernel)) (st_in h (by decide +kernel)) (st_in h (by decide +kernel)) (fun j hj => by
    rcases (show j = 0 ∨ j = 1 ∨ j = 2 ∨ j = 3 from by have : j < 4 := hj; omega) with rfl | rfl | rfl | rfl <;> exact st_in h (by decide +kernel)) hA
set_option maxRecDepth 100000 in
theorem zs_3 {args : Array Value} {s : State} {A : Nat → Prop} (h : (Jvm.Cond.and given_1 narrow_1).before args s = true) (hA : ∀ a : Nat, a < s.heap.size → ¬ A a) : ∃ a v : Nat, (Term.string "PawnRace$Tokens" 70).eval args s none [] s = some (.ref a) ∧ va_O "java/lang/String" a A s s.heap ∧ va_OF "java/lang/String" "coder" "B" (.int 0) a A s s.heap ∧ va_OF "java/lang/String" "value" "[B" (.ref v) a A s s.heap ∧ va_T .byte v (sLen 3) (fun j => .int (sByt 3 j)) A s s.heap :=
  zs_one (by decide) (st_in h (by decide +kernel)) (st_in h (by decide +kernel)) (st_in h (by decide +kernel)) (st_in h (by decide +kernel)) (fun j hj => by
    rcases (show j = 0 ∨ j = 1 ∨ j = 2 ∨ j = 3 ∨ j = 4 from by have : j < 5 := hj; omega) with rfl | rfl | rfl | rfl | rfl <;> exact st_in h (by decide +kernel)) hA
set_option maxRecDepth 100000 in
theorem zs_4 {args : Array Value} {s : State} {A : Nat → Prop} (h : (Jvm.Cond.and given_1 narrow_1).before args s = true) (hA : ∀ a : Nat, a < s.heap.size → ¬ A a) : ∃ a v : Nat, (Term.string "PawnRace$Tokens" 76).eval args s none [] s = some (.ref a) ∧ va_O "java/lang/String" a A s s.heap ∧ va_OF "java/lang/String" "coder" "B" (.int 0) a A s s.heap ∧ va_OF "java/lang/String" "value" "[B" (.ref v) a A s s.heap ∧ va_T .byte v (sLen 4) (fun j => .int (sByt 4 j)) A s s.heap :=
  zs_one (by decide) (st_in h (by decide +kernel)) (st_in h (by decide +kernel)) (st_in h (by decide +kernel)) (st_in h (by decide +kernel)) (fun j hj => by
    rcases (show j = 0 ∨ j = 1 ∨ j = 2 ∨ j = 3 from by have : j < 4 := hj; omega) with rfl | rfl | rfl | rfl <;> exact st_in h (by decide +kernel)) hA
set_option maxRecDepth 100000 in
theorem zs_5 {args : Array Value} {s : State} {A : Nat → Prop} (h : (Jvm.Cond.and given_1 narrow_1).before args s = true) (hA : ∀ a : Nat, a < s.heap.size → ¬ A a) : ∃ a v : Nat, (Term.string "PawnRace$Tokens" 78).eval args s none [] s = some (.ref a) ∧ va_O "java/lang/String" a A s s.heap ∧ va_OF "java/lang/String" "coder" "B" (.int 0) a A s s.heap ∧ va_OF "java/lang/String" "value" "[B" (.ref v) a A s s.heap ∧ va_T .byte v (sLen 5) (fun j => .int (sByt 5 j)) A s s.heap :=
  zs_one (by decide) (st_in h (by decide +kernel)) (st_in h (by decide +kernel)) (st_in h (by decide +kernel)) (st_in h (by decide +kernel)) (fun j hj => by
    rcases (show j = 0 ∨ j = 1 ∨ j = 2 ∨ j = 3 ∨ j = 4 from by have : j < 5 := hj; omega) with rfl | rfl | rfl | rfl | rfl <;> exact st_in h (by decide +kernel)) hA
set_option maxRecDepth 100000 in
theorem zs_6 {args : Array Value} {s : State} {A : Nat → Prop} (h : (Jvm.Cond.and given_1 narrow_1).before args s = true) (hA : ∀ a : Nat, a < s.heap.size → ¬ A a) : ∃ a v : Nat, (Term.string "PawnRace$Tokens" 80).eval args s none [] s = some (.ref a) ∧ va_O "java/lang/String" a A s s.heap ∧ va_OF "java/lang/String" "coder" "B" (.int 0) a A s s.heap ∧ va_OF "java/lang/String" "value" "[B" (.ref v) a A s s.heap ∧ va_T .byte v (sLen 6) (fun j => .int (sByt 6 j)) A s s.heap :=
  zs_one (by decide) (st_in h (by decide +kernel)) (st_in h (by decide +kernel)) (st_in h (by decide +kernel)) (st_in h (by decide +kernel)) (fun j hj => by
    rcases (show j = 0 ∨ j = 1 ∨ j = 2 ∨ j = 3 from by have : j < 4 := hj; omega) with rfl | rfl | rfl | rfl <;> exact st_in h (by decide +kernel)) hA
set_option maxRecDepth 100000 in
theorem zs_7 {args : Array Value} {s : State} {A : Nat → Prop} (h : (Jvm.Cond.and given_1 narrow_1).before args s = true) (hA : ∀ a : Nat, a < s.heap.size → ¬ A a) : ∃ a v : Nat, (Term.string "PawnRace$RaceReader" 80).eval args s none [] s = some (.ref a) ∧ va_O "java/lang/String" a A s s.heap ∧ va_OF "java/lang/String" "coder" "B" (.int 0) a A s s.heap ∧ va_OF "java/lang/String" "value" "[B" (.ref v) a A s s.heap ∧ va_T .byte v (sLen 7) (fun j => .int (sByt 7 j)) A s s.heap :=
  zs_one (by decide) (st_in h (by decide +kernel)) (st_in h (by decide +kernel)) (st_in h (by decide +kernel)) (st_in h (by decide +kernel)) (fun j hj => by
    rcases (show j = 0 ∨ j = 1 ∨ j = 2 from by have : j < 3 := hj; omega) with rfl | rfl | rfl <;> exact st_in h (by decide +kernel)) hA
set_option maxRecDepth 100000 in
theorem zs_8 {args : Array Value} {s : State} {A : Nat → Prop} (h : (Jvm.Cond.and given_1 narrow_1).before args s = true) (hA : ∀ a : Nat, a < s.heap.size → ¬ A a) : ∃ a v : Nat, (Term.string "PawnRace$RaceReader" 183).eval args s none [] s = some (.ref a) ∧ va_O "java/lang/String" a A s s.heap ∧ va_OF "java/lang/String" "coder" "B" (.int 0) a A s s.heap ∧ va_OF "java/lang/String" "value" "[B" (.ref v) a A s s.heap ∧ va_T .byte v (sLen 8) (fun j => .int (sByt 8 j)) A s s.heap :=
  zs_one (by decide) (st_in h (by decide +kernel)) (st_in h (by decide +kernel)) (st_in h (by decide +kernel)) (st_in h (by decide +kernel)) (fun j hj => by
    rcases (show j = 0 ∨ j = 1 ∨ j = 2 ∨ j = 3 from by have : j < 4 := hj; omega) with rfl | rfl | rfl | rfl <;> exact st_in h (by decide +kernel)) hA
set_option maxRecDepth 100000 in
theorem zs_9 {args : Array Value} {s : State} {A : Nat → Prop} (h : (Jvm.Cond.and given_1 narrow_1).before args s = true) (hA : ∀ a : Nat, a < s.heap.size → ¬ A a) : ∃ a v : Nat, (Term.string "PawnRace$RaceReader" 186).eval args s none [] s = some (.ref a) ∧ va_O "java/lang/String" a A s s.heap ∧ va_OF "java/lang/String" "coder" "B" (.int 0) a A s s.heap ∧ va_OF "java/lang/String" "value" "[B" (.ref v) a A s s.heap ∧ va_T .byte v (sLen 9) (fun j => .int (sByt 9 j)) A s s.heap :=
  zs_one (by decide) (st_in h (by decide +kernel)) (st_in h (by decide +kernel)) (st_in h (by decide +kernel)) (st_in h (by decide +kernel)) (fun j hj => by
    rcases (show j = 0 ∨ j = 1 ∨ j = 2 ∨ j = 3 ∨ j = 4 from by have : j < 5 := hj; omega) with rfl | rfl | rfl | rfl | rfl <;> exact st_in h (by decide +kernel)) hA
set_option maxRecDepth 100000 in
theorem zs_10 {args : Array Value} {s : State} {A : Nat → Prop} (h : (Jvm.Cond.and given_1 narrow_1).before args s = true) (hA : ∀ a : Nat, a < s.heap.size → ¬ A a) : ∃ a v : Nat, (Term.string "PawnRace$RaceReader" 191).eval args s none [] s = some (.ref a) ∧ va_O "java/lang/String" a A s s.heap ∧ va_OF "java/lang/String" "coder" "B" (.int 0) a A s s.heap ∧ va_OF "java/lang/String" "value" "[B" (.ref v) a A s s.heap ∧ va_T .byte v (sLen 10) (fun j => .int (sByt 10 j)) A s s.heap :=
  zs_one (by decide) (st_in h (by decide +kernel)) (st_in h (by decide +kernel)) (st_in h (by decide +kernel)) (st_in h (by decide +kernel)) (fun j hj => by
    rcases (show j = 0 ∨ j = 1 ∨ j = 2 ∨ j = 3 ∨ j = 4 from by have : j < 5 := hj; omega) with rfl | rfl | rfl | rfl | rfl <;> exact st_in h (by decide +kernel)) hA
set_option maxRecDepth 100000 in
theorem zs_11 {args : Array Value} {s : State} {A : Nat → Prop} (h : (Jvm.Cond.and given_1 narrow_1).before args s = true) (hA : ∀ a : Nat, a < s.heap.size → ¬ A a) : ∃ a v : Nat, (Term.string "PawnRace$RaceReader" 202).eval args s none [] s = some (.ref a) ∧ va_O "java/lang/String" a A s s.heap ∧ va_OF "java/lang/String" "coder" "B" (.int 0) a A s s.heap ∧ va_OF "java/lang/String" "value" "[B" (.ref v) a A s s.heap ∧ va_T .byte v (sLen 11) (fun j => .int (sByt 11 j)) A s s.heap :=
  zs_one (by decide) (st_in h (by decide +kernel)) (st_in h (by decide +kernel)) (st_in h (by decide +kernel)) (st_in h (by decide +kernel)) (fun j hj => by
    rcases (show j = 0 ∨ j = 1 from by have : j < 2 := hj; omega) with rfl | rfl <;> exact st_in h (by decide +kernel)) hA
set_option maxRecDepth 100000 in
theorem zs_12 {args : Array Value} {s : State} {A : Nat → Prop} (h : (Jvm.Cond.and given_1 narrow_1).before args s = true) (hA : ∀ a : Nat, a < s.heap.size → ¬ A a) : ∃ a v : Nat, (Term.string "PawnRace$RaceReader" 197).eval args s none [] s = some (.ref a) ∧ va_O "java/lang/String" a A s s.heap ∧ va_OF "java/lang/String" "coder" "B" (.int 0) a A s s.heap ∧ va_OF "java/lang/String" "value" "[B" (.ref v) a A s s.heap ∧ va_T .byte v (sLen 12) (fun j => .int (sByt 12 j)) A s s.heap :=
  zs_one (by decide) (st_in h (by decide +kernel)) (st_in h (by decide +kernel)) (st_in h (by decide +kernel)) (st_in h (by decide +kernel)) (fun j hj => by
    rcases (show j = 0 ∨ j = 1 ∨ j = 2 ∨ j = 3 from by have : j < 4 := hj; omega) with rfl | rfl | rfl | rfl <;> exact st_in h (by decide +kernel)) hA
set_option maxRecDepth 100000 in
theorem zs_13 {args : Array Value} {s : State} {A : Nat → Prop} (h : (Jvm.Cond.and given_1 narrow_1).before args s = true) (hA : ∀ a : Nat, a < s.heap.size → ¬ A a) : ∃ a v : Nat, (Term.string "PawnRace$RaceReader" 207).eval args s none [] s = some (.ref a) ∧ va_O "java/lang/String" a A s s.heap ∧ va_OF "java/lang/String" "coder" "B" (.int 0) a A s s.heap ∧ va_OF "java/lang/String" "value" "[B" (.ref v) a A s s.heap ∧ va_T .byte v (sLen 13) (fun j => .int (sByt 13 j)) A s s.heap :=
  zs_one (by decide) (st_in h (by decide +kernel)) (st_in h (by decide +kernel)) (st_in h (by decide +kernel)) (st_in h (by decide +kernel)) (fun j hj => by
    rcases (show j = 0 ∨ j = 1 from by have : j < 2 := hj; omega) with rfl | rfl <;> exact st_in h (by decide +kernel)) hA
set_option maxRecDepth 100000 in
theorem zs_14 {args : Array Value} {s : State} {A : Nat → Prop} (h : (Jvm.Cond.and given_1 narrow_1).before args s = true) (hA : ∀ a : Nat, a < s.heap.size → ¬ A a) : ∃ a v : Nat, (Term.string "PawnRace$RaceReader" 85).eval args s none [] s = some (.ref a) ∧ va_O "java/lang/String" a A s s.heap ∧ va_OF "java/lang/String" "coder" "B" (.int 0) a A s s.heap ∧ va_OF "java/lang/String" "value" "[B" (.ref v) a A s s.heap ∧ va_T .byte v (sLen 14) (fun j => .int (sByt 14 j)) A s s.heap :=
  zs_one (by decide) (st_in h (by decide +kernel)) (st_in h (by decide +kernel)) (st_in h (by decide +kernel)) (st_in h (by decide +kernel)) (fun j hj => by
    rcases (show j = 0 ∨ j = 1 ∨ j = 2 ∨ j = 3 ∨ j = 4 from by have : j < 5 := hj; omega) with rfl | rfl | rfl | rfl | rfl <;> exact st_in h (by decide +kernel)) hA
set_option maxRecDepth 100000 in
theorem zs_15 {args : Array Value} {s : State} {A : Nat → Prop} (h : (Jvm.Cond.and given_1 narrow_1).before args s = true) (hA : ∀ a : Nat, a < s.heap.size → ¬ A a) : ∃ a v : Nat, (Term.string "PawnRace$Tokens" 92).eval args s none [] s = some (.ref a) ∧ va_O "java/lang/String" a A s s.heap ∧ va_OF "java/lang/String" "coder" "B" (.int 0) a A s s.heap ∧ va_OF "java/lang/String" "value" "[B" (.ref v) a A s s.heap ∧ va_T .byte v (sLen 15) (fun j => .int (sByt 15 j)) A s s.heap :=
  zs_one (by decide) (st_in h (by decide +kernel)) (st_in h (by decide +kernel)) (st_in h (by decide +kernel)) (st_in h (by decide +kernel)) (fun j hj => by
    rcases (show j = 0 ∨ j = 1 ∨ j = 2 ∨ j = 3 ∨ j = 4 from by have : j < 5 := hj; omega) with rfl | rfl | rfl | rfl | rfl <;> exact st_in h (by decide +kernel)) hA
set_option maxRecDepth 100000 in
theorem zs_16 {args : Array Value} {s : State} {A : Nat → Prop} (h : (Jvm.Cond.and given_1 narrow_1).before args s = true) (hA : ∀ a : Nat, a < s.heap.size → ¬ A a) : ∃ a v : Nat, (Term.string "PawnRace$Tokens" 94).eval args s none [] s = some (.ref a) ∧ va_O "java/lang/String" a A s s.heap ∧ va_OF "java/lang/String" "coder" "B" (.int 0) a A s s.heap ∧ va_OF "java/lang/String" "value" "[B" (.ref v) a A s s.heap ∧ va_T .byte v (sLen 16) (fun j => .int (sByt 16 j)) A s s.heap :=
  zs_one (by decide) (st_in h (by decide +kernel)) (st_in h (by decide +kernel)) (st_in h (by decide +kernel)) (st_in h (by decide +kernel)) (fun j hj => by
    rcases (show j = 0 ∨ j = 1 ∨ j = 2 ∨ j = 3 ∨ j = 4 ∨ j = 5 ∨ j = 6 from by have : j < 7 := hj; omega) with rfl | rfl | rfl | rfl | rfl | rfl | rfl <;> exact st_in h (by decide +kernel)) hA
set_option maxRecDepth 100000 in
theorem zs_17 {args : Array Value} {s : State} {A : Nat → Prop} (h : (Jvm.Cond.and given_1 narrow_1).before args s = true) (hA : ∀ a : Nat, a < s.heap.size → ¬ A a) : ∃ a v : Nat, (Term.string "PawnRace$Script" 95).eval args s none [] s = some (.ref a) ∧ va_O "java/lang/String" a A s s.heap ∧ va_OF "java/lang/String" "coder" "B" (.int 0) a A s s.heap ∧ va_OF "java/lang/String" "value" "[B" (.ref v) a A s s.heap ∧ va_T .byte v (sLen 17) (fun j => .int (sByt 17 j)) A s s.heap :=
  zs_one (by decide) (st_in h (by decide +kernel)) (st_in h (by decide +kernel)) (st_in h (by decide +kernel)) (st_in h (by decide +kernel)) (fun j hj => by
    rcases (show j = 0 ∨ j = 1 ∨ j = 2 ∨ j = 3 from by have : j < 4 := hj; omega) with rfl | rfl | rfl | rfl <;> exact st_in h (by decide +kernel)) hA
set_option maxRecDepth 100000 in
theorem zs_18 {args : Array Value} {s : State} {A : Nat → Prop} (h : (Jvm.Cond.and given_1 narrow_1).before args s = true) (hA : ∀ a : Nat, a < s.heap.size → ¬ A a) : ∃ a v : Nat, (Term.string "PawnRace$Script" 101).eval args s none [] s = some (.ref a) ∧ va_O "java/lang/String" a A s s.heap ∧ va_OF "java/lang/String" "coder" "B" (.int 0) a A s s.heap ∧ va_OF "java/lang/String" "value" "[B" (.ref v) a A s s.heap ∧ va_T .byte v (sLen 18) (fun j => .int (sByt 18 j)) A s s.heap :=
  zs_one (by decide) (st_in h (by decide +kernel)) (st_in h (by decide +kernel)) (st_in h (by decide +kernel)) (st_in h (by decide +kernel)) (fun j hj => by
    rcases (show j = 0 ∨ j = 1 ∨ j = 2 ∨ j = 3 from by have : j < 4 := hj; omega) with rfl | rfl | rfl | rfl <;> exact st_in h (by decide +kernel)) hA
set_option maxRecDepth 100000 in
theorem zs_19 {args : Array Value} {s : State} {A : Nat → Prop} (h : (Jvm.Cond.and given_1 narrow_1).before args s = true) (hA : ∀ a : Nat, a < s.heap.size → ¬ A a) : ∃ a v : Nat, (Term.string "PawnRace$Script" 103).eval args s none [] s = some (.ref a) ∧ va_O "java/lang/String" a A s s.heap ∧ va_OF "java/lang/String" "coder" "B" (.int 0) a A s s.heap ∧ va_OF "java/lang/String" "value" "[B" (.ref v) a A s s.heap ∧ va_T .byte v (sLen 19) (fun j => .int (sByt 19 j)) A s s.heap :=
  zs_one (by decide) (st_in h (by decide +kernel)) (st_in h (by decide +kernel)) (st_in h (by decide +kernel)) (st_in h (by decide +kernel)) (fun j hj => by
    rcases (show j = 0 ∨ j = 1 ∨ j = 2 ∨ j = 3 from by have : j < 4 := hj; omega) with rfl | rfl | rfl | rfl <;> exact st_in h (by decide +kernel)) hA
set_option maxRecDepth 100000 in
theorem zs_20 {args : Array Value} {s : State} {A : Nat → Prop} (h : (Jvm.Cond.and given_1 narrow_1).before args s = true) (hA : ∀ a : Nat, a < s.heap.size → ¬ A a) : ∃ a v : Nat, (Term.string "PawnRace$Script" 105).eval args s none [] s = some (.ref a) ∧ va_O "java/lang/String" a A s s.heap ∧ va_OF "java/lang/String" "coder" "B" (.int 0) a A s s.heap ∧ va_OF "java/lang/String" "value" "[B" (.ref v) a A s s.heap ∧ va_T .byte v (sLen 20) (fun j => .int (sByt 20 j)) A s s.heap :=
  zs_one (by decide) (st_in h (by decide +kernel)) (st_in h (by decide +kernel)) (st_in h (by decide +kernel)) (st_in h (by decide +kernel)) (fun j hj => by
    rcases (show j = 0 ∨ j = 1 ∨ j = 2 ∨ j = 3 from by have : j < 4 := hj; omega) with rfl | rfl | rfl | rfl <;> exact st_in h (by decide +kernel)) hA
set_option maxRecDepth 100000 in
theorem zs_21 {args : Array Value} {s : State} {A : Nat → Prop} (h : (Jvm.Cond.and given_1 narrow_1).before args s = true) (hA : ∀ a : Nat, a < s.heap.size → ¬ A a) : ∃ a v : Nat, (Term.string "PawnRace$Script" 107).eval args s none [] s = some (.ref a) ∧ va_O "java/lang/String" a A s s.heap ∧ va_OF "java/lang/String" "coder" "B" (.int 0) a A s s.heap ∧ va_OF "java/lang/String" "value" "[B" (.ref v) a A s s.heap ∧ va_T .byte v (sLen 21) (fun j => .int (sByt 21 j)) A s s.heap :=
  zs_one (by decide) (st_in h (by decide +kernel)) (st_in h (by decide +kernel)) (st_in h (by decide +kernel)) (st_in h (by decide +kernel)) (fun j hj => by
    rcases (show j = 0 ∨ j = 1 ∨ j = 2 ∨ j = 3 ∨ j = 4 ∨ j = 5 from by have : j < 6 := hj; omega) with rfl | rfl | rfl | rfl | rfl | rfl <;> exact st_in h (by decide +kernel)) hA
theorem zx_s {args : Array Value} {s : State} (h : (Jvm.Cond.and given_1 narrow_1).before args s = true) (hts : ∀ w ∈ lw_tbl, w.before args s = true) : ∀ (t : Nat) (q : Nat × String), strX[t]? = some q → ∃ a, vk_R RX11 q.1 q.2 a s := by
  intro t q hq
  have ht : t < 18 := (List.getElem?_eq_some_iff.mp hq).1
  rcases (show t = 0 ∨ t = 1 ∨ t = 2 ∨ t = 3 ∨ t = 4 ∨ t = 5 ∨ t = 6 ∨ t = 7 ∨ t = 8 ∨ t = 9 ∨ t = 10 ∨ t = 11 ∨ t = 12 ∨ t = 13 ∨ t = 14 ∨ t = 15 ∨ t = 16 ∨ t = 17 by omega) with rfl | rfl | rfl | rfl | rfl | rfl | rfl | rfl | rfl | rfl | rfl | rfl | rfl | rfl | rfl | rfl | rfl | rfl
  · cases hq
    obtain ⟨a, ha⟩ := zs_ref (tm := .string RX11 95) (st_in h (by decide +kernel))
    exact ⟨a, vk_R.of (hts _ (tb_3 _ (List.mem_of_getElem? (i := 231) rfl))) ha⟩
  · cases hq
    obtain ⟨a, ha⟩ := zs_ref (tm := .string RX11 106) (st_in h (by decide +kernel))
    exact ⟨a, vk_R.of (hts _ (tb_4 _ (List.mem_of_getElem? (i := 38) rfl))) ha⟩
  · cases hq
    obtain ⟨a, ha⟩ := zs_ref (tm := .string RX11 113) (st_in h (by decide +kernel))
    exact ⟨a, vk_R.of (hts _ (tb_5 _ (List.mem_of_getElem? (i := 30) rfl))) ha⟩
  · cases hq
    obtain ⟨a, ha⟩ := zs_ref (tm := .string RX11 128) (st_in h (by decide +kernel))
    exact ⟨a, vk_R.of (hts _ (tb_5 _ (List.mem_of_getElem? (i := 96) rfl))) ha⟩
  · cases hq
    obtain ⟨a, ha⟩ := zs_ref (tm := .string RX11 167) (st_in h (by decide +kernel))
    exact ⟨a, vk_R.of (hts _ (tb_5 _ (List.mem_of_getElem? (i := 215) rfl))) ha⟩
  · cases hq
    obtain ⟨a, ha⟩ := zs_ref (tm := .string RX11 198) (st_in h (by decide +kernel))
    exact ⟨a, vk_R.of (hts _ (tb_6 _ (List.mem_of_getElem? (i := 8) rfl))) ha⟩
  · cases hq
    obtain ⟨a, ha⟩ := zs_ref (tm := .string RX11 276) (st_in h (by decide +kernel))
    exact ⟨a, vk_R.of (hts _ (tb_6 _ (List.mem_of_getElem? (i := 199) rfl))) ha⟩
  · cases hq
    obtain ⟨a, ha⟩ := zs_ref (tm := .string RX11 303) (st_in h (by decide +kernel))
    exact ⟨a, vk_R.of (hts _ (tb_7 _ (List.mem_of_getElem? (i := 1) rfl))) ha⟩
  · cases hq
    obtain ⟨a, ha⟩ := zs_ref (tm := .string RX11 319) (st_in h (by decide +kernel))
    exact ⟨a, vk_R.of (hts _ (tb_7 _ (List.mem_of_getElem? (i := 25) rfl))) ha⟩
  · cases hq
    obtain ⟨a, ha⟩ := zs_ref (tm := .string RX11 330) (st_in h (by decide +kernel))
    exact ⟨a, vk_R.of (hts _ (tb_7 _ (List.mem_of_getElem? (i := 35) rfl))) ha⟩
  · cases hq
    obtain ⟨a, ha⟩ := zs_ref (tm := .string RX11 339) (st_in h (by decide +kernel))
    exact ⟨a, vk_R.of (hts _ (tb_7 _ (List.mem_of_getElem? (i := 45) rfl))) ha⟩
  · cases hq
    obtain ⟨a, ha⟩ := zs_ref (tm := .string RX11 352) (st_in h (by decide +kernel))
    exact ⟨a, vk_R.of (hts _ (tb_7 _ (List.mem_of_getElem? (i := 61) rfl))) ha⟩
  · cases hq
    obtain ⟨a, ha⟩ := zs_ref (tm := .string RX11 360) (st_in h (by decide +kernel))
    exact ⟨a, vk_R.of (hts _ (tb_7 _ (List.mem_of_getElem? (i := 69) rfl))) ha⟩
  · cases hq
    obtain ⟨a, ha⟩ := zs_ref (tm := .string RX11 362) (st_in h (by decide +kernel))
    exact ⟨a, vk_R.of (hts _ (tb_5 _ (List.mem_of_getElem? (i := 237) rfl))) ha⟩
  · cases hq
    obtain ⟨a, ha⟩ := zs_ref (tm := .string RX11 368) (st_in h (by decide +kernel))
    exact ⟨a, vk_R.of (hts _ (tb_6 _ (List.mem_of_getElem? (i := 21) rfl))) ha⟩
  · cases hq
    obtain ⟨a, ha⟩ := zs_ref (tm := .string RX11 373) (st_in h (by decide +kernel))
    exact ⟨a, vk_R.of (hts _ (tb_6 _ (List.mem_of_getElem? (i := 34) rfl))) ha⟩
  · cases hq
    obtain ⟨a, ha⟩ := zs_ref (tm := .string RX11 375) (st_in h (by decide +kernel))
    exact ⟨a, vk_R.of (hts _ (tb_6 _ (List.mem_of_getElem? (i := 46) rfl))) ha⟩
  · cases hq
    obtain ⟨a, ha⟩ := zs_ref (tm := .string RX11 380) (st_in h (by decide +kernel))
    exact ⟨a, vk_R.of (hts _ (tb_7 _ (List.mem_of_getElem? (i := 15) rfl))) ha⟩
set_option maxRecDepth 100000 in
theorem zz_start {args : Array Value} {s : State} {A : Nat → Prop} (h : (Jvm.Cond.and given_1 narrow_1).before args s = true) (hts : ∀ w ∈ lw_tbl, w.before args s = true) (hA : ∀ a : Nat, a < s.heap.size → ¬ A a) : ∃ (tO : Nat) (sK sV : Nat → Nat), ZZ tO sK sV A s s.heap := by
  obtain ⟨tO, hO1, hO2⟩ := va_Tof (s := s) (args := args) (tm := .static "PawnRace" "OFFSETS" "[I") (ty := .int) (N := 4) (f := fun j => .int (offV j)) (A := A) (by decide) (st_in h (by decide +kernel)) (va_eqt (st_in h (by decide +kernel))) (fun j hj => by
    rcases (show j = 0 ∨ j = 1 ∨ j = 2 ∨ j = 3 by omega) with rfl | rfl | rfl | rfl <;> exact va_eqt (st_in h (by decide +kernel))) hA
  obtain ⟨k0, v0, s0⟩ := zs_0 h hA
  obtain ⟨k1, v1, s1⟩ := zs_1 h hA
  obtain ⟨k2, v2, s2⟩ := zs_2 h hA
  obtain ⟨k3, v3, s3⟩ := zs_3 h hA
  obtain ⟨k4, v4, s4⟩ := zs_4 h hA
  obtain ⟨k5, v5, s5⟩ := zs_5 h hA
  obtain ⟨k6, v6, s6⟩ := zs_6 h hA
  obtain ⟨k7, v7, s7⟩ := zs_7 h hA
  obtain ⟨k8, v8, s8⟩ := zs_8 h hA
  obtain ⟨k9, v9, s9⟩ := zs_9 h hA
  obtain ⟨k10, v10, s10⟩ := zs_10 h hA
  obtain ⟨k11, v11, s11⟩ := zs_11 h hA
  obtain ⟨k12, v12, s12⟩ := zs_12 h hA
  obtain ⟨k13, v13, s13⟩ := zs_13 h hA
  obtain ⟨k14, v14, s14⟩ := zs_14 h hA
  obtain ⟨k15, v15, s15⟩ := zs_15 h hA
  obtain ⟨k16, v16, s16⟩ := zs_16 h hA
  obtain ⟨k17, v17, s17⟩ := zs_17 h hA
  obtain ⟨k18, v18, s18⟩ := zs_18 h hA
  obtain ⟨k19, v19, s19⟩ := zs_19 h hA
  obtain ⟨k20, v20, s20⟩ := zs_20 h hA
  obtain ⟨k21, v21, s21⟩ := zs_21 h hA
  refine ⟨tO, fun i => [k0, k1, k2, k3, k4, k5, k6, k7, k8, k9, k10, k11, k12, k13, k14, k15, k16, k17, k18, k19, k20, k21].getD i 0, fun i => [v0, v1, v2, v3, v4, v5, v6, v7, v8, v9, v10, v11, v12, v13, v14, v15, v16, v17, v18, v19, v20, v21].getD i 0, ⟨va_Zref (hts _ (tb_3 _ (List.mem_of_getElem? (i := 73) rfl))) (hts _ (tb_1 _ (List.mem_of_getElem? (i := 1) rfl))) hO1 hA, hO2, va_Nw.of rfl (hts _ (tb_6 _ (List.mem_of_getElem? (i := 190) rfl))), va_Nw.of rfl (hts _ (tb_3 _ (List.mem_of_getElem? (i := 107) rfl))), va_Nw.of rfl (hts _ (tb_3 _ (List.mem_of_getElem? (i := 82) rfl))), va_Nw.of rfl (hts _ (tb_3 _ (List.mem_of_getElem? (i := 72) rfl))), va_Nw.of rfl (hts _ (tb_5 _ (List.mem_of_getElem? (i := 167) rfl)))⟩, ⟨fun i hi => ?_, fun i q hq => ?_, va_Zof (hts _ (tb_4 _ (List.mem_of_getElem? (i := 98) rfl))) (hts _ (tb_1 _ (List.mem_of_getElem? (i := 20) rfl))) (va_eqt (st_in h (by decide +kernel))) hA, va_Zqof (hts _ (tb_4 _ (List.mem_of_getElem? (i := 114) rfl))) (hts _ (tb_1 _ (List.mem_of_getElem? (i := 22) rfl))) (st_in h (by decide +kernel)) hA⟩, ⟨vx_Zqof (hts _ (tb_3 _ (List.mem_of_getElem? (i := 217) rfl))) (hts _ (tb_1 _ (List.mem_of_getElem? (i := 15) rfl))) (st_in h (by decide +kernel)) hA, vx_Zqof (hts _ (tb_3 _ (List.mem_of_getElem? (i := 219) rfl))) (hts _ (tb_1 _ (List.mem_of_getElem? (i := 15) rfl))) (st_in h (by decide +kernel)) hA, fun k hk => ?_, fun w hw => ?_, fun j k hj hk hn => ?_, zx_s h hts⟩, va_AO.of (hts _ (tb_1 _ (List.mem_of_getElem? (i := 219) rfl))), va_AO.of (hts _ (tb_2 _ (List.mem_of_getElem? (i := 29) rfl))), va_AO.of (hts _ (tb_2 _ (List.mem_of_getElem? (i := 189) rfl)))⟩
  · rcases (show i = 0 ∨ i = 1 ∨ i = 2 ∨ i = 3 ∨ i = 4 ∨ i = 5 ∨ i = 6 ∨ i = 7 ∨ i = 8 ∨ i = 9 ∨ i = 10 ∨ i = 11 ∨ i = 12 ∨ i = 13 ∨ i = 14 ∨ i = 15 ∨ i = 16 ∨ i = 17 ∨ i = 18 ∨ i = 19 ∨ i = 20 ∨ i = 21 by omega) with rfl | rfl | rfl | rfl | rfl | rfl | rfl | rfl | rfl | rfl | rfl | rfl | rfl | rfl | rfl | rfl | rfl | rfl | rfl | rfl | rfl | rfl
    · exact s0.2
    · exact s1.2
    · exact s2.2
    · exact s3.2
    · exact s4.2
    · exact s5.2
    · exact s6.2
    · exact s7.2
    · exact s8.2
    · exact s9.2
    · exact s10.2
    · exact s11.2
    · exact s12.2
    · exact s13.2
    · exact s14.2
    · exact s15.2
    · exact s16.2
    · exact s17.2
    · exact s18.2
    · exact s19.2
    · exact s20.2
    · exact s21.2
  · have hi : i < 22 := (List.getElem?_eq_some_iff.mp hq).1
    rcases (show i = 0 ∨ i = 1 ∨ i = 2 ∨ i = 3 ∨ i = 4 ∨ i = 5 ∨ i = 6 ∨ i = 7 ∨ i = 8 ∨ i = 9 ∨ i = 10 ∨ i = 11 ∨ i = 12 ∨ i = 13 ∨ i = 14 ∨ i = 15 ∨ i = 16 ∨ i = 17 ∨ i = 18 ∨ i = 19 ∨ i = 20 ∨ i = 21 by omega) with rfl | rfl | rfl | rfl | rfl | rfl | rfl | rfl | rfl | rfl | rfl | rfl | rfl | rfl | rfl | rfl | rfl | rfl | rfl | rfl | rfl | rfl
    · cases hq
      exact vk_R.of (hts _ (tb_4 _ (List.mem_of_getElem? (i := 84) rfl))) s0.1
    · cases hq
      exact vk_R.of (hts _ (tb_4 _ (List.mem_of_getElem? (i := 160) rfl))) s1.1
    · cases hq
      exact vk_R.of (hts _ (tb_4 _ (List.mem_of_getElem? (i := 165) rfl))) s2.1
    · cases hq
      exact vk_R.of (hts _ (tb_4 _ (List.mem_of_getElem? (i := 195) rfl))) s3.1
    · cases hq
      exact vk_R.of (hts _ (tb_4 _ (List.mem_of_getElem? (i := 197) rfl))) s4.1
    · cases hq
      exact vk_R.of (hts _ (tb_4 _ (List.mem_of_getElem? (i := 198) rfl))) s5.1
    · cases hq
      exact vk_R.of (hts _ (tb_4 _ (List.mem_of_getElem? (i := 199) rfl))) s6.1
    · cases hq
      exact vk_R.of (hts _ (tb_4 _ (List.mem_of_getElem? (i := 222) rfl))) s7.1
    · cases hq
      exact vk_R.of (hts _ (tb_4 _ (List.mem_of_getElem? (i := 227) rfl))) s8.1
    · cases hq
      exact vk_R.of (hts _ (tb_4 _ (List.mem_of_getElem? (i := 228) rfl))) s9.1
    · cases hq
      exact vk_R.of (hts _ (tb_4 _ (List.mem_of_getElem? (i := 230) rfl))) s10.1
    · cases hq
      exact vk_R.of (hts _ (tb_4 _ (List.mem_of_getElem? (i := 235) rfl))) s11.1
    · cases hq
      exact vk_R.of (hts _ (tb_5 _ (List.mem_of_getElem? (i := 0) rfl))) s12.1
    · cases hq
      exact vk_R.of (hts _ (tb_5 _ (List.mem_of_getElem? (i := 5) rfl))) s13.1
    · cases hq
      exact vk_R.of (hts _ (tb_5 _ (List.mem_of_getElem? (i := 16) rfl))) s14.1
    · cases hq
      exact vk_R.of (hts _ (tb_5 _ (List.mem_of_getElem? (i := 25) rfl))) s15.1
    · cases hq
      exact vk_R.of (hts _ (tb_5 _ (List.mem_of_getElem? (i := 26) rfl))) s16.1
    · cases hq
      exact vk_R.of (hts _ (tb_5 _ (List.mem_of_getElem? (i := 66) rfl))) s17.1
    · cases hq
      exact vk_R.of (hts _ (tb_5 _ (List.mem_of_getElem? (i := 68) rfl))) s18.1
    · cases hq
      exact vk_R.of (hts _ (tb_5 _ (List.mem_of_getElem? (i := 69) rfl))) s19.1
    · cases hq
      exact vk_R.of (hts _ (tb_5 _ (List.mem_of_getElem? (i := 70) rfl))) s20.1
    · cases hq
      exact vk_R.of (hts _ (tb_5 _ (List.mem_of_getElem? (i := 71) rfl))) s21.1
  · rcases (show k = 1 ∨ k = 2 ∨ k = 3 by omega) with rfl | rfl | rfl
    · exact va_Nw.of rfl (hts _ (tb_4 _ (List.mem_of_getElem? (i := 31) rfl)))
    · exact va_Nw.of rfl (hts _ (tb_3 _ (List.mem_of_getElem? (i := 192) rfl)))
    · exact va_Nw.of rfl (hts _ (tb_5 _ (List.mem_of_getElem? (i := 230) rfl)))
  · simp only [dcX, List.mem_cons, List.not_mem_nil, or_false] at hw
    rcases hw with rfl | rfl | rfl
    · exact va_Nw.of rfl (hts _ (tb_3 _ (List.mem_of_getElem? (i := 194) rfl)))
    · exact va_Nw.of rfl (hts _ (tb_3 _ (List.mem_of_getElem? (i := 196) rfl)))
    · exact va_Nw.of rfl (hts _ (tb_3 _ (List.mem_of_getElem? (i := 198) rfl)))
  · rcases (show (j = 1 ∧ k = 2) ∨ (j = 1 ∧ k = 3) ∨ (j = 2 ∧ k = 1) ∨ (j = 2 ∧ k = 3) ∨ (j = 3 ∧ k = 1) ∨ (j = 3 ∧ k = 2) by omega) with ⟨rfl, rfl⟩ | ⟨rfl, rfl⟩ | ⟨rfl, rfl⟩ | ⟨rfl, rfl⟩ | ⟨rfl, rfl⟩ | ⟨rfl, rfl⟩ <;> exact va_Nc.of (st_in h (by decide +kernel))
end ZZ
