section ZZS
/-- all that the law stands on: nobody writes it -/
def zV (U : State) : Prop := ∀ w ∈ selW, va_Nw w U
def ZZ (tO : Nat) (sK sV : Nat → Nat) (tA tU sB L : Nat) (xs : Nat → Int32) (uK uV : Nat → Nat) (tD tG eD : Nat) (A : Nat → Prop) (U : State) (H : Heap) : Prop := ZC tO sK sV A U H ∧ zW tA tU sB L xs A U H ∧ zV U ∧ zU uK uV tD A U H ∧ zDg tG A U H ∧ zE eD A U H
variable {tO tA tU sB L tD tG eD : Nat} {sK sV uK uV : Nat → Nat} {xs : Nat → Int32}
theorem zz_O : ZO (ZZ tO sK sV tA tU sB L xs uK uV tD tG eD) tO sK sV := fun _ _ _ h => zc_O _ _ _ h.1
theorem zz_X : ZX (ZZ tO sK sV tA tU sB L xs uK uV tD tG eD) := fun _ _ _ h => zc_X _ _ _ h.1
theorem zz_A : ZA (ZZ tO sK sV tA tU sB L xs uK uV tD tG eD) := fun _ _ _ h => zc_A _ _ _ h.1
theorem zz_W : ZWO (ZZ tO sK sV tA tU sB L xs uK uV tD tG eD) tA tU sB L xs := fun _ _ _ h => h.2.1
theorem zz_V : ZVO (ZZ tO sK sV tA tU sB L xs uK uV tD tG eD) := fun _ _ _ h => h.2.2.1
theorem zz_U : ZUO (ZZ tO sK sV tA tU sB L xs uK uV tD tG eD) uK uV tD := fun _ _ _ h => h.2.2.2.1
theorem zz_G : ∀ A U H, ZZ tO sK sV tA tU sB L xs uK uV tD tG eD A U H → zDg tG A U H := fun _ _ _ h => h.2.2.2.2.1
theorem zz_E : ∀ A U H, ZZ tO sK sV tA tU sB L xs uK uV tD tG eD A U H → zE eD A U H := fun _ _ _ h => h.2.2.2.2.2
theorem nw_keep {u U : State} (h : u.vm = U.vm ∨ u.WarmedH U.vm) {w : Cond} (hw : (w.onTables && w.keeps) = true) (hd : va_Nw w u) : va_Nw w U := h.elim (fun h => va_Nw.same (by simp only [Bool.and_eq_true] at hw; exact hw.1) h hd) (fun h => word_at h (Or.inl hw) hd)
theorem aoa_moved {ty : FieldType} {u U : State} (hvm : u.vm.Alike U.vm) (h : va_AOA ty u) : va_AOA ty U := by
  have h0 : (Cond.arrayOver (.array ty)).holds #[] u none u [] = true := h
  simp only [Cond.holds, Cond.value, beq_iff_eq] at h0
  cases hc : u.vm.findClass (FieldType.array ty).toString with
  | none => simp [hc] at h0
  | some comp =>
    simp only [hc, Option.bind_some, Option.bind_eq_some_iff, Option.map_eq_some_iff] at h0
    obtain ⟨c, h2, k, h3, hb⟩ := h0
    obtain ⟨k', hk', he⟩ := hvm.2.2 _ _ h3
    have hi : (U.vm.classes.findIdx? fun (x : Class) => match x.kind with | .array component _ => component == comp | _ => false) = some c := by
      have e1 := va_idx_bare U.vm comp
      have e2 := va_idx_bare u.vm comp
      have e3 : u.vm.bare = U.vm.bare := by first | exact hvm.bare_eq | exact hvm.bare_eq.symm
      rw [← e3] at e1
      exact e1.symm.trans (e2.trans h2)
    have hkind : k'.kind = k.kind := by rw [he]
    have f1 : U.vm.findClass (FieldType.array ty).toString = some comp := by rw [hvm.findClass]; exact hc
    unfold va_AOA Cond.before Cond.holds
    simp only [Cond.value]
    rw [f1, Option.bind_some]
    refine (congrArg (fun o : Option Nat => (o.bind (fun c => (U.vm.classes[c]?).map fun (k : Class) => match k.kind with | .array _ t => decide (t = FieldType.array ty) && decide (U.vm.findClass ("[" ++ (FieldType.array ty).toString) = some c) | _ => false) == some true)) hi).trans ?_
    rw [Option.bind_some, hk', Option.map_some, hkind]
    cases hq : k.kind with
    | array component t =>
      rw [hq] at hb
      have hb' : (decide (t = FieldType.array ty) && decide (u.vm.findClass ("[" ++ (FieldType.array ty).toString) = some c)) = true := hb
      rw [← hvm.findClass] at hb'
      show (some (decide (t = FieldType.array ty) && decide (U.vm.findClass ("[" ++ (FieldType.array ty).toString) = some c)) == some true) = true
      rw [hb']
      rfl
    | _ =>
      rw [hq] at hb
      cases hb
theorem zz_ok : ZOK (ZZ tO sK sV tA tU sB L xs uK uV tD tG eD) := by
  refine ⟨fun A U H H1 h hq => ?_, fun A B U H h hAB => ?_, fun A u U H hvm h => ?_⟩
  · obtain ⟨c, ⟨⟨w1, w2⟩, ⟨w3, w4⟩, w5, w6⟩, v, ⟨u1, u2, u3, u4⟩, ⟨g1, g2⟩, e1, e2⟩ := h
    exact ⟨zc_ok.1 _ _ _ _ c hq, ⟨⟨w1.kept hq, w2.kept hq⟩, ⟨w3.kept hq, w4.kept hq⟩, w5.kept hq, w6⟩, v, ⟨fun i hi => ⟨(u1 i hi).1.kept hq, (u1 i hi).2.1.kept hq, (u1 i hi).2.2.1.kept hq, (u1 i hi).2.2.2.kept hq⟩, u2, u3.kept hq, u4.kept hq⟩, ⟨g1.kept hq, g2.kept hq⟩, e1.kept hq, e2.kept hq⟩
  · obtain ⟨c, ⟨⟨w1, w2⟩, ⟨w3, w4⟩, w5, w6⟩, v, ⟨u1, u2, u3, u4⟩, ⟨g1, g2⟩, e1, e2⟩ := h
    exact ⟨zc_ok.2.1 _ _ _ _ c hAB, ⟨⟨w1.narrow hAB, w2.narrow hAB⟩, ⟨w3.narrow hAB, w4.narrow hAB⟩, w5.narrow hAB, w6⟩, v, ⟨fun i hi => ⟨(u1 i hi).1.narrow hAB, (u1 i hi).2.1.narrow hAB, (u1 i hi).2.2.1.narrow hAB, (u1 i hi).2.2.2.narrow hAB⟩, u2, u3.narrow hAB, u4.narrow hAB⟩, ⟨g1.narrow hAB, g2.narrow hAB⟩, e1.narrow hAB, e2.narrow hAB⟩
  · have al := zc_al hvm
    obtain ⟨c, ⟨⟨w1, w2⟩, ⟨w3, w4⟩, w5, w6, w7, w8, w9⟩, v, ⟨u1, u2, u3, u4⟩, ⟨g1, g2⟩, e1, e2⟩ := h
    have wF : ∀ {a : String} {i : Nat} {b n d h : String}, va_Nw (.fieldLinkNest a i b n d h) u → va_Nw (.fieldLinkNest a i b n d h) U := fun hd => hvm.elim (fun h => va_Nw.same rfl h hd) (fun h => va_Nw.warmF h hd)
    have wM : ∀ {a : String} {i : Nat} {x : MethodName} {h : String}, va_Nw (.methodLinkNest a i x h) u → va_Nw (.methodLinkNest a i x h) U := fun hd => hvm.elim (fun h => va_Nw.same rfl h hd) (fun h => va_Nw.warmM h hd)
    have wC : ∀ {a b : String}, va_Nw (.castable a b) u → va_Nw (.castable a b) U := fun hd => hvm.elim (fun h => va_Nw.same rfl h hd) (fun h => va_Nw.warmC h hd)
    have wR : ∀ {own tx : String} {k a : Nat}, vk_R own k tx a u → vk_R own k tx a U := fun hd => hvm.elim (fun h => vk_R.same h.symm hd) (fun h => vk_R.warm h hd)
    refine ⟨zc_ok.2.2 _ _ _ _ hvm c, ⟨⟨va_Z.moved al w1, va_T.moved al w2⟩, ⟨va_Z.moved al w3, va_T.moved al w4⟩, va_T.moved al w5, fun w hw => ?_, fun q hq => ?_, ?_, va_AO.moved al w9⟩, fun w hw => ?_, ⟨fun i hi => ⟨va_O.moved al (u1 i hi).1, va_OF.moved al (u1 i hi).2.1, va_OF.moved al (u1 i hi).2.2.1, va_T.moved al (u1 i hi).2.2.2⟩, fun i q hq => wR (u2 i q hq), va_Z.moved al u3, va_T.moved al u4⟩, ⟨va_Z.moved al g1, va_T.moved al g2⟩, va_Z.moved al e1, va_T.moved al e2⟩
    · have h4 := w6 w hw
      simp only [nstW, List.mem_cons, List.not_mem_nil, or_false] at hw
      rcases hw with rfl | rfl | rfl | rfl | rfl | rfl | rfl
      · exact wF h4
      · exact wF h4
      · exact wF h4
      · exact wM h4
      · exact wM h4
      · exact wF h4
      · exact nw_keep hvm rfl h4
    · have h5 := w7 q hq
      simp only [lstI, List.mem_cons, List.not_mem_nil, or_false] at hq
      rcases hq with rfl | rfl | rfl | rfl | rfl | rfl | rfl <;> exact va_Fw.moved ⟨by decide +kernel, by decide +kernel⟩ al h5
    · exact aoa_moved al w8
    · have h6 := v w hw
      simp only [selW, List.mem_cons, List.not_mem_nil, or_false] at hw
      rcases hw with rfl | rfl | rfl | rfl | rfl | rfl
      · exact nw_keep hvm rfl h6
      · exact nw_keep hvm rfl h6
      · exact nw_keep hvm rfl h6
      · exact nw_keep hvm rfl h6
      · exact wC h6
      · exact wC h6
end ZZS
