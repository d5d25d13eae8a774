section ZZT
theorem va_eqr {args : Array Value} {s : State} {t1 t2 : Term} {a : Nat} (h : (Cond.eq t1 t2).before args s = true) (h2 : t2.eval args s none [] s = some (.ref a)) : t1.eval args s none [] s = some (.ref a) := by
  cases hv : t1.eval args s none [] s with
  | none => simp [Cond.before, Cond.holds, Cond.value, hv] at h
  | some w =>
    simp only [Cond.before, Cond.holds, Cond.value, hv, h2] at h
    cases w <;> simp_all
set_option maxRecDepth 100000 in
theorem zz_start {args : Array Value} {s : State} {A : Nat → Prop} (h : (Jvm.Cond.and given_1 narrow_1).before args s = true) (hts : ∀ w ∈ lw_tbl, w.before args s = true) (hA : ∀ a : Nat, a < s.heap.size → ¬ A a) {b L : Nat} {xs : Nat → Int32} (hX : va_X b L xs s s.heap) (hb : b < s.heap.size) : ∃ (tO : Nat) (sK sV : Nat → Nat) (tA tU : Nat) (uK uV : Nat → Nat) (tD tG eD : Nat), ZZ tO sK sV tA tU b L xs uK uV tD tG eD A s s.heap := by
  obtain ⟨tO, sK, sV, hc⟩ := zc_start (A := A) h hts hA
  obtain ⟨k0, v0, s0⟩ := zu_0 (A := A) h hA
  obtain ⟨k1, v1, s1⟩ := zu_1 (A := A) h hA
  obtain ⟨k2, v2, s2⟩ := zu_2 (A := A) h hA
  obtain ⟨k3, v3, s3⟩ := zu_3 (A := A) h hA
  obtain ⟨k4, v4, s4⟩ := zu_4 (A := A) h hA
  obtain ⟨k5, v5, s5⟩ := zu_5 (A := A) h hA
  obtain ⟨k6, v6, s6⟩ := zu_6 (A := A) h hA
  obtain ⟨k7, v7, s7⟩ := zu_7 (A := A) h hA
  obtain ⟨k8, v8, s8⟩ := zu_8 (A := A) h hA
  obtain ⟨k9, v9, s9⟩ := zu_9 (A := A) h hA
  obtain ⟨k10, v10, s10⟩ := zu_10 (A := A) h hA
  obtain ⟨k11, v11, s11⟩ := zu_11 (A := A) h hA
  obtain ⟨k12, v12, s12⟩ := zu_12 (A := A) h hA
  obtain ⟨k13, v13, s13⟩ := zu_13 (A := A) h hA
  obtain ⟨k14, v14, s14⟩ := zu_14 (A := A) h hA
  obtain ⟨k15, v15, s15⟩ := zu_15 (A := A) h hA
  obtain ⟨k16, v16, s16⟩ := zu_16 (A := A) h hA
  obtain ⟨k17, v17, s17⟩ := zu_17 (A := A) h hA
  obtain ⟨k18, v18, s18⟩ := zu_18 (A := A) h hA
  obtain ⟨k19, v19, s19⟩ := zu_19 (A := A) h hA
  obtain ⟨k20, v20, s20⟩ := zu_20 (A := A) h hA
  obtain ⟨k21, v21, s21⟩ := zu_21 (A := A) h hA
  obtain ⟨k22, v22, s22⟩ := zu_22 (A := A) h hA
  obtain ⟨tA, hA1, hA2⟩ := va_Tof (s := s) (args := args) (tm := .static "PawnRaceLaw" "ACROSS" "[I") (ty := .int) (N := 4) (f := fun j => .int (dxV j)) (A := A) (by decide) (st_in h (by decide +kernel)) (va_eqt (st_in h (by decide +kernel))) (fun j hj => by
    rcases (show j = 0 ∨ j = 1 ∨ j = 2 ∨ j = 3 by omega) with rfl | rfl | rfl | rfl <;> exact va_eqt (st_in h (by decide +kernel))) hA
  obtain ⟨tU, hU1, hU2⟩ := va_Tof (s := s) (args := args) (tm := .static "PawnRaceLaw" "UP" "[I") (ty := .int) (N := 4) (f := fun j => .int (dyV j)) (A := A) (by decide) (st_in h (by decide +kernel)) (va_eqt (st_in h (by decide +kernel))) (fun j hj => by
    rcases (show j = 0 ∨ j = 1 ∨ j = 2 ∨ j = 3 by omega) with rfl | rfl | rfl | rfl <;> exact va_eqt (st_in h (by decide +kernel))) hA
  obtain ⟨tD, hD1, hD2⟩ := va_Tof (s := s) (args := args) (tm := .static "PawnRaceLaw" "SIDES" "[Ljava/lang/String;") (ty := .object "java/lang/String") (N := 4) (f := fun j => .ref ((fun i => [k0, k1, k2, k3, k4, k5, k6, k7, k8, k9, k10, k11, k12, k13, k14, k15, k16, k17, k18, k19, k20, k21, k22].getD i 0) (19 + j))) (A := A) (by decide) (st_in h (by decide +kernel)) (va_eqt (st_in h (by decide +kernel))) (fun j hj => by
    rcases (show j = 0 ∨ j = 1 ∨ j = 2 ∨ j = 3 by omega) with rfl | rfl | rfl | rfl
    · exact va_eqr (st_in h (by decide +kernel)) s19.1
    · exact va_eqr (st_in h (by decide +kernel)) s20.1
    · exact va_eqr (st_in h (by decide +kernel)) s21.1
    · exact va_eqr (st_in h (by decide +kernel)) s22.1) hA
  obtain ⟨tG, hG1, hG2⟩ := va_Tof (s := s) (args := args) (tm := .static "java/lang/Integer" "DigitOnes" "[B") (ty := .byte) (N := 100) (f := fun j => .int (dgO j)) (A := A) (by decide) (st_in h (by decide +kernel)) (va_eqt (st_in h (by decide +kernel))) (fun j hj => by
    refine va_eqt ?_
    by_cases h1 : j < 20
    · exact zd_0 h j (by omega) h1
    by_cases h2 : j < 40
    · exact zd_1 h j (by omega) h2
    by_cases h3 : j < 60
    · exact zd_2 h j (by omega) h3
    by_cases h4 : j < 80
    · exact zd_3 h j (by omega) h4
    exact zd_4 h j (by omega) hj) hA
  obtain ⟨eD, hE1, hE2⟩ := va_Tof (s := s) (args := args) (tm := .static "java/util/ArrayList" "DEFAULTCAPACITY_EMPTY_ELEMENTDATA" "[Ljava/lang/Object;") (ty := .object "java/lang/Object") (N := 0) (f := fun _ => .null) (A := A) (by decide) (st_in h (by decide +kernel)) (va_eqt (st_in h (by decide +kernel))) (fun j hj => absurd hj (Nat.not_lt_zero j)) hA
  obtain ⟨scr, x1, x2, x3, x4, x5⟩ := hX
  refine ⟨tO, sK, sV, tA, tU, (fun i => [k0, k1, k2, k3, k4, k5, k6, k7, k8, k9, k10, k11, k12, k13, k14, k15, k16, k17, k18, k19, k20, k21, k22].getD i 0), (fun i => [v0, v1, v2, v3, v4, v5, v6, v7, v8, v9, v10, v11, v12, v13, v14, v15, v16, v17, v18, v19, v20, v21, v22].getD i 0), tD, tG, eD, hc, ⟨⟨va_Zref (hts _ (tb_6 _ (List.mem_of_getElem? (i := 135) rfl))) (hts _ (tb_1 _ (List.mem_of_getElem? (i := 0) rfl))) hA1 hA, hA2⟩, ⟨va_Zref (hts _ (tb_6 _ (List.mem_of_getElem? (i := 137) rfl))) (hts _ (tb_1 _ (List.mem_of_getElem? (i := 0) rfl))) hU1 hA, hU2⟩, ⟨scr, x1, x2, x3, by omega, by rw [x4], fun j hj => x5 j hj, hA b hb⟩, fun w hw => ?_, fun q hq => ?_, hts _ (tb_4 _ (List.mem_of_getElem? (i := 187) rfl)), va_AO.of (hts _ (tb_6 _ (List.mem_of_getElem? (i := 86) rfl)))⟩, fun w hw => ?_, ⟨fun i hi => ?_, fun i q hq => ?_, va_Zref (hts _ (tb_5 _ (List.mem_of_getElem? (i := 214) rfl))) (hts _ (tb_1 _ (List.mem_of_getElem? (i := 0) rfl))) hD1 hA, hD2⟩, ⟨va_Zref (hts _ (tb_5 _ (List.mem_of_getElem? (i := 143) rfl))) (hts _ (tb_1 _ (List.mem_of_getElem? (i := 16) rfl))) hG1 hA, hG2⟩, va_Zref (hts _ (tb_4 _ (List.mem_of_getElem? (i := 170) rfl))) (hts _ (tb_1 _ (List.mem_of_getElem? (i := 4) rfl))) hE1 hA, hE2⟩
  · simp only [nstW, List.mem_cons, List.not_mem_nil, or_false] at hw
    rcases hw with rfl | rfl | rfl | rfl | rfl | rfl | rfl
    · exact va_Nw.of rfl (hts _ (tb_6 _ (List.mem_of_getElem? (i := 134) rfl)))
    · exact va_Nw.of rfl (hts _ (tb_6 _ (List.mem_of_getElem? (i := 136) rfl)))
    · exact va_Nw.of rfl (hts _ (tb_5 _ (List.mem_of_getElem? (i := 213) rfl)))
    · exact va_Nw.of rfl (hts _ (tb_5 _ (List.mem_of_getElem? (i := 25) rfl)))
    · exact va_Nw.of rfl (hts _ (tb_7 _ (List.mem_of_getElem? (i := 160) rfl)))
    · exact va_Nw.of rfl (hts _ (tb_4 _ (List.mem_of_getElem? (i := 173) rfl)))
    · exact va_Nw.of rfl (hts _ (tb_4 _ (List.mem_of_getElem? (i := 177) rfl)))
  · simp only [lstI, List.mem_cons, List.not_mem_nil, or_false] at hq
    rcases hq with rfl | rfl | rfl | rfl | rfl | rfl | rfl
    · exact va_Fw.of (hts _ (tb_5 _ (List.mem_of_getElem? (i := 169) rfl))) (hts _ (tb_5 _ (List.mem_of_getElem? (i := 168) rfl))) (hts _ (tb_5 _ (List.mem_of_getElem? (i := 174) rfl))) (hts _ (tb_5 _ (List.mem_of_getElem? (i := 172) rfl))) (hts _ (tb_5 _ (List.mem_of_getElem? (i := 170) rfl)))
    · exact va_Fw.of (hts _ (tb_5 _ (List.mem_of_getElem? (i := 179) rfl))) (hts _ (tb_5 _ (List.mem_of_getElem? (i := 178) rfl))) (hts _ (tb_5 _ (List.mem_of_getElem? (i := 183) rfl))) (hts _ (tb_5 _ (List.mem_of_getElem? (i := 181) rfl))) (hts _ (tb_5 _ (List.mem_of_getElem? (i := 170) rfl)))
    · exact va_Fw.of (hts _ (tb_6 _ (List.mem_of_getElem? (i := 36) rfl))) (hts _ (tb_6 _ (List.mem_of_getElem? (i := 35) rfl))) (hts _ (tb_6 _ (List.mem_of_getElem? (i := 40) rfl))) (hts _ (tb_6 _ (List.mem_of_getElem? (i := 38) rfl))) (hts _ (tb_5 _ (List.mem_of_getElem? (i := 170) rfl)))
    · exact va_Fw.of (hts _ (tb_6 _ (List.mem_of_getElem? (i := 93) rfl))) (hts _ (tb_6 _ (List.mem_of_getElem? (i := 92) rfl))) (hts _ (tb_6 _ (List.mem_of_getElem? (i := 97) rfl))) (hts _ (tb_6 _ (List.mem_of_getElem? (i := 95) rfl))) (hts _ (tb_5 _ (List.mem_of_getElem? (i := 170) rfl)))
    · exact va_Fw.of (hts _ (tb_7 _ (List.mem_of_getElem? (i := 92) rfl))) (hts _ (tb_7 _ (List.mem_of_getElem? (i := 91) rfl))) (hts _ (tb_7 _ (List.mem_of_getElem? (i := 96) rfl))) (hts _ (tb_7 _ (List.mem_of_getElem? (i := 94) rfl))) (hts _ (tb_5 _ (List.mem_of_getElem? (i := 170) rfl)))
    · exact va_Fw.of (hts _ (tb_7 _ (List.mem_of_getElem? (i := 120) rfl))) (hts _ (tb_7 _ (List.mem_of_getElem? (i := 119) rfl))) (hts _ (tb_7 _ (List.mem_of_getElem? (i := 125) rfl))) (hts _ (tb_7 _ (List.mem_of_getElem? (i := 123) rfl))) (hts _ (tb_7 _ (List.mem_of_getElem? (i := 121) rfl)))
    · exact va_Fw.of (hts _ (tb_7 _ (List.mem_of_getElem? (i := 130) rfl))) (hts _ (tb_7 _ (List.mem_of_getElem? (i := 129) rfl))) (hts _ (tb_7 _ (List.mem_of_getElem? (i := 134) rfl))) (hts _ (tb_7 _ (List.mem_of_getElem? (i := 132) rfl))) (hts _ (tb_7 _ (List.mem_of_getElem? (i := 121) rfl)))
  · simp only [selW, List.mem_cons, List.not_mem_nil, or_false] at hw
    rcases hw with rfl | rfl | rfl | rfl | rfl | rfl
    · exact va_Nw.of rfl (sel_priv ⟨by decide +kernel, by decide +kernel⟩ (hts _ (tb_4 _ (List.mem_of_getElem? (i := 232) rfl))) (hts _ (tb_5 _ (List.mem_of_getElem? (i := 46) rfl))) (hts _ (tb_5 _ (List.mem_of_getElem? (i := 47) rfl))) (hts _ (tb_8 _ (List.mem_of_getElem? (i := 172) rfl))))
    · exact va_Nw.of rfl (sel_priv ⟨by decide +kernel, by decide +kernel⟩ (hts _ (tb_4 _ (List.mem_of_getElem? (i := 232) rfl))) (hts _ (tb_5 _ (List.mem_of_getElem? (i := 50) rfl))) (hts _ (tb_5 _ (List.mem_of_getElem? (i := 51) rfl))) (hts _ (tb_8 _ (List.mem_of_getElem? (i := 173) rfl))))
    · exact va_Nw.of rfl (sel_priv ⟨by decide +kernel, by decide +kernel⟩ (hts _ (tb_4 _ (List.mem_of_getElem? (i := 232) rfl))) (hts _ (tb_5 _ (List.mem_of_getElem? (i := 100) rfl))) (hts _ (tb_5 _ (List.mem_of_getElem? (i := 101) rfl))) (hts _ (tb_8 _ (List.mem_of_getElem? (i := 175) rfl))))
    · exact va_Nw.of rfl (sel_priv ⟨by decide +kernel, by decide +kernel⟩ (hts _ (tb_4 _ (List.mem_of_getElem? (i := 232) rfl))) (hts _ (tb_5 _ (List.mem_of_getElem? (i := 96) rfl))) (hts _ (tb_5 _ (List.mem_of_getElem? (i := 97) rfl))) (hts _ (tb_8 _ (List.mem_of_getElem? (i := 174) rfl))))
    · exact va_Nw.of rfl (hts _ (tb_5 _ (List.mem_of_getElem? (i := 70) rfl)))
    · exact va_Nw.of rfl (hts _ (tb_8 _ (List.mem_of_getElem? (i := 204) rfl)))
  · rcases (show i = 0 ∨ i = 1 ∨ i = 2 ∨ i = 3 ∨ i = 4 ∨ i = 5 ∨ i = 6 ∨ i = 7 ∨ i = 8 ∨ i = 9 ∨ i = 10 ∨ i = 11 ∨ i = 12 ∨ i = 13 ∨ i = 14 ∨ i = 15 ∨ i = 16 ∨ i = 17 ∨ i = 18 ∨ i = 19 ∨ i = 20 ∨ i = 21 ∨ i = 22 by omega) with rfl | rfl | rfl | rfl | rfl | rfl | rfl | rfl | rfl | rfl | rfl | rfl | rfl | rfl | rfl | rfl | rfl | rfl | rfl | rfl | rfl | rfl | rfl
    · exact s0.2
    · exact s1.2
    · exact s2.2
    · exact s3.2
    · exact s4.2
    · exact s5.2
    · exact s6.2
    · exact s7.2
    · exact s8.2
    · exact s9.2
    · exact s10.2
    · exact s11.2
    · exact s12.2
    · exact s13.2
    · exact s14.2
    · exact s15.2
    · exact s16.2
    · exact s17.2
    · exact s18.2
    · exact s19.2
    · exact s20.2
    · exact s21.2
    · exact s22.2
  · have hi : i < 19 := (List.getElem?_eq_some_iff.mp hq).1
    rcases (show i = 0 ∨ i = 1 ∨ i = 2 ∨ i = 3 ∨ i = 4 ∨ i = 5 ∨ i = 6 ∨ i = 7 ∨ i = 8 ∨ i = 9 ∨ i = 10 ∨ i = 11 ∨ i = 12 ∨ i = 13 ∨ i = 14 ∨ i = 15 ∨ i = 16 ∨ i = 17 ∨ i = 18 by omega) with rfl | rfl | rfl | rfl | rfl | rfl | rfl | rfl | rfl | rfl | rfl | rfl | rfl | rfl | rfl | rfl | rfl | rfl | rfl
    · cases hq
      exact vk_R.of (hts _ (tb_4 _ (List.mem_of_getElem? (i := 188) rfl))) s0.1
    · cases hq
      exact vk_R.of (hts _ (tb_5 _ (List.mem_of_getElem? (i := 33) rfl))) s1.1
    · cases hq
      exact vk_R.of (hts _ (tb_5 _ (List.mem_of_getElem? (i := 154) rfl))) s2.1
    · cases hq
      exact vk_R.of (hts _ (tb_5 _ (List.mem_of_getElem? (i := 155) rfl))) s3.1
    · cases hq
      exact vk_R.of (hts _ (tb_5 _ (List.mem_of_getElem? (i := 156) rfl))) s4.1
    · cases hq
      exact vk_R.of (hts _ (tb_5 _ (List.mem_of_getElem? (i := 157) rfl))) s5.1
    · cases hq
      exact vk_R.of (hts _ (tb_5 _ (List.mem_of_getElem? (i := 198) rfl))) s6.1
    · cases hq
      exact vk_R.of (hts _ (tb_5 _ (List.mem_of_getElem? (i := 212) rfl))) s7.1
    · cases hq
      exact vk_R.of (hts _ (tb_5 _ (List.mem_of_getElem? (i := 215) rfl))) s8.1
    · cases hq
      exact vk_R.of (hts _ (tb_6 _ (List.mem_of_getElem? (i := 103) rfl))) s9.1
    · cases hq
      exact vk_R.of (hts _ (tb_6 _ (List.mem_of_getElem? (i := 104) rfl))) s10.1
    · cases hq
      exact vk_R.of (hts _ (tb_6 _ (List.mem_of_getElem? (i := 105) rfl))) s11.1
    · cases hq
      exact vk_R.of (hts _ (tb_6 _ (List.mem_of_getElem? (i := 106) rfl))) s12.1
    · cases hq
      exact vk_R.of (hts _ (tb_6 _ (List.mem_of_getElem? (i := 107) rfl))) s13.1
    · cases hq
      exact vk_R.of (hts _ (tb_6 _ (List.mem_of_getElem? (i := 108) rfl))) s14.1
    · cases hq
      exact vk_R.of (hts _ (tb_6 _ (List.mem_of_getElem? (i := 109) rfl))) s15.1
    · cases hq
      exact vk_R.of (hts _ (tb_6 _ (List.mem_of_getElem? (i := 142) rfl))) s16.1
    · cases hq
      exact vk_R.of (hts _ (tb_6 _ (List.mem_of_getElem? (i := 143) rfl))) s17.1
    · cases hq
      exact vk_R.of (hts _ (tb_6 _ (List.mem_of_getElem? (i := 144) rfl))) s18.1
end ZZT
