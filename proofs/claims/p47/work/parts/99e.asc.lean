section ASCM
/-- what nobody asks for again -/
def PSk (k j : Nat) : Bool := !(((decide (35 ≤ k) && decide (k < 57)) || decide (101 ≤ k)) || ((k == 33 || (k == 3 || k == 1)) || ((k == 2 && (j == 1 || (j == 11 || j == 12))) || (k == 0 && (j == 10 || j == 13)))))
def PSn (k j : Nat) : Bool := !(((k == 1 || k == 2) || (k == 3 || (k == 4 || k == 22))) || (k == 0 && ((j == 2 || j == 10) || ((j == 11 || j == 18) || (j == 19 || (j == 48 || j == 49))))))
theorem JJ_sc {c m c2 m2 : Mem} (h : JJ c m) (f : Fr (fun k j => PSk k j || ZR 0 k j) c c2) (g : Fr PSn m m2) (hR : ∀ s, InvH s → RC c 0 s → RC c2 0 s) (hB : BWok c → BWok c2) : JJ c2 m2 := by
  obtain ⟨s, sv, u, ps, L, T, e, p, hv, rp, ⟨⟨a1, a2, a3⟩, ⟨⟨b1, b2, b3, b4⟩, b5, b6, b7, b8⟩, ⟨d1, d2⟩, d3, d4⟩, ⟨e1, e2, e3, e4⟩, ⟨f1, f2, f3⟩, ⟨⟨g1, g2⟩, g3, g4⟩, g5⟩ := h
  have hi : ∀ k j, 101 ≤ k → (fun k j => PSk k j || ZR 0 k j : Nat → Nat → Bool) k j = false := fun k j q => by
    have z1 : PSk k j = false := by
      unfold PSk
      simp only [Bool.not_eq_false', Bool.or_eq_true, Bool.and_eq_true, beq_iff_eq, decide_eq_true_iff]
      omega
    have z2 : ZR 0 k j = false := by
      unfold ZR
      simp only [Bool.and_eq_false_iff, decide_eq_false_iff_not]
      omega
    simp only [z1, z2]
    rfl
  refine ⟨s, sv, u, ps, L, T, e, p, hv, rp, ⟨⟨hR s a3 a1, fun j => (g.1 _ _ rfl).trans (a2 j), a3⟩, ⟨⟨b1, b2, (f.1 _ _ rfl).trans b3, fun i hi => (f.1 _ _ rfl).trans (b4 i hi)⟩, b5, b6, (g.1 _ _ rfl).trans b7, fun i hi => (g.1 _ _ rfl).trans (b8 i hi)⟩, ⟨(f.1 _ _ rfl).trans d1, (f.1 _ _ rfl).trans d2⟩, (g.1 _ _ rfl).trans d3, (g.1 _ _ rfl).trans d4⟩, ⟨e1, ?_, ⟨(g.1 _ _ rfl).trans e3.1, fun i j q1 q2 => (g.1 _ _ rfl).trans (e3.2 i j q1 q2)⟩, e4⟩, ⟨(f.1 _ _ rfl).trans f1, (g.1 _ _ rfl).trans f2, fun q => ?_⟩, ⟨⟨(f.1 _ _ rfl).trans g1, fun i hi => (f.1 _ _ rfl).trans (g2 i hi)⟩, g3, ?_⟩, hB g5⟩
  · obtain ⟨nx, n1, n2, n3, n4⟩ := e2
    exact ⟨nx, n1, (f.1 _ _ rfl).trans n2, (f.1 _ _ rfl).trans n3, fun i hi2 => RC_fr2 f (fun k j q1 q2 => hi k j (by omega)) (n4 i hi2)⟩
  · obtain ⟨q1, q2, q3⟩ := f3 q
    exact ⟨RC_fr2 f (fun k j x1 x2 => hi k j (by omega)) q1, q2, fun j hj => (g.1 _ _ rfl).trans (q3 j hj)⟩
  · rcases g4 with ⟨q1, q2, q3⟩ | ⟨q1, q2⟩
    · exact Or.inl ⟨(g.1 _ _ rfl).trans q1, (g.1 _ _ rfl).trans q2, fun i hi => (g.1 _ _ rfl).trans (q3 i hi)⟩
    · exact Or.inr ⟨(g.1 _ _ rfl).trans q1, q2⟩
theorem case8 (fu : Nat) (a : Nat → Int32) {mem : Mem} (h : JJ mem (mMp mem)) : ∃ mem2, K_case_8 fu a mem = some mem2 ∧ JJ mem2 (mMp mem2) := by
  have h' := h
  obtain ⟨s, sv, u, ps, L, T, e, p, hv, rp, ⟨⟨a1, a2, a3⟩, _⟩, _⟩ := h'
  have hS : MS (mw (mMp mem) 0 0 0) s := MS_P (P := fun k _ => k == 0) a2 (Fr_mw _ _ rfl) (fun _ => rfl)
  have hA : K_X11_turnOf fu mem = some (if ovB s = true then zi (-1) else zi (s 7)) := by
    unfold K_X11_turnOf K_X6_mover
    rw [c_hasEnded fu 0 a1 a3.1.2.1, bd_s, a1.2.1.2.2.2.1]
    cases ovB s with
    | true => rfl
    | false => rfl
  have hB : K_X12_turnOf fu (mMp mem) = some (if ovB s = true then zi (-1) else zi (s 7), mw (mMp mem) 0 0 0) := by
    have e7 : rd (mw (mMp mem) 0 0 0) 2 (Int32.toNatClampNeg 7) = zi (s 7) := hS 7
    have g7 : ∀ o : Option Int32, gi 7 184 o = o := fun o => gi_zi (a_ := 7) (by decide) (by decide) (by decide)
    unfold K_X12_turnOf K_X12_turnNow
    rw [ltf, m_over fu hS a3.1.2.1, bd_s, g7, e7]
    cases ovB s with
    | true => rfl
    | false => rfl
  exact ⟨_, call_C hA hB, aft_JJ (JJ_m0 h (Fr_mw _ _ rfl))⟩
theorem case9 (fu : Nat) (a : Nat → Int32) {mem : Mem} (h : JJ mem (mMp mem)) : ∃ mem2, K_case_9 fu a mem = some mem2 ∧ JJ mem2 (mMp mem2) := by
  have h' := h
  obtain ⟨s, sv, u, ps, L, T, e, p, hv, rp, ⟨⟨a1, a2, a3⟩, _⟩, _⟩ := h'
  have hS : MS (mw (mMp mem) 0 0 0) s := MS_P (P := fun k _ => k == 0) a2 (Fr_mw _ _ rfl) (fun _ => rfl)
  have hA : K_X11_isOver fu mem = some (zi (bi (ovB s))) := by
    unfold K_X11_isOver
    rw [c_hasEnded fu 0 a1 a3.1.2.1, bd_s, gb_bi]
  have hB : K_X12_isOver fu (mMp mem) = some (zi (bi (ovB s)), mw (mMp mem) 0 0 0) := by
    unfold K_X12_isOver
    rw [ltf, m_over fu hS a3.1.2.1, bd_s, gb_bi]
  exact ⟨_, call_C hA hB, aft_JJ (JJ_m0 h (Fr_mw _ _ rfl))⟩
end ASCM
