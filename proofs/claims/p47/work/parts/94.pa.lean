section PAA
/-- the law's places in the joint memory -/
def lwM (mem : Mem) : Mem := fun j => mem (255 + j)
theorem lw_mc (mem m1 : Mem) : lwM (mset 0 255 mem m1) = lwM mem := by
  funext j
  show mset 0 255 mem m1 (255 + j) = mem (255 + j)
  unfold mset
  rw [if_neg (by omega)]
theorem CQ_ext {c c2 : Mem} {s : Nat → Int} {u : Nat} {ps : Nat → Nat → Int} (h : CQ c s u ps) (e : ∀ k, k < 255 → c2 k = c k) : CQ c2 s u ps := by
  have f : Fr (fun k _ => decide (255 ≤ k)) c c2 := ⟨fun k j q => by
    have : k < 255 := by
      rw [decide_eq_false_iff_not] at q
      omega
    unfold rd
    rw [e k this], fun k j q => by
    have : k < 255 := by
      rw [decide_eq_false_iff_not] at q
      omega
    unfold rl
    rw [e k this]⟩
  refine ⟨RC_fr2 f (fun k j q1 q2 => decide_eq_false (by omega)) h.1, BW_P f (fun j => decide_eq_false (by decide)) h.2.1, h.2.2.1, h.2.2.2.1, ?_, h.2.2.2.2.2⟩
  obtain ⟨nx, n1, n2, n3, n4⟩ := h.2.2.2.2.1
  exact ⟨nx, n1, (f.1 _ _ (decide_eq_false (by decide))).trans n2, (f.1 _ _ (decide_eq_false (by decide))).trans n3, fun i hi => RC_fr2 f (fun k j q1 q2 => decide_eq_false (by omega)) (n4 i hi)⟩
theorem CQ_c {mem m1 : Mem} {s : Nat → Int} {u : Nat} {ps : Nat → Nat → Int} (h : CQ m1 s u ps) : CQ (mset 0 255 mem m1) s u ps := CQ_ext h (fun k hk => by
  unfold mset
  rw [if_pos (by omega), Nat.sub_zero])
theorem CQ_w {mem mW : Mem} {n : Nat} {s : Nat → Int} {u : Nat} {ps : Nat → Nat → Int} (h : CQ mem s u ps) : CQ (mset 255 n mem mW) s u ps := CQ_ext h (fun k hk => by
  unfold mset
  rw [if_neg (by omega)])
theorem rd_eq {m m2 : Mem} {k : Nat} (h : m2 k = m k) (j : Nat) : rd m2 k j = rd m k j := by
  unfold rd
  rw [h]
theorem LW_ext {np nb : Nat} {m m2 : Mem} {s : Nat → Int} (h : LW np nb m s) (h0 : np = 0 → nb = 0) (e : ∀ k, k < nW np nb → m2 k = m k) : LW np nb m2 s := by
  obtain ⟨⟨e1, e2⟩, e3, ⟨e4, e5, e6⟩, e7, e8⟩ := h
  have n1 : 12 ≤ nW np nb := by
    unfold nW
    split
    · omega
    · split <;> omega
  have n2 : ∀ p, p < np → 13 + p < nW np nb := fun p hp => by
    unfold nW
    rw [if_neg (by omega)]
    split <;> omega
  have n3 : ∀ b, b < nb → 14 + np + b < nW np nb := fun b hb => by
    unfold nW
    rw [if_neg (fun z => by have := h0 z; omega), if_neg (by omega)]
    omega
  have r0 : ∀ j, rd m2 0 j = rd m 0 j := fun j => rd_eq (e 0 (by omega)) j
  refine ⟨⟨e1, e2⟩, ⟨(r0 _).trans e3.1, (r0 _).trans e3.2.1, fun x y hx hx2 hy hy2 => ?_⟩, ⟨(r0 _).trans e4, (r0 _).trans e5, (r0 _).trans e6⟩, fun p hp => ?_, fun b hb => ?_⟩
  · rw [rd_eq (e (4 + y.toNat) (by omega))]
    exact e3.2.2 x y hx hx2 hy hy2
  · unfold LWp
    simp only [rd_eq (e _ (n2 p hp))]
    exact e7 p hp
  · unfold LWb
    simp only [rd_eq (e _ (n3 b hb))]
    exact e8 b hb
theorem WI_ext {np nb : Nat} {m m2 : Mem} {s : Nat → Int} (h : WI np nb m s) (h0 : np = 0 → nb = 0) (e : ∀ k, k < nW np nb → m2 k = m k) : WI np nb m2 s := ⟨LW_ext h.1 h0 e, h.2⟩
theorem WI_w {np nb : Nat} {mem mW : Mem} {s : Nat → Int} (h : WI np nb mW s) (h0 : np = 0 → nb = 0) : WI np nb (lwM (mset 255 (nW np nb) mem mW)) s := WI_ext h h0 (fun k hk => by
  show mset 255 (nW np nb) mem mW (255 + k) = mW k
  unfold mset
  rw [if_pos (by omega), show 255 + k - 255 = k by omega])
/-- class and law hold the same race -/
def JQ (np nb : Nat) (mem : Mem) (s : Nat → Int) (u : Nat) (ps : Nat → Nat → Int) : Prop := CQ mem s u ps ∧ WI np nb (lwM mem) s ∧ XO s
variable {np nb : Nat}
theorem JQ_ask {mem m1 : Mem} {s : Nat → Int} {u : Nat} {ps : Nat → Nat → Int} {u2 : Nat} {ps2 : Nat → Nat → Int} (h : JQ np nb mem s u ps) (h1 : CQ m1 s u2 ps2) : JQ np nb (mset 0 255 mem m1) s u2 ps2 := ⟨CQ_c h1, by rw [lw_mc]; exact h.2.1, h.2.2⟩
theorem JQ_r0 {mem : Mem} {s : Nat → Int} {u : Nat} {ps : Nat → Nat → Int} (h : JQ np nb mem s u ps) : (rd mem (255 + 0) 0 = zi (s 0) ∧ rd mem (255 + 0) 1 = zi (s 1) ∧ rd mem (255 + 0) 2 = zi (s 4) ∧ rd mem (255 + 0) 3 = zi (s 5) ∧ rd mem (255 + 0) 4 = zi (s 7)) ∧ (s 2 = (np : Int) ∧ np ≤ 4) := by
  obtain ⟨⟨e1, e2⟩, e3, ⟨e4, e5, e6⟩, e7, e8⟩ := h.2.1.1
  exact ⟨⟨e3.1, e3.2.1, e4, e5, e6⟩, e1, h.2.1.2.2.2.2.1⟩
theorem bdT_s {ρ : Type} (x : Int32) (m : Mem) (F : Int32 → Mem → Option ρ) : bdT (some (0, x, m)) F = F x m := rfl
end PAA
