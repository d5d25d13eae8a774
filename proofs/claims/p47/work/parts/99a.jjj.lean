section JJJM
/-- what both hold between two calls -/
def JJ (c m : Mem) : Prop := ∃ (s sv : Nat → Int) (u : Nat) (ps : Nat → Nat → Int) (L : Nat) (T : Nat → Int) (e p : Int) (hv : Bool) (rp : RLt), ((RC c 0 s ∧ MS m s ∧ InvH s) ∧ (TXc c T L ∧ TXr m T L) ∧ (ECc c e p ∧ rd m 0 10 = zi e ∧ rd m 0 11 = zi p)) ∧ (u ≤ 6 ∧ HSc c u ps ∧ HSm m u ps ∧ ∀ i, i < u → InvH (ps i)) ∧ (rd c 0 10 = zi (bi hv) ∧ rd m 0 19 = zi (bi hv) ∧ (hv = true → RC c 3 sv ∧ InvH sv ∧ ∀ j, j < 184 → rd m 3 j = zi (sv j))) ∧ (RWc c rp ∧ rp.2 ≤ 283 ∧ ((rd m 0 49 = zi 1 ∧ RWm m rp) ∨ (rd m 0 49 = zi 0 ∧ rp.2 = 0))) ∧ BWok c
/-- the places of the class, and of the reference, in the law's memory -/
def mMp (mem : Mem) : Mem := fun j => mem (256 + j)
def cE (c c2 : Mem) : Prop := ∀ k, k < 255 → c2 k = c k
def mE (m m2 : Mem) : Prop := ∀ k, k < 23 → m2 k = m k
theorem cE_fr {c c2 : Mem} (h : cE c c2) : Fr (fun k _ => decide (255 ≤ k)) c c2 := ⟨fun k j q => by
  have : k < 255 := by
    rw [decide_eq_false_iff_not] at q
    omega
  unfold rd
  rw [h k this], fun k j q => by
  have : k < 255 := by
    rw [decide_eq_false_iff_not] at q
    omega
  unfold rl
  rw [h k this]⟩
theorem mE_fr {m m2 : Mem} (h : mE m m2) : Fr (fun k _ => decide (23 ≤ k)) m m2 := ⟨fun k j q => by
  have : k < 23 := by
    rw [decide_eq_false_iff_not] at q
    omega
  unfold rd
  rw [h k this], fun k j q => by
  have : k < 23 := by
    rw [decide_eq_false_iff_not] at q
    omega
  unfold rl
  rw [h k this]⟩
theorem JJ_ext {c c2 m m2 : Mem} (h : JJ c m) (hc : cE c c2) (hm : mE m m2) (hB : BWok c → BWok c2) : JJ c2 m2 := by
  obtain ⟨s, sv, u, ps, L, T, e, p, hv, rp, ⟨⟨a1, a2, a3⟩, ⟨⟨b1, b2, b3, b4⟩, b5, b6, b7, b8⟩, ⟨d1, d2⟩, d3, d4⟩, ⟨e1, e2, e3, e4⟩, ⟨f1, f2, f3⟩, ⟨⟨g1, g2⟩, g3, g4⟩, g5⟩ := h
  have fc := cE_fr hc
  have fm := mE_fr hm
  have lc : ∀ k j, k < 255 → rd c2 k j = rd c k j := fun k j q => fc.1 _ _ (decide_eq_false (by omega))
  have lm : ∀ k j, k < 23 → rd m2 k j = rd m k j := fun k j q => fm.1 _ _ (decide_eq_false (by omega))
  refine ⟨s, sv, u, ps, L, T, e, p, hv, rp, ⟨⟨RC_fr2 fc (fun k j q1 q2 => decide_eq_false (by omega)) a1, fun j => (lm _ _ (by decide)).trans (a2 j), a3⟩, ⟨⟨b1, b2, (lc _ _ (by decide)).trans b3, fun i hi => (lc _ _ (by decide)).trans (b4 i hi)⟩, b5, b6, (lm _ _ (by decide)).trans b7, fun i hi => (lm _ _ (by decide)).trans (b8 i hi)⟩, ⟨(lc _ _ (by decide)).trans d1, (lc _ _ (by decide)).trans d2⟩, (lm _ _ (by decide)).trans d3, (lm _ _ (by decide)).trans d4⟩, ⟨e1, ?_, ⟨(lm _ _ (by decide)).trans e3.1, fun i j q1 q2 => (lm _ _ (by decide)).trans (e3.2 i j q1 q2)⟩, e4⟩, ⟨(lc _ _ (by decide)).trans f1, (lm _ _ (by decide)).trans f2, fun q => ?_⟩, ⟨⟨(lc _ _ (by decide)).trans g1, fun i hi => (lc _ _ (by decide)).trans (g2 i hi)⟩, g3, ?_⟩, hB g5⟩
  · obtain ⟨nx, n1, n2, n3, n4⟩ := e2
    exact ⟨nx, n1, (lc _ _ (by decide)).trans n2, (lc _ _ (by decide)).trans n3, fun i hi => RC_fr2 fc (fun k j q1 q2 => decide_eq_false (by omega)) (n4 i hi)⟩
  · obtain ⟨q1, q2, q3⟩ := f3 q
    exact ⟨RC_fr2 fc (fun k j x1 x2 => decide_eq_false (by omega)) q1, q2, fun j hj => (lm _ _ (by decide)).trans (q3 j hj)⟩
  · rcases g4 with ⟨q1, q2, q3⟩ | ⟨q1, q2⟩
    · exact Or.inl ⟨(lm _ _ (by decide)).trans q1, (lm _ _ (by decide)).trans q2, fun i hi => (lm _ _ (by decide)).trans (q3 i hi)⟩
    · exact Or.inr ⟨(lm _ _ (by decide)).trans q1, q2⟩
/-- the memory behind a call -/
def mAft (mem c2 m2 : Mem) : Mem := mset 256 23 (mset 0 255 mem c2) m2
theorem aft_c (mem c2 m2 : Mem) : cE c2 (mAft mem c2 m2) := fun k hk => by
  unfold mAft mset
  rw [if_neg (by omega), if_pos (by omega), Nat.sub_zero]
theorem aft_m (mem c2 m2 : Mem) : mE m2 (mMp (mAft mem c2 m2)) := fun k hk => by
  unfold mMp mAft
  show mset 256 23 (mset 0 255 mem c2) m2 (256 + k) = m2 k
  unfold mset
  rw [if_pos (by omega), show 256 + k - 256 = k by omega]
theorem mMp_set (mem c2 : Mem) : (fun j => (mset 0 255 mem c2) (256 + j)) = mMp mem := by
  refine funext (fun j => ?_)
  show mset 0 255 mem c2 (256 + j) = mem (256 + j)
  unfold mset
  rw [if_neg (by omega)]
/-- a call of the plain kind: both answer alike -/
theorem call_B {A : Option (Int32 × Mem)} {B : Mem → Option (Int32 × Mem)} {mem c2 m2 : Mem} {x : Int32} (hA : A = some (x, c2)) (hB : B (mMp mem) = some (x, m2)) : bd A (fun p_1 => bd (B (fun j => (mset 0 255 mem p_1.2) (256 + j))) (fun p_2 => (if p_1.1 = p_2.1 then some (mset 256 23 (mset 0 255 mem p_1.2) p_2.2) else none))) = some (mAft mem c2 m2) := by
  rw [hA, bd_s]
  have e : (fun j => (mset 0 255 mem (x, c2).2) (256 + j)) = mMp mem := mMp_set mem c2
  rw [e, hB, bd_s, if_pos rfl]
  rfl
theorem call_C {A : Option Int32} {B : Mem → Option (Int32 × Mem)} {mem m2 : Mem} {x : Int32} (hA : A = some x) (hB : B (mMp mem) = some (x, m2)) : bd A (fun x_1 => bd (B (fun j => (mset 0 255 mem mem) (256 + j))) (fun p_2 => (if x_1 = p_2.1 then some (mset 256 23 (mset 0 255 mem mem) p_2.2) else none))) = some (mAft mem mem m2) := by
  rw [hA, bd_s]
  have e : (fun j => (mset 0 255 mem mem) (256 + j)) = mMp mem := mMp_set mem mem
  rw [e, hB, bd_s, if_pos rfl]
  rfl
end JJJM
