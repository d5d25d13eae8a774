section CASM
theorem BW_ext {c c2 : Mem} (h : cE c c2) (hB : BWok c) : BWok c2 := by
  obtain ⟨x, y, h1, h2, h3⟩ := hB
  have e : ∀ j, rd c2 28 j = rd c 28 j := fun j => by
    unfold rd
    rw [h 28 (by decide)]
  exact ⟨x, y, (e 0).trans h1, (e 1).trans h2, h3⟩
theorem JJ_ex {c c2 m m2 : Mem} (h : JJ c m) (hc : cE c c2) (hm : mE m m2) : JJ c2 m2 := JJ_ext h hc hm (BW_ext hc)
def mAf2 (mem P m2 : Mem) : Mem := mset 256 23 (mset 256 23 (mset 0 256 mem P) m2) (fun j => (mset 256 23 (mset 0 256 mem P) m2) (256 + j))
theorem af2_lo {mem P m2 : Mem} {k : Nat} (hk : k < 256) : mAf2 mem P m2 k = P k := by
  unfold mAf2 mset
  rw [if_neg (by omega), if_neg (by omega), if_pos (by omega), Nat.sub_zero]
theorem af2_m (mem P m2 : Mem) : mE m2 (mMp (mAf2 mem P m2)) := fun k hk => by
  show mset 256 23 (mset 256 23 (mset 0 256 mem P) m2) (fun j => (mset 256 23 (mset 0 256 mem P) m2) (256 + j)) (256 + k) = m2 k
  unfold mset
  rw [if_pos (by omega)]
  show (if 256 ≤ 256 + (256 + k - 256) ∧ 256 + (256 + k - 256) < 256 + 23 then m2 (256 + (256 + k - 256) - 256) else _) = m2 k
  rw [if_pos (by omega), show 256 + (256 + k - 256) - 256 = k by omega]
theorem mMp_se2 (mem P : Mem) : (fun j => (mset 0 256 mem P) (256 + j)) = mMp mem := by
  refine funext (fun j => ?_)
  show mset 0 256 mem P (256 + j) = mem (256 + j)
  unfold mset
  rw [if_neg (by omega)]
theorem lg_r (x : Int64) : lg_cmp x x = 0 := by
  unfold lg_cmp
  rw [if_neg (fun h => by
    have := Int64.lt_iff_toInt_lt.mp h
    omega), if_pos rfl]
/-- the law's row of a call that may throw -/
def rowA (fu : Nat) (A : Option (Int32 × Mem)) (B : Mem → Option (Int32 × Mem)) (mem : Mem) : Option Mem := bd A (fun p_1 => bd (B (fun j => (mset 0 256 mem p_1.2) (256 + j))) (fun p_2 => bd (K_X12_thrown fu (fun j => (mset 256 23 (mset 0 256 mem p_1.2) p_2.2) (256 + j))) (fun x_3 => (if x_3 = p_1.1 then (if p_1.1 = 0 then (if (lg_cmp (rl (mset 256 23 (mset 256 23 (mset 0 256 mem p_1.2) p_2.2) (fun j => (mset 256 23 (mset 0 256 mem p_1.2) p_2.2) (256 + j))) 255 (Int32.toNatClampNeg 0)) (Int32.toInt64 p_2.1)) = 0 then some (mset 256 23 (mset 256 23 (mset 0 256 mem p_1.2) p_2.2) (fun j => (mset 256 23 (mset 0 256 mem p_1.2) p_2.2) (256 + j))) else none) else some (mset 256 23 (mset 256 23 (mset 0 256 mem p_1.2) p_2.2) (fun j => (mset 256 23 (mset 0 256 mem p_1.2) p_2.2) (256 + j)))) else none))))
theorem thr_m (fu : Nat) (mem P m2 : Mem) : K_X12_thrown fu (fun j => (mset 256 23 (mset 0 256 mem P) m2) (256 + j)) = some (rd m2 0 0) := by
  unfold K_X12_thrown rd
  refine congrArg some ?_
  show ((mset 256 23 (mset 0 256 mem P) m2) (256 + 0)).1 0 = (m2 0).1 0
  unfold mset
  rw [if_pos (by decide)]
theorem rowA_ok (fu : Nat) {A : Option (Int32 × Mem)} {B : Mem → Option (Int32 × Mem)} {mem P m2 : Mem} {x : Int32} (hA : A = some (0, P)) (hP : rl P 255 0 = Int32.toInt64 x) (hB : B (mMp mem) = some (x, m2)) (h0 : rd m2 0 0 = zi 0) : rowA fu A B mem = some (mAf2 mem P m2) := by
  unfold rowA
  rw [hA, bd_s]
  have e : (fun j => (mset 0 256 mem ((0 : Int32), P).2) (256 + j)) = mMp mem := mMp_se2 mem P
  have t : K_X12_thrown fu (fun j => (mset 256 23 (mset 0 256 mem ((0 : Int32), P).2) (x, m2).2) (256 + j)) = some (rd m2 0 0) := thr_m fu mem P m2
  have l : rl (mset 256 23 (mset 256 23 (mset 0 256 mem ((0 : Int32), P).2) (x, m2).2) (fun j => (mset 256 23 (mset 0 256 mem ((0 : Int32), P).2) (x, m2).2) (256 + j))) 255 (Int32.toNatClampNeg 0) = Int32.toInt64 x := by
    rw [← hP]
    show (mAf2 mem P m2 255).2 0 = (P 255).2 0
    rw [af2_lo (by decide)]
  rw [e, hB, bd_s, t, bd_s, h0, if_pos (show zi 0 = (0 : Int32) from rfl), if_pos (show (0 : Int32) = 0 from rfl), l, if_pos (lg_r _)]
  rfl
theorem rowA_no (fu : Nat) {A : Option (Int32 × Mem)} {B : Mem → Option (Int32 × Mem)} {mem P m2 : Mem} {x t : Int32} (ht : t ≠ 0) (hA : A = some (t, P)) (hB : B (mMp mem) = some (x, m2)) (h0 : rd m2 0 0 = t) : rowA fu A B mem = some (mAf2 mem P m2) := by
  unfold rowA
  rw [hA, bd_s]
  have e : (fun j => (mset 0 256 mem (t, P).2) (256 + j)) = mMp mem := mMp_se2 mem P
  have tt : K_X12_thrown fu (fun j => (mset 256 23 (mset 0 256 mem (t, P).2) (x, m2).2) (256 + j)) = some (rd m2 0 0) := thr_m fu mem P m2
  rw [e, hB, bd_s, tt, bd_s, h0, if_pos (show t = t from rfl), if_neg ht]
  rfl
theorem P_ok {mem c2 : Mem} {x : Int32} : cE c2 (ml (mset 0 255 mem c2) 255 0 (Int32.toInt64 x)) ∧ rl (ml (mset 0 255 mem c2) 255 0 (Int32.toInt64 x)) 255 0 = Int32.toInt64 x := by
  refine ⟨fun k hk => ?_, ?_⟩
  · unfold ml mr
    have e : mset 0 255 mem c2 k = c2 k := by
      unfold mset
      rw [if_pos (by omega), Nat.sub_zero]
    rw [← e]
    show (if k = 255 then _ else mset 0 255 mem c2 k) = mset 0 255 mem c2 k
    rw [if_neg (by omega)]
  · rw [rl_ml, if_pos ⟨rfl, rfl⟩]
theorem P_no (mem c2 : Mem) : cE c2 (mset 0 255 mem c2) := fun k hk => by
  unfold mset
  rw [if_pos (by omega), Nat.sub_zero]
/-- behind a call of that kind, all holds on -/
theorem rowA_JJ {mem P c2 m2 : Mem} (hP : cE c2 P) (h : JJ c2 m2) : JJ (mAf2 mem P m2) (mMp (mAf2 mem P m2)) := JJ_ex h (fun k hk => (af2_lo (by omega)).trans (hP k hk)) (af2_m mem P m2)
theorem aft_JJ {mem c2 m2 : Mem} (h : JJ c2 m2) : JJ (mAft mem c2 m2) (mMp (mAft mem c2 m2)) := JJ_ex h (aft_c mem c2 m2) (aft_m mem c2 m2)
end CASM
