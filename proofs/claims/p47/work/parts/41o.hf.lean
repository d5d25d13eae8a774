section STC
/-- the class's memory as it is made -/
def mC0 (memB : Mem) : Mem := fun k => if k = 2 then (fun j => if j = 12 then -1 else 0, fun _ => 0) else if k = 28 then (fun j => if j = 1 then 1 else 0, fun _ => 0) else if k < 35 then z0 else rR memB ((k - 35) % 22)
theorem cRace_shift {ca ad fr : Nat → Nat} {r : Nat} (h : ∀ j, j < 22 → ad (35 + 22 * r + j) = fr j) (j : Nat) (hj : j < 22) (f : Row) : cRace ca ad r j f = cRace ca (fun k => fr (k - 35)) 0 j f := by
  have h1 : ∀ j, j < 22 → ∀ x y, x = 35 + 22 * r + j → y = 35 + j → ad x = fr (y - 35) := fun j hj x y hx hy => by rw [hx, h j hj, hy, Nat.add_sub_cancel_left]
  unfold cRace
  by_cases q0 : j = 0
  · rw [if_pos q0, if_pos q0, h1 1 (by decide) (pBoard r) (pBoard 0) (by unfold pBoard; omega) (by unfold pBoard; omega), h1 4 (by decide) (pPawns r) (pPawns 0) (by unfold pPawns; omega) (by unfold pPawns; omega), h1 9 (by decide) (pBans r) (pBans 0) (by unfold pBans; omega) (by unfold pBans; omega)]
  · rw [if_neg q0, if_neg q0]
    by_cases q1 : j = 1
    · rw [if_pos q1, if_pos q1, h1 2 (by decide) (pBuilt r) (pBuilt 0) (by unfold pBuilt; omega) (by unfold pBuilt; omega), h1 3 (by decide) (pOpen r) (pOpen 0) (by unfold pOpen; omega) (by unfold pOpen; omega)]
    · rw [if_neg q1, if_neg q1]
      by_cases q2 : j = 2
      · rw [if_pos q2, if_pos q2]
      · rw [if_neg q2, if_neg q2]
        by_cases q3 : j = 3
        · rw [if_pos q3, if_pos q3]
        · rw [if_neg q3, if_neg q3]
          by_cases q4 : j = 4
          · rw [if_pos q4, if_pos q4]
            have e : (fun i => if i < 4 then some (ad (pPawn r i)) else none) = (fun i => if i < 4 then some ((fun k => fr (k - 35)) (pPawn 0 i)) else none) := by
              funext i
              by_cases hi : i < 4
              · rw [if_pos hi, if_pos hi, h1 (5 + i) (by omega) (pPawn r i) (pPawn 0 i) (by unfold pPawn; omega) (by unfold pPawn; omega)]
              · rw [if_neg hi, if_neg hi]
            rw [e]
          · rw [if_neg q4, if_neg q4]
            by_cases q5 : j < 9
            · rw [if_pos q5, if_pos q5]
            · rw [if_neg q5, if_neg q5]
              by_cases q6 : j = 9
              · rw [if_pos q6, if_pos q6]
                have e : (fun i => if i < 12 then some (ad (pBan r i)) else none) = (fun i => if i < 12 then some ((fun k => fr (k - 35)) (pBan 0 i)) else none) := by
                  funext i
                  by_cases hi : i < 12
                  · rw [if_pos hi, if_pos hi, h1 (10 + i) (by omega) (pBan r i) (pBan 0 i) (by unfold pBan; omega) (by unfold pBan; omega)]
                  · rw [if_neg hi, if_neg hi]
                rw [e]
              · rw [if_neg q6, if_neg q6]
theorem raceW_map {ca ad fr : Nat → Nat} {memB : Mem} {r : Nat} (h : ∀ j, j < 22 → ad (35 + 22 * r + j) = fr j) : raceW ca fr memB = (List.range' (35 + 22 * r) 22).map (fun k => (ad k, cC ca ad k (mC0 memB k))) := by
  rw [raceW, wf, List.range'_eq_map_range, List.map_map]
  refine List.map_congr_left (fun j hj => ?_)
  have hj : j < 22 := List.mem_range.mp hj
  have e1 : mC0 memB (35 + 22 * r + j) = rR memB j := by
    unfold mC0
    rw [if_neg (by omega), if_neg (by omega), if_neg (by omega), show (35 + 22 * r + j - 35) % 22 = j by omega]
  show (fr j, _) = (ad (35 + 22 * r + j), cC ca ad (35 + 22 * r + j) (mC0 memB (35 + 22 * r + j)))
  rw [e1, cC_race rfl hj, cRace_shift h j hj, h j hj]
set_option maxHeartbeats 8000000 in
set_option maxRecDepth 100000 in
theorem cls_W {ca : Nat → Nat} {memB : Mem} {q : Nat} {ws : va_W} (h : (fun ws => ∃ (o1 : Nat) (w2 : va_W) (o3 : Nat) (w4 : va_W) (o5 : Nat) (w6 : va_W) (o7 : Nat) (w8 : va_W) (f_w10 : Nat → Nat) (w10 : va_W) (f_w12 : Nat → Nat) (w12 : va_W) (o13 : Nat) (w14 : va_W) (o15 : Nat) (w16 : va_W) (f_w18 : Nat → Nat) (w18 : va_W) (f_w20 : Nat → Nat) (w20 : va_W) (o21 : Nat) (w22 : va_W) (a23 : Nat), (∃ a1 a2 a3 a4 : Nat, w2 = [(o1, .inr (9, [.ref a1, .int 0, .ref a2, .ref a3, .ref a4, .int 0, .int 0, .int 0, .int 0, .int 0, .int 0, .int 0, .int (-1)])), (a1, .inl (ca 1, 700, .inl (fun _ => 0))), (a2, .inl (ca 0, 701, .inl (fun _ => 0))), (a3, .inl (ca 0, 701, .inl (fun _ => 0))), (a4, .inl (ca 0, 701, .inl (fun _ => 0)))]) ∧ (∃ (w2 : va_W) (a3 : Nat) (a4 : Nat) (o1 : Nat), (∃ a1 a2 a3 : Nat, w2 = [(o1, .inr (10, [.ref a1, .ref a2, .int 0, .ref a3])), (a1, .inl (ca 0, 81, .inl (fun _ => 0))), (a2, .inl (ca 0, 81, .inl (fun _ => 0))), (a3, .inl (ca 0, 81, .inl (fun _ => 0)))]) ∧ w4 = (o3, .inr (5, [.ref o1, .ref a3, .ref a4, .int 0, .int 0, .int 0, .int 0])) :: ((w2 ++ ((a3, .inl (ca 0, 324, .inl (fun _ => 0))) :: (a4, .inl (ca 0, 4, .inl (fun _ => 0))) :: [])))) ∧ (∃ a1 a2 a3 : Nat, w6 = [(o5, .inr (10, [.ref a1, .ref a2, .int 0, .ref a3])), (a1, .inl (ca 0, 81, .inl (fun _ => 0))), (a2, .inl (ca 0, 81, .inl (fun _ => 0))), (a3, .inl (ca 0, 81, .inl (fun _ => 0)))]) ∧ (∃ a1 a2 a3 a4 : Nat, w8 = [(o7, .inr (1, [.ref a1, .ref a2, .ref a3, .ref a4])), (a1, .inl (ca 0, 405, .inl (fun _ => 0))), (a2, .inl (ca 0, 405, .inl (fun _ => 0))), (a3, .inl (ca 0, 81, .inl (fun _ => 0))), (a4, .inl (ca 0, 5, .inl (fun _ => 0)))]) ∧ w10 = raceW ca f_w10 memB ∧ w12 = raceW ca f_w12 memB ∧ (∃ a1 a2 : Nat, w14 = [(o13, .inr (7, [.ref o1, .ref (f_w12 0), .ref o3, .ref a1, .ref a2, .int 0, .int 0, .int 0, .int 0])), (a1, .inl (ca 0, 4, .inl (fun _ => 0))), (a2, .inl (ca 0, 4, .inl (fun _ => 0)))]) ∧ (∃ a1 a2 a3 a4 a5 a6 : Nat, w16 = [(o15, .inr (8, [.ref o1, .ref a1, .ref a2, .ref a3, .ref a4, .ref a5, .int 0, .int 0, .ref a6, .int 0])), (a1, .inl (ca 0, 60, .inl (fun _ => 0))), (a2, .inl (ca 0, 60, .inl (fun _ => 0))), (a3, .inl (ca 0, 60, .inl (fun _ => 0))), (a4, .inl (ca 0, 60, .inl (fun _ => 0))), (a5, .inl (ca 0, 60, .inl (fun _ => 0))), (a6, .inl (ca 0, 2, .inl (fun _ => 0)))]) ∧ w18 = raceW ca f_w18 memB ∧ w20 = raceW ca f_w20 memB ∧ (∃ (a1 : Nat) (f_w3 : Nat → Nat) (w3 : va_W) (f_w5 : Nat → Nat) (w5 : va_W) (f_w7 : Nat → Nat) (w7 : va_W) (f_w9 : Nat → Nat) (w9 : va_W) (f_w11 : Nat → Nat) (w11 : va_W) (f_w13 : Nat → Nat) (w13 : va_W), w3 = raceW ca f_w3 memB ∧ w5 = raceW ca f_w5 memB ∧ w7 = raceW ca f_w7 memB ∧ w9 = raceW ca f_w9 memB ∧ w11 = raceW ca f_w11 memB ∧ w13 = raceW ca f_w13 memB ∧ w22 = (o21, .inr (3, [.ref a1, .int 0, .int 0])) :: ((a1, .inl (ca 4, 6, .inr (.inr (.inr (.inr (va_up (va_up (va_up (va_up (va_up (va_up (fun _ => none) 0 (some (f_w3 0))) 1 (some (f_w5 0))) 2 (some (f_w7 0))) 3 (some (f_w9 0))) 4 (some (f_w11 0))) 5 (some (f_w13 0)))))))) :: (w3 ++ ((w5 ++ ((w7 ++ ((w9 ++ ((w11 ++ ((w13 ++ ([])))))))))))))) ∧ ws = (q, .inr (11, [.ref o1, .ref o13, .ref o15, .ref o3, .ref o5, .ref o7, .ref (f_w10 0), .ref (f_w12 0), .ref (f_w18 0), .ref (f_w20 0), .int 0, .ref o21, .ref a23, .int 0])) :: ((w2 ++ ((w4 ++ ((w6 ++ ((w8 ++ ((w10 ++ ((w12 ++ ((w14 ++ ((w16 ++ ((w18 ++ ((w20 ++ ((w22 ++ ((a23, .inl (ca 1, 283, .inl (fun _ => 0))) :: [])))))))))))))))))))))))) ws) : ∃ f : Nat → Nat, f 0 = q ∧ (wf 255 f (cC ca f) (mC0 memB)).Perm ws := by
  obtain ⟨o1, w2, o3, w4, o5, w6, o7, w8, f_w10, w10, f_w12, w12, o13, w14, o15, w16, f_w18, w18, f_w20, w20, o21, w22, a23, hT, hP, hW, hN, hR0, hR1, hRd, hSc, hR2, hR3, hH, hws⟩ := h
  obtain ⟨t1, t2, t3, t4, hT⟩ := hT
  obtain ⟨pw, p1, p2, p3, hPw, hP⟩ := hP
  obtain ⟨pw1, pw2, pw3, hPw⟩ := hPw
  obtain ⟨u1, u2, u3, hW⟩ := hW
  obtain ⟨b1, b2, b3, b4, hN⟩ := hN
  obtain ⟨r1, r2, hRd⟩ := hRd
  obtain ⟨s1, s2, s3, s4, s5, s6, hSc⟩ := hSc
  obtain ⟨k1, g4, v4, g5, v5, g6, v6, g7, v7, g8, v8, g9, v9, hv4, hv5, hv6, hv7, hv8, hv9, hH⟩ := hH
  obtain ⟨f, hf⟩ : ∃ f : Nat → Nat, f = fun k => if k < 35 then [q, a23, o1, t1, t2, t3, t4, o13, r1, r2, o15, s1, s2, s3, s4, s5, s6, o3, p1, p2, p3, pw1, pw2, pw3, o5, u1, u2, u3, o7, b1, b2, b3, b4, o21, k1].getD k 0 else [f_w10, f_w12, f_w18, f_w20, g4, g5, g6, g7, g8, g9].getD ((k - 35) / 22) (fun _ => 0) ((k - 35) % 22) := ⟨_, rfl⟩
  have a0 : ∀ j, j < 22 → f (35 + 22 * 0 + j) = f_w10 j := fun j hj => by
    rw [hf]
    show (if 35 + 22 * 0 + j < 35 then _ else _) = _
    rw [if_neg (by omega), show (35 + 22 * 0 + j - 35) / 22 = 0 by omega, show (35 + 22 * 0 + j - 35) % 22 = j by omega]
    rfl
  have a1 : ∀ j, j < 22 → f (35 + 22 * 1 + j) = f_w12 j := fun j hj => by
    rw [hf]
    show (if 35 + 22 * 1 + j < 35 then _ else _) = _
    rw [if_neg (by omega), show (35 + 22 * 1 + j - 35) / 22 = 1 by omega, show (35 + 22 * 1 + j - 35) % 22 = j by omega]
    rfl
  have a2 : ∀ j, j < 22 → f (35 + 22 * 2 + j) = f_w18 j := fun j hj => by
    rw [hf]
    show (if 35 + 22 * 2 + j < 35 then _ else _) = _
    rw [if_neg (by omega), show (35 + 22 * 2 + j - 35) / 22 = 2 by omega, show (35 + 22 * 2 + j - 35) % 22 = j by omega]
    rfl
  have a3 : ∀ j, j < 22 → f (35 + 22 * 3 + j) = f_w20 j := fun j hj => by
    rw [hf]
    show (if 35 + 22 * 3 + j < 35 then _ else _) = _
    rw [if_neg (by omega), show (35 + 22 * 3 + j - 35) / 22 = 3 by omega, show (35 + 22 * 3 + j - 35) % 22 = j by omega]
    rfl
  have a4 : ∀ j, j < 22 → f (35 + 22 * 4 + j) = g4 j := fun j hj => by
    rw [hf]
    show (if 35 + 22 * 4 + j < 35 then _ else _) = _
    rw [if_neg (by omega), show (35 + 22 * 4 + j - 35) / 22 = 4 by omega, show (35 + 22 * 4 + j - 35) % 22 = j by omega]
    rfl
  have a5 : ∀ j, j < 22 → f (35 + 22 * 5 + j) = g5 j := fun j hj => by
    rw [hf]
    show (if 35 + 22 * 5 + j < 35 then _ else _) = _
    rw [if_neg (by omega), show (35 + 22 * 5 + j - 35) / 22 = 5 by omega, show (35 + 22 * 5 + j - 35) % 22 = j by omega]
    rfl
  have a6 : ∀ j, j < 22 → f (35 + 22 * 6 + j) = g6 j := fun j hj => by
    rw [hf]
    show (if 35 + 22 * 6 + j < 35 then _ else _) = _
    rw [if_neg (by omega), show (35 + 22 * 6 + j - 35) / 22 = 6 by omega, show (35 + 22 * 6 + j - 35) % 22 = j by omega]
    rfl
  have a7 : ∀ j, j < 22 → f (35 + 22 * 7 + j) = g7 j := fun j hj => by
    rw [hf]
    show (if 35 + 22 * 7 + j < 35 then _ else _) = _
    rw [if_neg (by omega), show (35 + 22 * 7 + j - 35) / 22 = 7 by omega, show (35 + 22 * 7 + j - 35) % 22 = j by omega]
    rfl
  have a8 : ∀ j, j < 22 → f (35 + 22 * 8 + j) = g8 j := fun j hj => by
    rw [hf]
    show (if 35 + 22 * 8 + j < 35 then _ else _) = _
    rw [if_neg (by omega), show (35 + 22 * 8 + j - 35) / 22 = 8 by omega, show (35 + 22 * 8 + j - 35) % 22 = j by omega]
    rfl
  have a9 : ∀ j, j < 22 → f (35 + 22 * 9 + j) = g9 j := fun j hj => by
    rw [hf]
    show (if 35 + 22 * 9 + j < 35 then _ else _) = _
    rw [if_neg (by omega), show (35 + 22 * 9 + j - 35) / 22 = 9 by omega, show (35 + 22 * 9 + j - 35) % 22 = j by omega]
    rfl
  have z : ∀ k, k < 35 → f k = [q, a23, o1, t1, t2, t3, t4, o13, r1, r2, o15, s1, s2, s3, s4, s5, s6, o3, p1, p2, p3, pw1, pw2, pw3, o5, u1, u2, u3, o7, b1, b2, b3, b4, o21, k1].getD k 0 := fun k hk => by rw [hf]; exact if_pos hk
  refine ⟨f, by rw [hf]; rfl, ?_⟩
  have hL : ([0] ++ ([2, 3, 4, 5, 6] ++ ([17, 20, 21, 22, 23, 18, 19] ++ ([24, 25, 26, 27] ++ ([28, 29, 30, 31, 32] ++ (List.range' (35 + 22 * 0) 22 ++ (List.range' (35 + 22 * 1) 22 ++ ([7, 8, 9] ++ ([10, 11, 12, 13, 14, 15, 16] ++ (List.range' (35 + 22 * 2) 22 ++ (List.range' (35 + 22 * 3) 22 ++ ([33, 34] ++ (List.range' (35 + 22 * 4) 22 ++ (List.range' (35 + 22 * 5) 22 ++ (List.range' (35 + 22 * 6) 22 ++ (List.range' (35 + 22 * 7) 22 ++ (List.range' (35 + 22 * 8) 22 ++ (List.range' (35 + 22 * 9) 22 ++ [1])))))))))))))))))).Perm (List.range 255) := by decide +kernel
  have key : ws = ([0] ++ ([2, 3, 4, 5, 6] ++ ([17, 20, 21, 22, 23, 18, 19] ++ ([24, 25, 26, 27] ++ ([28, 29, 30, 31, 32] ++ (List.range' (35 + 22 * 0) 22 ++ (List.range' (35 + 22 * 1) 22 ++ ([7, 8, 9] ++ ([10, 11, 12, 13, 14, 15, 16] ++ (List.range' (35 + 22 * 2) 22 ++ (List.range' (35 + 22 * 3) 22 ++ ([33, 34] ++ (List.range' (35 + 22 * 4) 22 ++ (List.range' (35 + 22 * 5) 22 ++ (List.range' (35 + 22 * 6) 22 ++ (List.range' (35 + 22 * 7) 22 ++ (List.range' (35 + 22 * 8) 22 ++ (List.range' (35 + 22 * 9) 22 ++ [1])))))))))))))))))).map (fun k => (f k, cC ca f k (mC0 memB k))) := by
    rw [hws, hT, hP, hPw, hW, hN, hR0, hR1, hRd, hSc, hR2, hR3, hH, hv4, hv5, hv6, hv7, hv8, hv9]
    simp only [List.map_append]
    rw [← raceW_map a0, ← raceW_map a1, ← raceW_map a2, ← raceW_map a3, ← raceW_map a4, ← raceW_map a5, ← raceW_map a6, ← raceW_map a7, ← raceW_map a8, ← raceW_map a9]
    have h6 : (va_up (va_up (va_up (va_up (va_up (va_up (fun _ => none) 0 (some (g4 0))) 1 (some (g5 0))) 2 (some (g6 0))) 3 (some (g7 0))) 4 (some (g8 0))) 5 (some (g9 0))) = (fun i => if i < 6 then some (f (pRace (4 + i))) else none) := by
      funext i
      subst hf
      match i with
      | 0 => rfl
      | 1 => rfl
      | 2 => rfl
      | 3 => rfl
      | 4 => rfl
      | 5 => rfl
      | n + 6 => rw [if_neg (by omega)]; simp [va_up]
    rw [h6]
    subst hf
    simp only [List.append_nil, List.append_assoc, List.cons_append, List.nil_append]
    rfl
  rw [key]
  exact (hL.symm.map _)
theorem arr_prim {args : Array Value} {s : State} {ty : FieldType} (h : (Cond.arrayClass ty).before args s = true) (hp : ∀ C, ty ≠ .object C) : ∃ cA : ClassId, ArrOfT s cA ty ∧ va_RA s cA ty := by
  obtain ⟨cA, kA, comp, h1, h2, h3⟩ := Cond.arrayClass_spec h
  refine ⟨cA, fun n z => ⟨(fun k h => (by cases h)), kA, h2, comp, h3⟩, ?_⟩
  cases ty with
  | object C => exact absurd rfl (hp C)
  | _ => exact h1
theorem arr_obj {args : Array Value} {s : State} {C : String} (h : (Cond.arrayOver (.object C)).before args s = true) : ∃ cA : ClassId, ArrOfT s cA (.object C) ∧ va_RA s cA (.object C) := by
  obtain ⟨comp, cA, kA, h1, h2, h3, h4, h5⟩ := Cond.arrayOver_spec h
  exact ⟨cA, fun n z => ⟨(fun k h => (by cases h)), kA, h3, comp, h4⟩, kA, comp, h3, h4, h1, h5⟩
theorem cRace_congr {ca ad ad1 : Nat → Nat} {r : Nat} (h : ∀ j, j < 22 → ad (35 + 22 * r + j) = ad1 (35 + 22 * r + j)) (j : Nat) (hj : j < 22) (f : Row) : cRace ca ad r j f = cRace ca ad1 r j f := by
  rw [cRace_shift (fr := fun j => ad1 (35 + 22 * r + j)) h j hj f, cRace_shift (fr := fun j => ad1 (35 + 22 * r + j)) (fun _ _ => rfl) j hj f]
theorem cTop_congr {ca ad ad1 : Nat → Nat} (h : ∀ j, j < 255 → ad j = ad1 j) (k : Nat) (hk : k < 35) (f : Row) : cTop ca ad k f = cTop ca ad1 k f := by
  rcases (show k = 0 ∨ k = 1 ∨ k = 2 ∨ k = 3 ∨ k = 4 ∨ k = 5 ∨ k = 6 ∨ k = 7 ∨ k = 8 ∨ k = 9 ∨ k = 10 ∨ k = 11 ∨ k = 12 ∨ k = 13 ∨ k = 14 ∨ k = 15 ∨ k = 16 ∨ k = 17 ∨ k = 18 ∨ k = 19 ∨ k = 20 ∨ k = 21 ∨ k = 22 ∨ k = 23 ∨ k = 24 ∨ k = 25 ∨ k = 26 ∨ k = 27 ∨ k = 28 ∨ k = 29 ∨ k = 30 ∨ k = 31 ∨ k = 32 ∨ k = 33 ∨ k = 34 by omega) with rfl | rfl | rfl | rfl | rfl | rfl | rfl | rfl | rfl | rfl | rfl | rfl | rfl | rfl | rfl | rfl | rfl | rfl | rfl | rfl | rfl | rfl | rfl | rfl | rfl | rfl | rfl | rfl | rfl | rfl | rfl | rfl | rfl | rfl | rfl
  · show (Sum.inr (11, [.ref (ad 2), .ref (ad 7), .ref (ad 10), .ref (ad 17), .ref (ad (pWays 1)), .ref (ad 28), .ref (ad (pRace 0)), .ref (ad (pRace 1)), .ref (ad (pRace 2)), .ref (ad (pRace 3)), .int (f.1 10), .ref (ad 33), .ref (ad 1), .int (f.1 13)]) : va_E) = _
    rw [h 2 (by decide), h 7 (by decide), h 10 (by decide), h 17 (by decide), h (pWays 1) (by decide), h 28 (by decide), h (pRace 0) (by decide), h (pRace 1) (by decide), h (pRace 2) (by decide), h (pRace 3) (by decide), h 33 (by decide), h 1 (by decide)]
    rfl
  · rfl
  · show (Sum.inr (9, [.ref (ad 3), .int (f.1 1), .ref (ad 4), .ref (ad 5), .ref (ad 6), .int (f.1 5), .int (f.1 6), .int (f.1 7), .int (f.1 8), .int (f.1 9), .int (f.1 10), .int (f.1 11), .int (f.1 12)]) : va_E) = _
    rw [h 3 (by decide), h 4 (by decide), h 5 (by decide), h 6 (by decide)]
    rfl
  · rfl
  · rfl
  · rfl
  · rfl
  · show (Sum.inr (7, [.ref (ad 2), .ref (ad (pRace 1)), .ref (ad 17), .ref (ad 8), .ref (ad 9), .int (f.1 5), .int (f.1 6), .int (f.1 7), .int (f.1 8)]) : va_E) = _
    rw [h 2 (by decide), h (pRace 1) (by decide), h 17 (by decide), h 8 (by decide), h 9 (by decide)]
    rfl
  · rfl
  · rfl
  · show (Sum.inr (8, [.ref (ad 2), .ref (ad 11), .ref (ad 12), .ref (ad 13), .ref (ad 14), .ref (ad 15), .int (f.1 6), .int (f.1 7), .ref (ad 16), .int (f.1 9)]) : va_E) = _
    rw [h 2 (by decide), h 11 (by decide), h 12 (by decide), h 13 (by decide), h 14 (by decide), h 15 (by decide), h 16 (by decide)]
    rfl
  · rfl
  · rfl
  · rfl
  · rfl
  · rfl
  · rfl
  · show (Sum.inr (5, [.ref (ad (pWays 0)), .ref (ad 18), .ref (ad 19), .int (f.1 3), .int (f.1 4), .int (f.1 5), .int (f.1 6)]) : va_E) = _
    rw [h (pWays 0) (by decide), h 18 (by decide), h 19 (by decide)]
    rfl
  · rfl
  · rfl
  · show (Sum.inr (10, [.ref (ad (pDist 0)), .ref (ad (pQueue 0)), .int (f.1 2), .ref (ad (pNumb 0))]) : va_E) = _
    rw [h (pDist 0) (by decide), h (pQueue 0) (by decide), h (pNumb 0) (by decide)]
    rfl
  · rfl
  · rfl
  · rfl
  · show (Sum.inr (10, [.ref (ad (pDist 1)), .ref (ad (pQueue 1)), .int (f.1 2), .ref (ad (pNumb 1))]) : va_E) = _
    rw [h (pDist 1) (by decide), h (pQueue 1) (by decide), h (pNumb 1) (by decide)]
    rfl
  · rfl
  · rfl
  · rfl
  · show (Sum.inr (1, [.ref (ad (pBW (f.1 0))), .ref (ad (pBW (f.1 1))), .ref (ad 31), .ref (ad 32)]) : va_E) = _
    rw [h (pBW (f.1 0)) (lt_BW), h (pBW (f.1 1)) (lt_BW), h 31 (by decide), h 32 (by decide)]
    rfl
  · rfl
  · rfl
  · rfl
  · rfl
  · show (Sum.inr (3, [.ref (ad 34), .int (f.1 1), .int (f.1 2)]) : va_E) = _
    rw [h 34 (by decide)]
    rfl
  · show (Sum.inl (ca 4, 6, _) : va_E) = Sum.inl (ca 4, 6, _)
    have e1 : (fun i => if i < 6 then some (ad (pRace (4 + i))) else none) = (fun i => if i < 6 then some (ad1 (pRace (4 + i))) else none) := by
      funext i
      by_cases hi : i < 6
      · rw [if_pos hi, if_pos hi, h (pRace (4 + i)) (lt_Race (by omega))]
      · rw [if_neg hi, if_neg hi]
    rw [e1]
theorem cC_congr {ca ad ad1 : Nat → Nat} (h : ∀ j, j < 255 → ad j = ad1 j) (k : Nat) (hk : k < 255) (f : Row) : cC ca ad k f = cC ca ad1 k f := by
  unfold cC
  by_cases h35 : k < 35
  · rw [if_pos h35, if_pos h35, cTop_congr h k h35]
  · rw [if_neg h35, if_neg h35]
    exact cRace_congr (fun j hj => h _ (by omega)) _ (Nat.mod_lt _ (by decide)) f
theorem wf_app {n1 n2 : Nat} {ad : Nat → Nat} {cf : Nat → Row → va_E} {mem : Mem} : wf (n1 + n2) ad cf mem = wf n1 ad cf mem ++ wf n2 (fun j => ad (n1 + j)) (fun j => cf (n1 + j)) (fun j => mem (n1 + j)) := by
  unfold wf
  rw [List.range_add, List.map_append, List.map_map]
  rfl
theorem wf_congr {n : Nat} {ad ad1 : Nat → Nat} {cf cf1 : Nat → Row → va_E} {mem mem1 : Mem} (h : ∀ k, k < n → ad k = ad1 k ∧ cf k (mem k) = cf1 k (mem1 k)) : wf n ad cf mem = wf n ad1 cf1 mem1 := by
  unfold wf
  refine List.map_congr_left (fun k hk => ?_)
  obtain ⟨h1, h2⟩ := h k (List.mem_range.mp hk)
  rw [h1, h2]
/-- the joint world: the class's places, then the race's -/
def adJ (f ad : Nat → Nat) : Nat → Nat := fun k => if k < 255 then f k else ad (k - 255)
def mJ (m1 m2 : Mem) : Mem := fun k => if k < 255 then m1 k else m2 (k - 255)
theorem wf_J {ca f ad : Nat → Nat} {np nb eD tS sB : Nat} {m1 m2 : Mem} : wf (255 + nW np nb) (adJ f ad) (cJ ca (adJ f ad) np nb eD tS sB) (mJ m1 m2) = wf 255 f (cC ca f) m1 ++ wf (nW np nb) ad (cWd ca ad np nb eD tS sB) m2 := by
  have e1 : ∀ k, k < 255 → adJ f ad k = f k := fun k h => if_pos h
  have e2 : (fun j => adJ f ad (255 + j)) = ad := by
    funext j
    unfold adJ
    rw [if_neg (by omega), show 255 + j - 255 = j by omega]
  rw [wf_app]
  congr 1
  · refine wf_congr (fun k h => ⟨e1 k h, ?_⟩)
    rw [show cJ ca (adJ f ad) np nb eD tS sB k = cJ ca (adJ f ad) np nb eD tS sB (0 + k) by rw [Nat.zero_add], cJ_C k _ h, cC_congr e1 k h]
    rw [show mJ m1 m2 k = m1 k from if_pos h]
  · refine wf_congr (fun k h => ⟨congrFun e2 k, ?_⟩)
    rw [cJ_W, e2]
    rw [show mJ m1 m2 (255 + k) = m2 k by unfold mJ; rw [if_neg (by omega), show 255 + k - 255 = k by omega]]
end STC
