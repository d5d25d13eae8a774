section WLD
/-- the law's own race: 0 the object, 1 its list of pawns, 2 of bans, 3 the rows of walls, 4 .. 11 a row each, 12 the pawns' row, 13 + i pawn i, then the bans' row, then the bans -/
def nW (np nb : Nat) : Nat := if np = 0 then 12 else if nb = 0 then 13 + np else 14 + np + nb
def qW (a : Nat) (k : Nat) (x : Nat) : Value := if k = 0 then .ref a else .ref x
def cWd (ca ad : Nat → Nat) (np nb eD tS sB : Nat) (k : Nat) (f : Row) : va_E :=
  if k = 0 then .inr (12, [.int (f.1 0), .int (f.1 1), .int (f.1 2), .int (f.1 3), .int (f.1 4), .ref (ad 1), .ref (ad 2), .ref (ad 3), .ref tS, .ref sB, .int (f.1 10)])
  else if k = 1 then .inr (16, [.int (f.1 0), qW eD np (ad 12), .int (Int32.ofNat np)])
  else if k = 2 then .inr (16, [.int (f.1 0), qW eD nb (ad (13 + np)), .int (Int32.ofNat nb)])
  else if k = 3 then .inl (ca 6, 8, .inr (.inr (.inr (.inr (fun i => if i < 8 then some (ad (4 + i)) else none)))))
  else if k < 12 then .inl (ca 0, 8, .inl f.1)
  else if k = 12 then .inl (ca 5, 10, .inr (.inr (.inr (.inr (fun i => if i < np then some (ad (13 + i)) else none)))))
  else if k = 13 + np then .inl (ca 5, 10, .inr (.inr (.inr (.inr (fun i => if i < nb then some (ad (14 + np + i)) else none)))))
  else .inl (ca 0, 7, .inl f.1)
theorem nw_0 {np nb : Nat} : 0 < nW np nb := by unfold nW; split; omega; split <;> omega
theorem nw_1 {np nb : Nat} : 1 < nW np nb := by unfold nW; split; omega; split <;> omega
theorem nw_2 {np nb : Nat} : 2 < nW np nb := by unfold nW; split; omega; split <;> omega
theorem nw_3 {np nb : Nat} : 3 < nW np nb := by unfold nW; split; omega; split <;> omega
theorem nw_r {np nb i : Nat} (hi : i < 8) : 4 + i < nW np nb := by unfold nW; split; omega; split <;> omega
theorem nw_e {np nb : Nat} (hp : 0 < np) : 12 < nW np nb := by unfold nW; split; omega; split <;> omega
theorem nw_p {np nb i : Nat} (hi : i < np) : 13 + i < nW np nb := by unfold nW; split; omega; split <;> omega
theorem nw_f {np nb : Nat} (hp : 0 < np) (hb : 0 < nb) : 13 + np < nW np nb := by unfold nW; split; omega; split <;> omega
theorem nw_b {np nb i : Nat} (hp : 0 < np) (hi : i < nb) : 14 + np + i < nW np nb := by unfold nW; split; omega; split <;> omega
variable {ca ad : Nat → Nat} {np nb eD tS sB : Nat}
theorem kw_0 (f : Row) : cWd ca ad np nb eD tS sB 0 f = .inr (12, [.int (f.1 0), .int (f.1 1), .int (f.1 2), .int (f.1 3), .int (f.1 4), .ref (ad 1), .ref (ad 2), .ref (ad 3), .ref tS, .ref sB, .int (f.1 10)]) := rfl
theorem kw_1 (f : Row) : cWd ca ad np nb eD tS sB 1 f = .inr (16, [.int (f.1 0), qW eD np (ad 12), .int (Int32.ofNat np)]) := rfl
theorem kw_2 (f : Row) : cWd ca ad np nb eD tS sB 2 f = .inr (16, [.int (f.1 0), qW eD nb (ad (13 + np)), .int (Int32.ofNat nb)]) := rfl
theorem kw_3 (f : Row) : cWd ca ad np nb eD tS sB 3 f = .inl (ca 6, 8, .inr (.inr (.inr (.inr (fun i => if i < 8 then some (ad (4 + i)) else none))))) := rfl
theorem kw_r {i : Nat} (hi : i < 8) (f : Row) : cWd ca ad np nb eD tS sB (4 + i) f = .inl (ca 0, 8, .inl f.1) := by
  unfold cWd
  rw [if_neg (by omega), if_neg (by omega), if_neg (by omega), if_neg (by omega), if_pos (by omega)]
theorem kw_e (f : Row) : cWd ca ad np nb eD tS sB 12 f = .inl (ca 5, 10, .inr (.inr (.inr (.inr (fun i => if i < np then some (ad (13 + i)) else none))))) := rfl
theorem kw_p {i : Nat} (hi : i < np) (f : Row) : cWd ca ad np nb eD tS sB (13 + i) f = .inl (ca 0, 7, .inl f.1) := by
  unfold cWd
  rw [if_neg (by omega), if_neg (by omega), if_neg (by omega), if_neg (by omega), if_neg (by omega), if_neg (by omega), if_neg (by omega)]
theorem kw_f (f : Row) : cWd ca ad np nb eD tS sB (13 + np) f = .inl (ca 5, 10, .inr (.inr (.inr (.inr (fun i => if i < nb then some (ad (14 + np + i)) else none))))) := by
  unfold cWd
  rw [if_neg (by omega), if_neg (by omega), if_neg (by omega), if_neg (by omega), if_neg (by omega), if_neg (by omega), if_pos rfl]
theorem kw_b {i : Nat} (hi : i < nb) (f : Row) : cWd ca ad np nb eD tS sB (14 + np + i) f = .inl (ca 0, 7, .inl f.1) := by
  unfold cWd
  rw [if_neg (by omega), if_neg (by omega), if_neg (by omega), if_neg (by omega), if_neg (by omega), if_neg (by omega), if_neg (by omega)]
theorem el_rows {i : Nat} (hi : i < 8) : (fun i => if i < 8 then some (ad (4 + i)) else none) i = some (ad (4 + i)) := if_pos hi
theorem el_paw {i : Nat} (hi : i < np) : (fun i => if i < np then some (ad (13 + i)) else none) i = some (ad (13 + i)) := if_pos hi
theorem el_ban {i : Nat} (hi : i < nb) : (fun i => if i < nb then some (ad (14 + np + i)) else none) i = some (ad (14 + np + i)) := if_pos hi
end WLD
