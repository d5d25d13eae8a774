section WORLD
def tyL (ca : Nat → ClassId) : List (ClassId × FieldType) := [(ca 0, .int), (ca 1, .byte), (ca 2, .object "PawnRace$Pawn"), (ca 3, .object "PawnRace$Ban"), (ca 4, .object "PawnRace$Race"), (ca 5, .object "java/lang/Object"), (ca 6, .array .int)]
/-! THE CLASS'S PLACES: 0 the object, 2 .. 34 what it holds once, 35 + 22 r the race r (0 the race, 1 draft, 2 preview, 3 saved, 4 .. 9 kept) -/
def pRace (r : Nat) : Nat := 35 + 22 * r
def pBoard (r : Nat) : Nat := 36 + 22 * r
def pBuilt (r : Nat) : Nat := 37 + 22 * r
def pOpen (r : Nat) : Nat := 38 + 22 * r
def pPawns (r : Nat) : Nat := 39 + 22 * r
def pPawn (r i : Nat) : Nat := 40 + 22 * r + i
def pBans (r : Nat) : Nat := 44 + 22 * r
def pBan (r i : Nat) : Nat := 45 + 22 * r + i
/-- the ways objects: 0 the planner's, 1 the class's own -/
def pWays (w : Nat) : Nat := 20 + 4 * w
def pDist (w : Nat) : Nat := 21 + 4 * w
def pQueue (w : Nat) : Nat := 22 + 4 * w
def pNumb (w : Nat) : Nat := 23 + 4 * w
/-- the two rows of ways with bans, by their mark -/
def pBW (x : Int32) : Nat := if x = 0 then 29 else 30
def oI (f : Row) (j : Nat) : Value := .int (f.1 j)
def cRace (ca ad : Nat → Nat) (r j : Nat) (f : Row) : va_E :=
  if j = 0 then .inr (6, [.ref (ad (pBoard r)), .ref (ad (pPawns r)), .int (f.1 2), .ref (ad (pBans r)), .int (f.1 4), .int (f.1 5), .int (f.1 6), .int (f.1 7)])
  else if j = 1 then .inr (2, [.int (f.1 0), .int (f.1 1), .int (f.1 2), .ref (ad (pBuilt r)), .ref (ad (pOpen r))])
  else if j = 2 then .inl (ca 0, 64, .inl f.1)
  else if j = 3 then .inl (ca 0, 81, .inl f.1)
  else if j = 4 then .inl (ca 2, 4, .inr (.inr (.inr (.inr (fun i => if i < 4 then some (ad (pPawn r i)) else none)))))
  else if j < 9 then .inr (4, [.int (f.1 0), .int (f.1 1), .int (f.1 2), .int (f.1 3), .int (f.1 4), .int (f.1 5)])
  else if j = 9 then .inl (ca 3, 12, .inr (.inr (.inr (.inr (fun i => if i < 12 then some (ad (pBan r i)) else none)))))
  else .inr (0, [.int (f.1 0), .int (f.1 1), .int (f.1 2), .int (f.1 3), .int (f.1 4), .int (f.1 5), .int (f.1 6), .int (f.1 7), .int (f.1 8)])
def cTop (ca ad : Nat → Nat) (k : Nat) (f : Row) : va_E := match k with
  | 0 => .inr (11, [.ref (ad 2), .ref (ad 7), .ref (ad 10), .ref (ad 17), .ref (ad (pWays 1)), .ref (ad 28), .ref (ad (pRace 0)), .ref (ad (pRace 1)), .ref (ad (pRace 2)), .ref (ad (pRace 3)), .int (f.1 10), .ref (ad 33), .ref (ad 1), .int (f.1 13)])
  | 1 => .inl (ca 1, 283, .inl f.1)
  | 2 => .inr (9, [.ref (ad 3), .int (f.1 1), .ref (ad 4), .ref (ad 5), .ref (ad 6), .int (f.1 5), .int (f.1 6), .int (f.1 7), .int (f.1 8), .int (f.1 9), .int (f.1 10), .int (f.1 11), .int (f.1 12)])
  | 3 => .inl (ca 1, 700, .inl f.1)
  | 4 => .inl (ca 0, 701, .inl f.1)
  | 5 => .inl (ca 0, 701, .inl f.1)
  | 6 => .inl (ca 0, 701, .inl f.1)
  | 7 => .inr (7, [.ref (ad 2), .ref (ad (pRace 1)), .ref (ad 17), .ref (ad 8), .ref (ad 9), .int (f.1 5), .int (f.1 6), .int (f.1 7), .int (f.1 8)])
  | 8 => .inl (ca 0, 4, .inl f.1)
  | 9 => .inl (ca 0, 4, .inl f.1)
  | 10 => .inr (8, [.ref (ad 2), .ref (ad 11), .ref (ad 12), .ref (ad 13), .ref (ad 14), .ref (ad 15), .int (f.1 6), .int (f.1 7), .ref (ad 16), .int (f.1 9)])
  | 11 => .inl (ca 0, 60, .inl f.1)
  | 12 => .inl (ca 0, 60, .inl f.1)
  | 13 => .inl (ca 0, 60, .inl f.1)
  | 14 => .inl (ca 0, 60, .inl f.1)
  | 15 => .inl (ca 0, 60, .inl f.1)
  | 16 => .inl (ca 0, 2, .inl f.1)
  | 17 => .inr (5, [.ref (ad (pWays 0)), .ref (ad 18), .ref (ad 19), .int (f.1 3), .int (f.1 4), .int (f.1 5), .int (f.1 6)])
  | 18 => .inl (ca 0, 324, .inl f.1)
  | 19 => .inl (ca 0, 4, .inl f.1)
  | 20 => .inr (10, [.ref (ad (pDist 0)), .ref (ad (pQueue 0)), .int (f.1 2), .ref (ad (pNumb 0))])
  | 21 => .inl (ca 0, 81, .inl f.1)
  | 22 => .inl (ca 0, 81, .inl f.1)
  | 23 => .inl (ca 0, 81, .inl f.1)
  | 24 => .inr (10, [.ref (ad (pDist 1)), .ref (ad (pQueue 1)), .int (f.1 2), .ref (ad (pNumb 1))])
  | 25 => .inl (ca 0, 81, .inl f.1)
  | 26 => .inl (ca 0, 81, .inl f.1)
  | 27 => .inl (ca 0, 81, .inl f.1)
  | 28 => .inr (1, [.ref (ad (pBW (f.1 0))), .ref (ad (pBW (f.1 1))), .ref (ad 31), .ref (ad 32)])
  | 29 => .inl (ca 0, 405, .inl f.1)
  | 30 => .inl (ca 0, 405, .inl f.1)
  | 31 => .inl (ca 0, 81, .inl f.1)
  | 32 => .inl (ca 0, 5, .inl f.1)
  | 33 => .inr (3, [.ref (ad 34), .int (f.1 1), .int (f.1 2)])
  | _ => .inl (ca 4, 6, .inr (.inr (.inr (.inr (fun i => if i < 6 then some (ad (pRace (4 + i))) else none)))))
def cC (ca ad : Nat → Nat) (k : Nat) (f : Row) : va_E := if k < 35 then cTop ca ad k f else cRace ca ad ((k - 35) / 22) ((k - 35) % 22) f
theorem cC_race {ca ad : Nat → Nat} {f : Row} {r j k : Nat} (hk : k = 35 + 22 * r + j) (hj : j < 22) : cC ca ad k f = cRace ca ad r j f := by
  subst hk
  have h0 : ¬ 35 + 22 * r + j < 35 := by omega
  have h1 : (35 + 22 * r + j - 35) / 22 = r := by omega
  have h2 : (35 + 22 * r + j - 35) % 22 = j := by omega
  rw [cC, if_neg h0, h1, h2]
theorem lt_Race {r : Nat} (hr : r < 10) : pRace r < 255 := by unfold pRace; omega
theorem ko_Race {ca ad : Nat → Nat} {r : Nat} (f : Row) : cC ca ad (pRace r) f = .inr (6, [.ref (ad (pBoard r)), .ref (ad (pPawns r)), .int (f.1 2), .ref (ad (pBans r)), .int (f.1 4), .int (f.1 5), .int (f.1 6), .int (f.1 7)]) := (cC_race (r := r) (j := 0) (by unfold pRace; omega) (by decide)).trans rfl
theorem lt_Board {r : Nat} (hr : r < 10) : pBoard r < 255 := by unfold pBoard; omega
theorem ko_Board {ca ad : Nat → Nat} {r : Nat} (f : Row) : cC ca ad (pBoard r) f = .inr (2, [.int (f.1 0), .int (f.1 1), .int (f.1 2), .ref (ad (pBuilt r)), .ref (ad (pOpen r))]) := (cC_race (r := r) (j := 1) (by unfold pBoard; omega) (by decide)).trans rfl
theorem lt_Built {r : Nat} (hr : r < 10) : pBuilt r < 255 := by unfold pBuilt; omega
theorem ko_Built {ca ad : Nat → Nat} {r : Nat} (f : Row) : cC ca ad (pBuilt r) f = .inl (ca 0, 64, .inl f.1) := (cC_race (r := r) (j := 2) (by unfold pBuilt; omega) (by decide)).trans rfl
theorem lt_Open {r : Nat} (hr : r < 10) : pOpen r < 255 := by unfold pOpen; omega
theorem ko_Open {ca ad : Nat → Nat} {r : Nat} (f : Row) : cC ca ad (pOpen r) f = .inl (ca 0, 81, .inl f.1) := (cC_race (r := r) (j := 3) (by unfold pOpen; omega) (by decide)).trans rfl
theorem lt_Pawns {r : Nat} (hr : r < 10) : pPawns r < 255 := by unfold pPawns; omega
theorem ko_Pawns {ca ad : Nat → Nat} {r : Nat} (f : Row) : cC ca ad (pPawns r) f = .inl (ca 2, 4, .inr (.inr (.inr (.inr (fun i => if i < 4 then some (ad (pPawn r i)) else none))))) := (cC_race (r := r) (j := 4) (by unfold pPawns; omega) (by decide)).trans rfl
theorem lt_Bans {r : Nat} (hr : r < 10) : pBans r < 255 := by unfold pBans; omega
theorem ko_Bans {ca ad : Nat → Nat} {r : Nat} (f : Row) : cC ca ad (pBans r) f = .inl (ca 3, 12, .inr (.inr (.inr (.inr (fun i => if i < 12 then some (ad (pBan r i)) else none))))) := (cC_race (r := r) (j := 9) (by unfold pBans; omega) (by decide)).trans rfl
theorem lt_Pawn {r i : Nat} (hr : r < 10) (hi : i < 4) : pPawn r i < 255 := by unfold pPawn; omega
theorem lt_Ban {r i : Nat} (hr : r < 10) (hi : i < 12) : pBan r i < 255 := by unfold pBan; omega
theorem ko_Pawn {ca ad : Nat → Nat} {r i : Nat} (hi : i < 4) (f : Row) : cC ca ad (pPawn r i) f = .inr (4, [.int (f.1 0), .int (f.1 1), .int (f.1 2), .int (f.1 3), .int (f.1 4), .int (f.1 5)]) := by
  refine (cC_race (r := r) (j := 5 + i) (by unfold pPawn; omega) (by omega)).trans ?_
  unfold cRace
  rw [if_neg (by omega), if_neg (by omega), if_neg (by omega), if_neg (by omega), if_neg (by omega), if_pos (by omega)]
theorem ko_Ban {ca ad : Nat → Nat} {r i : Nat} (hi : i < 12) (f : Row) : cC ca ad (pBan r i) f = .inr (0, [.int (f.1 0), .int (f.1 1), .int (f.1 2), .int (f.1 3), .int (f.1 4), .int (f.1 5), .int (f.1 6), .int (f.1 7), .int (f.1 8)]) := by
  refine (cC_race (r := r) (j := 10 + i) (by unfold pBan; omega) (by omega)).trans ?_
  unfold cRace
  rw [if_neg (by omega), if_neg (by omega), if_neg (by omega), if_neg (by omega), if_neg (by omega), if_neg (by omega), if_neg (by omega)]
theorem el_Pawns {ad : Nat → Nat} {r i : Nat} (hi : i < 4) : (fun i => if i < 4 then some (ad (pPawn r i)) else none) i = some (ad (pPawn r i)) := if_pos hi
theorem el_Bans {ad : Nat → Nat} {r i : Nat} (hi : i < 12) : (fun i => if i < 12 then some (ad (pBan r i)) else none) i = some (ad (pBan r i)) := if_pos hi
theorem el_Kept {ad : Nat → Nat} {i : Nat} (hi : i < 6) : (fun i => if i < 6 then some (ad (pRace (4 + i))) else none) i = some (ad (pRace (4 + i))) := if_pos hi
theorem lt_Ways {w : Nat} (hw : w < 2) : pWays w < 255 := by unfold pWays; omega
theorem ko_Ways {ca ad : Nat → Nat} {w : Nat} (hw : w < 2) (f : Row) : cC ca ad (pWays w) f = .inr (10, [.ref (ad (pDist w)), .ref (ad (pQueue w)), .int (f.1 2), .ref (ad (pNumb w))]) := by
  rcases (show w = 0 ∨ w = 1 by omega) with rfl | rfl <;> rfl
theorem lt_Dist {w : Nat} (hw : w < 2) : pDist w < 255 := by unfold pDist; omega
theorem ko_Dist {ca ad : Nat → Nat} {w : Nat} (hw : w < 2) (f : Row) : cC ca ad (pDist w) f = .inl (ca 0, 81, .inl f.1) := by
  rcases (show w = 0 ∨ w = 1 by omega) with rfl | rfl <;> rfl
theorem lt_Queue {w : Nat} (hw : w < 2) : pQueue w < 255 := by unfold pQueue; omega
theorem ko_Queue {ca ad : Nat → Nat} {w : Nat} (hw : w < 2) (f : Row) : cC ca ad (pQueue w) f = .inl (ca 0, 81, .inl f.1) := by
  rcases (show w = 0 ∨ w = 1 by omega) with rfl | rfl <;> rfl
theorem lt_Numb {w : Nat} (hw : w < 2) : pNumb w < 255 := by unfold pNumb; omega
theorem ko_Numb {ca ad : Nat → Nat} {w : Nat} (hw : w < 2) (f : Row) : cC ca ad (pNumb w) f = .inl (ca 0, 81, .inl f.1) := by
  rcases (show w = 0 ∨ w = 1 by omega) with rfl | rfl <;> rfl
theorem lt_BW {x : Int32} : pBW x < 255 := by unfold pBW; split <;> decide
theorem ko_BW {ca ad : Nat → Nat} {x : Int32} (f : Row) : cC ca ad (pBW x) f = .inl (ca 0, 405, .inl f.1) := by
  unfold pBW; split <;> rfl
theorem ko_0 {ca ad : Nat → Nat} (f : Row) : cC ca ad 0 f = .inr (11, [.ref (ad 2), .ref (ad 7), .ref (ad 10), .ref (ad 17), .ref (ad (pWays 1)), .ref (ad 28), .ref (ad (pRace 0)), .ref (ad (pRace 1)), .ref (ad (pRace 2)), .ref (ad (pRace 3)), .int (f.1 10), .ref (ad 33), .ref (ad 1), .int (f.1 13)]) := rfl
theorem ko_1 {ca ad : Nat → Nat} (f : Row) : cC ca ad 1 f = .inl (ca 1, 283, .inl f.1) := rfl
theorem ko_2 {ca ad : Nat → Nat} (f : Row) : cC ca ad 2 f = .inr (9, [.ref (ad 3), .int (f.1 1), .ref (ad 4), .ref (ad 5), .ref (ad 6), .int (f.1 5), .int (f.1 6), .int (f.1 7), .int (f.1 8), .int (f.1 9), .int (f.1 10), .int (f.1 11), .int (f.1 12)]) := rfl
theorem ko_3 {ca ad : Nat → Nat} (f : Row) : cC ca ad 3 f = .inl (ca 1, 700, .inl f.1) := rfl
theorem ko_4 {ca ad : Nat → Nat} (f : Row) : cC ca ad 4 f = .inl (ca 0, 701, .inl f.1) := rfl
theorem ko_5 {ca ad : Nat → Nat} (f : Row) : cC ca ad 5 f = .inl (ca 0, 701, .inl f.1) := rfl
theorem ko_6 {ca ad : Nat → Nat} (f : Row) : cC ca ad 6 f = .inl (ca 0, 701, .inl f.1) := rfl
theorem ko_7 {ca ad : Nat → Nat} (f : Row) : cC ca ad 7 f = .inr (7, [.ref (ad 2), .ref (ad (pRace 1)), .ref (ad 17), .ref (ad 8), .ref (ad 9), .int (f.1 5), .int (f.1 6), .int (f.1 7), .int (f.1 8)]) := rfl
theorem ko_8 {ca ad : Nat → Nat} (f : Row) : cC ca ad 8 f = .inl (ca 0, 4, .inl f.1) := rfl
theorem ko_9 {ca ad : Nat → Nat} (f : Row) : cC ca ad 9 f = .inl (ca 0, 4, .inl f.1) := rfl
theorem ko_10 {ca ad : Nat → Nat} (f : Row) : cC ca ad 10 f = .inr (8, [.ref (ad 2), .ref (ad 11), .ref (ad 12), .ref (ad 13), .ref (ad 14), .ref (ad 15), .int (f.1 6), .int (f.1 7), .ref (ad 16), .int (f.1 9)]) := rfl
theorem ko_11 {ca ad : Nat → Nat} (f : Row) : cC ca ad 11 f = .inl (ca 0, 60, .inl f.1) := rfl
theorem ko_12 {ca ad : Nat → Nat} (f : Row) : cC ca ad 12 f = .inl (ca 0, 60, .inl f.1) := rfl
theorem ko_13 {ca ad : Nat → Nat} (f : Row) : cC ca ad 13 f = .inl (ca 0, 60, .inl f.1) := rfl
theorem ko_14 {ca ad : Nat → Nat} (f : Row) : cC ca ad 14 f = .inl (ca 0, 60, .inl f.1) := rfl
theorem ko_15 {ca ad : Nat → Nat} (f : Row) : cC ca ad 15 f = .inl (ca 0, 60, .inl f.1) := rfl
theorem ko_16 {ca ad : Nat → Nat} (f : Row) : cC ca ad 16 f = .inl (ca 0, 2, .inl f.1) := rfl
theorem ko_17 {ca ad : Nat → Nat} (f : Row) : cC ca ad 17 f = .inr (5, [.ref (ad (pWays 0)), .ref (ad 18), .ref (ad 19), .int (f.1 3), .int (f.1 4), .int (f.1 5), .int (f.1 6)]) := rfl
theorem ko_18 {ca ad : Nat → Nat} (f : Row) : cC ca ad 18 f = .inl (ca 0, 324, .inl f.1) := rfl
theorem ko_19 {ca ad : Nat → Nat} (f : Row) : cC ca ad 19 f = .inl (ca 0, 4, .inl f.1) := rfl
theorem ko_28 {ca ad : Nat → Nat} (f : Row) : cC ca ad 28 f = .inr (1, [.ref (ad (pBW (f.1 0))), .ref (ad (pBW (f.1 1))), .ref (ad 31), .ref (ad 32)]) := rfl
theorem ko_29 {ca ad : Nat → Nat} (f : Row) : cC ca ad 29 f = .inl (ca 0, 405, .inl f.1) := rfl
theorem ko_30 {ca ad : Nat → Nat} (f : Row) : cC ca ad 30 f = .inl (ca 0, 405, .inl f.1) := rfl
theorem ko_31 {ca ad : Nat → Nat} (f : Row) : cC ca ad 31 f = .inl (ca 0, 81, .inl f.1) := rfl
theorem ko_32 {ca ad : Nat → Nat} (f : Row) : cC ca ad 32 f = .inl (ca 0, 5, .inl f.1) := rfl
theorem ko_33 {ca ad : Nat → Nat} (f : Row) : cC ca ad 33 f = .inr (3, [.ref (ad 34), .int (f.1 1), .int (f.1 2)]) := rfl
theorem ko_34 {ca ad : Nat → Nat} (f : Row) : cC ca ad 34 f = .inl (ca 4, 6, .inr (.inr (.inr (.inr (fun i => if i < 6 then some (ad (pRace (4 + i))) else none))))) := rfl
theorem gw_sub {ws : List Cond} (ps : List Nat) (hp : ws = ps.filterMap (fun i => lw_tbl[i]?)) (h : ws.all goodWord = true) : ∀ w ∈ ws, w ∈ GW := fun w hw => by
  have h1 := List.all_eq_true.mp h w hw
  rw [hp] at hw
  obtain ⟨i, -, hi⟩ := List.mem_filterMap.mp hw
  exact gw_in i hi h1
theorem in_X0 : ∀ w ∈ u_ws RX0 TX0 9, w ∈ GW := gw_sub [333, 335, 337, 339, 341, 343, 345, 347, 349] (by decide +kernel) (by decide +kernel)
theorem in_X1 : ∀ w ∈ u_ws RX1 TX1 4, w ∈ GW := gw_sub [201, 203, 205, 207] (by decide +kernel) (by decide +kernel)
theorem in_X2 : ∀ w ∈ u_ws RX2 TX2 5, w ∈ GW := gw_sub [252, 254, 256, 258, 260] (by decide +kernel) (by decide +kernel)
theorem in_X3 : ∀ w ∈ u_ws RX3 TX3 3, w ∈ GW := gw_sub [477, 479, 481] (by decide +kernel) (by decide +kernel)
theorem in_X4 : ∀ w ∈ u_ws RX4 TX4 6, w ∈ GW := gw_sub [300, 302, 304, 306, 308, 310] (by decide +kernel) (by decide +kernel)
theorem in_X5 : ∀ w ∈ u_ws RX5 TX5 7, w ∈ GW := gw_sub [174, 176, 178, 180, 182, 184, 186] (by decide +kernel) (by decide +kernel)
theorem in_X6 : ∀ w ∈ u_ws RX6 TX6 8, w ∈ GW := gw_sub [379, 381, 383, 385, 387, 389, 391, 393] (by decide +kernel) (by decide +kernel)
theorem in_X7 : ∀ w ∈ u_ws RX7 TX7 9, w ∈ GW := gw_sub [411, 413, 415, 417, 419, 421, 423, 425, 427] (by decide +kernel) (by decide +kernel)
theorem in_X8 : ∀ w ∈ u_ws RX8 TX8 10, w ∈ GW := gw_sub [443, 445, 447, 449, 451, 453, 455, 457, 459, 461] (by decide +kernel) (by decide +kernel)
theorem in_X9 : ∀ w ∈ u_ws RX9 TX9 13, w ∈ GW := gw_sub [111, 113, 115, 117, 119, 121, 123, 125, 127, 129, 131, 133, 135] (by decide +kernel) (by decide +kernel)
theorem in_X10 : ∀ w ∈ u_ws RX10 TX10 4, w ∈ GW := gw_sub [157, 159, 161, 163] (by decide +kernel) (by decide +kernel)
theorem in_X11 : ∀ w ∈ u_ws RX11 TX11 14, w ∈ GW := gw_sub [498, 500, 502, 504, 506, 508, 510, 512, 514, 516, 518, 520, 522, 524] (by decide +kernel) (by decide +kernel)
theorem in_X12 : ∀ w ∈ u_ws RX12 TX12 11, w ∈ GW := gw_sub [970, 972, 974, 976, 978, 980, 982, 984, 986, 988, 990] (by decide +kernel) (by decide +kernel)
theorem plt_0 : 0 < 255 := by decide
theorem plt_1 : 1 < 255 := by decide
theorem plt_2 : 2 < 255 := by decide
theorem plt_3 : 3 < 255 := by decide
theorem plt_4 : 4 < 255 := by decide
theorem plt_5 : 5 < 255 := by decide
theorem plt_6 : 6 < 255 := by decide
theorem plt_7 : 7 < 255 := by decide
theorem plt_8 : 8 < 255 := by decide
theorem plt_9 : 9 < 255 := by decide
theorem plt_10 : 10 < 255 := by decide
theorem plt_11 : 11 < 255 := by decide
theorem plt_12 : 12 < 255 := by decide
theorem plt_13 : 13 < 255 := by decide
theorem plt_14 : 14 < 255 := by decide
theorem plt_15 : 15 < 255 := by decide
theorem plt_16 : 16 < 255 := by decide
theorem plt_17 : 17 < 255 := by decide
theorem plt_18 : 18 < 255 := by decide
theorem plt_19 : 19 < 255 := by decide
theorem plt_20 : 20 < 255 := by decide
theorem plt_21 : 21 < 255 := by decide
theorem plt_22 : 22 < 255 := by decide
theorem plt_23 : 23 < 255 := by decide
theorem plt_24 : 24 < 255 := by decide
theorem plt_25 : 25 < 255 := by decide
theorem plt_26 : 26 < 255 := by decide
theorem plt_27 : 27 < 255 := by decide
theorem plt_28 : 28 < 255 := by decide
theorem plt_29 : 29 < 255 := by decide
theorem plt_30 : 30 < 255 := by decide
theorem plt_31 : 31 < 255 := by decide
theorem plt_32 : 32 < 255 := by decide
theorem plt_33 : 33 < 255 := by decide
theorem plt_34 : 34 < 255 := by decide
theorem in_J0 : ∀ w ∈ u_ws RJ0 TJ0 4, w ∈ GW := gw_sub [1266, 1268, 1270, 1272] (by decide +kernel) (by decide +kernel)
theorem in_J4 : ∀ w ∈ u_ws RJ4 TJ4 4, w ∈ GW := gw_sub [1014, 1016, 1018, 1020] (by decide +kernel) (by decide +kernel)
theorem in_Jx35411 : ∀ w ∈ u_ws RJx35411 TJx35411 4, w ∈ GW := gw_sub [1590, 1592, 1594, 1596] (by decide +kernel) (by decide +kernel)
theorem in_Jx4a65c : ∀ w ∈ u_ws RJx4a65c TJx4a65c 3, w ∈ GW := gw_sub [945, 941, 943] (by decide +kernel) (by decide +kernel)
end WORLD
