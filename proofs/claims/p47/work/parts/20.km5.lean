section Km5
def K_X12_waysWithBans_56 (fu : Nat) : Nat → Int32 → Int32 → Int32 → Mem → Option (Int32 × Mem)
  | 0, _, _, _, _ => none
  | n + 1, x1, x2, x3, mem => (if x3 < x2 then bd (K_X12_of fu x1 4 mem) (fun x_7 => bd (K_X12_walks fu x1 (x_7 + x3) mem) (fun m_8 => (K_X12_waysWithBans_56 fu n x1 x2 (x3 + 1) m_8))) else some ((rd mem 0 34), mem))
def K_X12_waysWithBans_40 (fu : Nat) (xs0 : Int32) (mem : Mem) : Option (Int32 × Mem) := bd (K_X12_truth fu xs0 mem) (fun x_9 => some (x_9, mem))
def K_X12_waysWithBans (fu : Nat) (x1 : Int32) (x2 : Int32) (mem : Mem) : Option (Int32 × Mem) := bd (K_X12_isPawn fu x1 mem) (fun x_1 => bd (K_X12_isIn fu (Int32.toInt64 x2) 0 200 mem) (fun x_2 => bd (K_X12_goesBoth fu x_1 x_2 mem) (fun p_3 => (if p_3.1 = 0 then some (0, p_3.2) else bd (K_X12_hasFinished fu x1 p_3.2) (fun x_4 => (if x_4 = 0 then bd (K_X12_beginsWalk fu x1 p_3.2) (fun m_5 => lt_ (mw m_5 0 34 0) (fun m_6 => (K_X12_waysWithBans_56 fu fu x1 x2 0 m_6))) else (if x2 = 0 then (K_X12_waysWithBans_40 fu 1 p_3.2) else (K_X12_waysWithBans_40 fu 0 p_3.2))))))))
end Km5
