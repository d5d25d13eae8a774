section WB
def KW_isBanned_11 (np nb : Nat) (fu : Nat) (mem : Mem)  : Nat → Int32 → Int32 → Int32 → Int32 → Int32 → Int32 → Int32 → Option Int32
  | 0, _, _, _, _, _, _, _ => none
  | n + 1, x1, x2, x3, x4, x5, x6, cu => (if (if cu = Int32.ofNat nb then (0 : Int32) else 1) = 0 then some 0 else gi cu nb ((if (rd mem (14 + np + (Int32.toNatClampNeg cu)) 0) = x1 then (if (rd mem (14 + np + (Int32.toNatClampNeg cu)) 1) = 0 then (if x4 < 0 then (if (rd mem (14 + np + (Int32.toNatClampNeg cu)) 1) = 1 then (if x6 = x4 then some 1 else (if (rd mem (14 + np + (Int32.toNatClampNeg cu)) 1) = 2 then (if x6 = (rd mem (14 + np + (Int32.toNatClampNeg cu)) 2) then gz (rd mem (14 + np + (Int32.toNatClampNeg cu)) 3) ((if (x5 - x5 / (rd mem (14 + np + (Int32.toNatClampNeg cu)) 3) * (rd mem (14 + np + (Int32.toNatClampNeg cu)) 3)) = (rd mem (14 + np + (Int32.toNatClampNeg cu)) 4) then some 1 else (if (rd mem (14 + np + (Int32.toNatClampNeg cu)) 1) = 3 then (if x6 = (rd mem (14 + np + (Int32.toNatClampNeg cu)) 2) then (if 0 < ((x2 - (rd mem (14 + np + (Int32.toNatClampNeg cu)) 3)) * (x2 - (rd mem (14 + np + (Int32.toNatClampNeg cu)) 5))) then (KW_isBanned_11 np nb fu mem  n x1 x2 x3 x4 x5 x6 (cu + 1)) else (if 0 < ((x3 - (rd mem (14 + np + (Int32.toNatClampNeg cu)) 4)) * (x3 - (rd mem (14 + np + (Int32.toNatClampNeg cu)) 6))) then (KW_isBanned_11 np nb fu mem  n x1 x2 x3 x4 x5 x6 (cu + 1)) else some 1)) else (KW_isBanned_11 np nb fu mem  n x1 x2 x3 x4 x5 x6 (cu + 1))) else (KW_isBanned_11 np nb fu mem  n x1 x2 x3 x4 x5 x6 (cu + 1))))) else (if (rd mem (14 + np + (Int32.toNatClampNeg cu)) 1) = 3 then (if x6 = (rd mem (14 + np + (Int32.toNatClampNeg cu)) 2) then (if 0 < ((x2 - (rd mem (14 + np + (Int32.toNatClampNeg cu)) 3)) * (x2 - (rd mem (14 + np + (Int32.toNatClampNeg cu)) 5))) then (KW_isBanned_11 np nb fu mem  n x1 x2 x3 x4 x5 x6 (cu + 1)) else (if 0 < ((x3 - (rd mem (14 + np + (Int32.toNatClampNeg cu)) 4)) * (x3 - (rd mem (14 + np + (Int32.toNatClampNeg cu)) 6))) then (KW_isBanned_11 np nb fu mem  n x1 x2 x3 x4 x5 x6 (cu + 1)) else some 1)) else (KW_isBanned_11 np nb fu mem  n x1 x2 x3 x4 x5 x6 (cu + 1))) else (KW_isBanned_11 np nb fu mem  n x1 x2 x3 x4 x5 x6 (cu + 1)))) else (if (rd mem (14 + np + (Int32.toNatClampNeg cu)) 1) = 3 then (if x6 = (rd mem (14 + np + (Int32.toNatClampNeg cu)) 2) then (if 0 < ((x2 - (rd mem (14 + np + (Int32.toNatClampNeg cu)) 3)) * (x2 - (rd mem (14 + np + (Int32.toNatClampNeg cu)) 5))) then (KW_isBanned_11 np nb fu mem  n x1 x2 x3 x4 x5 x6 (cu + 1)) else (if 0 < ((x3 - (rd mem (14 + np + (Int32.toNatClampNeg cu)) 4)) * (x3 - (rd mem (14 + np + (Int32.toNatClampNeg cu)) 6))) then (KW_isBanned_11 np nb fu mem  n x1 x2 x3 x4 x5 x6 (cu + 1)) else some 1)) else (KW_isBanned_11 np nb fu mem  n x1 x2 x3 x4 x5 x6 (cu + 1))) else (KW_isBanned_11 np nb fu mem  n x1 x2 x3 x4 x5 x6 (cu + 1))))) else (if (rd mem (14 + np + (Int32.toNatClampNeg cu)) 1) = 2 then (if x6 = (rd mem (14 + np + (Int32.toNatClampNeg cu)) 2) then gz (rd mem (14 + np + (Int32.toNatClampNeg cu)) 3) ((if (x5 - x5 / (rd mem (14 + np + (Int32.toNatClampNeg cu)) 3) * (rd mem (14 + np + (Int32.toNatClampNeg cu)) 3)) = (rd mem (14 + np + (Int32.toNatClampNeg cu)) 4) then some 1 else (if (rd mem (14 + np + (Int32.toNatClampNeg cu)) 1) = 3 then (if x6 = (rd mem (14 + np + (Int32.toNatClampNeg cu)) 2) then (if 0 < ((x2 - (rd mem (14 + np + (Int32.toNatClampNeg cu)) 3)) * (x2 - (rd mem (14 + np + (Int32.toNatClampNeg cu)) 5))) then (KW_isBanned_11 np nb fu mem  n x1 x2 x3 x4 x5 x6 (cu + 1)) else (if 0 < ((x3 - (rd mem (14 + np + (Int32.toNatClampNeg cu)) 4)) * (x3 - (rd mem (14 + np + (Int32.toNatClampNeg cu)) 6))) then (KW_isBanned_11 np nb fu mem  n x1 x2 x3 x4 x5 x6 (cu + 1)) else some 1)) else (KW_isBanned_11 np nb fu mem  n x1 x2 x3 x4 x5 x6 (cu + 1))) else (KW_isBanned_11 np nb fu mem  n x1 x2 x3 x4 x5 x6 (cu + 1))))) else (if (rd mem (14 + np + (Int32.toNatClampNeg cu)) 1) = 3 then (if x6 = (rd mem (14 + np + (Int32.toNatClampNeg cu)) 2) then (if 0 < ((x2 - (rd mem (14 + np + (Int32.toNatClampNeg cu)) 3)) * (x2 - (rd mem (14 + np + (Int32.toNatClampNeg cu)) 5))) then (KW_isBanned_11 np nb fu mem  n x1 x2 x3 x4 x5 x6 (cu + 1)) else (if 0 < ((x3 - (rd mem (14 + np + (Int32.toNatClampNeg cu)) 4)) * (x3 - (rd mem (14 + np + (Int32.toNatClampNeg cu)) 6))) then (KW_isBanned_11 np nb fu mem  n x1 x2 x3 x4 x5 x6 (cu + 1)) else some 1)) else (KW_isBanned_11 np nb fu mem  n x1 x2 x3 x4 x5 x6 (cu + 1))) else (KW_isBanned_11 np nb fu mem  n x1 x2 x3 x4 x5 x6 (cu + 1)))) else (if (rd mem (14 + np + (Int32.toNatClampNeg cu)) 1) = 3 then (if x6 = (rd mem (14 + np + (Int32.toNatClampNeg cu)) 2) then (if 0 < ((x2 - (rd mem (14 + np + (Int32.toNatClampNeg cu)) 3)) * (x2 - (rd mem (14 + np + (Int32.toNatClampNeg cu)) 5))) then (KW_isBanned_11 np nb fu mem  n x1 x2 x3 x4 x5 x6 (cu + 1)) else (if 0 < ((x3 - (rd mem (14 + np + (Int32.toNatClampNeg cu)) 4)) * (x3 - (rd mem (14 + np + (Int32.toNatClampNeg cu)) 6))) then (KW_isBanned_11 np nb fu mem  n x1 x2 x3 x4 x5 x6 (cu + 1)) else some 1)) else (KW_isBanned_11 np nb fu mem  n x1 x2 x3 x4 x5 x6 (cu + 1))) else (KW_isBanned_11 np nb fu mem  n x1 x2 x3 x4 x5 x6 (cu + 1))))) else (if x6 = (x4 ^^^ 2) then some 1 else (if (rd mem (14 + np + (Int32.toNatClampNeg cu)) 1) = 1 then (if x6 = x4 then some 1 else (if (rd mem (14 + np + (Int32.toNatClampNeg cu)) 1) = 2 then (if x6 = (rd mem (14 + np + (Int32.toNatClampNeg cu)) 2) then gz (rd mem (14 + np + (Int32.toNatClampNeg cu)) 3) ((if (x5 - x5 / (rd mem (14 + np + (Int32.toNatClampNeg cu)) 3) * (rd mem (14 + np + (Int32.toNatClampNeg cu)) 3)) = (rd mem (14 + np + (Int32.toNatClampNeg cu)) 4) then some 1 else (if (rd mem (14 + np + (Int32.toNatClampNeg cu)) 1) = 3 then (if x6 = (rd mem (14 + np + (Int32.toNatClampNeg cu)) 2) then (if 0 < ((x2 - (rd mem (14 + np + (Int32.toNatClampNeg cu)) 3)) * (x2 - (rd mem (14 + np + (Int32.toNatClampNeg cu)) 5))) then (KW_isBanned_11 np nb fu mem  n x1 x2 x3 x4 x5 x6 (cu + 1)) else (if 0 < ((x3 - (rd mem (14 + np + (Int32.toNatClampNeg cu)) 4)) * (x3 - (rd mem (14 + np + (Int32.toNatClampNeg cu)) 6))) then (KW_isBanned_11 np nb fu mem  n x1 x2 x3 x4 x5 x6 (cu + 1)) else some 1)) else (KW_isBanned_11 np nb fu mem  n x1 x2 x3 x4 x5 x6 (cu + 1))) else (KW_isBanned_11 np nb fu mem  n x1 x2 x3 x4 x5 x6 (cu + 1))))) else (if (rd mem (14 + np + (Int32.toNatClampNeg cu)) 1) = 3 then (if x6 = (rd mem (14 + np + (Int32.toNatClampNeg cu)) 2) then (if 0 < ((x2 - (rd mem (14 + np + (Int32.toNatClampNeg cu)) 3)) * (x2 - (rd mem (14 + np + (Int32.toNatClampNeg cu)) 5))) then (KW_isBanned_11 np nb fu mem  n x1 x2 x3 x4 x5 x6 (cu + 1)) else (if 0 < ((x3 - (rd mem (14 + np + (Int32.toNatClampNeg cu)) 4)) * (x3 - (rd mem (14 + np + (Int32.toNatClampNeg cu)) 6))) then (KW_isBanned_11 np nb fu mem  n x1 x2 x3 x4 x5 x6 (cu + 1)) else some 1)) else (KW_isBanned_11 np nb fu mem  n x1 x2 x3 x4 x5 x6 (cu + 1))) else (KW_isBanned_11 np nb fu mem  n x1 x2 x3 x4 x5 x6 (cu + 1)))) else (if (rd mem (14 + np + (Int32.toNatClampNeg cu)) 1) = 3 then (if x6 = (rd mem (14 + np + (Int32.toNatClampNeg cu)) 2) then (if 0 < ((x2 - (rd mem (14 + np + (Int32.toNatClampNeg cu)) 3)) * (x2 - (rd mem (14 + np + (Int32.toNatClampNeg cu)) 5))) then (KW_isBanned_11 np nb fu mem  n x1 x2 x3 x4 x5 x6 (cu + 1)) else (if 0 < ((x3 - (rd mem (14 + np + (Int32.toNatClampNeg cu)) 4)) * (x3 - (rd mem (14 + np + (Int32.toNatClampNeg cu)) 6))) then (KW_isBanned_11 np nb fu mem  n x1 x2 x3 x4 x5 x6 (cu + 1)) else some 1)) else (KW_isBanned_11 np nb fu mem  n x1 x2 x3 x4 x5 x6 (cu + 1))) else (KW_isBanned_11 np nb fu mem  n x1 x2 x3 x4 x5 x6 (cu + 1))))) else (if (rd mem (14 + np + (Int32.toNatClampNeg cu)) 1) = 2 then (if x6 = (rd mem (14 + np + (Int32.toNatClampNeg cu)) 2) then gz (rd mem (14 + np + (Int32.toNatClampNeg cu)) 3) ((if (x5 - x5 / (rd mem (14 + np + (Int32.toNatClampNeg cu)) 3) * (rd mem (14 + np + (Int32.toNatClampNeg cu)) 3)) = (rd mem (14 + np + (Int32.toNatClampNeg cu)) 4) then some 1 else (if (rd mem (14 + np + (Int32.toNatClampNeg cu)) 1) = 3 then (if x6 = (rd mem (14 + np + (Int32.toNatClampNeg cu)) 2) then (if 0 < ((x2 - (rd mem (14 + np + (Int32.toNatClampNeg cu)) 3)) * (x2 - (rd mem (14 + np + (Int32.toNatClampNeg cu)) 5))) then (KW_isBanned_11 np nb fu mem  n x1 x2 x3 x4 x5 x6 (cu + 1)) else (if 0 < ((x3 - (rd mem (14 + np + (Int32.toNatClampNeg cu)) 4)) * (x3 - (rd mem (14 + np + (Int32.toNatClampNeg cu)) 6))) then (KW_isBanned_11 np nb fu mem  n x1 x2 x3 x4 x5 x6 (cu + 1)) else some 1)) else (KW_isBanned_11 np nb fu mem  n x1 x2 x3 x4 x5 x6 (cu + 1))) else (KW_isBanned_11 np nb fu mem  n x1 x2 x3 x4 x5 x6 (cu + 1))))) else (if (rd mem (14 + np + (Int32.toNatClampNeg cu)) 1) = 3 then (if x6 = (rd mem (14 + np + (Int32.toNatClampNeg cu)) 2) then (if 0 < ((x2 - (rd mem (14 + np + (Int32.toNatClampNeg cu)) 3)) * (x2 - (rd mem (14 + np + (Int32.toNatClampNeg cu)) 5))) then (KW_isBanned_11 np nb fu mem  n x1 x2 x3 x4 x5 x6 (cu + 1)) else (if 0 < ((x3 - (rd mem (14 + np + (Int32.toNatClampNeg cu)) 4)) * (x3 - (rd mem (14 + np + (Int32.toNatClampNeg cu)) 6))) then (KW_isBanned_11 np nb fu mem  n x1 x2 x3 x4 x5 x6 (cu + 1)) else some 1)) else (KW_isBanned_11 np nb fu mem  n x1 x2 x3 x4 x5 x6 (cu + 1))) else (KW_isBanned_11 np nb fu mem  n x1 x2 x3 x4 x5 x6 (cu + 1)))) else (if (rd mem (14 + np + (Int32.toNatClampNeg cu)) 1) = 3 then (if x6 = (rd mem (14 + np + (Int32.toNatClampNeg cu)) 2) then (if 0 < ((x2 - (rd mem (14 + np + (Int32.toNatClampNeg cu)) 3)) * (x2 - (rd mem (14 + np + (Int32.toNatClampNeg cu)) 5))) then (KW_isBanned_11 np nb fu mem  n x1 x2 x3 x4 x5 x6 (cu + 1)) else (if 0 < ((x3 - (rd mem (14 + np + (Int32.toNatClampNeg cu)) 4)) * (x3 - (rd mem (14 + np + (Int32.toNatClampNeg cu)) 6))) then (KW_isBanned_11 np nb fu mem  n x1 x2 x3 x4 x5 x6 (cu + 1)) else some 1)) else (KW_isBanned_11 np nb fu mem  n x1 x2 x3 x4 x5 x6 (cu + 1))) else (KW_isBanned_11 np nb fu mem  n x1 x2 x3 x4 x5 x6 (cu + 1))))))) else (if (rd mem (14 + np + (Int32.toNatClampNeg cu)) 1) = 1 then (if x6 = x4 then some 1 else (if (rd mem (14 + np + (Int32.toNatClampNeg cu)) 1) = 2 then (if x6 = (rd mem (14 + np + (Int32.toNatClampNeg cu)) 2) then gz (rd mem (14 + np + (Int32.toNatClampNeg cu)) 3) ((if (x5 - x5 / (rd mem (14 + np + (Int32.toNatClampNeg cu)) 3) * (rd mem (14 + np + (Int32.toNatClampNeg cu)) 3)) = (rd mem (14 + np + (Int32.toNatClampNeg cu)) 4) then some 1 else (if (rd mem (14 + np + (Int32.toNatClampNeg cu)) 1) = 3 then (if x6 = (rd mem (14 + np + (Int32.toNatClampNeg cu)) 2) then (if 0 < ((x2 - (rd mem (14 + np + (Int32.toNatClampNeg cu)) 3)) * (x2 - (rd mem (14 + np + (Int32.toNatClampNeg cu)) 5))) then (KW_isBanned_11 np nb fu mem  n x1 x2 x3 x4 x5 x6 (cu + 1)) else (if 0 < ((x3 - (rd mem (14 + np + (Int32.toNatClampNeg cu)) 4)) * (x3 - (rd mem (14 + np + (Int32.toNatClampNeg cu)) 6))) then (KW_isBanned_11 np nb fu mem  n x1 x2 x3 x4 x5 x6 (cu + 1)) else some 1)) else (KW_isBanned_11 np nb fu mem  n x1 x2 x3 x4 x5 x6 (cu + 1))) else (KW_isBanned_11 np nb fu mem  n x1 x2 x3 x4 x5 x6 (cu + 1))))) else (if (rd mem (14 + np + (Int32.toNatClampNeg cu)) 1) = 3 then (if x6 = (rd mem (14 + np + (Int32.toNatClampNeg cu)) 2) then (if 0 < ((x2 - (rd mem (14 + np + (Int32.toNatClampNeg cu)) 3)) * (x2 - (rd mem (14 + np + (Int32.toNatClampNeg cu)) 5))) then (KW_isBanned_11 np nb fu mem  n x1 x2 x3 x4 x5 x6 (cu + 1)) else (if 0 < ((x3 - (rd mem (14 + np + (Int32.toNatClampNeg cu)) 4)) * (x3 - (rd mem (14 + np + (Int32.toNatClampNeg cu)) 6))) then (KW_isBanned_11 np nb fu mem  n x1 x2 x3 x4 x5 x6 (cu + 1)) else some 1)) else (KW_isBanned_11 np nb fu mem  n x1 x2 x3 x4 x5 x6 (cu + 1))) else (KW_isBanned_11 np nb fu mem  n x1 x2 x3 x4 x5 x6 (cu + 1)))) else (if (rd mem (14 + np + (Int32.toNatClampNeg cu)) 1) = 3 then (if x6 = (rd mem (14 + np + (Int32.toNatClampNeg cu)) 2) then (if 0 < ((x2 - (rd mem (14 + np + (Int32.toNatClampNeg cu)) 3)) * (x2 - (rd mem (14 + np + (Int32.toNatClampNeg cu)) 5))) then (KW_isBanned_11 np nb fu mem  n x1 x2 x3 x4 x5 x6 (cu + 1)) else (if 0 < ((x3 - (rd mem (14 + np + (Int32.toNatClampNeg cu)) 4)) * (x3 - (rd mem (14 + np + (Int32.toNatClampNeg cu)) 6))) then (KW_isBanned_11 np nb fu mem  n x1 x2 x3 x4 x5 x6 (cu + 1)) else some 1)) else (KW_isBanned_11 np nb fu mem  n x1 x2 x3 x4 x5 x6 (cu + 1))) else (KW_isBanned_11 np nb fu mem  n x1 x2 x3 x4 x5 x6 (cu + 1))))) else (if (rd mem (14 + np + (Int32.toNatClampNeg cu)) 1) = 2 then (if x6 = (rd mem (14 + np + (Int32.toNatClampNeg cu)) 2) then gz (rd mem (14 + np + (Int32.toNatClampNeg cu)) 3) ((if (x5 - x5 / (rd mem (14 + np + (Int32.toNatClampNeg cu)) 3) * (rd mem (14 + np + (Int32.toNatClampNeg cu)) 3)) = (rd mem (14 + np + (Int32.toNatClampNeg cu)) 4) then some 1 else (if (rd mem (14 + np + (Int32.toNatClampNeg cu)) 1) = 3 then (if x6 = (rd mem (14 + np + (Int32.toNatClampNeg cu)) 2) then (if 0 < ((x2 - (rd mem (14 + np + (Int32.toNatClampNeg cu)) 3)) * (x2 - (rd mem (14 + np + (Int32.toNatClampNeg cu)) 5))) then (KW_isBanned_11 np nb fu mem  n x1 x2 x3 x4 x5 x6 (cu + 1)) else (if 0 < ((x3 - (rd mem (14 + np + (Int32.toNatClampNeg cu)) 4)) * (x3 - (rd mem (14 + np + (Int32.toNatClampNeg cu)) 6))) then (KW_isBanned_11 np nb fu mem  n x1 x2 x3 x4 x5 x6 (cu + 1)) else some 1)) else (KW_isBanned_11 np nb fu mem  n x1 x2 x3 x4 x5 x6 (cu + 1))) else (KW_isBanned_11 np nb fu mem  n x1 x2 x3 x4 x5 x6 (cu + 1))))) else (if (rd mem (14 + np + (Int32.toNatClampNeg cu)) 1) = 3 then (if x6 = (rd mem (14 + np + (Int32.toNatClampNeg cu)) 2) then (if 0 < ((x2 - (rd mem (14 + np + (Int32.toNatClampNeg cu)) 3)) * (x2 - (rd mem (14 + np + (Int32.toNatClampNeg cu)) 5))) then (KW_isBanned_11 np nb fu mem  n x1 x2 x3 x4 x5 x6 (cu + 1)) else (if 0 < ((x3 - (rd mem (14 + np + (Int32.toNatClampNeg cu)) 4)) * (x3 - (rd mem (14 + np + (Int32.toNatClampNeg cu)) 6))) then (KW_isBanned_11 np nb fu mem  n x1 x2 x3 x4 x5 x6 (cu + 1)) else some 1)) else (KW_isBanned_11 np nb fu mem  n x1 x2 x3 x4 x5 x6 (cu + 1))) else (KW_isBanned_11 np nb fu mem  n x1 x2 x3 x4 x5 x6 (cu + 1)))) else (if (rd mem (14 + np + (Int32.toNatClampNeg cu)) 1) = 3 then (if x6 = (rd mem (14 + np + (Int32.toNatClampNeg cu)) 2) then (if 0 < ((x2 - (rd mem (14 + np + (Int32.toNatClampNeg cu)) 3)) * (x2 - (rd mem (14 + np + (Int32.toNatClampNeg cu)) 5))) then (KW_isBanned_11 np nb fu mem  n x1 x2 x3 x4 x5 x6 (cu + 1)) else (if 0 < ((x3 - (rd mem (14 + np + (Int32.toNatClampNeg cu)) 4)) * (x3 - (rd mem (14 + np + (Int32.toNatClampNeg cu)) 6))) then (KW_isBanned_11 np nb fu mem  n x1 x2 x3 x4 x5 x6 (cu + 1)) else some 1)) else (KW_isBanned_11 np nb fu mem  n x1 x2 x3 x4 x5 x6 (cu + 1))) else (KW_isBanned_11 np nb fu mem  n x1 x2 x3 x4 x5 x6 (cu + 1)))))) else (KW_isBanned_11 np nb fu mem  n x1 x2 x3 x4 x5 x6 (cu + 1)))))
def KW_isBanned (np nb : Nat) (fu : Nat) (x1 : Int32) (x2 : Int32) (x3 : Int32) (x4 : Int32) (x5 : Int32) (x6 : Int32) (mem : Mem) : Option Int32 := (KW_isBanned_11 np nb fu mem  fu x1 x2 x3 x4 x5 x6 0)
def rw_isBanned : Room := { frames := 3, cells := 1, slots := 4, locals := 61 }
theorem rwc_isBanned : rw_isBanned.cells = 1 ∧ rw_isBanned.slots = 4 := ⟨rfl, rfl⟩
set_option maxHeartbeats 4000000 in
set_option maxRecDepth 100000 in
theorem cw_isBanned (l : Launch) {D : va_G} {ca ad : Nat → Nat} {np nb eD tS sB : Nat} {Z : (Nat → Prop) → State → Heap → Prop} (hZ : ZOK Z) {tA tU L : Nat} {xs : Nat → Int32} (hW : ZWO Z tA tU sB L xs) (hg : np ≤ 4 ∧ nb ≤ 4 ∧ (np = 0 → nb = 0)) (fu : Nat) (x1 : Int32) (x2 : Int32) (x3 : Int32) (x4 : Int32) (x5 : Int32) (x6 : Int32) (mem : Mem) (res : Int32) (hF : KW_isBanned np nb fu x1 x2 x3 x4 x5 x6 mem = some res) : CJ l D (tyL ca) (nW np nb) ad (cWd ca ad np nb eD tS sB) Z yX12_isBanned cX12_isBanned 9 .boolean rw_isBanned [.ref (ad 0), .int x1, .int x2, .int x3, .int x4, .int x5, .int x6] mem res mem := by
  refine xstart_i (own := RX12) rfl (by decide) (Nat.le_of_ble_eq_true rfl) ?_
  intro p e s m args below meth c Q hQ X
  rw [KW_isBanned] at hF
  revert hF
  have w_11 : ∀ (q : Nat) (hq : s.heap.size ≤ q) (X' : CX D (tyL ca) (nW np nb + 1) (adI ad (nW np nb) q) Z p s m args meth c cX12_isBanned 9 RX12 (some .boolean))  (n : Nat) (lr : Int32) (x1 : Int32) (x2 : Int32) (x3 : Int32) (x4 : Int32) (x5 : Int32) (x6 : Int32) (cu : Int32), KW_isBanned_11 np nb fu mem  n x1 x2 x3 x4 x5 x6 cu = some res → XX D (nW np nb + 1) (adI ad (nW np nb) q) (cfI (cWd ca ad np nb eD tS sB) (nW np nb) (gI ad)) p l e rw_isBanned s m args below meth c 9 1 4 Q (mr mem (nW np nb) (itR cu lr (rd mem 2 0) 1)) [] 11 [(1, .int x1), (2, .int x2), (3, .int x3), (4, .int x4), (5, .int x5), (6, .int x6), (7, .ref (adI ad (nW np nb) q (nW np nb)))] [] := by
    intro q hq X'  n
    induction n with
    | zero => intro lr x1 x2 x3 x4 x5 x6 cu hF; exact no_none (show (none : Option Int32) = some res from hF)
    | succ n ih =>
      intro lr x1 x2 x3 x4 x5 x6 cu hF
      rw [KW_isBanned_11] at hF
      refine x_aload X' 6 dX12_isBanned_11 rfl 13 rfl ?_
      refine x_callFi (rm := rmI0) (o := some ()) (F := fun _ => some ()) (res := ()) (fun _ => if cu = Int32.ofNat nb then 0 else 1) (fun _ => mr mem (nW np nb) (itR cu lr (rd mem 2 0) 1)) X' hZ rfl [] (nW np nb) ni_n ki_n (q := ("java/util/ArrayList$Itr", TJx35411, 4)) rfl rfl kFB_hasNext kL_X12_161 ((hW _ _ _ X'.2.2.2.2.2).2.2.2.2.1 ("java/util/ArrayList$Itr", yI_hasNext, yJx35411_hasNext_aae02) (List.mem_of_getElem? (i := 5) rfl)) (fun _ _ => cw_has hW) rfl ⟨Nat.le_of_ble_eq_true rfl, Nat.le_of_ble_eq_true rfl⟩ (Nat.le_of_ble_eq_true rfl) ⟨Nat.le_of_ble_eq_true rfl, Nat.le_of_ble_eq_true rfl⟩ dX12_isBanned_13 18 rfl (fun _ _ => ?_)
      refine x_if_eq X' hF 170 21 dX12_isBanned_18 (by decide) rfl (fun hF => ?_) (fun hF => ?_)
      · refine x_iconst X' 0 dX12_isBanned_170 rfl 171 rfl ?_
        refine x_back hq ?_
        exact x_iret X hQ (o_inj hF) rfl rfl (Nat.le_of_ble_eq_true rfl) (Nat.le_of_ble_eq_true rfl) dX12_isBanned_171
      · refine x_aload X' 6 dX12_isBanned_21 rfl 23 rfl ?_
        refine x_gi hF (fun h_1 hF => ?_)
        have hk_h_1 : 14 + np + (Int32.toNatClampNeg cu) < nW np nb := nw_b (by have := vp_lt h_1; have := hg.2.2; omega) (vp_lt h_1)
        refine x_callFb (rm := rmI1) (o := some ()) (F := fun _ => some ()) (res := ()) (fun _ => adI ad (nW np nb) q (14 + np + (Int32.toNatClampNeg cu))) (fun _ => mr mem (nW np nb) (itR (cu + 1) cu (rd mem 2 0) 1)) X' hZ rfl [] (nW np nb) ni_n ki_n (q := ("java/util/ArrayList$Itr", TJx35411, 4)) rfl rfl kFB_next kL_X12_166 ((hW _ _ _ X'.2.2.2.2.2).2.2.2.2.1 ("java/util/ArrayList$Itr", yI_next, yJx35411_next_0502b) (List.mem_of_getElem? (i := 6) rfl)) (fun _ _ => cw_next hg.2.1 hg.2.2 h_1 rfl hZ hW) rfl ⟨Nat.le_of_ble_eq_true rfl, Nat.le_of_ble_eq_true rfl⟩ (Nat.le_of_ble_eq_true rfl) ⟨Nat.le_of_ble_eq_true rfl, Nat.le_of_ble_eq_true rfl⟩ dX12_isBanned_23 28 rfl (fun _ _ => ?_)
        refine x_castI X' (14 + np + (Int32.toNatClampNeg cu)) (Nat.lt_succ_of_lt hk_h_1) (x := (7, .inl (fun _ => 0))) (fun f => ⟨_, (cfI_lt hk_h_1 f).trans (kw_b (vp_lt h_1) f)⟩) (t0 := 0) rfl rfl kCl_X12_169 dX12_isBanned_28 31 rfl ?_
        refine x_astore X' [(8, .ref (adI ad (nW np nb) q (14 + np + (Int32.toNatClampNeg cu)))), (1, .int x1), (2, .int x2), (3, .int x3), (4, .int x4), (5, .int x5), (6, .int x6), (7, .ref (adI ad (nW np nb) q (nW np nb)))] dX12_isBanned_31 (by decide) rfl 33 rfl ?_
        refine x_aload X' 0 dX12_isBanned_33 rfl 35 rfl ?_
        refine x_iconst X' 0 dX12_isBanned_35 rfl 36 rfl ?_
        refine x_ial2 X' (14 + np + (Int32.toNatClampNeg cu)) (Nat.lt_succ_of_lt hk_h_1) (rd mem (14 + np + (Int32.toNatClampNeg cu)) 0) (fun f => (cfI_lt hk_h_1 f).trans (kw_b (vp_lt h_1) f)) (t0 := 0) rfl (by unfold vp_in; decide +kernel) (rd_mr2 _ _ _ _ _ (Nat.ne_of_lt hk_h_1)) dX12_isBanned_36 37 rfl ?_
        refine x_iload_n X' 1 dX12_isBanned_37 rfl rfl 38 rfl ?_
        refine x_icmp_eq X' hF 44 41 dX12_isBanned_38 (by decide) rfl (fun hF => ?_) (fun hF => ?_)
        · refine x_aload X' 0 dX12_isBanned_44 rfl 46 rfl ?_
          refine x_iconst X' 1 dX12_isBanned_46 rfl 47 rfl ?_
          refine x_ial2 X' (14 + np + (Int32.toNatClampNeg cu)) (Nat.lt_succ_of_lt hk_h_1) (rd mem (14 + np + (Int32.toNatClampNeg cu)) 1) (fun f => (cfI_lt hk_h_1 f).trans (kw_b (vp_lt h_1) f)) (t0 := 0) rfl (by unfold vp_in; decide +kernel) (rd_mr2 _ _ _ _ _ (Nat.ne_of_lt hk_h_1)) dX12_isBanned_47 48 rfl ?_
          refine x_if_ne X' hF 65 51 dX12_isBanned_48 (by decide) rfl (fun hF => ?_) (fun hF => ?_)
          · refine x_iload X' 4 dX12_isBanned_51 rfl 53 rfl ?_
            refine x_if_lt X' hF 65 56 dX12_isBanned_53 (by decide) rfl (fun hF => ?_) (fun hF => ?_)
            · refine x_aload X' 0 dX12_isBanned_65 rfl 67 rfl ?_
              refine x_iconst X' 1 dX12_isBanned_67 rfl 68 rfl ?_
              refine x_ial2 X' (14 + np + (Int32.toNatClampNeg cu)) (Nat.lt_succ_of_lt hk_h_1) (rd mem (14 + np + (Int32.toNatClampNeg cu)) 1) (fun f => (cfI_lt hk_h_1 f).trans (kw_b (vp_lt h_1) f)) (t0 := 0) rfl (by unfold vp_in; decide +kernel) (rd_mr2 _ _ _ _ _ (Nat.ne_of_lt hk_h_1)) dX12_isBanned_68 69 rfl ?_
              refine x_iconst X' 1 dX12_isBanned_69 rfl 70 rfl ?_
              refine x_icmp_ne X' hF 82 73 dX12_isBanned_70 (by decide) rfl (fun hF => ?_) (fun hF => ?_)
              · refine x_iload X' 6 dX12_isBanned_73 rfl 75 rfl ?_
                refine x_iload X' 4 dX12_isBanned_75 rfl 77 rfl ?_
                refine x_icmp_ne X' hF 82 80 dX12_isBanned_77 (by decide) rfl (fun hF => ?_) (fun hF => ?_)
                · refine x_iconst X' 1 dX12_isBanned_80 rfl 81 rfl ?_
                  refine x_back hq ?_
                  exact x_iret X hQ (o_inj hF) rfl rfl (Nat.le_of_ble_eq_true rfl) (Nat.le_of_ble_eq_true rfl) dX12_isBanned_81
                · refine x_aload X' 0 dX12_isBanned_82 rfl 84 rfl ?_
                  refine x_iconst X' 1 dX12_isBanned_84 rfl 85 rfl ?_
                  refine x_ial2 X' (14 + np + (Int32.toNatClampNeg cu)) (Nat.lt_succ_of_lt hk_h_1) (rd mem (14 + np + (Int32.toNatClampNeg cu)) 1) (fun f => (cfI_lt hk_h_1 f).trans (kw_b (vp_lt h_1) f)) (t0 := 0) rfl (by unfold vp_in; decide +kernel) (rd_mr2 _ _ _ _ _ (Nat.ne_of_lt hk_h_1)) dX12_isBanned_85 86 rfl ?_
                  refine x_iconst X' 2 dX12_isBanned_86 rfl 87 rfl ?_
                  refine x_icmp_ne X' hF 115 90 dX12_isBanned_87 (by decide) rfl (fun hF => ?_) (fun hF => ?_)
                  · refine x_iload X' 6 dX12_isBanned_90 rfl 92 rfl ?_
                    refine x_aload X' 0 dX12_isBanned_92 rfl 94 rfl ?_
                    refine x_iconst X' 2 dX12_isBanned_94 rfl 95 rfl ?_
                    refine x_ial2 X' (14 + np + (Int32.toNatClampNeg cu)) (Nat.lt_succ_of_lt hk_h_1) (rd mem (14 + np + (Int32.toNatClampNeg cu)) 2) (fun f => (cfI_lt hk_h_1 f).trans (kw_b (vp_lt h_1) f)) (t0 := 0) rfl (by unfold vp_in; decide +kernel) (rd_mr2 _ _ _ _ _ (Nat.ne_of_lt hk_h_1)) dX12_isBanned_95 96 rfl ?_
                    refine x_icmp_ne X' hF 115 99 dX12_isBanned_96 (by decide) rfl (fun hF => ?_) (fun hF => ?_)
                    · refine x_iload X' 5 dX12_isBanned_99 rfl 101 rfl ?_
                      refine x_aload X' 0 dX12_isBanned_101 rfl 103 rfl ?_
                      refine x_iconst X' 3 dX12_isBanned_103 rfl 104 rfl ?_
                      refine x_ial2 X' (14 + np + (Int32.toNatClampNeg cu)) (Nat.lt_succ_of_lt hk_h_1) (rd mem (14 + np + (Int32.toNatClampNeg cu)) 3) (fun f => (cfI_lt hk_h_1 f).trans (kw_b (vp_lt h_1) f)) (t0 := 0) rfl (by unfold vp_in; decide +kernel) (rd_mr2 _ _ _ _ _ (Nat.ne_of_lt hk_h_1)) dX12_isBanned_104 105 rfl ?_
                      refine x_gz hF (fun h_2 hF => ?_)
                      refine x_irem X' h_2 dX12_isBanned_105 106 rfl ?_
                      refine x_aload X' 0 dX12_isBanned_106 rfl 108 rfl ?_
                      refine x_iconst X' 4 dX12_isBanned_108 rfl 109 rfl ?_
                      refine x_ial2 X' (14 + np + (Int32.toNatClampNeg cu)) (Nat.lt_succ_of_lt hk_h_1) (rd mem (14 + np + (Int32.toNatClampNeg cu)) 4) (fun f => (cfI_lt hk_h_1 f).trans (kw_b (vp_lt h_1) f)) (t0 := 0) rfl (by unfold vp_in; decide +kernel) (rd_mr2 _ _ _ _ _ (Nat.ne_of_lt hk_h_1)) dX12_isBanned_109 110 rfl ?_
                      refine x_icmp_ne X' hF 115 113 dX12_isBanned_110 (by decide) rfl (fun hF => ?_) (fun hF => ?_)
                      · refine x_iconst X' 1 dX12_isBanned_113 rfl 114 rfl ?_
                        refine x_back hq ?_
                        exact x_iret X hQ (o_inj hF) rfl rfl (Nat.le_of_ble_eq_true rfl) (Nat.le_of_ble_eq_true rfl) dX12_isBanned_114
                      · refine x_aload X' 0 dX12_isBanned_115 rfl 117 rfl ?_
                        refine x_iconst X' 1 dX12_isBanned_117 rfl 118 rfl ?_
                        refine x_ial2 X' (14 + np + (Int32.toNatClampNeg cu)) (Nat.lt_succ_of_lt hk_h_1) (rd mem (14 + np + (Int32.toNatClampNeg cu)) 1) (fun f => (cfI_lt hk_h_1 f).trans (kw_b (vp_lt h_1) f)) (t0 := 0) rfl (by unfold vp_in; decide +kernel) (rd_mr2 _ _ _ _ _ (Nat.ne_of_lt hk_h_1)) dX12_isBanned_118 119 rfl ?_
                        refine x_iconst X' 3 dX12_isBanned_119 rfl 120 rfl ?_
                        refine x_icmp_ne X' hF 167 123 dX12_isBanned_120 (by decide) rfl (fun hF => ?_) (fun hF => ?_)
                        · refine x_iload X' 6 dX12_isBanned_123 rfl 125 rfl ?_
                          refine x_aload X' 0 dX12_isBanned_125 rfl 127 rfl ?_
                          refine x_iconst X' 2 dX12_isBanned_127 rfl 128 rfl ?_
                          refine x_ial2 X' (14 + np + (Int32.toNatClampNeg cu)) (Nat.lt_succ_of_lt hk_h_1) (rd mem (14 + np + (Int32.toNatClampNeg cu)) 2) (fun f => (cfI_lt hk_h_1 f).trans (kw_b (vp_lt h_1) f)) (t0 := 0) rfl (by unfold vp_in; decide +kernel) (rd_mr2 _ _ _ _ _ (Nat.ne_of_lt hk_h_1)) dX12_isBanned_128 129 rfl ?_
                          refine x_icmp_ne X' hF 167 132 dX12_isBanned_129 (by decide) rfl (fun hF => ?_) (fun hF => ?_)
                          · refine x_iload_n X' 2 dX12_isBanned_132 rfl rfl 133 rfl ?_
                            refine x_aload X' 0 dX12_isBanned_133 rfl 135 rfl ?_
                            refine x_iconst X' 3 dX12_isBanned_135 rfl 136 rfl ?_
                            refine x_ial2 X' (14 + np + (Int32.toNatClampNeg cu)) (Nat.lt_succ_of_lt hk_h_1) (rd mem (14 + np + (Int32.toNatClampNeg cu)) 3) (fun f => (cfI_lt hk_h_1 f).trans (kw_b (vp_lt h_1) f)) (t0 := 0) rfl (by unfold vp_in; decide +kernel) (rd_mr2 _ _ _ _ _ (Nat.ne_of_lt hk_h_1)) dX12_isBanned_136 137 rfl ?_
                            refine x_isub X' dX12_isBanned_137 138 rfl ?_
                            refine x_iload_n X' 2 dX12_isBanned_138 rfl rfl 139 rfl ?_
                            refine x_aload X' 0 dX12_isBanned_139 rfl 141 rfl ?_
                            refine x_iconst X' 5 dX12_isBanned_141 rfl 142 rfl ?_
                            refine x_ial2 X' (14 + np + (Int32.toNatClampNeg cu)) (Nat.lt_succ_of_lt hk_h_1) (rd mem (14 + np + (Int32.toNatClampNeg cu)) 5) (fun f => (cfI_lt hk_h_1 f).trans (kw_b (vp_lt h_1) f)) (t0 := 0) rfl (by unfold vp_in; decide +kernel) (rd_mr2 _ _ _ _ _ (Nat.ne_of_lt hk_h_1)) dX12_isBanned_142 143 rfl ?_
                            refine x_isub X' dX12_isBanned_143 144 rfl ?_
                            refine x_imul X' dX12_isBanned_144 145 rfl ?_
                            refine x_if_gt X' hF 167 148 dX12_isBanned_145 (by decide) rfl (fun hF => ?_) (fun hF => ?_)
                            · refine x_goto X' 11 dX12_isBanned_167 (by decide) ?_
                              refine x_keep [1, 2, 3, 4, 5, 6, 7] rfl ?_
                              exact ih cu x1 x2 x3 x4 x5 x6 (cu + 1) hF
                            · refine x_iload_n X' 3 dX12_isBanned_148 rfl rfl 149 rfl ?_
                              refine x_aload X' 0 dX12_isBanned_149 rfl 151 rfl ?_
                              refine x_iconst X' 4 dX12_isBanned_151 rfl 152 rfl ?_
                              refine x_ial2 X' (14 + np + (Int32.toNatClampNeg cu)) (Nat.lt_succ_of_lt hk_h_1) (rd mem (14 + np + (Int32.toNatClampNeg cu)) 4) (fun f => (cfI_lt hk_h_1 f).trans (kw_b (vp_lt h_1) f)) (t0 := 0) rfl (by unfold vp_in; decide +kernel) (rd_mr2 _ _ _ _ _ (Nat.ne_of_lt hk_h_1)) dX12_isBanned_152 153 rfl ?_
                              refine x_isub X' dX12_isBanned_153 154 rfl ?_
                              refine x_iload_n X' 3 dX12_isBanned_154 rfl rfl 155 rfl ?_
                              refine x_aload X' 0 dX12_isBanned_155 rfl 157 rfl ?_
                              refine x_bipush X' 6 dX12_isBanned_157 rfl 159 rfl ?_
                              refine x_ial2 X' (14 + np + (Int32.toNatClampNeg cu)) (Nat.lt_succ_of_lt hk_h_1) (rd mem (14 + np + (Int32.toNatClampNeg cu)) 6) (fun f => (cfI_lt hk_h_1 f).trans (kw_b (vp_lt h_1) f)) (t0 := 0) rfl (by unfold vp_in; decide +kernel) (rd_mr2 _ _ _ _ _ (Nat.ne_of_lt hk_h_1)) dX12_isBanned_159 160 rfl ?_
                              refine x_isub X' dX12_isBanned_160 161 rfl ?_
                              refine x_imul X' dX12_isBanned_161 162 rfl ?_
                              refine x_if_gt X' hF 167 165 dX12_isBanned_162 (by decide) rfl (fun hF => ?_) (fun hF => ?_)
                              · refine x_goto X' 11 dX12_isBanned_167 (by decide) ?_
                                refine x_keep [1, 2, 3, 4, 5, 6, 7] rfl ?_
                                exact ih cu x1 x2 x3 x4 x5 x6 (cu + 1) hF
                              · refine x_iconst X' 1 dX12_isBanned_165 rfl 166 rfl ?_
                                refine x_back hq ?_
                                exact x_iret X hQ (o_inj hF) rfl rfl (Nat.le_of_ble_eq_true rfl) (Nat.le_of_ble_eq_true rfl) dX12_isBanned_166
                          · refine x_goto X' 11 dX12_isBanned_167 (by decide) ?_
                            refine x_keep [1, 2, 3, 4, 5, 6, 7] rfl ?_
                            exact ih cu x1 x2 x3 x4 x5 x6 (cu + 1) hF
                        · refine x_goto X' 11 dX12_isBanned_167 (by decide) ?_
                          refine x_keep [1, 2, 3, 4, 5, 6, 7] rfl ?_
                          exact ih cu x1 x2 x3 x4 x5 x6 (cu + 1) hF
                    · refine x_aload X' 0 dX12_isBanned_115 rfl 117 rfl ?_
                      refine x_iconst X' 1 dX12_isBanned_117 rfl 118 rfl ?_
                      refine x_ial2 X' (14 + np + (Int32.toNatClampNeg cu)) (Nat.lt_succ_of_lt hk_h_1) (rd mem (14 + np + (Int32.toNatClampNeg cu)) 1) (fun f => (cfI_lt hk_h_1 f).trans (kw_b (vp_lt h_1) f)) (t0 := 0) rfl (by unfold vp_in; decide +kernel) (rd_mr2 _ _ _ _ _ (Nat.ne_of_lt hk_h_1)) dX12_isBanned_118 119 rfl ?_
                      refine x_iconst X' 3 dX12_isBanned_119 rfl 120 rfl ?_
                      refine x_icmp_ne X' hF 167 123 dX12_isBanned_120 (by decide) rfl (fun hF => ?_) (fun hF => ?_)
                      · refine x_iload X' 6 dX12_isBanned_123 rfl 125 rfl ?_
                        refine x_aload X' 0 dX12_isBanned_125 rfl 127 rfl ?_
                        refine x_iconst X' 2 dX12_isBanned_127 rfl 128 rfl ?_
                        refine x_ial2 X' (14 + np + (Int32.toNatClampNeg cu)) (Nat.lt_succ_of_lt hk_h_1) (rd mem (14 + np + (Int32.toNatClampNeg cu)) 2) (fun f => (cfI_lt hk_h_1 f).trans (kw_b (vp_lt h_1) f)) (t0 := 0) rfl (by unfold vp_in; decide +kernel) (rd_mr2 _ _ _ _ _ (Nat.ne_of_lt hk_h_1)) dX12_isBanned_128 129 rfl ?_
                        refine x_icmp_ne X' hF 167 132 dX12_isBanned_129 (by decide) rfl (fun hF => ?_) (fun hF => ?_)
                        · refine x_iload_n X' 2 dX12_isBanned_132 rfl rfl 133 rfl ?_
                          refine x_aload X' 0 dX12_isBanned_133 rfl 135 rfl ?_
                          refine x_iconst X' 3 dX12_isBanned_135 rfl 136 rfl ?_
                          refine x_ial2 X' (14 + np + (Int32.toNatClampNeg cu)) (Nat.lt_succ_of_lt hk_h_1) (rd mem (14 + np + (Int32.toNatClampNeg cu)) 3) (fun f => (cfI_lt hk_h_1 f).trans (kw_b (vp_lt h_1) f)) (t0 := 0) rfl (by unfold vp_in; decide +kernel) (rd_mr2 _ _ _ _ _ (Nat.ne_of_lt hk_h_1)) dX12_isBanned_136 137 rfl ?_
                          refine x_isub X' dX12_isBanned_137 138 rfl ?_
                          refine x_iload_n X' 2 dX12_isBanned_138 rfl rfl 139 rfl ?_
                          refine x_aload X' 0 dX12_isBanned_139 rfl 141 rfl ?_
                          refine x_iconst X' 5 dX12_isBanned_141 rfl 142 rfl ?_
                          refine x_ial2 X' (14 + np + (Int32.toNatClampNeg cu)) (Nat.lt_succ_of_lt hk_h_1) (rd mem (14 + np + (Int32.toNatClampNeg cu)) 5) (fun f => (cfI_lt hk_h_1 f).trans (kw_b (vp_lt h_1) f)) (t0 := 0) rfl (by unfold vp_in; decide +kernel) (rd_mr2 _ _ _ _ _ (Nat.ne_of_lt hk_h_1)) dX12_isBanned_142 143 rfl ?_
                          refine x_isub X' dX12_isBanned_143 144 rfl ?_
                          refine x_imul X' dX12_isBanned_144 145 rfl ?_
                          refine x_if_gt X' hF 167 148 dX12_isBanned_145 (by decide) rfl (fun hF => ?_) (fun hF => ?_)
                          · refine x_goto X' 11 dX12_isBanned_167 (by decide) ?_
                            refine x_keep [1, 2, 3, 4, 5, 6, 7] rfl ?_
                            exact ih cu x1 x2 x3 x4 x5 x6 (cu + 1) hF
                          · refine x_iload_n X' 3 dX12_isBanned_148 rfl rfl 149 rfl ?_
                            refine x_aload X' 0 dX12_isBanned_149 rfl 151 rfl ?_
                            refine x_iconst X' 4 dX12_isBanned_151 rfl 152 rfl ?_
                            refine x_ial2 X' (14 + np + (Int32.toNatClampNeg cu)) (Nat.lt_succ_of_lt hk_h_1) (rd mem (14 + np + (Int32.toNatClampNeg cu)) 4) (fun f => (cfI_lt hk_h_1 f).trans (kw_b (vp_lt h_1) f)) (t0 := 0) rfl (by unfold vp_in; decide +kernel) (rd_mr2 _ _ _ _ _ (Nat.ne_of_lt hk_h_1)) dX12_isBanned_152 153 rfl ?_
                            refine x_isub X' dX12_isBanned_153 154 rfl ?_
                            refine x_iload_n X' 3 dX12_isBanned_154 rfl rfl 155 rfl ?_
                            refine x_aload X' 0 dX12_isBanned_155 rfl 157 rfl ?_
                            refine x_bipush X' 6 dX12_isBanned_157 rfl 159 rfl ?_
                            refine x_ial2 X' (14 + np + (Int32.toNatClampNeg cu)) (Nat.lt_succ_of_lt hk_h_1) (rd mem (14 + np + (Int32.toNatClampNeg cu)) 6) (fun f => (cfI_lt hk_h_1 f).trans (kw_b (vp_lt h_1) f)) (t0 := 0) rfl (by unfold vp_in; decide +kernel) (rd_mr2 _ _ _ _ _ (Nat.ne_of_lt hk_h_1)) dX12_isBanned_159 160 rfl ?_
                            refine x_isub X' dX12_isBanned_160 161 rfl ?_
                            refine x_imul X' dX12_isBanned_161 162 rfl ?_
                            refine x_if_gt X' hF 167 165 dX12_isBanned_162 (by decide) rfl (fun hF => ?_) (fun hF => ?_)
                            · refine x_goto X' 11 dX12_isBanned_167 (by decide) ?_
                              refine x_keep [1, 2, 3, 4, 5, 6, 7] rfl ?_
                              exact ih cu x1 x2 x3 x4 x5 x6 (cu + 1) hF
                            · refine x_iconst X' 1 dX12_isBanned_165 rfl 166 rfl ?_
                              refine x_back hq ?_
                              exact x_iret X hQ (o_inj hF) rfl rfl (Nat.le_of_ble_eq_true rfl) (Nat.le_of_ble_eq_true rfl) dX12_isBanned_166
                        · refine x_goto X' 11 dX12_isBanned_167 (by decide) ?_
                          refine x_keep [1, 2, 3, 4, 5, 6, 7] rfl ?_
                          exact ih cu x1 x2 x3 x4 x5 x6 (cu + 1) hF
                      · refine x_goto X' 11 dX12_isBanned_167 (by decide) ?_
                        refine x_keep [1, 2, 3, 4, 5, 6, 7] rfl ?_
                        exact ih cu x1 x2 x3 x4 x5 x6 (cu + 1) hF
                  · refine x_aload X' 0 dX12_isBanned_115 rfl 117 rfl ?_
                    refine x_iconst X' 1 dX12_isBanned_117 rfl 118 rfl ?_
                    refine x_ial2 X' (14 + np + (Int32.toNatClampNeg cu)) (Nat.lt_succ_of_lt hk_h_1) (rd mem (14 + np + (Int32.toNatClampNeg cu)) 1) (fun f => (cfI_lt hk_h_1 f).trans (kw_b (vp_lt h_1) f)) (t0 := 0) rfl (by unfold vp_in; decide +kernel) (rd_mr2 _ _ _ _ _ (Nat.ne_of_lt hk_h_1)) dX12_isBanned_118 119 rfl ?_
                    refine x_iconst X' 3 dX12_isBanned_119 rfl 120 rfl ?_
                    refine x_icmp_ne X' hF 167 123 dX12_isBanned_120 (by decide) rfl (fun hF => ?_) (fun hF => ?_)
                    · refine x_iload X' 6 dX12_isBanned_123 rfl 125 rfl ?_
                      refine x_aload X' 0 dX12_isBanned_125 rfl 127 rfl ?_
                      refine x_iconst X' 2 dX12_isBanned_127 rfl 128 rfl ?_
                      refine x_ial2 X' (14 + np + (Int32.toNatClampNeg cu)) (Nat.lt_succ_of_lt hk_h_1) (rd mem (14 + np + (Int32.toNatClampNeg cu)) 2) (fun f => (cfI_lt hk_h_1 f).trans (kw_b (vp_lt h_1) f)) (t0 := 0) rfl (by unfold vp_in; decide +kernel) (rd_mr2 _ _ _ _ _ (Nat.ne_of_lt hk_h_1)) dX12_isBanned_128 129 rfl ?_
                      refine x_icmp_ne X' hF 167 132 dX12_isBanned_129 (by decide) rfl (fun hF => ?_) (fun hF => ?_)
                      · refine x_iload_n X' 2 dX12_isBanned_132 rfl rfl 133 rfl ?_
                        refine x_aload X' 0 dX12_isBanned_133 rfl 135 rfl ?_
                        refine x_iconst X' 3 dX12_isBanned_135 rfl 136 rfl ?_
                        refine x_ial2 X' (14 + np + (Int32.toNatClampNeg cu)) (Nat.lt_succ_of_lt hk_h_1) (rd mem (14 + np + (Int32.toNatClampNeg cu)) 3) (fun f => (cfI_lt hk_h_1 f).trans (kw_b (vp_lt h_1) f)) (t0 := 0) rfl (by unfold vp_in; decide +kernel) (rd_mr2 _ _ _ _ _ (Nat.ne_of_lt hk_h_1)) dX12_isBanned_136 137 rfl ?_
                        refine x_isub X' dX12_isBanned_137 138 rfl ?_
                        refine x_iload_n X' 2 dX12_isBanned_138 rfl rfl 139 rfl ?_
                        refine x_aload X' 0 dX12_isBanned_139 rfl 141 rfl ?_
                        refine x_iconst X' 5 dX12_isBanned_141 rfl 142 rfl ?_
                        refine x_ial2 X' (14 + np + (Int32.toNatClampNeg cu)) (Nat.lt_succ_of_lt hk_h_1) (rd mem (14 + np + (Int32.toNatClampNeg cu)) 5) (fun f => (cfI_lt hk_h_1 f).trans (kw_b (vp_lt h_1) f)) (t0 := 0) rfl (by unfold vp_in; decide +kernel) (rd_mr2 _ _ _ _ _ (Nat.ne_of_lt hk_h_1)) dX12_isBanned_142 143 rfl ?_
                        refine x_isub X' dX12_isBanned_143 144 rfl ?_
                        refine x_imul X' dX12_isBanned_144 145 rfl ?_
                        refine x_if_gt X' hF 167 148 dX12_isBanned_145 (by decide) rfl (fun hF => ?_) (fun hF => ?_)
                        · refine x_goto X' 11 dX12_isBanned_167 (by decide) ?_
                          refine x_keep [1, 2, 3, 4, 5, 6, 7] rfl ?_
                          exact ih cu x1 x2 x3 x4 x5 x6 (cu + 1) hF
                        · refine x_iload_n X' 3 dX12_isBanned_148 rfl rfl 149 rfl ?_
                          refine x_aload X' 0 dX12_isBanned_149 rfl 151 rfl ?_
                          refine x_iconst X' 4 dX12_isBanned_151 rfl 152 rfl ?_
                          refine x_ial2 X' (14 + np + (Int32.toNatClampNeg cu)) (Nat.lt_succ_of_lt hk_h_1) (rd mem (14 + np + (Int32.toNatClampNeg cu)) 4) (fun f => (cfI_lt hk_h_1 f).trans (kw_b (vp_lt h_1) f)) (t0 := 0) rfl (by unfold vp_in; decide +kernel) (rd_mr2 _ _ _ _ _ (Nat.ne_of_lt hk_h_1)) dX12_isBanned_152 153 rfl ?_
                          refine x_isub X' dX12_isBanned_153 154 rfl ?_
                          refine x_iload_n X' 3 dX12_isBanned_154 rfl rfl 155 rfl ?_
                          refine x_aload X' 0 dX12_isBanned_155 rfl 157 rfl ?_
                          refine x_bipush X' 6 dX12_isBanned_157 rfl 159 rfl ?_
                          refine x_ial2 X' (14 + np + (Int32.toNatClampNeg cu)) (Nat.lt_succ_of_lt hk_h_1) (rd mem (14 + np + (Int32.toNatClampNeg cu)) 6) (fun f => (cfI_lt hk_h_1 f).trans (kw_b (vp_lt h_1) f)) (t0 := 0) rfl (by unfold vp_in; decide +kernel) (rd_mr2 _ _ _ _ _ (Nat.ne_of_lt hk_h_1)) dX12_isBanned_159 160 rfl ?_
                          refine x_isub X' dX12_isBanned_160 161 rfl ?_
                          refine x_imul X' dX12_isBanned_161 162 rfl ?_
                          refine x_if_gt X' hF 167 165 dX12_isBanned_162 (by decide) rfl (fun hF => ?_) (fun hF => ?_)
                          · refine x_goto X' 11 dX12_isBanned_167 (by decide) ?_
                            refine x_keep [1, 2, 3, 4, 5, 6, 7] rfl ?_
                            exact ih cu x1 x2 x3 x4 x5 x6 (cu + 1) hF
                          · refine x_iconst X' 1 dX12_isBanned_165 rfl 166 rfl ?_
                            refine x_back hq ?_
                            exact x_iret X hQ (o_inj hF) rfl rfl (Nat.le_of_ble_eq_true rfl) (Nat.le_of_ble_eq_true rfl) dX12_isBanned_166
                      · refine x_goto X' 11 dX12_isBanned_167 (by decide) ?_
                        refine x_keep [1, 2, 3, 4, 5, 6, 7] rfl ?_
                        exact ih cu x1 x2 x3 x4 x5 x6 (cu + 1) hF
                    · refine x_goto X' 11 dX12_isBanned_167 (by decide) ?_
                      refine x_keep [1, 2, 3, 4, 5, 6, 7] rfl ?_
                      exact ih cu x1 x2 x3 x4 x5 x6 (cu + 1) hF
              · refine x_aload X' 0 dX12_isBanned_82 rfl 84 rfl ?_
                refine x_iconst X' 1 dX12_isBanned_84 rfl 85 rfl ?_
                refine x_ial2 X' (14 + np + (Int32.toNatClampNeg cu)) (Nat.lt_succ_of_lt hk_h_1) (rd mem (14 + np + (Int32.toNatClampNeg cu)) 1) (fun f => (cfI_lt hk_h_1 f).trans (kw_b (vp_lt h_1) f)) (t0 := 0) rfl (by unfold vp_in; decide +kernel) (rd_mr2 _ _ _ _ _ (Nat.ne_of_lt hk_h_1)) dX12_isBanned_85 86 rfl ?_
                refine x_iconst X' 2 dX12_isBanned_86 rfl 87 rfl ?_
                refine x_icmp_ne X' hF 115 90 dX12_isBanned_87 (by decide) rfl (fun hF => ?_) (fun hF => ?_)
                · refine x_iload X' 6 dX12_isBanned_90 rfl 92 rfl ?_
                  refine x_aload X' 0 dX12_isBanned_92 rfl 94 rfl ?_
                  refine x_iconst X' 2 dX12_isBanned_94 rfl 95 rfl ?_
                  refine x_ial2 X' (14 + np + (Int32.toNatClampNeg cu)) (Nat.lt_succ_of_lt hk_h_1) (rd mem (14 + np + (Int32.toNatClampNeg cu)) 2) (fun f => (cfI_lt hk_h_1 f).trans (kw_b (vp_lt h_1) f)) (t0 := 0) rfl (by unfold vp_in; decide +kernel) (rd_mr2 _ _ _ _ _ (Nat.ne_of_lt hk_h_1)) dX12_isBanned_95 96 rfl ?_
                  refine x_icmp_ne X' hF 115 99 dX12_isBanned_96 (by decide) rfl (fun hF => ?_) (fun hF => ?_)
                  · refine x_iload X' 5 dX12_isBanned_99 rfl 101 rfl ?_
                    refine x_aload X' 0 dX12_isBanned_101 rfl 103 rfl ?_
                    refine x_iconst X' 3 dX12_isBanned_103 rfl 104 rfl ?_
                    refine x_ial2 X' (14 + np + (Int32.toNatClampNeg cu)) (Nat.lt_succ_of_lt hk_h_1) (rd mem (14 + np + (Int32.toNatClampNeg cu)) 3) (fun f => (cfI_lt hk_h_1 f).trans (kw_b (vp_lt h_1) f)) (t0 := 0) rfl (by unfold vp_in; decide +kernel) (rd_mr2 _ _ _ _ _ (Nat.ne_of_lt hk_h_1)) dX12_isBanned_104 105 rfl ?_
                    refine x_gz hF (fun h_3 hF => ?_)
                    refine x_irem X' h_3 dX12_isBanned_105 106 rfl ?_
                    refine x_aload X' 0 dX12_isBanned_106 rfl 108 rfl ?_
                    refine x_iconst X' 4 dX12_isBanned_108 rfl 109 rfl ?_
                    refine x_ial2 X' (14 + np + (Int32.toNatClampNeg cu)) (Nat.lt_succ_of_lt hk_h_1) (rd mem (14 + np + (Int32.toNatClampNeg cu)) 4) (fun f => (cfI_lt hk_h_1 f).trans (kw_b (vp_lt h_1) f)) (t0 := 0) rfl (by unfold vp_in; decide +kernel) (rd_mr2 _ _ _ _ _ (Nat.ne_of_lt hk_h_1)) dX12_isBanned_109 110 rfl ?_
                    refine x_icmp_ne X' hF 115 113 dX12_isBanned_110 (by decide) rfl (fun hF => ?_) (fun hF => ?_)
                    · refine x_iconst X' 1 dX12_isBanned_113 rfl 114 rfl ?_
                      refine x_back hq ?_
                      exact x_iret X hQ (o_inj hF) rfl rfl (Nat.le_of_ble_eq_true rfl) (Nat.le_of_ble_eq_true rfl) dX12_isBanned_114
                    · refine x_aload X' 0 dX12_isBanned_115 rfl 117 rfl ?_
                      refine x_iconst X' 1 dX12_isBanned_117 rfl 118 rfl ?_
                      refine x_ial2 X' (14 + np + (Int32.toNatClampNeg cu)) (Nat.lt_succ_of_lt hk_h_1) (rd mem (14 + np + (Int32.toNatClampNeg cu)) 1) (fun f => (cfI_lt hk_h_1 f).trans (kw_b (vp_lt h_1) f)) (t0 := 0) rfl (by unfold vp_in; decide +kernel) (rd_mr2 _ _ _ _ _ (Nat.ne_of_lt hk_h_1)) dX12_isBanned_118 119 rfl ?_
                      refine x_iconst X' 3 dX12_isBanned_119 rfl 120 rfl ?_
                      refine x_icmp_ne X' hF 167 123 dX12_isBanned_120 (by decide) rfl (fun hF => ?_) (fun hF => ?_)
                      · refine x_iload X' 6 dX12_isBanned_123 rfl 125 rfl ?_
                        refine x_aload X' 0 dX12_isBanned_125 rfl 127 rfl ?_
                        refine x_iconst X' 2 dX12_isBanned_127 rfl 128 rfl ?_
                        refine x_ial2 X' (14 + np + (Int32.toNatClampNeg cu)) (Nat.lt_succ_of_lt hk_h_1) (rd mem (14 + np + (Int32.toNatClampNeg cu)) 2) (fun f => (cfI_lt hk_h_1 f).trans (kw_b (vp_lt h_1) f)) (t0 := 0) rfl (by unfold vp_in; decide +kernel) (rd_mr2 _ _ _ _ _ (Nat.ne_of_lt hk_h_1)) dX12_isBanned_128 129 rfl ?_
                        refine x_icmp_ne X' hF 167 132 dX12_isBanned_129 (by decide) rfl (fun hF => ?_) (fun hF => ?_)
                        · refine x_iload_n X' 2 dX12_isBanned_132 rfl rfl 133 rfl ?_
                          refine x_aload X' 0 dX12_isBanned_133 rfl 135 rfl ?_
                          refine x_iconst X' 3 dX12_isBanned_135 rfl 136 rfl ?_
                          refine x_ial2 X' (14 + np + (Int32.toNatClampNeg cu)) (Nat.lt_succ_of_lt hk_h_1) (rd mem (14 + np + (Int32.toNatClampNeg cu)) 3) (fun f => (cfI_lt hk_h_1 f).trans (kw_b (vp_lt h_1) f)) (t0 := 0) rfl (by unfold vp_in; decide +kernel) (rd_mr2 _ _ _ _ _ (Nat.ne_of_lt hk_h_1)) dX12_isBanned_136 137 rfl ?_
                          refine x_isub X' dX12_isBanned_137 138 rfl ?_
                          refine x_iload_n X' 2 dX12_isBanned_138 rfl rfl 139 rfl ?_
                          refine x_aload X' 0 dX12_isBanned_139 rfl 141 rfl ?_
                          refine x_iconst X' 5 dX12_isBanned_141 rfl 142 rfl ?_
                          refine x_ial2 X' (14 + np + (Int32.toNatClampNeg cu)) (Nat.lt_succ_of_lt hk_h_1) (rd mem (14 + np + (Int32.toNatClampNeg cu)) 5) (fun f => (cfI_lt hk_h_1 f).trans (kw_b (vp_lt h_1) f)) (t0 := 0) rfl (by unfold vp_in; decide +kernel) (rd_mr2 _ _ _ _ _ (Nat.ne_of_lt hk_h_1)) dX12_isBanned_142 143 rfl ?_
                          refine x_isub X' dX12_isBanned_143 144 rfl ?_
                          refine x_imul X' dX12_isBanned_144 145 rfl ?_
                          refine x_if_gt X' hF 167 148 dX12_isBanned_145 (by decide) rfl (fun hF => ?_) (fun hF => ?_)
                          · refine x_goto X' 11 dX12_isBanned_167 (by decide) ?_
                            refine x_keep [1, 2, 3, 4, 5, 6, 7] rfl ?_
                            exact ih cu x1 x2 x3 x4 x5 x6 (cu + 1) hF
                          · refine x_iload_n X' 3 dX12_isBanned_148 rfl rfl 149 rfl ?_
                            refine x_aload X' 0 dX12_isBanned_149 rfl 151 rfl ?_
                            refine x_iconst X' 4 dX12_isBanned_151 rfl 152 rfl ?_
                            refine x_ial2 X' (14 + np + (Int32.toNatClampNeg cu)) (Nat.lt_succ_of_lt hk_h_1) (rd mem (14 + np + (Int32.toNatClampNeg cu)) 4) (fun f => (cfI_lt hk_h_1 f).trans (kw_b (vp_lt h_1) f)) (t0 := 0) rfl (by unfold vp_in; decide +kernel) (rd_mr2 _ _ _ _ _ (Nat.ne_of_lt hk_h_1)) dX12_isBanned_152 153 rfl ?_
                            refine x_isub X' dX12_isBanned_153 154 rfl ?_
                            refine x_iload_n X' 3 dX12_isBanned_154 rfl rfl 155 rfl ?_
                            refine x_aload X' 0 dX12_isBanned_155 rfl 157 rfl ?_
                            refine x_bipush X' 6 dX12_isBanned_157 rfl 159 rfl ?_
                            refine x_ial2 X' (14 + np + (Int32.toNatClampNeg cu)) (Nat.lt_succ_of_lt hk_h_1) (rd mem (14 + np + (Int32.toNatClampNeg cu)) 6) (fun f => (cfI_lt hk_h_1 f).trans (kw_b (vp_lt h_1) f)) (t0 := 0) rfl (by unfold vp_in; decide +kernel) (rd_mr2 _ _ _ _ _ (Nat.ne_of_lt hk_h_1)) dX12_isBanned_159 160 rfl ?_
                            refine x_isub X' dX12_isBanned_160 161 rfl ?_
                            refine x_imul X' dX12_isBanned_161 162 rfl ?_
                            refine x_if_gt X' hF 167 165 dX12_isBanned_162 (by decide) rfl (fun hF => ?_) (fun hF => ?_)
                            · refine x_goto X' 11 dX12_isBanned_167 (by decide) ?_
                              refine x_keep [1, 2, 3, 4, 5, 6, 7] rfl ?_
                              exact ih cu x1 x2 x3 x4 x5 x6 (cu + 1) hF
                            · refine x_iconst X' 1 dX12_isBanned_165 rfl 166 rfl ?_
                              refine x_back hq ?_
                              exact x_iret X hQ (o_inj hF) rfl rfl (Nat.le_of_ble_eq_true rfl) (Nat.le_of_ble_eq_true rfl) dX12_isBanned_166
                        · refine x_goto X' 11 dX12_isBanned_167 (by decide) ?_
                          refine x_keep [1, 2, 3, 4, 5, 6, 7] rfl ?_
                          exact ih cu x1 x2 x3 x4 x5 x6 (cu + 1) hF
                      · refine x_goto X' 11 dX12_isBanned_167 (by decide) ?_
                        refine x_keep [1, 2, 3, 4, 5, 6, 7] rfl ?_
                        exact ih cu x1 x2 x3 x4 x5 x6 (cu + 1) hF
                  · refine x_aload X' 0 dX12_isBanned_115 rfl 117 rfl ?_
                    refine x_iconst X' 1 dX12_isBanned_117 rfl 118 rfl ?_
                    refine x_ial2 X' (14 + np + (Int32.toNatClampNeg cu)) (Nat.lt_succ_of_lt hk_h_1) (rd mem (14 + np + (Int32.toNatClampNeg cu)) 1) (fun f => (cfI_lt hk_h_1 f).trans (kw_b (vp_lt h_1) f)) (t0 := 0) rfl (by unfold vp_in; decide +kernel) (rd_mr2 _ _ _ _ _ (Nat.ne_of_lt hk_h_1)) dX12_isBanned_118 119 rfl ?_
                    refine x_iconst X' 3 dX12_isBanned_119 rfl 120 rfl ?_
                    refine x_icmp_ne X' hF 167 123 dX12_isBanned_120 (by decide) rfl (fun hF => ?_) (fun hF => ?_)
                    · refine x_iload X' 6 dX12_isBanned_123 rfl 125 rfl ?_
                      refine x_aload X' 0 dX12_isBanned_125 rfl 127 rfl ?_
                      refine x_iconst X' 2 dX12_isBanned_127 rfl 128 rfl ?_
                      refine x_ial2 X' (14 + np + (Int32.toNatClampNeg cu)) (Nat.lt_succ_of_lt hk_h_1) (rd mem (14 + np + (Int32.toNatClampNeg cu)) 2) (fun f => (cfI_lt hk_h_1 f).trans (kw_b (vp_lt h_1) f)) (t0 := 0) rfl (by unfold vp_in; decide +kernel) (rd_mr2 _ _ _ _ _ (Nat.ne_of_lt hk_h_1)) dX12_isBanned_128 129 rfl ?_
                      refine x_icmp_ne X' hF 167 132 dX12_isBanned_129 (by decide) rfl (fun hF => ?_) (fun hF => ?_)
                      · refine x_iload_n X' 2 dX12_isBanned_132 rfl rfl 133 rfl ?_
                        refine x_aload X' 0 dX12_isBanned_133 rfl 135 rfl ?_
                        refine x_iconst X' 3 dX12_isBanned_135 rfl 136 rfl ?_
                        refine x_ial2 X' (14 + np + (Int32.toNatClampNeg cu)) (Nat.lt_succ_of_lt hk_h_1) (rd mem (14 + np + (Int32.toNatClampNeg cu)) 3) (fun f => (cfI_lt hk_h_1 f).trans (kw_b (vp_lt h_1) f)) (t0 := 0) rfl (by unfold vp_in; decide +kernel) (rd_mr2 _ _ _ _ _ (Nat.ne_of_lt hk_h_1)) dX12_isBanned_136 137 rfl ?_
                        refine x_isub X' dX12_isBanned_137 138 rfl ?_
                        refine x_iload_n X' 2 dX12_isBanned_138 rfl rfl 139 rfl ?_
                        refine x_aload X' 0 dX12_isBanned_139 rfl 141 rfl ?_
                        refine x_iconst X' 5 dX12_isBanned_141 rfl 142 rfl ?_
                        refine x_ial2 X' (14 + np + (Int32.toNatClampNeg cu)) (Nat.lt_succ_of_lt hk_h_1) (rd mem (14 + np + (Int32.toNatClampNeg cu)) 5) (fun f => (cfI_lt hk_h_1 f).trans (kw_b (vp_lt h_1) f)) (t0 := 0) rfl (by unfold vp_in; decide +kernel) (rd_mr2 _ _ _ _ _ (Nat.ne_of_lt hk_h_1)) dX12_isBanned_142 143 rfl ?_
                        refine x_isub X' dX12_isBanned_143 144 rfl ?_
                        refine x_imul X' dX12_isBanned_144 145 rfl ?_
                        refine x_if_gt X' hF 167 148 dX12_isBanned_145 (by decide) rfl (fun hF => ?_) (fun hF => ?_)
                        · refine x_goto X' 11 dX12_isBanned_167 (by decide) ?_
                          refine x_keep [1, 2, 3, 4, 5, 6, 7] rfl ?_
                          exact ih cu x1 x2 x3 x4 x5 x6 (cu + 1) hF
                        · refine x_iload_n X' 3 dX12_isBanned_148 rfl rfl 149 rfl ?_
                          refine x_aload X' 0 dX12_isBanned_149 rfl 151 rfl ?_
                          refine x_iconst X' 4 dX12_isBanned_151 rfl 152 rfl ?_
                          refine x_ial2 X' (14 + np + (Int32.toNatClampNeg cu)) (Nat.lt_succ_of_lt hk_h_1) (rd mem (14 + np + (Int32.toNatClampNeg cu)) 4) (fun f => (cfI_lt hk_h_1 f).trans (kw_b (vp_lt h_1) f)) (t0 := 0) rfl (by unfold vp_in; decide +kernel) (rd_mr2 _ _ _ _ _ (Nat.ne_of_lt hk_h_1)) dX12_isBanned_152 153 rfl ?_
                          refine x_isub X' dX12_isBanned_153 154 rfl ?_
                          refine x_iload_n X' 3 dX12_isBanned_154 rfl rfl 155 rfl ?_
                          refine x_aload X' 0 dX12_isBanned_155 rfl 157 rfl ?_
                          refine x_bipush X' 6 dX12_isBanned_157 rfl 159 rfl ?_
                          refine x_ial2 X' (14 + np + (Int32.toNatClampNeg cu)) (Nat.lt_succ_of_lt hk_h_1) (rd mem (14 + np + (Int32.toNatClampNeg cu)) 6) (fun f => (cfI_lt hk_h_1 f).trans (kw_b (vp_lt h_1) f)) (t0 := 0) rfl (by unfold vp_in; decide +kernel) (rd_mr2 _ _ _ _ _ (Nat.ne_of_lt hk_h_1)) dX12_isBanned_159 160 rfl ?_
                          refine x_isub X' dX12_isBanned_160 161 rfl ?_
                          refine x_imul X' dX12_isBanned_161 162 rfl ?_
                          refine x_if_gt X' hF 167 165 dX12_isBanned_162 (by decide) rfl (fun hF => ?_) (fun hF => ?_)
                          · refine x_goto X' 11 dX12_isBanned_167 (by decide) ?_
                            refine x_keep [1, 2, 3, 4, 5, 6, 7] rfl ?_
                            exact ih cu x1 x2 x3 x4 x5 x6 (cu + 1) hF
                          · refine x_iconst X' 1 dX12_isBanned_165 rfl 166 rfl ?_
                            refine x_back hq ?_
                            exact x_iret X hQ (o_inj hF) rfl rfl (Nat.le_of_ble_eq_true rfl) (Nat.le_of_ble_eq_true rfl) dX12_isBanned_166
                      · refine x_goto X' 11 dX12_isBanned_167 (by decide) ?_
                        refine x_keep [1, 2, 3, 4, 5, 6, 7] rfl ?_
                        exact ih cu x1 x2 x3 x4 x5 x6 (cu + 1) hF
                    · refine x_goto X' 11 dX12_isBanned_167 (by decide) ?_
                      refine x_keep [1, 2, 3, 4, 5, 6, 7] rfl ?_
                      exact ih cu x1 x2 x3 x4 x5 x6 (cu + 1) hF
                · refine x_aload X' 0 dX12_isBanned_115 rfl 117 rfl ?_
                  refine x_iconst X' 1 dX12_isBanned_117 rfl 118 rfl ?_
                  refine x_ial2 X' (14 + np + (Int32.toNatClampNeg cu)) (Nat.lt_succ_of_lt hk_h_1) (rd mem (14 + np + (Int32.toNatClampNeg cu)) 1) (fun f => (cfI_lt hk_h_1 f).trans (kw_b (vp_lt h_1) f)) (t0 := 0) rfl (by unfold vp_in; decide +kernel) (rd_mr2 _ _ _ _ _ (Nat.ne_of_lt hk_h_1)) dX12_isBanned_118 119 rfl ?_
                  refine x_iconst X' 3 dX12_isBanned_119 rfl 120 rfl ?_
                  refine x_icmp_ne X' hF 167 123 dX12_isBanned_120 (by decide) rfl (fun hF => ?_) (fun hF => ?_)
                  · refine x_iload X' 6 dX12_isBanned_123 rfl 125 rfl ?_
                    refine x_aload X' 0 dX12_isBanned_125 rfl 127 rfl ?_
                    refine x_iconst X' 2 dX12_isBanned_127 rfl 128 rfl ?_
                    refine x_ial2 X' (14 + np + (Int32.toNatClampNeg cu)) (Nat.lt_succ_of_lt hk_h_1) (rd mem (14 + np + (Int32.toNatClampNeg cu)) 2) (fun f => (cfI_lt hk_h_1 f).trans (kw_b (vp_lt h_1) f)) (t0 := 0) rfl (by unfold vp_in; decide +kernel) (rd_mr2 _ _ _ _ _ (Nat.ne_of_lt hk_h_1)) dX12_isBanned_128 129 rfl ?_
                    refine x_icmp_ne X' hF 167 132 dX12_isBanned_129 (by decide) rfl (fun hF => ?_) (fun hF => ?_)
                    · refine x_iload_n X' 2 dX12_isBanned_132 rfl rfl 133 rfl ?_
                      refine x_aload X' 0 dX12_isBanned_133 rfl 135 rfl ?_
                      refine x_iconst X' 3 dX12_isBanned_135 rfl 136 rfl ?_
                      refine x_ial2 X' (14 + np + (Int32.toNatClampNeg cu)) (Nat.lt_succ_of_lt hk_h_1) (rd mem (14 + np + (Int32.toNatClampNeg cu)) 3) (fun f => (cfI_lt hk_h_1 f).trans (kw_b (vp_lt h_1) f)) (t0 := 0) rfl (by unfold vp_in; decide +kernel) (rd_mr2 _ _ _ _ _ (Nat.ne_of_lt hk_h_1)) dX12_isBanned_136 137 rfl ?_
                      refine x_isub X' dX12_isBanned_137 138 rfl ?_
                      refine x_iload_n X' 2 dX12_isBanned_138 rfl rfl 139 rfl ?_
                      refine x_aload X' 0 dX12_isBanned_139 rfl 141 rfl ?_
                      refine x_iconst X' 5 dX12_isBanned_141 rfl 142 rfl ?_
                      refine x_ial2 X' (14 + np + (Int32.toNatClampNeg cu)) (Nat.lt_succ_of_lt hk_h_1) (rd mem (14 + np + (Int32.toNatClampNeg cu)) 5) (fun f => (cfI_lt hk_h_1 f).trans (kw_b (vp_lt h_1) f)) (t0 := 0) rfl (by unfold vp_in; decide +kernel) (rd_mr2 _ _ _ _ _ (Nat.ne_of_lt hk_h_1)) dX12_isBanned_142 143 rfl ?_
                      refine x_isub X' dX12_isBanned_143 144 rfl ?_
                      refine x_imul X' dX12_isBanned_144 145 rfl ?_
                      refine x_if_gt X' hF 167 148 dX12_isBanned_145 (by decide) rfl (fun hF => ?_) (fun hF => ?_)
                      · refine x_goto X' 11 dX12_isBanned_167 (by decide) ?_
                        refine x_keep [1, 2, 3, 4, 5, 6, 7] rfl ?_
                        exact ih cu x1 x2 x3 x4 x5 x6 (cu + 1) hF
                      · refine x_iload_n X' 3 dX12_isBanned_148 rfl rfl 149 rfl ?_
                        refine x_aload X' 0 dX12_isBanned_149 rfl 151 rfl ?_
                        refine x_iconst X' 4 dX12_isBanned_151 rfl 152 rfl ?_
                        refine x_ial2 X' (14 + np + (Int32.toNatClampNeg cu)) (Nat.lt_succ_of_lt hk_h_1) (rd mem (14 + np + (Int32.toNatClampNeg cu)) 4) (fun f => (cfI_lt hk_h_1 f).trans (kw_b (vp_lt h_1) f)) (t0 := 0) rfl (by unfold vp_in; decide +kernel) (rd_mr2 _ _ _ _ _ (Nat.ne_of_lt hk_h_1)) dX12_isBanned_152 153 rfl ?_
                        refine x_isub X' dX12_isBanned_153 154 rfl ?_
                        refine x_iload_n X' 3 dX12_isBanned_154 rfl rfl 155 rfl ?_
                        refine x_aload X' 0 dX12_isBanned_155 rfl 157 rfl ?_
                        refine x_bipush X' 6 dX12_isBanned_157 rfl 159 rfl ?_
                        refine x_ial2 X' (14 + np + (Int32.toNatClampNeg cu)) (Nat.lt_succ_of_lt hk_h_1) (rd mem (14 + np + (Int32.toNatClampNeg cu)) 6) (fun f => (cfI_lt hk_h_1 f).trans (kw_b (vp_lt h_1) f)) (t0 := 0) rfl (by unfold vp_in; decide +kernel) (rd_mr2 _ _ _ _ _ (Nat.ne_of_lt hk_h_1)) dX12_isBanned_159 160 rfl ?_
                        refine x_isub X' dX12_isBanned_160 161 rfl ?_
                        refine x_imul X' dX12_isBanned_161 162 rfl ?_
                        refine x_if_gt X' hF 167 165 dX12_isBanned_162 (by decide) rfl (fun hF => ?_) (fun hF => ?_)
                        · refine x_goto X' 11 dX12_isBanned_167 (by decide) ?_
                          refine x_keep [1, 2, 3, 4, 5, 6, 7] rfl ?_
                          exact ih cu x1 x2 x3 x4 x5 x6 (cu + 1) hF
                        · refine x_iconst X' 1 dX12_isBanned_165 rfl 166 rfl ?_
                          refine x_back hq ?_
                          exact x_iret X hQ (o_inj hF) rfl rfl (Nat.le_of_ble_eq_true rfl) (Nat.le_of_ble_eq_true rfl) dX12_isBanned_166
                    · refine x_goto X' 11 dX12_isBanned_167 (by decide) ?_
                      refine x_keep [1, 2, 3, 4, 5, 6, 7] rfl ?_
                      exact ih cu x1 x2 x3 x4 x5 x6 (cu + 1) hF
                  · refine x_goto X' 11 dX12_isBanned_167 (by decide) ?_
                    refine x_keep [1, 2, 3, 4, 5, 6, 7] rfl ?_
                    exact ih cu x1 x2 x3 x4 x5 x6 (cu + 1) hF
            · refine x_iload X' 6 dX12_isBanned_56 rfl 58 rfl ?_
              refine x_iload X' 4 dX12_isBanned_58 rfl 60 rfl ?_
              refine x_iconst X' 2 dX12_isBanned_60 rfl 61 rfl ?_
              refine x_ixor X' dX12_isBanned_61 62 rfl ?_
              refine x_icmp_eq X' hF 80 65 dX12_isBanned_62 (by decide) rfl (fun hF => ?_) (fun hF => ?_)
              · refine x_iconst X' 1 dX12_isBanned_80 rfl 81 rfl ?_
                refine x_back hq ?_
                exact x_iret X hQ (o_inj hF) rfl rfl (Nat.le_of_ble_eq_true rfl) (Nat.le_of_ble_eq_true rfl) dX12_isBanned_81
              · refine x_aload X' 0 dX12_isBanned_65 rfl 67 rfl ?_
                refine x_iconst X' 1 dX12_isBanned_67 rfl 68 rfl ?_
                refine x_ial2 X' (14 + np + (Int32.toNatClampNeg cu)) (Nat.lt_succ_of_lt hk_h_1) (rd mem (14 + np + (Int32.toNatClampNeg cu)) 1) (fun f => (cfI_lt hk_h_1 f).trans (kw_b (vp_lt h_1) f)) (t0 := 0) rfl (by unfold vp_in; decide +kernel) (rd_mr2 _ _ _ _ _ (Nat.ne_of_lt hk_h_1)) dX12_isBanned_68 69 rfl ?_
                refine x_iconst X' 1 dX12_isBanned_69 rfl 70 rfl ?_
                refine x_icmp_ne X' hF 82 73 dX12_isBanned_70 (by decide) rfl (fun hF => ?_) (fun hF => ?_)
                · refine x_iload X' 6 dX12_isBanned_73 rfl 75 rfl ?_
                  refine x_iload X' 4 dX12_isBanned_75 rfl 77 rfl ?_
                  refine x_icmp_ne X' hF 82 80 dX12_isBanned_77 (by decide) rfl (fun hF => ?_) (fun hF => ?_)
                  · refine x_iconst X' 1 dX12_isBanned_80 rfl 81 rfl ?_
                    refine x_back hq ?_
                    exact x_iret X hQ (o_inj hF) rfl rfl (Nat.le_of_ble_eq_true rfl) (Nat.le_of_ble_eq_true rfl) dX12_isBanned_81
                  · refine x_aload X' 0 dX12_isBanned_82 rfl 84 rfl ?_
                    refine x_iconst X' 1 dX12_isBanned_84 rfl 85 rfl ?_
                    refine x_ial2 X' (14 + np + (Int32.toNatClampNeg cu)) (Nat.lt_succ_of_lt hk_h_1) (rd mem (14 + np + (Int32.toNatClampNeg cu)) 1) (fun f => (cfI_lt hk_h_1 f).trans (kw_b (vp_lt h_1) f)) (t0 := 0) rfl (by unfold vp_in; decide +kernel) (rd_mr2 _ _ _ _ _ (Nat.ne_of_lt hk_h_1)) dX12_isBanned_85 86 rfl ?_
                    refine x_iconst X' 2 dX12_isBanned_86 rfl 87 rfl ?_
                    refine x_icmp_ne X' hF 115 90 dX12_isBanned_87 (by decide) rfl (fun hF => ?_) (fun hF => ?_)
                    · refine x_iload X' 6 dX12_isBanned_90 rfl 92 rfl ?_
                      refine x_aload X' 0 dX12_isBanned_92 rfl 94 rfl ?_
                      refine x_iconst X' 2 dX12_isBanned_94 rfl 95 rfl ?_
                      refine x_ial2 X' (14 + np + (Int32.toNatClampNeg cu)) (Nat.lt_succ_of_lt hk_h_1) (rd mem (14 + np + (Int32.toNatClampNeg cu)) 2) (fun f => (cfI_lt hk_h_1 f).trans (kw_b (vp_lt h_1) f)) (t0 := 0) rfl (by unfold vp_in; decide +kernel) (rd_mr2 _ _ _ _ _ (Nat.ne_of_lt hk_h_1)) dX12_isBanned_95 96 rfl ?_
                      refine x_icmp_ne X' hF 115 99 dX12_isBanned_96 (by decide) rfl (fun hF => ?_) (fun hF => ?_)
                      · refine x_iload X' 5 dX12_isBanned_99 rfl 101 rfl ?_
                        refine x_aload X' 0 dX12_isBanned_101 rfl 103 rfl ?_
                        refine x_iconst X' 3 dX12_isBanned_103 rfl 104 rfl ?_
                        refine x_ial2 X' (14 + np + (Int32.toNatClampNeg cu)) (Nat.lt_succ_of_lt hk_h_1) (rd mem (14 + np + (Int32.toNatClampNeg cu)) 3) (fun f => (cfI_lt hk_h_1 f).trans (kw_b (vp_lt h_1) f)) (t0 := 0) rfl (by unfold vp_in; decide +kernel) (rd_mr2 _ _ _ _ _ (Nat.ne_of_lt hk_h_1)) dX12_isBanned_104 105 rfl ?_
                        refine x_gz hF (fun h_4 hF => ?_)
                        refine x_irem X' h_4 dX12_isBanned_105 106 rfl ?_
                        refine x_aload X' 0 dX12_isBanned_106 rfl 108 rfl ?_
                        refine x_iconst X' 4 dX12_isBanned_108 rfl 109 rfl ?_
                        refine x_ial2 X' (14 + np + (Int32.toNatClampNeg cu)) (Nat.lt_succ_of_lt hk_h_1) (rd mem (14 + np + (Int32.toNatClampNeg cu)) 4) (fun f => (cfI_lt hk_h_1 f).trans (kw_b (vp_lt h_1) f)) (t0 := 0) rfl (by unfold vp_in; decide +kernel) (rd_mr2 _ _ _ _ _ (Nat.ne_of_lt hk_h_1)) dX12_isBanned_109 110 rfl ?_
                        refine x_icmp_ne X' hF 115 113 dX12_isBanned_110 (by decide) rfl (fun hF => ?_) (fun hF => ?_)
                        · refine x_iconst X' 1 dX12_isBanned_113 rfl 114 rfl ?_
                          refine x_back hq ?_
                          exact x_iret X hQ (o_inj hF) rfl rfl (Nat.le_of_ble_eq_true rfl) (Nat.le_of_ble_eq_true rfl) dX12_isBanned_114
                        · refine x_aload X' 0 dX12_isBanned_115 rfl 117 rfl ?_
                          refine x_iconst X' 1 dX12_isBanned_117 rfl 118 rfl ?_
                          refine x_ial2 X' (14 + np + (Int32.toNatClampNeg cu)) (Nat.lt_succ_of_lt hk_h_1) (rd mem (14 + np + (Int32.toNatClampNeg cu)) 1) (fun f => (cfI_lt hk_h_1 f).trans (kw_b (vp_lt h_1) f)) (t0 := 0) rfl (by unfold vp_in; decide +kernel) (rd_mr2 _ _ _ _ _ (Nat.ne_of_lt hk_h_1)) dX12_isBanned_118 119 rfl ?_
                          refine x_iconst X' 3 dX12_isBanned_119 rfl 120 rfl ?_
                          refine x_icmp_ne X' hF 167 123 dX12_isBanned_120 (by decide) rfl (fun hF => ?_) (fun hF => ?_)
                          · refine x_iload X' 6 dX12_isBanned_123 rfl 125 rfl ?_
                            refine x_aload X' 0 dX12_isBanned_125 rfl 127 rfl ?_
                            refine x_iconst X' 2 dX12_isBanned_127 rfl 128 rfl ?_
                            refine x_ial2 X' (14 + np + (Int32.toNatClampNeg cu)) (Nat.lt_succ_of_lt hk_h_1) (rd mem (14 + np + (Int32.toNatClampNeg cu)) 2) (fun f => (cfI_lt hk_h_1 f).trans (kw_b (vp_lt h_1) f)) (t0 := 0) rfl (by unfold vp_in; decide +kernel) (rd_mr2 _ _ _ _ _ (Nat.ne_of_lt hk_h_1)) dX12_isBanned_128 129 rfl ?_
                            refine x_icmp_ne X' hF 167 132 dX12_isBanned_129 (by decide) rfl (fun hF => ?_) (fun hF => ?_)
                            · refine x_iload_n X' 2 dX12_isBanned_132 rfl rfl 133 rfl ?_
                              refine x_aload X' 0 dX12_isBanned_133 rfl 135 rfl ?_
                              refine x_iconst X' 3 dX12_isBanned_135 rfl 136 rfl ?_
                              refine x_ial2 X' (14 + np + (Int32.toNatClampNeg cu)) (Nat.lt_succ_of_lt hk_h_1) (rd mem (14 + np + (Int32.toNatClampNeg cu)) 3) (fun f => (cfI_lt hk_h_1 f).trans (kw_b (vp_lt h_1) f)) (t0 := 0) rfl (by unfold vp_in; decide +kernel) (rd_mr2 _ _ _ _ _ (Nat.ne_of_lt hk_h_1)) dX12_isBanned_136 137 rfl ?_
                              refine x_isub X' dX12_isBanned_137 138 rfl ?_
                              refine x_iload_n X' 2 dX12_isBanned_138 rfl rfl 139 rfl ?_
                              refine x_aload X' 0 dX12_isBanned_139 rfl 141 rfl ?_
                              refine x_iconst X' 5 dX12_isBanned_141 rfl 142 rfl ?_
                              refine x_ial2 X' (14 + np + (Int32.toNatClampNeg cu)) (Nat.lt_succ_of_lt hk_h_1) (rd mem (14 + np + (Int32.toNatClampNeg cu)) 5) (fun f => (cfI_lt hk_h_1 f).trans (kw_b (vp_lt h_1) f)) (t0 := 0) rfl (by unfold vp_in; decide +kernel) (rd_mr2 _ _ _ _ _ (Nat.ne_of_lt hk_h_1)) dX12_isBanned_142 143 rfl ?_
                              refine x_isub X' dX12_isBanned_143 144 rfl ?_
                              refine x_imul X' dX12_isBanned_144 145 rfl ?_
                              refine x_if_gt X' hF 167 148 dX12_isBanned_145 (by decide) rfl (fun hF => ?_) (fun hF => ?_)
                              · refine x_goto X' 11 dX12_isBanned_167 (by decide) ?_
                                refine x_keep [1, 2, 3, 4, 5, 6, 7] rfl ?_
                                exact ih cu x1 x2 x3 x4 x5 x6 (cu + 1) hF
                              · refine x_iload_n X' 3 dX12_isBanned_148 rfl rfl 149 rfl ?_
                                refine x_aload X' 0 dX12_isBanned_149 rfl 151 rfl ?_
                                refine x_iconst X' 4 dX12_isBanned_151 rfl 152 rfl ?_
                                refine x_ial2 X' (14 + np + (Int32.toNatClampNeg cu)) (Nat.lt_succ_of_lt hk_h_1) (rd mem (14 + np + (Int32.toNatClampNeg cu)) 4) (fun f => (cfI_lt hk_h_1 f).trans (kw_b (vp_lt h_1) f)) (t0 := 0) rfl (by unfold vp_in; decide +kernel) (rd_mr2 _ _ _ _ _ (Nat.ne_of_lt hk_h_1)) dX12_isBanned_152 153 rfl ?_
                                refine x_isub X' dX12_isBanned_153 154 rfl ?_
                                refine x_iload_n X' 3 dX12_isBanned_154 rfl rfl 155 rfl ?_
                                refine x_aload X' 0 dX12_isBanned_155 rfl 157 rfl ?_
                                refine x_bipush X' 6 dX12_isBanned_157 rfl 159 rfl ?_
                                refine x_ial2 X' (14 + np + (Int32.toNatClampNeg cu)) (Nat.lt_succ_of_lt hk_h_1) (rd mem (14 + np + (Int32.toNatClampNeg cu)) 6) (fun f => (cfI_lt hk_h_1 f).trans (kw_b (vp_lt h_1) f)) (t0 := 0) rfl (by unfold vp_in; decide +kernel) (rd_mr2 _ _ _ _ _ (Nat.ne_of_lt hk_h_1)) dX12_isBanned_159 160 rfl ?_
                                refine x_isub X' dX12_isBanned_160 161 rfl ?_
                                refine x_imul X' dX12_isBanned_161 162 rfl ?_
                                refine x_if_gt X' hF 167 165 dX12_isBanned_162 (by decide) rfl (fun hF => ?_) (fun hF => ?_)
                                · refine x_goto X' 11 dX12_isBanned_167 (by decide) ?_
                                  refine x_keep [1, 2, 3, 4, 5, 6, 7] rfl ?_
                                  exact ih cu x1 x2 x3 x4 x5 x6 (cu + 1) hF
                                · refine x_iconst X' 1 dX12_isBanned_165 rfl 166 rfl ?_
                                  refine x_back hq ?_
                                  exact x_iret X hQ (o_inj hF) rfl rfl (Nat.le_of_ble_eq_true rfl) (Nat.le_of_ble_eq_true rfl) dX12_isBanned_166
                            · refine x_goto X' 11 dX12_isBanned_167 (by decide) ?_
                              refine x_keep [1, 2, 3, 4, 5, 6, 7] rfl ?_
                              exact ih cu x1 x2 x3 x4 x5 x6 (cu + 1) hF
                          · refine x_goto X' 11 dX12_isBanned_167 (by decide) ?_
                            refine x_keep [1, 2, 3, 4, 5, 6, 7] rfl ?_
                            exact ih cu x1 x2 x3 x4 x5 x6 (cu + 1) hF
                      · refine x_aload X' 0 dX12_isBanned_115 rfl 117 rfl ?_
                        refine x_iconst X' 1 dX12_isBanned_117 rfl 118 rfl ?_
                        refine x_ial2 X' (14 + np + (Int32.toNatClampNeg cu)) (Nat.lt_succ_of_lt hk_h_1) (rd mem (14 + np + (Int32.toNatClampNeg cu)) 1) (fun f => (cfI_lt hk_h_1 f).trans (kw_b (vp_lt h_1) f)) (t0 := 0) rfl (by unfold vp_in; decide +kernel) (rd_mr2 _ _ _ _ _ (Nat.ne_of_lt hk_h_1)) dX12_isBanned_118 119 rfl ?_
                        refine x_iconst X' 3 dX12_isBanned_119 rfl 120 rfl ?_
                        refine x_icmp_ne X' hF 167 123 dX12_isBanned_120 (by decide) rfl (fun hF => ?_) (fun hF => ?_)
                        · refine x_iload X' 6 dX12_isBanned_123 rfl 125 rfl ?_
                          refine x_aload X' 0 dX12_isBanned_125 rfl 127 rfl ?_
                          refine x_iconst X' 2 dX12_isBanned_127 rfl 128 rfl ?_
                          refine x_ial2 X' (14 + np + (Int32.toNatClampNeg cu)) (Nat.lt_succ_of_lt hk_h_1) (rd mem (14 + np + (Int32.toNatClampNeg cu)) 2) (fun f => (cfI_lt hk_h_1 f).trans (kw_b (vp_lt h_1) f)) (t0 := 0) rfl (by unfold vp_in; decide +kernel) (rd_mr2 _ _ _ _ _ (Nat.ne_of_lt hk_h_1)) dX12_isBanned_128 129 rfl ?_
                          refine x_icmp_ne X' hF 167 132 dX12_isBanned_129 (by decide) rfl (fun hF => ?_) (fun hF => ?_)
                          · refine x_iload_n X' 2 dX12_isBanned_132 rfl rfl 133 rfl ?_
                            refine x_aload X' 0 dX12_isBanned_133 rfl 135 rfl ?_
                            refine x_iconst X' 3 dX12_isBanned_135 rfl 136 rfl ?_
                            refine x_ial2 X' (14 + np + (Int32.toNatClampNeg cu)) (Nat.lt_succ_of_lt hk_h_1) (rd mem (14 + np + (Int32.toNatClampNeg cu)) 3) (fun f => (cfI_lt hk_h_1 f).trans (kw_b (vp_lt h_1) f)) (t0 := 0) rfl (by unfold vp_in; decide +kernel) (rd_mr2 _ _ _ _ _ (Nat.ne_of_lt hk_h_1)) dX12_isBanned_136 137 rfl ?_
                            refine x_isub X' dX12_isBanned_137 138 rfl ?_
                            refine x_iload_n X' 2 dX12_isBanned_138 rfl rfl 139 rfl ?_
                            refine x_aload X' 0 dX12_isBanned_139 rfl 141 rfl ?_
                            refine x_iconst X' 5 dX12_isBanned_141 rfl 142 rfl ?_
                            refine x_ial2 X' (14 + np + (Int32.toNatClampNeg cu)) (Nat.lt_succ_of_lt hk_h_1) (rd mem (14 + np + (Int32.toNatClampNeg cu)) 5) (fun f => (cfI_lt hk_h_1 f).trans (kw_b (vp_lt h_1) f)) (t0 := 0) rfl (by unfold vp_in; decide +kernel) (rd_mr2 _ _ _ _ _ (Nat.ne_of_lt hk_h_1)) dX12_isBanned_142 143 rfl ?_
                            refine x_isub X' dX12_isBanned_143 144 rfl ?_
                            refine x_imul X' dX12_isBanned_144 145 rfl ?_
                            refine x_if_gt X' hF 167 148 dX12_isBanned_145 (by decide) rfl (fun hF => ?_) (fun hF => ?_)
                            · refine x_goto X' 11 dX12_isBanned_167 (by decide) ?_
                              refine x_keep [1, 2, 3, 4, 5, 6, 7] rfl ?_
                              exact ih cu x1 x2 x3 x4 x5 x6 (cu + 1) hF
                            · refine x_iload_n X' 3 dX12_isBanned_148 rfl rfl 149 rfl ?_
                              refine x_aload X' 0 dX12_isBanned_149 rfl 151 rfl ?_
                              refine x_iconst X' 4 dX12_isBanned_151 rfl 152 rfl ?_
                              refine x_ial2 X' (14 + np + (Int32.toNatClampNeg cu)) (Nat.lt_succ_of_lt hk_h_1) (rd mem (14 + np + (Int32.toNatClampNeg cu)) 4) (fun f => (cfI_lt hk_h_1 f).trans (kw_b (vp_lt h_1) f)) (t0 := 0) rfl (by unfold vp_in; decide +kernel) (rd_mr2 _ _ _ _ _ (Nat.ne_of_lt hk_h_1)) dX12_isBanned_152 153 rfl ?_
                              refine x_isub X' dX12_isBanned_153 154 rfl ?_
                              refine x_iload_n X' 3 dX12_isBanned_154 rfl rfl 155 rfl ?_
                              refine x_aload X' 0 dX12_isBanned_155 rfl 157 rfl ?_
                              refine x_bipush X' 6 dX12_isBanned_157 rfl 159 rfl ?_
                              refine x_ial2 X' (14 + np + (Int32.toNatClampNeg cu)) (Nat.lt_succ_of_lt hk_h_1) (rd mem (14 + np + (Int32.toNatClampNeg cu)) 6) (fun f => (cfI_lt hk_h_1 f).trans (kw_b (vp_lt h_1) f)) (t0 := 0) rfl (by unfold vp_in; decide +kernel) (rd_mr2 _ _ _ _ _ (Nat.ne_of_lt hk_h_1)) dX12_isBanned_159 160 rfl ?_
                              refine x_isub X' dX12_isBanned_160 161 rfl ?_
                              refine x_imul X' dX12_isBanned_161 162 rfl ?_
                              refine x_if_gt X' hF 167 165 dX12_isBanned_162 (by decide) rfl (fun hF => ?_) (fun hF => ?_)
                              · refine x_goto X' 11 dX12_isBanned_167 (by decide) ?_
                                refine x_keep [1, 2, 3, 4, 5, 6, 7] rfl ?_
                                exact ih cu x1 x2 x3 x4 x5 x6 (cu + 1) hF
                              · refine x_iconst X' 1 dX12_isBanned_165 rfl 166 rfl ?_
                                refine x_back hq ?_
                                exact x_iret X hQ (o_inj hF) rfl rfl (Nat.le_of_ble_eq_true rfl) (Nat.le_of_ble_eq_true rfl) dX12_isBanned_166
                          · refine x_goto X' 11 dX12_isBanned_167 (by decide) ?_
                            refine x_keep [1, 2, 3, 4, 5, 6, 7] rfl ?_
                            exact ih cu x1 x2 x3 x4 x5 x6 (cu + 1) hF
                        · refine x_goto X' 11 dX12_isBanned_167 (by decide) ?_
                          refine x_keep [1, 2, 3, 4, 5, 6, 7] rfl ?_
                          exact ih cu x1 x2 x3 x4 x5 x6 (cu + 1) hF
                    · refine x_aload X' 0 dX12_isBanned_115 rfl 117 rfl ?_
                      refine x_iconst X' 1 dX12_isBanned_117 rfl 118 rfl ?_
                      refine x_ial2 X' (14 + np + (Int32.toNatClampNeg cu)) (Nat.lt_succ_of_lt hk_h_1) (rd mem (14 + np + (Int32.toNatClampNeg cu)) 1) (fun f => (cfI_lt hk_h_1 f).trans (kw_b (vp_lt h_1) f)) (t0 := 0) rfl (by unfold vp_in; decide +kernel) (rd_mr2 _ _ _ _ _ (Nat.ne_of_lt hk_h_1)) dX12_isBanned_118 119 rfl ?_
                      refine x_iconst X' 3 dX12_isBanned_119 rfl 120 rfl ?_
                      refine x_icmp_ne X' hF 167 123 dX12_isBanned_120 (by decide) rfl (fun hF => ?_) (fun hF => ?_)
                      · refine x_iload X' 6 dX12_isBanned_123 rfl 125 rfl ?_
                        refine x_aload X' 0 dX12_isBanned_125 rfl 127 rfl ?_
                        refine x_iconst X' 2 dX12_isBanned_127 rfl 128 rfl ?_
                        refine x_ial2 X' (14 + np + (Int32.toNatClampNeg cu)) (Nat.lt_succ_of_lt hk_h_1) (rd mem (14 + np + (Int32.toNatClampNeg cu)) 2) (fun f => (cfI_lt hk_h_1 f).trans (kw_b (vp_lt h_1) f)) (t0 := 0) rfl (by unfold vp_in; decide +kernel) (rd_mr2 _ _ _ _ _ (Nat.ne_of_lt hk_h_1)) dX12_isBanned_128 129 rfl ?_
                        refine x_icmp_ne X' hF 167 132 dX12_isBanned_129 (by decide) rfl (fun hF => ?_) (fun hF => ?_)
                        · refine x_iload_n X' 2 dX12_isBanned_132 rfl rfl 133 rfl ?_
                          refine x_aload X' 0 dX12_isBanned_133 rfl 135 rfl ?_
                          refine x_iconst X' 3 dX12_isBanned_135 rfl 136 rfl ?_
                          refine x_ial2 X' (14 + np + (Int32.toNatClampNeg cu)) (Nat.lt_succ_of_lt hk_h_1) (rd mem (14 + np + (Int32.toNatClampNeg cu)) 3) (fun f => (cfI_lt hk_h_1 f).trans (kw_b (vp_lt h_1) f)) (t0 := 0) rfl (by unfold vp_in; decide +kernel) (rd_mr2 _ _ _ _ _ (Nat.ne_of_lt hk_h_1)) dX12_isBanned_136 137 rfl ?_
                          refine x_isub X' dX12_isBanned_137 138 rfl ?_
                          refine x_iload_n X' 2 dX12_isBanned_138 rfl rfl 139 rfl ?_
                          refine x_aload X' 0 dX12_isBanned_139 rfl 141 rfl ?_
                          refine x_iconst X' 5 dX12_isBanned_141 rfl 142 rfl ?_
                          refine x_ial2 X' (14 + np + (Int32.toNatClampNeg cu)) (Nat.lt_succ_of_lt hk_h_1) (rd mem (14 + np + (Int32.toNatClampNeg cu)) 5) (fun f => (cfI_lt hk_h_1 f).trans (kw_b (vp_lt h_1) f)) (t0 := 0) rfl (by unfold vp_in; decide +kernel) (rd_mr2 _ _ _ _ _ (Nat.ne_of_lt hk_h_1)) dX12_isBanned_142 143 rfl ?_
                          refine x_isub X' dX12_isBanned_143 144 rfl ?_
                          refine x_imul X' dX12_isBanned_144 145 rfl ?_
                          refine x_if_gt X' hF 167 148 dX12_isBanned_145 (by decide) rfl (fun hF => ?_) (fun hF => ?_)
                          · refine x_goto X' 11 dX12_isBanned_167 (by decide) ?_
                            refine x_keep [1, 2, 3, 4, 5, 6, 7] rfl ?_
                            exact ih cu x1 x2 x3 x4 x5 x6 (cu + 1) hF
                          · refine x_iload_n X' 3 dX12_isBanned_148 rfl rfl 149 rfl ?_
                            refine x_aload X' 0 dX12_isBanned_149 rfl 151 rfl ?_
                            refine x_iconst X' 4 dX12_isBanned_151 rfl 152 rfl ?_
                            refine x_ial2 X' (14 + np + (Int32.toNatClampNeg cu)) (Nat.lt_succ_of_lt hk_h_1) (rd mem (14 + np + (Int32.toNatClampNeg cu)) 4) (fun f => (cfI_lt hk_h_1 f).trans (kw_b (vp_lt h_1) f)) (t0 := 0) rfl (by unfold vp_in; decide +kernel) (rd_mr2 _ _ _ _ _ (Nat.ne_of_lt hk_h_1)) dX12_isBanned_152 153 rfl ?_
                            refine x_isub X' dX12_isBanned_153 154 rfl ?_
                            refine x_iload_n X' 3 dX12_isBanned_154 rfl rfl 155 rfl ?_
                            refine x_aload X' 0 dX12_isBanned_155 rfl 157 rfl ?_
                            refine x_bipush X' 6 dX12_isBanned_157 rfl 159 rfl ?_
                            refine x_ial2 X' (14 + np + (Int32.toNatClampNeg cu)) (Nat.lt_succ_of_lt hk_h_1) (rd mem (14 + np + (Int32.toNatClampNeg cu)) 6) (fun f => (cfI_lt hk_h_1 f).trans (kw_b (vp_lt h_1) f)) (t0 := 0) rfl (by unfold vp_in; decide +kernel) (rd_mr2 _ _ _ _ _ (Nat.ne_of_lt hk_h_1)) dX12_isBanned_159 160 rfl ?_
                            refine x_isub X' dX12_isBanned_160 161 rfl ?_
                            refine x_imul X' dX12_isBanned_161 162 rfl ?_
                            refine x_if_gt X' hF 167 165 dX12_isBanned_162 (by decide) rfl (fun hF => ?_) (fun hF => ?_)
                            · refine x_goto X' 11 dX12_isBanned_167 (by decide) ?_
                              refine x_keep [1, 2, 3, 4, 5, 6, 7] rfl ?_
                              exact ih cu x1 x2 x3 x4 x5 x6 (cu + 1) hF
                            · refine x_iconst X' 1 dX12_isBanned_165 rfl 166 rfl ?_
                              refine x_back hq ?_
                              exact x_iret X hQ (o_inj hF) rfl rfl (Nat.le_of_ble_eq_true rfl) (Nat.le_of_ble_eq_true rfl) dX12_isBanned_166
                        · refine x_goto X' 11 dX12_isBanned_167 (by decide) ?_
                          refine x_keep [1, 2, 3, 4, 5, 6, 7] rfl ?_
                          exact ih cu x1 x2 x3 x4 x5 x6 (cu + 1) hF
                      · refine x_goto X' 11 dX12_isBanned_167 (by decide) ?_
                        refine x_keep [1, 2, 3, 4, 5, 6, 7] rfl ?_
                        exact ih cu x1 x2 x3 x4 x5 x6 (cu + 1) hF
                · refine x_aload X' 0 dX12_isBanned_82 rfl 84 rfl ?_
                  refine x_iconst X' 1 dX12_isBanned_84 rfl 85 rfl ?_
                  refine x_ial2 X' (14 + np + (Int32.toNatClampNeg cu)) (Nat.lt_succ_of_lt hk_h_1) (rd mem (14 + np + (Int32.toNatClampNeg cu)) 1) (fun f => (cfI_lt hk_h_1 f).trans (kw_b (vp_lt h_1) f)) (t0 := 0) rfl (by unfold vp_in; decide +kernel) (rd_mr2 _ _ _ _ _ (Nat.ne_of_lt hk_h_1)) dX12_isBanned_85 86 rfl ?_
                  refine x_iconst X' 2 dX12_isBanned_86 rfl 87 rfl ?_
                  refine x_icmp_ne X' hF 115 90 dX12_isBanned_87 (by decide) rfl (fun hF => ?_) (fun hF => ?_)
                  · refine x_iload X' 6 dX12_isBanned_90 rfl 92 rfl ?_
                    refine x_aload X' 0 dX12_isBanned_92 rfl 94 rfl ?_
                    refine x_iconst X' 2 dX12_isBanned_94 rfl 95 rfl ?_
                    refine x_ial2 X' (14 + np + (Int32.toNatClampNeg cu)) (Nat.lt_succ_of_lt hk_h_1) (rd mem (14 + np + (Int32.toNatClampNeg cu)) 2) (fun f => (cfI_lt hk_h_1 f).trans (kw_b (vp_lt h_1) f)) (t0 := 0) rfl (by unfold vp_in; decide +kernel) (rd_mr2 _ _ _ _ _ (Nat.ne_of_lt hk_h_1)) dX12_isBanned_95 96 rfl ?_
                    refine x_icmp_ne X' hF 115 99 dX12_isBanned_96 (by decide) rfl (fun hF => ?_) (fun hF => ?_)
                    · refine x_iload X' 5 dX12_isBanned_99 rfl 101 rfl ?_
                      refine x_aload X' 0 dX12_isBanned_101 rfl 103 rfl ?_
                      refine x_iconst X' 3 dX12_isBanned_103 rfl 104 rfl ?_
                      refine x_ial2 X' (14 + np + (Int32.toNatClampNeg cu)) (Nat.lt_succ_of_lt hk_h_1) (rd mem (14 + np + (Int32.toNatClampNeg cu)) 3) (fun f => (cfI_lt hk_h_1 f).trans (kw_b (vp_lt h_1) f)) (t0 := 0) rfl (by unfold vp_in; decide +kernel) (rd_mr2 _ _ _ _ _ (Nat.ne_of_lt hk_h_1)) dX12_isBanned_104 105 rfl ?_
                      refine x_gz hF (fun h_5 hF => ?_)
                      refine x_irem X' h_5 dX12_isBanned_105 106 rfl ?_
                      refine x_aload X' 0 dX12_isBanned_106 rfl 108 rfl ?_
                      refine x_iconst X' 4 dX12_isBanned_108 rfl 109 rfl ?_
                      refine x_ial2 X' (14 + np + (Int32.toNatClampNeg cu)) (Nat.lt_succ_of_lt hk_h_1) (rd mem (14 + np + (Int32.toNatClampNeg cu)) 4) (fun f => (cfI_lt hk_h_1 f).trans (kw_b (vp_lt h_1) f)) (t0 := 0) rfl (by unfold vp_in; decide +kernel) (rd_mr2 _ _ _ _ _ (Nat.ne_of_lt hk_h_1)) dX12_isBanned_109 110 rfl ?_
                      refine x_icmp_ne X' hF 115 113 dX12_isBanned_110 (by decide) rfl (fun hF => ?_) (fun hF => ?_)
                      · refine x_iconst X' 1 dX12_isBanned_113 rfl 114 rfl ?_
                        refine x_back hq ?_
                        exact x_iret X hQ (o_inj hF) rfl rfl (Nat.le_of_ble_eq_true rfl) (Nat.le_of_ble_eq_true rfl) dX12_isBanned_114
                      · refine x_aload X' 0 dX12_isBanned_115 rfl 117 rfl ?_
                        refine x_iconst X' 1 dX12_isBanned_117 rfl 118 rfl ?_
                        refine x_ial2 X' (14 + np + (Int32.toNatClampNeg cu)) (Nat.lt_succ_of_lt hk_h_1) (rd mem (14 + np + (Int32.toNatClampNeg cu)) 1) (fun f => (cfI_lt hk_h_1 f).trans (kw_b (vp_lt h_1) f)) (t0 := 0) rfl (by unfold vp_in; decide +kernel) (rd_mr2 _ _ _ _ _ (Nat.ne_of_lt hk_h_1)) dX12_isBanned_118 119 rfl ?_
                        refine x_iconst X' 3 dX12_isBanned_119 rfl 120 rfl ?_
                        refine x_icmp_ne X' hF 167 123 dX12_isBanned_120 (by decide) rfl (fun hF => ?_) (fun hF => ?_)
                        · refine x_iload X' 6 dX12_isBanned_123 rfl 125 rfl ?_
                          refine x_aload X' 0 dX12_isBanned_125 rfl 127 rfl ?_
                          refine x_iconst X' 2 dX12_isBanned_127 rfl 128 rfl ?_
                          refine x_ial2 X' (14 + np + (Int32.toNatClampNeg cu)) (Nat.lt_succ_of_lt hk_h_1) (rd mem (14 + np + (Int32.toNatClampNeg cu)) 2) (fun f => (cfI_lt hk_h_1 f).trans (kw_b (vp_lt h_1) f)) (t0 := 0) rfl (by unfold vp_in; decide +kernel) (rd_mr2 _ _ _ _ _ (Nat.ne_of_lt hk_h_1)) dX12_isBanned_128 129 rfl ?_
                          refine x_icmp_ne X' hF 167 132 dX12_isBanned_129 (by decide) rfl (fun hF => ?_) (fun hF => ?_)
                          · refine x_iload_n X' 2 dX12_isBanned_132 rfl rfl 133 rfl ?_
                            refine x_aload X' 0 dX12_isBanned_133 rfl 135 rfl ?_
                            refine x_iconst X' 3 dX12_isBanned_135 rfl 136 rfl ?_
                            refine x_ial2 X' (14 + np + (Int32.toNatClampNeg cu)) (Nat.lt_succ_of_lt hk_h_1) (rd mem (14 + np + (Int32.toNatClampNeg cu)) 3) (fun f => (cfI_lt hk_h_1 f).trans (kw_b (vp_lt h_1) f)) (t0 := 0) rfl (by unfold vp_in; decide +kernel) (rd_mr2 _ _ _ _ _ (Nat.ne_of_lt hk_h_1)) dX12_isBanned_136 137 rfl ?_
                            refine x_isub X' dX12_isBanned_137 138 rfl ?_
                            refine x_iload_n X' 2 dX12_isBanned_138 rfl rfl 139 rfl ?_
                            refine x_aload X' 0 dX12_isBanned_139 rfl 141 rfl ?_
                            refine x_iconst X' 5 dX12_isBanned_141 rfl 142 rfl ?_
                            refine x_ial2 X' (14 + np + (Int32.toNatClampNeg cu)) (Nat.lt_succ_of_lt hk_h_1) (rd mem (14 + np + (Int32.toNatClampNeg cu)) 5) (fun f => (cfI_lt hk_h_1 f).trans (kw_b (vp_lt h_1) f)) (t0 := 0) rfl (by unfold vp_in; decide +kernel) (rd_mr2 _ _ _ _ _ (Nat.ne_of_lt hk_h_1)) dX12_isBanned_142 143 rfl ?_
                            refine x_isub X' dX12_isBanned_143 144 rfl ?_
                            refine x_imul X' dX12_isBanned_144 145 rfl ?_
                            refine x_if_gt X' hF 167 148 dX12_isBanned_145 (by decide) rfl (fun hF => ?_) (fun hF => ?_)
                            · refine x_goto X' 11 dX12_isBanned_167 (by decide) ?_
                              refine x_keep [1, 2, 3, 4, 5, 6, 7] rfl ?_
                              exact ih cu x1 x2 x3 x4 x5 x6 (cu + 1) hF
                            · refine x_iload_n X' 3 dX12_isBanned_148 rfl rfl 149 rfl ?_
                              refine x_aload X' 0 dX12_isBanned_149 rfl 151 rfl ?_
                              refine x_iconst X' 4 dX12_isBanned_151 rfl 152 rfl ?_
                              refine x_ial2 X' (14 + np + (Int32.toNatClampNeg cu)) (Nat.lt_succ_of_lt hk_h_1) (rd mem (14 + np + (Int32.toNatClampNeg cu)) 4) (fun f => (cfI_lt hk_h_1 f).trans (kw_b (vp_lt h_1) f)) (t0 := 0) rfl (by unfold vp_in; decide +kernel) (rd_mr2 _ _ _ _ _ (Nat.ne_of_lt hk_h_1)) dX12_isBanned_152 153 rfl ?_
                              refine x_isub X' dX12_isBanned_153 154 rfl ?_
                              refine x_iload_n X' 3 dX12_isBanned_154 rfl rfl 155 rfl ?_
                              refine x_aload X' 0 dX12_isBanned_155 rfl 157 rfl ?_
                              refine x_bipush X' 6 dX12_isBanned_157 rfl 159 rfl ?_
                              refine x_ial2 X' (14 + np + (Int32.toNatClampNeg cu)) (Nat.lt_succ_of_lt hk_h_1) (rd mem (14 + np + (Int32.toNatClampNeg cu)) 6) (fun f => (cfI_lt hk_h_1 f).trans (kw_b (vp_lt h_1) f)) (t0 := 0) rfl (by unfold vp_in; decide +kernel) (rd_mr2 _ _ _ _ _ (Nat.ne_of_lt hk_h_1)) dX12_isBanned_159 160 rfl ?_
                              refine x_isub X' dX12_isBanned_160 161 rfl ?_
                              refine x_imul X' dX12_isBanned_161 162 rfl ?_
                              refine x_if_gt X' hF 167 165 dX12_isBanned_162 (by decide) rfl (fun hF => ?_) (fun hF => ?_)
                              · refine x_goto X' 11 dX12_isBanned_167 (by decide) ?_
                                refine x_keep [1, 2, 3, 4, 5, 6, 7] rfl ?_
                                exact ih cu x1 x2 x3 x4 x5 x6 (cu + 1) hF
                              · refine x_iconst X' 1 dX12_isBanned_165 rfl 166 rfl ?_
                                refine x_back hq ?_
                                exact x_iret X hQ (o_inj hF) rfl rfl (Nat.le_of_ble_eq_true rfl) (Nat.le_of_ble_eq_true rfl) dX12_isBanned_166
                          · refine x_goto X' 11 dX12_isBanned_167 (by decide) ?_
                            refine x_keep [1, 2, 3, 4, 5, 6, 7] rfl ?_
                            exact ih cu x1 x2 x3 x4 x5 x6 (cu + 1) hF
                        · refine x_goto X' 11 dX12_isBanned_167 (by decide) ?_
                          refine x_keep [1, 2, 3, 4, 5, 6, 7] rfl ?_
                          exact ih cu x1 x2 x3 x4 x5 x6 (cu + 1) hF
                    · refine x_aload X' 0 dX12_isBanned_115 rfl 117 rfl ?_
                      refine x_iconst X' 1 dX12_isBanned_117 rfl 118 rfl ?_
                      refine x_ial2 X' (14 + np + (Int32.toNatClampNeg cu)) (Nat.lt_succ_of_lt hk_h_1) (rd mem (14 + np + (Int32.toNatClampNeg cu)) 1) (fun f => (cfI_lt hk_h_1 f).trans (kw_b (vp_lt h_1) f)) (t0 := 0) rfl (by unfold vp_in; decide +kernel) (rd_mr2 _ _ _ _ _ (Nat.ne_of_lt hk_h_1)) dX12_isBanned_118 119 rfl ?_
                      refine x_iconst X' 3 dX12_isBanned_119 rfl 120 rfl ?_
                      refine x_icmp_ne X' hF 167 123 dX12_isBanned_120 (by decide) rfl (fun hF => ?_) (fun hF => ?_)
                      · refine x_iload X' 6 dX12_isBanned_123 rfl 125 rfl ?_
                        refine x_aload X' 0 dX12_isBanned_125 rfl 127 rfl ?_
                        refine x_iconst X' 2 dX12_isBanned_127 rfl 128 rfl ?_
                        refine x_ial2 X' (14 + np + (Int32.toNatClampNeg cu)) (Nat.lt_succ_of_lt hk_h_1) (rd mem (14 + np + (Int32.toNatClampNeg cu)) 2) (fun f => (cfI_lt hk_h_1 f).trans (kw_b (vp_lt h_1) f)) (t0 := 0) rfl (by unfold vp_in; decide +kernel) (rd_mr2 _ _ _ _ _ (Nat.ne_of_lt hk_h_1)) dX12_isBanned_128 129 rfl ?_
                        refine x_icmp_ne X' hF 167 132 dX12_isBanned_129 (by decide) rfl (fun hF => ?_) (fun hF => ?_)
                        · refine x_iload_n X' 2 dX12_isBanned_132 rfl rfl 133 rfl ?_
                          refine x_aload X' 0 dX12_isBanned_133 rfl 135 rfl ?_
                          refine x_iconst X' 3 dX12_isBanned_135 rfl 136 rfl ?_
                          refine x_ial2 X' (14 + np + (Int32.toNatClampNeg cu)) (Nat.lt_succ_of_lt hk_h_1) (rd mem (14 + np + (Int32.toNatClampNeg cu)) 3) (fun f => (cfI_lt hk_h_1 f).trans (kw_b (vp_lt h_1) f)) (t0 := 0) rfl (by unfold vp_in; decide +kernel) (rd_mr2 _ _ _ _ _ (Nat.ne_of_lt hk_h_1)) dX12_isBanned_136 137 rfl ?_
                          refine x_isub X' dX12_isBanned_137 138 rfl ?_
                          refine x_iload_n X' 2 dX12_isBanned_138 rfl rfl 139 rfl ?_
                          refine x_aload X' 0 dX12_isBanned_139 rfl 141 rfl ?_
                          refine x_iconst X' 5 dX12_isBanned_141 rfl 142 rfl ?_
                          refine x_ial2 X' (14 + np + (Int32.toNatClampNeg cu)) (Nat.lt_succ_of_lt hk_h_1) (rd mem (14 + np + (Int32.toNatClampNeg cu)) 5) (fun f => (cfI_lt hk_h_1 f).trans (kw_b (vp_lt h_1) f)) (t0 := 0) rfl (by unfold vp_in; decide +kernel) (rd_mr2 _ _ _ _ _ (Nat.ne_of_lt hk_h_1)) dX12_isBanned_142 143 rfl ?_
                          refine x_isub X' dX12_isBanned_143 144 rfl ?_
                          refine x_imul X' dX12_isBanned_144 145 rfl ?_
                          refine x_if_gt X' hF 167 148 dX12_isBanned_145 (by decide) rfl (fun hF => ?_) (fun hF => ?_)
                          · refine x_goto X' 11 dX12_isBanned_167 (by decide) ?_
                            refine x_keep [1, 2, 3, 4, 5, 6, 7] rfl ?_
                            exact ih cu x1 x2 x3 x4 x5 x6 (cu + 1) hF
                          · refine x_iload_n X' 3 dX12_isBanned_148 rfl rfl 149 rfl ?_
                            refine x_aload X' 0 dX12_isBanned_149 rfl 151 rfl ?_
                            refine x_iconst X' 4 dX12_isBanned_151 rfl 152 rfl ?_
                            refine x_ial2 X' (14 + np + (Int32.toNatClampNeg cu)) (Nat.lt_succ_of_lt hk_h_1) (rd mem (14 + np + (Int32.toNatClampNeg cu)) 4) (fun f => (cfI_lt hk_h_1 f).trans (kw_b (vp_lt h_1) f)) (t0 := 0) rfl (by unfold vp_in; decide +kernel) (rd_mr2 _ _ _ _ _ (Nat.ne_of_lt hk_h_1)) dX12_isBanned_152 153 rfl ?_
                            refine x_isub X' dX12_isBanned_153 154 rfl ?_
                            refine x_iload_n X' 3 dX12_isBanned_154 rfl rfl 155 rfl ?_
                            refine x_aload X' 0 dX12_isBanned_155 rfl 157 rfl ?_
                            refine x_bipush X' 6 dX12_isBanned_157 rfl 159 rfl ?_
                            refine x_ial2 X' (14 + np + (Int32.toNatClampNeg cu)) (Nat.lt_succ_of_lt hk_h_1) (rd mem (14 + np + (Int32.toNatClampNeg cu)) 6) (fun f => (cfI_lt hk_h_1 f).trans (kw_b (vp_lt h_1) f)) (t0 := 0) rfl (by unfold vp_in; decide +kernel) (rd_mr2 _ _ _ _ _ (Nat.ne_of_lt hk_h_1)) dX12_isBanned_159 160 rfl ?_
                            refine x_isub X' dX12_isBanned_160 161 rfl ?_
                            refine x_imul X' dX12_isBanned_161 162 rfl ?_
                            refine x_if_gt X' hF 167 165 dX12_isBanned_162 (by decide) rfl (fun hF => ?_) (fun hF => ?_)
                            · refine x_goto X' 11 dX12_isBanned_167 (by decide) ?_
                              refine x_keep [1, 2, 3, 4, 5, 6, 7] rfl ?_
                              exact ih cu x1 x2 x3 x4 x5 x6 (cu + 1) hF
                            · refine x_iconst X' 1 dX12_isBanned_165 rfl 166 rfl ?_
                              refine x_back hq ?_
                              exact x_iret X hQ (o_inj hF) rfl rfl (Nat.le_of_ble_eq_true rfl) (Nat.le_of_ble_eq_true rfl) dX12_isBanned_166
                        · refine x_goto X' 11 dX12_isBanned_167 (by decide) ?_
                          refine x_keep [1, 2, 3, 4, 5, 6, 7] rfl ?_
                          exact ih cu x1 x2 x3 x4 x5 x6 (cu + 1) hF
                      · refine x_goto X' 11 dX12_isBanned_167 (by decide) ?_
                        refine x_keep [1, 2, 3, 4, 5, 6, 7] rfl ?_
                        exact ih cu x1 x2 x3 x4 x5 x6 (cu + 1) hF
                  · refine x_aload X' 0 dX12_isBanned_115 rfl 117 rfl ?_
                    refine x_iconst X' 1 dX12_isBanned_117 rfl 118 rfl ?_
                    refine x_ial2 X' (14 + np + (Int32.toNatClampNeg cu)) (Nat.lt_succ_of_lt hk_h_1) (rd mem (14 + np + (Int32.toNatClampNeg cu)) 1) (fun f => (cfI_lt hk_h_1 f).trans (kw_b (vp_lt h_1) f)) (t0 := 0) rfl (by unfold vp_in; decide +kernel) (rd_mr2 _ _ _ _ _ (Nat.ne_of_lt hk_h_1)) dX12_isBanned_118 119 rfl ?_
                    refine x_iconst X' 3 dX12_isBanned_119 rfl 120 rfl ?_
                    refine x_icmp_ne X' hF 167 123 dX12_isBanned_120 (by decide) rfl (fun hF => ?_) (fun hF => ?_)
                    · refine x_iload X' 6 dX12_isBanned_123 rfl 125 rfl ?_
                      refine x_aload X' 0 dX12_isBanned_125 rfl 127 rfl ?_
                      refine x_iconst X' 2 dX12_isBanned_127 rfl 128 rfl ?_
                      refine x_ial2 X' (14 + np + (Int32.toNatClampNeg cu)) (Nat.lt_succ_of_lt hk_h_1) (rd mem (14 + np + (Int32.toNatClampNeg cu)) 2) (fun f => (cfI_lt hk_h_1 f).trans (kw_b (vp_lt h_1) f)) (t0 := 0) rfl (by unfold vp_in; decide +kernel) (rd_mr2 _ _ _ _ _ (Nat.ne_of_lt hk_h_1)) dX12_isBanned_128 129 rfl ?_
                      refine x_icmp_ne X' hF 167 132 dX12_isBanned_129 (by decide) rfl (fun hF => ?_) (fun hF => ?_)
                      · refine x_iload_n X' 2 dX12_isBanned_132 rfl rfl 133 rfl ?_
                        refine x_aload X' 0 dX12_isBanned_133 rfl 135 rfl ?_
                        refine x_iconst X' 3 dX12_isBanned_135 rfl 136 rfl ?_
                        refine x_ial2 X' (14 + np + (Int32.toNatClampNeg cu)) (Nat.lt_succ_of_lt hk_h_1) (rd mem (14 + np + (Int32.toNatClampNeg cu)) 3) (fun f => (cfI_lt hk_h_1 f).trans (kw_b (vp_lt h_1) f)) (t0 := 0) rfl (by unfold vp_in; decide +kernel) (rd_mr2 _ _ _ _ _ (Nat.ne_of_lt hk_h_1)) dX12_isBanned_136 137 rfl ?_
                        refine x_isub X' dX12_isBanned_137 138 rfl ?_
                        refine x_iload_n X' 2 dX12_isBanned_138 rfl rfl 139 rfl ?_
                        refine x_aload X' 0 dX12_isBanned_139 rfl 141 rfl ?_
                        refine x_iconst X' 5 dX12_isBanned_141 rfl 142 rfl ?_
                        refine x_ial2 X' (14 + np + (Int32.toNatClampNeg cu)) (Nat.lt_succ_of_lt hk_h_1) (rd mem (14 + np + (Int32.toNatClampNeg cu)) 5) (fun f => (cfI_lt hk_h_1 f).trans (kw_b (vp_lt h_1) f)) (t0 := 0) rfl (by unfold vp_in; decide +kernel) (rd_mr2 _ _ _ _ _ (Nat.ne_of_lt hk_h_1)) dX12_isBanned_142 143 rfl ?_
                        refine x_isub X' dX12_isBanned_143 144 rfl ?_
                        refine x_imul X' dX12_isBanned_144 145 rfl ?_
                        refine x_if_gt X' hF 167 148 dX12_isBanned_145 (by decide) rfl (fun hF => ?_) (fun hF => ?_)
                        · refine x_goto X' 11 dX12_isBanned_167 (by decide) ?_
                          refine x_keep [1, 2, 3, 4, 5, 6, 7] rfl ?_
                          exact ih cu x1 x2 x3 x4 x5 x6 (cu + 1) hF
                        · refine x_iload_n X' 3 dX12_isBanned_148 rfl rfl 149 rfl ?_
                          refine x_aload X' 0 dX12_isBanned_149 rfl 151 rfl ?_
                          refine x_iconst X' 4 dX12_isBanned_151 rfl 152 rfl ?_
                          refine x_ial2 X' (14 + np + (Int32.toNatClampNeg cu)) (Nat.lt_succ_of_lt hk_h_1) (rd mem (14 + np + (Int32.toNatClampNeg cu)) 4) (fun f => (cfI_lt hk_h_1 f).trans (kw_b (vp_lt h_1) f)) (t0 := 0) rfl (by unfold vp_in; decide +kernel) (rd_mr2 _ _ _ _ _ (Nat.ne_of_lt hk_h_1)) dX12_isBanned_152 153 rfl ?_
                          refine x_isub X' dX12_isBanned_153 154 rfl ?_
                          refine x_iload_n X' 3 dX12_isBanned_154 rfl rfl 155 rfl ?_
                          refine x_aload X' 0 dX12_isBanned_155 rfl 157 rfl ?_
                          refine x_bipush X' 6 dX12_isBanned_157 rfl 159 rfl ?_
                          refine x_ial2 X' (14 + np + (Int32.toNatClampNeg cu)) (Nat.lt_succ_of_lt hk_h_1) (rd mem (14 + np + (Int32.toNatClampNeg cu)) 6) (fun f => (cfI_lt hk_h_1 f).trans (kw_b (vp_lt h_1) f)) (t0 := 0) rfl (by unfold vp_in; decide +kernel) (rd_mr2 _ _ _ _ _ (Nat.ne_of_lt hk_h_1)) dX12_isBanned_159 160 rfl ?_
                          refine x_isub X' dX12_isBanned_160 161 rfl ?_
                          refine x_imul X' dX12_isBanned_161 162 rfl ?_
                          refine x_if_gt X' hF 167 165 dX12_isBanned_162 (by decide) rfl (fun hF => ?_) (fun hF => ?_)
                          · refine x_goto X' 11 dX12_isBanned_167 (by decide) ?_
                            refine x_keep [1, 2, 3, 4, 5, 6, 7] rfl ?_
                            exact ih cu x1 x2 x3 x4 x5 x6 (cu + 1) hF
                          · refine x_iconst X' 1 dX12_isBanned_165 rfl 166 rfl ?_
                            refine x_back hq ?_
                            exact x_iret X hQ (o_inj hF) rfl rfl (Nat.le_of_ble_eq_true rfl) (Nat.le_of_ble_eq_true rfl) dX12_isBanned_166
                      · refine x_goto X' 11 dX12_isBanned_167 (by decide) ?_
                        refine x_keep [1, 2, 3, 4, 5, 6, 7] rfl ?_
                        exact ih cu x1 x2 x3 x4 x5 x6 (cu + 1) hF
                    · refine x_goto X' 11 dX12_isBanned_167 (by decide) ?_
                      refine x_keep [1, 2, 3, 4, 5, 6, 7] rfl ?_
                      exact ih cu x1 x2 x3 x4 x5 x6 (cu + 1) hF
          · refine x_aload X' 0 dX12_isBanned_65 rfl 67 rfl ?_
            refine x_iconst X' 1 dX12_isBanned_67 rfl 68 rfl ?_
            refine x_ial2 X' (14 + np + (Int32.toNatClampNeg cu)) (Nat.lt_succ_of_lt hk_h_1) (rd mem (14 + np + (Int32.toNatClampNeg cu)) 1) (fun f => (cfI_lt hk_h_1 f).trans (kw_b (vp_lt h_1) f)) (t0 := 0) rfl (by unfold vp_in; decide +kernel) (rd_mr2 _ _ _ _ _ (Nat.ne_of_lt hk_h_1)) dX12_isBanned_68 69 rfl ?_
            refine x_iconst X' 1 dX12_isBanned_69 rfl 70 rfl ?_
            refine x_icmp_ne X' hF 82 73 dX12_isBanned_70 (by decide) rfl (fun hF => ?_) (fun hF => ?_)
            · refine x_iload X' 6 dX12_isBanned_73 rfl 75 rfl ?_
              refine x_iload X' 4 dX12_isBanned_75 rfl 77 rfl ?_
              refine x_icmp_ne X' hF 82 80 dX12_isBanned_77 (by decide) rfl (fun hF => ?_) (fun hF => ?_)
              · refine x_iconst X' 1 dX12_isBanned_80 rfl 81 rfl ?_
                refine x_back hq ?_
                exact x_iret X hQ (o_inj hF) rfl rfl (Nat.le_of_ble_eq_true rfl) (Nat.le_of_ble_eq_true rfl) dX12_isBanned_81
              · refine x_aload X' 0 dX12_isBanned_82 rfl 84 rfl ?_
                refine x_iconst X' 1 dX12_isBanned_84 rfl 85 rfl ?_
                refine x_ial2 X' (14 + np + (Int32.toNatClampNeg cu)) (Nat.lt_succ_of_lt hk_h_1) (rd mem (14 + np + (Int32.toNatClampNeg cu)) 1) (fun f => (cfI_lt hk_h_1 f).trans (kw_b (vp_lt h_1) f)) (t0 := 0) rfl (by unfold vp_in; decide +kernel) (rd_mr2 _ _ _ _ _ (Nat.ne_of_lt hk_h_1)) dX12_isBanned_85 86 rfl ?_
                refine x_iconst X' 2 dX12_isBanned_86 rfl 87 rfl ?_
                refine x_icmp_ne X' hF 115 90 dX12_isBanned_87 (by decide) rfl (fun hF => ?_) (fun hF => ?_)
                · refine x_iload X' 6 dX12_isBanned_90 rfl 92 rfl ?_
                  refine x_aload X' 0 dX12_isBanned_92 rfl 94 rfl ?_
                  refine x_iconst X' 2 dX12_isBanned_94 rfl 95 rfl ?_
                  refine x_ial2 X' (14 + np + (Int32.toNatClampNeg cu)) (Nat.lt_succ_of_lt hk_h_1) (rd mem (14 + np + (Int32.toNatClampNeg cu)) 2) (fun f => (cfI_lt hk_h_1 f).trans (kw_b (vp_lt h_1) f)) (t0 := 0) rfl (by unfold vp_in; decide +kernel) (rd_mr2 _ _ _ _ _ (Nat.ne_of_lt hk_h_1)) dX12_isBanned_95 96 rfl ?_
                  refine x_icmp_ne X' hF 115 99 dX12_isBanned_96 (by decide) rfl (fun hF => ?_) (fun hF => ?_)
                  · refine x_iload X' 5 dX12_isBanned_99 rfl 101 rfl ?_
                    refine x_aload X' 0 dX12_isBanned_101 rfl 103 rfl ?_
                    refine x_iconst X' 3 dX12_isBanned_103 rfl 104 rfl ?_
                    refine x_ial2 X' (14 + np + (Int32.toNatClampNeg cu)) (Nat.lt_succ_of_lt hk_h_1) (rd mem (14 + np + (Int32.toNatClampNeg cu)) 3) (fun f => (cfI_lt hk_h_1 f).trans (kw_b (vp_lt h_1) f)) (t0 := 0) rfl (by unfold vp_in; decide +kernel) (rd_mr2 _ _ _ _ _ (Nat.ne_of_lt hk_h_1)) dX12_isBanned_104 105 rfl ?_
                    refine x_gz hF (fun h_6 hF => ?_)
                    refine x_irem X' h_6 dX12_isBanned_105 106 rfl ?_
                    refine x_aload X' 0 dX12_isBanned_106 rfl 108 rfl ?_
                    refine x_iconst X' 4 dX12_isBanned_108 rfl 109 rfl ?_
                    refine x_ial2 X' (14 + np + (Int32.toNatClampNeg cu)) (Nat.lt_succ_of_lt hk_h_1) (rd mem (14 + np + (Int32.toNatClampNeg cu)) 4) (fun f => (cfI_lt hk_h_1 f).trans (kw_b (vp_lt h_1) f)) (t0 := 0) rfl (by unfold vp_in; decide +kernel) (rd_mr2 _ _ _ _ _ (Nat.ne_of_lt hk_h_1)) dX12_isBanned_109 110 rfl ?_
                    refine x_icmp_ne X' hF 115 113 dX12_isBanned_110 (by decide) rfl (fun hF => ?_) (fun hF => ?_)
                    · refine x_iconst X' 1 dX12_isBanned_113 rfl 114 rfl ?_
                      refine x_back hq ?_
                      exact x_iret X hQ (o_inj hF) rfl rfl (Nat.le_of_ble_eq_true rfl) (Nat.le_of_ble_eq_true rfl) dX12_isBanned_114
                    · refine x_aload X' 0 dX12_isBanned_115 rfl 117 rfl ?_
                      refine x_iconst X' 1 dX12_isBanned_117 rfl 118 rfl ?_
                      refine x_ial2 X' (14 + np + (Int32.toNatClampNeg cu)) (Nat.lt_succ_of_lt hk_h_1) (rd mem (14 + np + (Int32.toNatClampNeg cu)) 1) (fun f => (cfI_lt hk_h_1 f).trans (kw_b (vp_lt h_1) f)) (t0 := 0) rfl (by unfold vp_in; decide +kernel) (rd_mr2 _ _ _ _ _ (Nat.ne_of_lt hk_h_1)) dX12_isBanned_118 119 rfl ?_
                      refine x_iconst X' 3 dX12_isBanned_119 rfl 120 rfl ?_
                      refine x_icmp_ne X' hF 167 123 dX12_isBanned_120 (by decide) rfl (fun hF => ?_) (fun hF => ?_)
                      · refine x_iload X' 6 dX12_isBanned_123 rfl 125 rfl ?_
                        refine x_aload X' 0 dX12_isBanned_125 rfl 127 rfl ?_
                        refine x_iconst X' 2 dX12_isBanned_127 rfl 128 rfl ?_
                        refine x_ial2 X' (14 + np + (Int32.toNatClampNeg cu)) (Nat.lt_succ_of_lt hk_h_1) (rd mem (14 + np + (Int32.toNatClampNeg cu)) 2) (fun f => (cfI_lt hk_h_1 f).trans (kw_b (vp_lt h_1) f)) (t0 := 0) rfl (by unfold vp_in; decide +kernel) (rd_mr2 _ _ _ _ _ (Nat.ne_of_lt hk_h_1)) dX12_isBanned_128 129 rfl ?_
                        refine x_icmp_ne X' hF 167 132 dX12_isBanned_129 (by decide) rfl (fun hF => ?_) (fun hF => ?_)
                        · refine x_iload_n X' 2 dX12_isBanned_132 rfl rfl 133 rfl ?_
                          refine x_aload X' 0 dX12_isBanned_133 rfl 135 rfl ?_
                          refine x_iconst X' 3 dX12_isBanned_135 rfl 136 rfl ?_
                          refine x_ial2 X' (14 + np + (Int32.toNatClampNeg cu)) (Nat.lt_succ_of_lt hk_h_1) (rd mem (14 + np + (Int32.toNatClampNeg cu)) 3) (fun f => (cfI_lt hk_h_1 f).trans (kw_b (vp_lt h_1) f)) (t0 := 0) rfl (by unfold vp_in; decide +kernel) (rd_mr2 _ _ _ _ _ (Nat.ne_of_lt hk_h_1)) dX12_isBanned_136 137 rfl ?_
                          refine x_isub X' dX12_isBanned_137 138 rfl ?_
                          refine x_iload_n X' 2 dX12_isBanned_138 rfl rfl 139 rfl ?_
                          refine x_aload X' 0 dX12_isBanned_139 rfl 141 rfl ?_
                          refine x_iconst X' 5 dX12_isBanned_141 rfl 142 rfl ?_
                          refine x_ial2 X' (14 + np + (Int32.toNatClampNeg cu)) (Nat.lt_succ_of_lt hk_h_1) (rd mem (14 + np + (Int32.toNatClampNeg cu)) 5) (fun f => (cfI_lt hk_h_1 f).trans (kw_b (vp_lt h_1) f)) (t0 := 0) rfl (by unfold vp_in; decide +kernel) (rd_mr2 _ _ _ _ _ (Nat.ne_of_lt hk_h_1)) dX12_isBanned_142 143 rfl ?_
                          refine x_isub X' dX12_isBanned_143 144 rfl ?_
                          refine x_imul X' dX12_isBanned_144 145 rfl ?_
                          refine x_if_gt X' hF 167 148 dX12_isBanned_145 (by decide) rfl (fun hF => ?_) (fun hF => ?_)
                          · refine x_goto X' 11 dX12_isBanned_167 (by decide) ?_
                            refine x_keep [1, 2, 3, 4, 5, 6, 7] rfl ?_
                            exact ih cu x1 x2 x3 x4 x5 x6 (cu + 1) hF
                          · refine x_iload_n X' 3 dX12_isBanned_148 rfl rfl 149 rfl ?_
                            refine x_aload X' 0 dX12_isBanned_149 rfl 151 rfl ?_
                            refine x_iconst X' 4 dX12_isBanned_151 rfl 152 rfl ?_
                            refine x_ial2 X' (14 + np + (Int32.toNatClampNeg cu)) (Nat.lt_succ_of_lt hk_h_1) (rd mem (14 + np + (Int32.toNatClampNeg cu)) 4) (fun f => (cfI_lt hk_h_1 f).trans (kw_b (vp_lt h_1) f)) (t0 := 0) rfl (by unfold vp_in; decide +kernel) (rd_mr2 _ _ _ _ _ (Nat.ne_of_lt hk_h_1)) dX12_isBanned_152 153 rfl ?_
                            refine x_isub X' dX12_isBanned_153 154 rfl ?_
                            refine x_iload_n X' 3 dX12_isBanned_154 rfl rfl 155 rfl ?_
                            refine x_aload X' 0 dX12_isBanned_155 rfl 157 rfl ?_
                            refine x_bipush X' 6 dX12_isBanned_157 rfl 159 rfl ?_
                            refine x_ial2 X' (14 + np + (Int32.toNatClampNeg cu)) (Nat.lt_succ_of_lt hk_h_1) (rd mem (14 + np + (Int32.toNatClampNeg cu)) 6) (fun f => (cfI_lt hk_h_1 f).trans (kw_b (vp_lt h_1) f)) (t0 := 0) rfl (by unfold vp_in; decide +kernel) (rd_mr2 _ _ _ _ _ (Nat.ne_of_lt hk_h_1)) dX12_isBanned_159 160 rfl ?_
                            refine x_isub X' dX12_isBanned_160 161 rfl ?_
                            refine x_imul X' dX12_isBanned_161 162 rfl ?_
                            refine x_if_gt X' hF 167 165 dX12_isBanned_162 (by decide) rfl (fun hF => ?_) (fun hF => ?_)
                            · refine x_goto X' 11 dX12_isBanned_167 (by decide) ?_
                              refine x_keep [1, 2, 3, 4, 5, 6, 7] rfl ?_
                              exact ih cu x1 x2 x3 x4 x5 x6 (cu + 1) hF
                            · refine x_iconst X' 1 dX12_isBanned_165 rfl 166 rfl ?_
                              refine x_back hq ?_
                              exact x_iret X hQ (o_inj hF) rfl rfl (Nat.le_of_ble_eq_true rfl) (Nat.le_of_ble_eq_true rfl) dX12_isBanned_166
                        · refine x_goto X' 11 dX12_isBanned_167 (by decide) ?_
                          refine x_keep [1, 2, 3, 4, 5, 6, 7] rfl ?_
                          exact ih cu x1 x2 x3 x4 x5 x6 (cu + 1) hF
                      · refine x_goto X' 11 dX12_isBanned_167 (by decide) ?_
                        refine x_keep [1, 2, 3, 4, 5, 6, 7] rfl ?_
                        exact ih cu x1 x2 x3 x4 x5 x6 (cu + 1) hF
                  · refine x_aload X' 0 dX12_isBanned_115 rfl 117 rfl ?_
                    refine x_iconst X' 1 dX12_isBanned_117 rfl 118 rfl ?_
                    refine x_ial2 X' (14 + np + (Int32.toNatClampNeg cu)) (Nat.lt_succ_of_lt hk_h_1) (rd mem (14 + np + (Int32.toNatClampNeg cu)) 1) (fun f => (cfI_lt hk_h_1 f).trans (kw_b (vp_lt h_1) f)) (t0 := 0) rfl (by unfold vp_in; decide +kernel) (rd_mr2 _ _ _ _ _ (Nat.ne_of_lt hk_h_1)) dX12_isBanned_118 119 rfl ?_
                    refine x_iconst X' 3 dX12_isBanned_119 rfl 120 rfl ?_
                    refine x_icmp_ne X' hF 167 123 dX12_isBanned_120 (by decide) rfl (fun hF => ?_) (fun hF => ?_)
                    · refine x_iload X' 6 dX12_isBanned_123 rfl 125 rfl ?_
                      refine x_aload X' 0 dX12_isBanned_125 rfl 127 rfl ?_
                      refine x_iconst X' 2 dX12_isBanned_127 rfl 128 rfl ?_
                      refine x_ial2 X' (14 + np + (Int32.toNatClampNeg cu)) (Nat.lt_succ_of_lt hk_h_1) (rd mem (14 + np + (Int32.toNatClampNeg cu)) 2) (fun f => (cfI_lt hk_h_1 f).trans (kw_b (vp_lt h_1) f)) (t0 := 0) rfl (by unfold vp_in; decide +kernel) (rd_mr2 _ _ _ _ _ (Nat.ne_of_lt hk_h_1)) dX12_isBanned_128 129 rfl ?_
                      refine x_icmp_ne X' hF 167 132 dX12_isBanned_129 (by decide) rfl (fun hF => ?_) (fun hF => ?_)
                      · refine x_iload_n X' 2 dX12_isBanned_132 rfl rfl 133 rfl ?_
                        refine x_aload X' 0 dX12_isBanned_133 rfl 135 rfl ?_
                        refine x_iconst X' 3 dX12_isBanned_135 rfl 136 rfl ?_
                        refine x_ial2 X' (14 + np + (Int32.toNatClampNeg cu)) (Nat.lt_succ_of_lt hk_h_1) (rd mem (14 + np + (Int32.toNatClampNeg cu)) 3) (fun f => (cfI_lt hk_h_1 f).trans (kw_b (vp_lt h_1) f)) (t0 := 0) rfl (by unfold vp_in; decide +kernel) (rd_mr2 _ _ _ _ _ (Nat.ne_of_lt hk_h_1)) dX12_isBanned_136 137 rfl ?_
                        refine x_isub X' dX12_isBanned_137 138 rfl ?_
                        refine x_iload_n X' 2 dX12_isBanned_138 rfl rfl 139 rfl ?_
                        refine x_aload X' 0 dX12_isBanned_139 rfl 141 rfl ?_
                        refine x_iconst X' 5 dX12_isBanned_141 rfl 142 rfl ?_
                        refine x_ial2 X' (14 + np + (Int32.toNatClampNeg cu)) (Nat.lt_succ_of_lt hk_h_1) (rd mem (14 + np + (Int32.toNatClampNeg cu)) 5) (fun f => (cfI_lt hk_h_1 f).trans (kw_b (vp_lt h_1) f)) (t0 := 0) rfl (by unfold vp_in; decide +kernel) (rd_mr2 _ _ _ _ _ (Nat.ne_of_lt hk_h_1)) dX12_isBanned_142 143 rfl ?_
                        refine x_isub X' dX12_isBanned_143 144 rfl ?_
                        refine x_imul X' dX12_isBanned_144 145 rfl ?_
                        refine x_if_gt X' hF 167 148 dX12_isBanned_145 (by decide) rfl (fun hF => ?_) (fun hF => ?_)
                        · refine x_goto X' 11 dX12_isBanned_167 (by decide) ?_
                          refine x_keep [1, 2, 3, 4, 5, 6, 7] rfl ?_
                          exact ih cu x1 x2 x3 x4 x5 x6 (cu + 1) hF
                        · refine x_iload_n X' 3 dX12_isBanned_148 rfl rfl 149 rfl ?_
                          refine x_aload X' 0 dX12_isBanned_149 rfl 151 rfl ?_
                          refine x_iconst X' 4 dX12_isBanned_151 rfl 152 rfl ?_
                          refine x_ial2 X' (14 + np + (Int32.toNatClampNeg cu)) (Nat.lt_succ_of_lt hk_h_1) (rd mem (14 + np + (Int32.toNatClampNeg cu)) 4) (fun f => (cfI_lt hk_h_1 f).trans (kw_b (vp_lt h_1) f)) (t0 := 0) rfl (by unfold vp_in; decide +kernel) (rd_mr2 _ _ _ _ _ (Nat.ne_of_lt hk_h_1)) dX12_isBanned_152 153 rfl ?_
                          refine x_isub X' dX12_isBanned_153 154 rfl ?_
                          refine x_iload_n X' 3 dX12_isBanned_154 rfl rfl 155 rfl ?_
                          refine x_aload X' 0 dX12_isBanned_155 rfl 157 rfl ?_
                          refine x_bipush X' 6 dX12_isBanned_157 rfl 159 rfl ?_
                          refine x_ial2 X' (14 + np + (Int32.toNatClampNeg cu)) (Nat.lt_succ_of_lt hk_h_1) (rd mem (14 + np + (Int32.toNatClampNeg cu)) 6) (fun f => (cfI_lt hk_h_1 f).trans (kw_b (vp_lt h_1) f)) (t0 := 0) rfl (by unfold vp_in; decide +kernel) (rd_mr2 _ _ _ _ _ (Nat.ne_of_lt hk_h_1)) dX12_isBanned_159 160 rfl ?_
                          refine x_isub X' dX12_isBanned_160 161 rfl ?_
                          refine x_imul X' dX12_isBanned_161 162 rfl ?_
                          refine x_if_gt X' hF 167 165 dX12_isBanned_162 (by decide) rfl (fun hF => ?_) (fun hF => ?_)
                          · refine x_goto X' 11 dX12_isBanned_167 (by decide) ?_
                            refine x_keep [1, 2, 3, 4, 5, 6, 7] rfl ?_
                            exact ih cu x1 x2 x3 x4 x5 x6 (cu + 1) hF
                          · refine x_iconst X' 1 dX12_isBanned_165 rfl 166 rfl ?_
                            refine x_back hq ?_
                            exact x_iret X hQ (o_inj hF) rfl rfl (Nat.le_of_ble_eq_true rfl) (Nat.le_of_ble_eq_true rfl) dX12_isBanned_166
                      · refine x_goto X' 11 dX12_isBanned_167 (by decide) ?_
                        refine x_keep [1, 2, 3, 4, 5, 6, 7] rfl ?_
                        exact ih cu x1 x2 x3 x4 x5 x6 (cu + 1) hF
                    · refine x_goto X' 11 dX12_isBanned_167 (by decide) ?_
                      refine x_keep [1, 2, 3, 4, 5, 6, 7] rfl ?_
                      exact ih cu x1 x2 x3 x4 x5 x6 (cu + 1) hF
                · refine x_aload X' 0 dX12_isBanned_115 rfl 117 rfl ?_
                  refine x_iconst X' 1 dX12_isBanned_117 rfl 118 rfl ?_
                  refine x_ial2 X' (14 + np + (Int32.toNatClampNeg cu)) (Nat.lt_succ_of_lt hk_h_1) (rd mem (14 + np + (Int32.toNatClampNeg cu)) 1) (fun f => (cfI_lt hk_h_1 f).trans (kw_b (vp_lt h_1) f)) (t0 := 0) rfl (by unfold vp_in; decide +kernel) (rd_mr2 _ _ _ _ _ (Nat.ne_of_lt hk_h_1)) dX12_isBanned_118 119 rfl ?_
                  refine x_iconst X' 3 dX12_isBanned_119 rfl 120 rfl ?_
                  refine x_icmp_ne X' hF 167 123 dX12_isBanned_120 (by decide) rfl (fun hF => ?_) (fun hF => ?_)
                  · refine x_iload X' 6 dX12_isBanned_123 rfl 125 rfl ?_
                    refine x_aload X' 0 dX12_isBanned_125 rfl 127 rfl ?_
                    refine x_iconst X' 2 dX12_isBanned_127 rfl 128 rfl ?_
                    refine x_ial2 X' (14 + np + (Int32.toNatClampNeg cu)) (Nat.lt_succ_of_lt hk_h_1) (rd mem (14 + np + (Int32.toNatClampNeg cu)) 2) (fun f => (cfI_lt hk_h_1 f).trans (kw_b (vp_lt h_1) f)) (t0 := 0) rfl (by unfold vp_in; decide +kernel) (rd_mr2 _ _ _ _ _ (Nat.ne_of_lt hk_h_1)) dX12_isBanned_128 129 rfl ?_
                    refine x_icmp_ne X' hF 167 132 dX12_isBanned_129 (by decide) rfl (fun hF => ?_) (fun hF => ?_)
                    · refine x_iload_n X' 2 dX12_isBanned_132 rfl rfl 133 rfl ?_
                      refine x_aload X' 0 dX12_isBanned_133 rfl 135 rfl ?_
                      refine x_iconst X' 3 dX12_isBanned_135 rfl 136 rfl ?_
                      refine x_ial2 X' (14 + np + (Int32.toNatClampNeg cu)) (Nat.lt_succ_of_lt hk_h_1) (rd mem (14 + np + (Int32.toNatClampNeg cu)) 3) (fun f => (cfI_lt hk_h_1 f).trans (kw_b (vp_lt h_1) f)) (t0 := 0) rfl (by unfold vp_in; decide +kernel) (rd_mr2 _ _ _ _ _ (Nat.ne_of_lt hk_h_1)) dX12_isBanned_136 137 rfl ?_
                      refine x_isub X' dX12_isBanned_137 138 rfl ?_
                      refine x_iload_n X' 2 dX12_isBanned_138 rfl rfl 139 rfl ?_
                      refine x_aload X' 0 dX12_isBanned_139 rfl 141 rfl ?_
                      refine x_iconst X' 5 dX12_isBanned_141 rfl 142 rfl ?_
                      refine x_ial2 X' (14 + np + (Int32.toNatClampNeg cu)) (Nat.lt_succ_of_lt hk_h_1) (rd mem (14 + np + (Int32.toNatClampNeg cu)) 5) (fun f => (cfI_lt hk_h_1 f).trans (kw_b (vp_lt h_1) f)) (t0 := 0) rfl (by unfold vp_in; decide +kernel) (rd_mr2 _ _ _ _ _ (Nat.ne_of_lt hk_h_1)) dX12_isBanned_142 143 rfl ?_
                      refine x_isub X' dX12_isBanned_143 144 rfl ?_
                      refine x_imul X' dX12_isBanned_144 145 rfl ?_
                      refine x_if_gt X' hF 167 148 dX12_isBanned_145 (by decide) rfl (fun hF => ?_) (fun hF => ?_)
                      · refine x_goto X' 11 dX12_isBanned_167 (by decide) ?_
                        refine x_keep [1, 2, 3, 4, 5, 6, 7] rfl ?_
                        exact ih cu x1 x2 x3 x4 x5 x6 (cu + 1) hF
                      · refine x_iload_n X' 3 dX12_isBanned_148 rfl rfl 149 rfl ?_
                        refine x_aload X' 0 dX12_isBanned_149 rfl 151 rfl ?_
                        refine x_iconst X' 4 dX12_isBanned_151 rfl 152 rfl ?_
                        refine x_ial2 X' (14 + np + (Int32.toNatClampNeg cu)) (Nat.lt_succ_of_lt hk_h_1) (rd mem (14 + np + (Int32.toNatClampNeg cu)) 4) (fun f => (cfI_lt hk_h_1 f).trans (kw_b (vp_lt h_1) f)) (t0 := 0) rfl (by unfold vp_in; decide +kernel) (rd_mr2 _ _ _ _ _ (Nat.ne_of_lt hk_h_1)) dX12_isBanned_152 153 rfl ?_
                        refine x_isub X' dX12_isBanned_153 154 rfl ?_
                        refine x_iload_n X' 3 dX12_isBanned_154 rfl rfl 155 rfl ?_
                        refine x_aload X' 0 dX12_isBanned_155 rfl 157 rfl ?_
                        refine x_bipush X' 6 dX12_isBanned_157 rfl 159 rfl ?_
                        refine x_ial2 X' (14 + np + (Int32.toNatClampNeg cu)) (Nat.lt_succ_of_lt hk_h_1) (rd mem (14 + np + (Int32.toNatClampNeg cu)) 6) (fun f => (cfI_lt hk_h_1 f).trans (kw_b (vp_lt h_1) f)) (t0 := 0) rfl (by unfold vp_in; decide +kernel) (rd_mr2 _ _ _ _ _ (Nat.ne_of_lt hk_h_1)) dX12_isBanned_159 160 rfl ?_
                        refine x_isub X' dX12_isBanned_160 161 rfl ?_
                        refine x_imul X' dX12_isBanned_161 162 rfl ?_
                        refine x_if_gt X' hF 167 165 dX12_isBanned_162 (by decide) rfl (fun hF => ?_) (fun hF => ?_)
                        · refine x_goto X' 11 dX12_isBanned_167 (by decide) ?_
                          refine x_keep [1, 2, 3, 4, 5, 6, 7] rfl ?_
                          exact ih cu x1 x2 x3 x4 x5 x6 (cu + 1) hF
                        · refine x_iconst X' 1 dX12_isBanned_165 rfl 166 rfl ?_
                          refine x_back hq ?_
                          exact x_iret X hQ (o_inj hF) rfl rfl (Nat.le_of_ble_eq_true rfl) (Nat.le_of_ble_eq_true rfl) dX12_isBanned_166
                    · refine x_goto X' 11 dX12_isBanned_167 (by decide) ?_
                      refine x_keep [1, 2, 3, 4, 5, 6, 7] rfl ?_
                      exact ih cu x1 x2 x3 x4 x5 x6 (cu + 1) hF
                  · refine x_goto X' 11 dX12_isBanned_167 (by decide) ?_
                    refine x_keep [1, 2, 3, 4, 5, 6, 7] rfl ?_
                    exact ih cu x1 x2 x3 x4 x5 x6 (cu + 1) hF
            · refine x_aload X' 0 dX12_isBanned_82 rfl 84 rfl ?_
              refine x_iconst X' 1 dX12_isBanned_84 rfl 85 rfl ?_
              refine x_ial2 X' (14 + np + (Int32.toNatClampNeg cu)) (Nat.lt_succ_of_lt hk_h_1) (rd mem (14 + np + (Int32.toNatClampNeg cu)) 1) (fun f => (cfI_lt hk_h_1 f).trans (kw_b (vp_lt h_1) f)) (t0 := 0) rfl (by unfold vp_in; decide +kernel) (rd_mr2 _ _ _ _ _ (Nat.ne_of_lt hk_h_1)) dX12_isBanned_85 86 rfl ?_
              refine x_iconst X' 2 dX12_isBanned_86 rfl 87 rfl ?_
              refine x_icmp_ne X' hF 115 90 dX12_isBanned_87 (by decide) rfl (fun hF => ?_) (fun hF => ?_)
              · refine x_iload X' 6 dX12_isBanned_90 rfl 92 rfl ?_
                refine x_aload X' 0 dX12_isBanned_92 rfl 94 rfl ?_
                refine x_iconst X' 2 dX12_isBanned_94 rfl 95 rfl ?_
                refine x_ial2 X' (14 + np + (Int32.toNatClampNeg cu)) (Nat.lt_succ_of_lt hk_h_1) (rd mem (14 + np + (Int32.toNatClampNeg cu)) 2) (fun f => (cfI_lt hk_h_1 f).trans (kw_b (vp_lt h_1) f)) (t0 := 0) rfl (by unfold vp_in; decide +kernel) (rd_mr2 _ _ _ _ _ (Nat.ne_of_lt hk_h_1)) dX12_isBanned_95 96 rfl ?_
                refine x_icmp_ne X' hF 115 99 dX12_isBanned_96 (by decide) rfl (fun hF => ?_) (fun hF => ?_)
                · refine x_iload X' 5 dX12_isBanned_99 rfl 101 rfl ?_
                  refine x_aload X' 0 dX12_isBanned_101 rfl 103 rfl ?_
                  refine x_iconst X' 3 dX12_isBanned_103 rfl 104 rfl ?_
                  refine x_ial2 X' (14 + np + (Int32.toNatClampNeg cu)) (Nat.lt_succ_of_lt hk_h_1) (rd mem (14 + np + (Int32.toNatClampNeg cu)) 3) (fun f => (cfI_lt hk_h_1 f).trans (kw_b (vp_lt h_1) f)) (t0 := 0) rfl (by unfold vp_in; decide +kernel) (rd_mr2 _ _ _ _ _ (Nat.ne_of_lt hk_h_1)) dX12_isBanned_104 105 rfl ?_
                  refine x_gz hF (fun h_7 hF => ?_)
                  refine x_irem X' h_7 dX12_isBanned_105 106 rfl ?_
                  refine x_aload X' 0 dX12_isBanned_106 rfl 108 rfl ?_
                  refine x_iconst X' 4 dX12_isBanned_108 rfl 109 rfl ?_
                  refine x_ial2 X' (14 + np + (Int32.toNatClampNeg cu)) (Nat.lt_succ_of_lt hk_h_1) (rd mem (14 + np + (Int32.toNatClampNeg cu)) 4) (fun f => (cfI_lt hk_h_1 f).trans (kw_b (vp_lt h_1) f)) (t0 := 0) rfl (by unfold vp_in; decide +kernel) (rd_mr2 _ _ _ _ _ (Nat.ne_of_lt hk_h_1)) dX12_isBanned_109 110 rfl ?_
                  refine x_icmp_ne X' hF 115 113 dX12_isBanned_110 (by decide) rfl (fun hF => ?_) (fun hF => ?_)
                  · refine x_iconst X' 1 dX12_isBanned_113 rfl 114 rfl ?_
                    refine x_back hq ?_
                    exact x_iret X hQ (o_inj hF) rfl rfl (Nat.le_of_ble_eq_true rfl) (Nat.le_of_ble_eq_true rfl) dX12_isBanned_114
                  · refine x_aload X' 0 dX12_isBanned_115 rfl 117 rfl ?_
                    refine x_iconst X' 1 dX12_isBanned_117 rfl 118 rfl ?_
                    refine x_ial2 X' (14 + np + (Int32.toNatClampNeg cu)) (Nat.lt_succ_of_lt hk_h_1) (rd mem (14 + np + (Int32.toNatClampNeg cu)) 1) (fun f => (cfI_lt hk_h_1 f).trans (kw_b (vp_lt h_1) f)) (t0 := 0) rfl (by unfold vp_in; decide +kernel) (rd_mr2 _ _ _ _ _ (Nat.ne_of_lt hk_h_1)) dX12_isBanned_118 119 rfl ?_
                    refine x_iconst X' 3 dX12_isBanned_119 rfl 120 rfl ?_
                    refine x_icmp_ne X' hF 167 123 dX12_isBanned_120 (by decide) rfl (fun hF => ?_) (fun hF => ?_)
                    · refine x_iload X' 6 dX12_isBanned_123 rfl 125 rfl ?_
                      refine x_aload X' 0 dX12_isBanned_125 rfl 127 rfl ?_
                      refine x_iconst X' 2 dX12_isBanned_127 rfl 128 rfl ?_
                      refine x_ial2 X' (14 + np + (Int32.toNatClampNeg cu)) (Nat.lt_succ_of_lt hk_h_1) (rd mem (14 + np + (Int32.toNatClampNeg cu)) 2) (fun f => (cfI_lt hk_h_1 f).trans (kw_b (vp_lt h_1) f)) (t0 := 0) rfl (by unfold vp_in; decide +kernel) (rd_mr2 _ _ _ _ _ (Nat.ne_of_lt hk_h_1)) dX12_isBanned_128 129 rfl ?_
                      refine x_icmp_ne X' hF 167 132 dX12_isBanned_129 (by decide) rfl (fun hF => ?_) (fun hF => ?_)
                      · refine x_iload_n X' 2 dX12_isBanned_132 rfl rfl 133 rfl ?_
                        refine x_aload X' 0 dX12_isBanned_133 rfl 135 rfl ?_
                        refine x_iconst X' 3 dX12_isBanned_135 rfl 136 rfl ?_
                        refine x_ial2 X' (14 + np + (Int32.toNatClampNeg cu)) (Nat.lt_succ_of_lt hk_h_1) (rd mem (14 + np + (Int32.toNatClampNeg cu)) 3) (fun f => (cfI_lt hk_h_1 f).trans (kw_b (vp_lt h_1) f)) (t0 := 0) rfl (by unfold vp_in; decide +kernel) (rd_mr2 _ _ _ _ _ (Nat.ne_of_lt hk_h_1)) dX12_isBanned_136 137 rfl ?_
                        refine x_isub X' dX12_isBanned_137 138 rfl ?_
                        refine x_iload_n X' 2 dX12_isBanned_138 rfl rfl 139 rfl ?_
                        refine x_aload X' 0 dX12_isBanned_139 rfl 141 rfl ?_
                        refine x_iconst X' 5 dX12_isBanned_141 rfl 142 rfl ?_
                        refine x_ial2 X' (14 + np + (Int32.toNatClampNeg cu)) (Nat.lt_succ_of_lt hk_h_1) (rd mem (14 + np + (Int32.toNatClampNeg cu)) 5) (fun f => (cfI_lt hk_h_1 f).trans (kw_b (vp_lt h_1) f)) (t0 := 0) rfl (by unfold vp_in; decide +kernel) (rd_mr2 _ _ _ _ _ (Nat.ne_of_lt hk_h_1)) dX12_isBanned_142 143 rfl ?_
                        refine x_isub X' dX12_isBanned_143 144 rfl ?_
                        refine x_imul X' dX12_isBanned_144 145 rfl ?_
                        refine x_if_gt X' hF 167 148 dX12_isBanned_145 (by decide) rfl (fun hF => ?_) (fun hF => ?_)
                        · refine x_goto X' 11 dX12_isBanned_167 (by decide) ?_
                          refine x_keep [1, 2, 3, 4, 5, 6, 7] rfl ?_
                          exact ih cu x1 x2 x3 x4 x5 x6 (cu + 1) hF
                        · refine x_iload_n X' 3 dX12_isBanned_148 rfl rfl 149 rfl ?_
                          refine x_aload X' 0 dX12_isBanned_149 rfl 151 rfl ?_
                          refine x_iconst X' 4 dX12_isBanned_151 rfl 152 rfl ?_
                          refine x_ial2 X' (14 + np + (Int32.toNatClampNeg cu)) (Nat.lt_succ_of_lt hk_h_1) (rd mem (14 + np + (Int32.toNatClampNeg cu)) 4) (fun f => (cfI_lt hk_h_1 f).trans (kw_b (vp_lt h_1) f)) (t0 := 0) rfl (by unfold vp_in; decide +kernel) (rd_mr2 _ _ _ _ _ (Nat.ne_of_lt hk_h_1)) dX12_isBanned_152 153 rfl ?_
                          refine x_isub X' dX12_isBanned_153 154 rfl ?_
                          refine x_iload_n X' 3 dX12_isBanned_154 rfl rfl 155 rfl ?_
                          refine x_aload X' 0 dX12_isBanned_155 rfl 157 rfl ?_
                          refine x_bipush X' 6 dX12_isBanned_157 rfl 159 rfl ?_
                          refine x_ial2 X' (14 + np + (Int32.toNatClampNeg cu)) (Nat.lt_succ_of_lt hk_h_1) (rd mem (14 + np + (Int32.toNatClampNeg cu)) 6) (fun f => (cfI_lt hk_h_1 f).trans (kw_b (vp_lt h_1) f)) (t0 := 0) rfl (by unfold vp_in; decide +kernel) (rd_mr2 _ _ _ _ _ (Nat.ne_of_lt hk_h_1)) dX12_isBanned_159 160 rfl ?_
                          refine x_isub X' dX12_isBanned_160 161 rfl ?_
                          refine x_imul X' dX12_isBanned_161 162 rfl ?_
                          refine x_if_gt X' hF 167 165 dX12_isBanned_162 (by decide) rfl (fun hF => ?_) (fun hF => ?_)
                          · refine x_goto X' 11 dX12_isBanned_167 (by decide) ?_
                            refine x_keep [1, 2, 3, 4, 5, 6, 7] rfl ?_
                            exact ih cu x1 x2 x3 x4 x5 x6 (cu + 1) hF
                          · refine x_iconst X' 1 dX12_isBanned_165 rfl 166 rfl ?_
                            refine x_back hq ?_
                            exact x_iret X hQ (o_inj hF) rfl rfl (Nat.le_of_ble_eq_true rfl) (Nat.le_of_ble_eq_true rfl) dX12_isBanned_166
                      · refine x_goto X' 11 dX12_isBanned_167 (by decide) ?_
                        refine x_keep [1, 2, 3, 4, 5, 6, 7] rfl ?_
                        exact ih cu x1 x2 x3 x4 x5 x6 (cu + 1) hF
                    · refine x_goto X' 11 dX12_isBanned_167 (by decide) ?_
                      refine x_keep [1, 2, 3, 4, 5, 6, 7] rfl ?_
                      exact ih cu x1 x2 x3 x4 x5 x6 (cu + 1) hF
                · refine x_aload X' 0 dX12_isBanned_115 rfl 117 rfl ?_
                  refine x_iconst X' 1 dX12_isBanned_117 rfl 118 rfl ?_
                  refine x_ial2 X' (14 + np + (Int32.toNatClampNeg cu)) (Nat.lt_succ_of_lt hk_h_1) (rd mem (14 + np + (Int32.toNatClampNeg cu)) 1) (fun f => (cfI_lt hk_h_1 f).trans (kw_b (vp_lt h_1) f)) (t0 := 0) rfl (by unfold vp_in; decide +kernel) (rd_mr2 _ _ _ _ _ (Nat.ne_of_lt hk_h_1)) dX12_isBanned_118 119 rfl ?_
                  refine x_iconst X' 3 dX12_isBanned_119 rfl 120 rfl ?_
                  refine x_icmp_ne X' hF 167 123 dX12_isBanned_120 (by decide) rfl (fun hF => ?_) (fun hF => ?_)
                  · refine x_iload X' 6 dX12_isBanned_123 rfl 125 rfl ?_
                    refine x_aload X' 0 dX12_isBanned_125 rfl 127 rfl ?_
                    refine x_iconst X' 2 dX12_isBanned_127 rfl 128 rfl ?_
                    refine x_ial2 X' (14 + np + (Int32.toNatClampNeg cu)) (Nat.lt_succ_of_lt hk_h_1) (rd mem (14 + np + (Int32.toNatClampNeg cu)) 2) (fun f => (cfI_lt hk_h_1 f).trans (kw_b (vp_lt h_1) f)) (t0 := 0) rfl (by unfold vp_in; decide +kernel) (rd_mr2 _ _ _ _ _ (Nat.ne_of_lt hk_h_1)) dX12_isBanned_128 129 rfl ?_
                    refine x_icmp_ne X' hF 167 132 dX12_isBanned_129 (by decide) rfl (fun hF => ?_) (fun hF => ?_)
                    · refine x_iload_n X' 2 dX12_isBanned_132 rfl rfl 133 rfl ?_
                      refine x_aload X' 0 dX12_isBanned_133 rfl 135 rfl ?_
                      refine x_iconst X' 3 dX12_isBanned_135 rfl 136 rfl ?_
                      refine x_ial2 X' (14 + np + (Int32.toNatClampNeg cu)) (Nat.lt_succ_of_lt hk_h_1) (rd mem (14 + np + (Int32.toNatClampNeg cu)) 3) (fun f => (cfI_lt hk_h_1 f).trans (kw_b (vp_lt h_1) f)) (t0 := 0) rfl (by unfold vp_in; decide +kernel) (rd_mr2 _ _ _ _ _ (Nat.ne_of_lt hk_h_1)) dX12_isBanned_136 137 rfl ?_
                      refine x_isub X' dX12_isBanned_137 138 rfl ?_
                      refine x_iload_n X' 2 dX12_isBanned_138 rfl rfl 139 rfl ?_
                      refine x_aload X' 0 dX12_isBanned_139 rfl 141 rfl ?_
                      refine x_iconst X' 5 dX12_isBanned_141 rfl 142 rfl ?_
                      refine x_ial2 X' (14 + np + (Int32.toNatClampNeg cu)) (Nat.lt_succ_of_lt hk_h_1) (rd mem (14 + np + (Int32.toNatClampNeg cu)) 5) (fun f => (cfI_lt hk_h_1 f).trans (kw_b (vp_lt h_1) f)) (t0 := 0) rfl (by unfold vp_in; decide +kernel) (rd_mr2 _ _ _ _ _ (Nat.ne_of_lt hk_h_1)) dX12_isBanned_142 143 rfl ?_
                      refine x_isub X' dX12_isBanned_143 144 rfl ?_
                      refine x_imul X' dX12_isBanned_144 145 rfl ?_
                      refine x_if_gt X' hF 167 148 dX12_isBanned_145 (by decide) rfl (fun hF => ?_) (fun hF => ?_)
                      · refine x_goto X' 11 dX12_isBanned_167 (by decide) ?_
                        refine x_keep [1, 2, 3, 4, 5, 6, 7] rfl ?_
                        exact ih cu x1 x2 x3 x4 x5 x6 (cu + 1) hF
                      · refine x_iload_n X' 3 dX12_isBanned_148 rfl rfl 149 rfl ?_
                        refine x_aload X' 0 dX12_isBanned_149 rfl 151 rfl ?_
                        refine x_iconst X' 4 dX12_isBanned_151 rfl 152 rfl ?_
                        refine x_ial2 X' (14 + np + (Int32.toNatClampNeg cu)) (Nat.lt_succ_of_lt hk_h_1) (rd mem (14 + np + (Int32.toNatClampNeg cu)) 4) (fun f => (cfI_lt hk_h_1 f).trans (kw_b (vp_lt h_1) f)) (t0 := 0) rfl (by unfold vp_in; decide +kernel) (rd_mr2 _ _ _ _ _ (Nat.ne_of_lt hk_h_1)) dX12_isBanned_152 153 rfl ?_
                        refine x_isub X' dX12_isBanned_153 154 rfl ?_
                        refine x_iload_n X' 3 dX12_isBanned_154 rfl rfl 155 rfl ?_
                        refine x_aload X' 0 dX12_isBanned_155 rfl 157 rfl ?_
                        refine x_bipush X' 6 dX12_isBanned_157 rfl 159 rfl ?_
                        refine x_ial2 X' (14 + np + (Int32.toNatClampNeg cu)) (Nat.lt_succ_of_lt hk_h_1) (rd mem (14 + np + (Int32.toNatClampNeg cu)) 6) (fun f => (cfI_lt hk_h_1 f).trans (kw_b (vp_lt h_1) f)) (t0 := 0) rfl (by unfold vp_in; decide +kernel) (rd_mr2 _ _ _ _ _ (Nat.ne_of_lt hk_h_1)) dX12_isBanned_159 160 rfl ?_
                        refine x_isub X' dX12_isBanned_160 161 rfl ?_
                        refine x_imul X' dX12_isBanned_161 162 rfl ?_
                        refine x_if_gt X' hF 167 165 dX12_isBanned_162 (by decide) rfl (fun hF => ?_) (fun hF => ?_)
                        · refine x_goto X' 11 dX12_isBanned_167 (by decide) ?_
                          refine x_keep [1, 2, 3, 4, 5, 6, 7] rfl ?_
                          exact ih cu x1 x2 x3 x4 x5 x6 (cu + 1) hF
                        · refine x_iconst X' 1 dX12_isBanned_165 rfl 166 rfl ?_
                          refine x_back hq ?_
                          exact x_iret X hQ (o_inj hF) rfl rfl (Nat.le_of_ble_eq_true rfl) (Nat.le_of_ble_eq_true rfl) dX12_isBanned_166
                    · refine x_goto X' 11 dX12_isBanned_167 (by decide) ?_
                      refine x_keep [1, 2, 3, 4, 5, 6, 7] rfl ?_
                      exact ih cu x1 x2 x3 x4 x5 x6 (cu + 1) hF
                  · refine x_goto X' 11 dX12_isBanned_167 (by decide) ?_
                    refine x_keep [1, 2, 3, 4, 5, 6, 7] rfl ?_
                    exact ih cu x1 x2 x3 x4 x5 x6 (cu + 1) hF
              · refine x_aload X' 0 dX12_isBanned_115 rfl 117 rfl ?_
                refine x_iconst X' 1 dX12_isBanned_117 rfl 118 rfl ?_
                refine x_ial2 X' (14 + np + (Int32.toNatClampNeg cu)) (Nat.lt_succ_of_lt hk_h_1) (rd mem (14 + np + (Int32.toNatClampNeg cu)) 1) (fun f => (cfI_lt hk_h_1 f).trans (kw_b (vp_lt h_1) f)) (t0 := 0) rfl (by unfold vp_in; decide +kernel) (rd_mr2 _ _ _ _ _ (Nat.ne_of_lt hk_h_1)) dX12_isBanned_118 119 rfl ?_
                refine x_iconst X' 3 dX12_isBanned_119 rfl 120 rfl ?_
                refine x_icmp_ne X' hF 167 123 dX12_isBanned_120 (by decide) rfl (fun hF => ?_) (fun hF => ?_)
                · refine x_iload X' 6 dX12_isBanned_123 rfl 125 rfl ?_
                  refine x_aload X' 0 dX12_isBanned_125 rfl 127 rfl ?_
                  refine x_iconst X' 2 dX12_isBanned_127 rfl 128 rfl ?_
                  refine x_ial2 X' (14 + np + (Int32.toNatClampNeg cu)) (Nat.lt_succ_of_lt hk_h_1) (rd mem (14 + np + (Int32.toNatClampNeg cu)) 2) (fun f => (cfI_lt hk_h_1 f).trans (kw_b (vp_lt h_1) f)) (t0 := 0) rfl (by unfold vp_in; decide +kernel) (rd_mr2 _ _ _ _ _ (Nat.ne_of_lt hk_h_1)) dX12_isBanned_128 129 rfl ?_
                  refine x_icmp_ne X' hF 167 132 dX12_isBanned_129 (by decide) rfl (fun hF => ?_) (fun hF => ?_)
                  · refine x_iload_n X' 2 dX12_isBanned_132 rfl rfl 133 rfl ?_
                    refine x_aload X' 0 dX12_isBanned_133 rfl 135 rfl ?_
                    refine x_iconst X' 3 dX12_isBanned_135 rfl 136 rfl ?_
                    refine x_ial2 X' (14 + np + (Int32.toNatClampNeg cu)) (Nat.lt_succ_of_lt hk_h_1) (rd mem (14 + np + (Int32.toNatClampNeg cu)) 3) (fun f => (cfI_lt hk_h_1 f).trans (kw_b (vp_lt h_1) f)) (t0 := 0) rfl (by unfold vp_in; decide +kernel) (rd_mr2 _ _ _ _ _ (Nat.ne_of_lt hk_h_1)) dX12_isBanned_136 137 rfl ?_
                    refine x_isub X' dX12_isBanned_137 138 rfl ?_
                    refine x_iload_n X' 2 dX12_isBanned_138 rfl rfl 139 rfl ?_
                    refine x_aload X' 0 dX12_isBanned_139 rfl 141 rfl ?_
                    refine x_iconst X' 5 dX12_isBanned_141 rfl 142 rfl ?_
                    refine x_ial2 X' (14 + np + (Int32.toNatClampNeg cu)) (Nat.lt_succ_of_lt hk_h_1) (rd mem (14 + np + (Int32.toNatClampNeg cu)) 5) (fun f => (cfI_lt hk_h_1 f).trans (kw_b (vp_lt h_1) f)) (t0 := 0) rfl (by unfold vp_in; decide +kernel) (rd_mr2 _ _ _ _ _ (Nat.ne_of_lt hk_h_1)) dX12_isBanned_142 143 rfl ?_
                    refine x_isub X' dX12_isBanned_143 144 rfl ?_
                    refine x_imul X' dX12_isBanned_144 145 rfl ?_
                    refine x_if_gt X' hF 167 148 dX12_isBanned_145 (by decide) rfl (fun hF => ?_) (fun hF => ?_)
                    · refine x_goto X' 11 dX12_isBanned_167 (by decide) ?_
                      refine x_keep [1, 2, 3, 4, 5, 6, 7] rfl ?_
                      exact ih cu x1 x2 x3 x4 x5 x6 (cu + 1) hF
                    · refine x_iload_n X' 3 dX12_isBanned_148 rfl rfl 149 rfl ?_
                      refine x_aload X' 0 dX12_isBanned_149 rfl 151 rfl ?_
                      refine x_iconst X' 4 dX12_isBanned_151 rfl 152 rfl ?_
                      refine x_ial2 X' (14 + np + (Int32.toNatClampNeg cu)) (Nat.lt_succ_of_lt hk_h_1) (rd mem (14 + np + (Int32.toNatClampNeg cu)) 4) (fun f => (cfI_lt hk_h_1 f).trans (kw_b (vp_lt h_1) f)) (t0 := 0) rfl (by unfold vp_in; decide +kernel) (rd_mr2 _ _ _ _ _ (Nat.ne_of_lt hk_h_1)) dX12_isBanned_152 153 rfl ?_
                      refine x_isub X' dX12_isBanned_153 154 rfl ?_
                      refine x_iload_n X' 3 dX12_isBanned_154 rfl rfl 155 rfl ?_
                      refine x_aload X' 0 dX12_isBanned_155 rfl 157 rfl ?_
                      refine x_bipush X' 6 dX12_isBanned_157 rfl 159 rfl ?_
                      refine x_ial2 X' (14 + np + (Int32.toNatClampNeg cu)) (Nat.lt_succ_of_lt hk_h_1) (rd mem (14 + np + (Int32.toNatClampNeg cu)) 6) (fun f => (cfI_lt hk_h_1 f).trans (kw_b (vp_lt h_1) f)) (t0 := 0) rfl (by unfold vp_in; decide +kernel) (rd_mr2 _ _ _ _ _ (Nat.ne_of_lt hk_h_1)) dX12_isBanned_159 160 rfl ?_
                      refine x_isub X' dX12_isBanned_160 161 rfl ?_
                      refine x_imul X' dX12_isBanned_161 162 rfl ?_
                      refine x_if_gt X' hF 167 165 dX12_isBanned_162 (by decide) rfl (fun hF => ?_) (fun hF => ?_)
                      · refine x_goto X' 11 dX12_isBanned_167 (by decide) ?_
                        refine x_keep [1, 2, 3, 4, 5, 6, 7] rfl ?_
                        exact ih cu x1 x2 x3 x4 x5 x6 (cu + 1) hF
                      · refine x_iconst X' 1 dX12_isBanned_165 rfl 166 rfl ?_
                        refine x_back hq ?_
                        exact x_iret X hQ (o_inj hF) rfl rfl (Nat.le_of_ble_eq_true rfl) (Nat.le_of_ble_eq_true rfl) dX12_isBanned_166
                  · refine x_goto X' 11 dX12_isBanned_167 (by decide) ?_
                    refine x_keep [1, 2, 3, 4, 5, 6, 7] rfl ?_
                    exact ih cu x1 x2 x3 x4 x5 x6 (cu + 1) hF
                · refine x_goto X' 11 dX12_isBanned_167 (by decide) ?_
                  refine x_keep [1, 2, 3, 4, 5, 6, 7] rfl ?_
                  exact ih cu x1 x2 x3 x4 x5 x6 (cu + 1) hF
        · refine x_goto X' 11 dX12_isBanned_41 (by decide) ?_
          refine x_keep [1, 2, 3, 4, 5, 6, 7] rfl ?_
          exact ih cu x1 x2 x3 x4 x5 x6 (cu + 1) hF
  intro hF
  refine x_aload_n X 0 dX12_isBanned_0 rfl rfl 1 rfl ?_
  refine x_getV (v := .ref (ad 2)) X 0 nw_0 kw_0 (T := TX12) (N := 11) rfl in_X12 6 (by decide) kF_X12_23 rfl rfl dX12_isBanned_1 4 rfl ?_
  refine x_callFn (rm := rmI2) (o := some ()) (F := fun _ => some ()) (res := ()) (fun _ a ws => ws = [(a, eI ad 0 (-1) (rd mem 2 0))]) (fun _ => mem) X hZ rfl [] 2 nw_2 kw_2 (q := ("java/util/ArrayList", TJx4a65c, 3)) rfl rfl kFB_iterator kL_X12_157 ((hW _ _ _ X.2.2.2.2.2).2.2.2.2.1 ("java/util/ArrayList", yI_iterator, yJx4a65c_iterator_32c93) (List.mem_of_getElem? (i := 4) rfl)) (fun _ _ => cw_iter hZ hW) rfl ⟨Nat.le_of_ble_eq_true rfl, Nat.le_of_ble_eq_true rfl⟩ (Nat.le_of_ble_eq_true rfl) ⟨Nat.le_of_ble_eq_true rfl, Nat.le_of_ble_eq_true rfl⟩ dX12_isBanned_4 9 rfl (fun _ q w1 _ hw1 => ?_)
  subst hw1
  rw [List.nil_append]
  refine x_view (gI ad) (itR 0 (-1) (rd mem 2 0) 1) rfl X (fun hq X' => ?_)
  rw [show (Value.ref q) = .ref (adI ad (nW np nb) q (nW np nb)) from by rw [adI_n]]
  refine x_astore X' [(7, .ref (adI ad (nW np nb) q (nW np nb))), (0, .ref (ad 0)), (1, .int x1), (2, .int x2), (3, .int x3), (4, .int x4), (5, .int x5), (6, .int x6)] dX12_isBanned_9 (by decide) rfl 11 rfl ?_
  refine x_keep [2, 3, 4, 5, 6, 7, 0] rfl ?_
  exact w_11 q hq X'  fu (-1) x1 x2 x3 x4 x5 x6 0 hF

def KW_landing (np nb : Nat) (fu : Nat) (x1 : Int32) (x2 : Int32) (mem : Mem) : Option Int32 := gi x1 np ((if 0 < (rd mem (13 + (Int32.toNatClampNeg x1)) 6) then some (-1) else bd (KW_isOver np nb fu  mem) (fun x_2 => (if x_2 = 0 then bd (KW_isBanned np nb fu x1 (rd mem (13 + (Int32.toNatClampNeg x1)) 0) (rd mem (13 + (Int32.toNatClampNeg x1)) 1) (rd mem (13 + (Int32.toNatClampNeg x1)) 5) (rd mem (13 + (Int32.toNatClampNeg x1)) 4) x2 mem) (fun x_3 => (if x_3 = 0 then bd (KW_isOpen np nb fu (rd mem (13 + (Int32.toNatClampNeg x1)) 0) (rd mem (13 + (Int32.toNatClampNeg x1)) 1) x2 mem) (fun x_4 => (if x_4 = 0 then some (-1) else gi x2 4 (lt_ ((rd mem (13 + (Int32.toNatClampNeg x1)) 0) + (dxV (Int32.toNatClampNeg x2))) (fun x_6 => gi x2 4 (lt_ ((rd mem (13 + (Int32.toNatClampNeg x1)) 1) + (dyV (Int32.toNatClampNeg x2))) (fun x_8 => bd (KW_pawnAt np nb fu x_6 x_8 mem) (fun x_9 => (if x_9 < 0 then some ((10 * x_8) + x_6) else bd (KW_isOpen np nb fu x_6 x_8 x2 mem) (fun x_10 => (if x_10 = 0 then some (-1) else gi x2 4 (gi x2 4 (bd (KW_pawnAt np nb fu (x_6 + (dxV (Int32.toNatClampNeg x2))) (x_8 + (dyV (Int32.toNatClampNeg x2))) mem) (fun x_13 => (if x_13 < 0 then gi x2 4 (gi x2 4 (some (((10 * (x_8 + (dyV (Int32.toNatClampNeg x2)))) + x_6) + (dxV (Int32.toNatClampNeg x2))))) else some (-1))))))))))))))) else some (-1))) else some (-1)))))
def rw_landing : Room := { frames := 4, cells := 1, slots := 4, locals := 89 }
theorem rwc_landing : rw_landing.cells = 1 ∧ rw_landing.slots = 4 := ⟨rfl, rfl⟩
set_option maxHeartbeats 4000000 in
set_option maxRecDepth 100000 in
theorem cw_landing (l : Launch) {D : va_G} {ca ad : Nat → Nat} {np nb eD tS sB : Nat} {Z : (Nat → Prop) → State → Heap → Prop} (hZ : ZOK Z) {tA tU L : Nat} {xs : Nat → Int32} (hW : ZWO Z tA tU sB L xs) (hg : np ≤ 4 ∧ nb ≤ 4 ∧ (np = 0 → nb = 0)) (fu : Nat) (x1 : Int32) (x2 : Int32) (mem : Mem) (res : Int32) (hF : KW_landing np nb fu x1 x2 mem = some res) : CJ l D (tyL ca) (nW np nb) ad (cWd ca ad np nb eD tS sB) Z yX12_landing cX12_landing 6 .int rw_landing [.ref (ad 0), .int x1, .int x2] mem res mem := by
  refine xstart_i (own := RX12) rfl (by decide) (Nat.le_of_ble_eq_true rfl) ?_
  intro p e s m args below meth c Q hQ X
  have ec_isBanned := rwc_isBanned
  have ec_isOpen := rwc_isOpen
  have ec_isOver := rwc_isOver
  have ec_pawnAt := rwc_pawnAt
  rw [KW_landing] at hF
  refine x_aload_n X 0 dX12_landing_0 rfl rfl 1 rfl ?_
  refine x_getV (v := .ref (ad 1)) X 0 nw_0 kw_0 (T := TX12) (N := 11) rfl in_X12 5 (by decide) kF_X12_19 rfl rfl dX12_landing_1 4 rfl ?_
  refine x_iload_n X 1 dX12_landing_4 rfl rfl 5 rfl ?_
  refine x_gi hF (fun h_1 hF => ?_)
  refine xw_get X hZ hW hg.1 h_1 kL_X12_193 kCl_X12_169 ⟨Nat.le_of_ble_eq_true rfl, Nat.le_of_ble_eq_true rfl⟩ (Nat.le_of_ble_eq_true rfl) ⟨Nat.le_of_ble_eq_true rfl, Nat.le_of_ble_eq_true rfl⟩ dX12_landing_5 10 rfl dX12_landing_10 13 rfl ?_
  refine x_astore_n X [(3, .ref (ad (13 + (Int32.toNatClampNeg x1)))), (0, .ref (ad 0)), (1, .int x1), (2, .int x2)] dX12_landing_13 rfl (by decide) rfl 14 rfl ?_
  refine x_aload_n X 0 dX12_landing_14 rfl rfl 15 rfl ?_
  refine x_bipush X 6 dX12_landing_15 rfl 17 rfl ?_
  refine x_ial X (13 + (Int32.toNatClampNeg x1)) (nw_p (vp_lt h_1)) (kw_p (vp_lt h_1)) (t0 := 0) rfl (by unfold vp_in; decide +kernel) dX12_landing_17 18 rfl ?_
  refine x_if_gt X hF 63 21 dX12_landing_18 (by decide) rfl (fun hF => ?_) (fun hF => ?_)
  · refine x_iconst X (-1) dX12_landing_63 rfl 64 rfl ?_
    exact x_iret X hQ (o_inj hF) rfl rfl (Nat.le_of_ble_eq_true rfl) (Nat.le_of_ble_eq_true rfl) dX12_landing_64
  · refine x_aload_n X 1 dX12_landing_21 rfl rfl 22 rfl ?_
    refine x_callVi (fun x => x) (fun _ => mem) X hZ hF [] 0 nw_0 kw_0 rfl rfl rfl kB_X12_isOver kL_X12_204 (fun res h => cw_isOver l hZ hW hg fu  mem res h) rfl ⟨Nat.le_of_ble_eq_true rfl, Nat.le_of_ble_eq_true rfl⟩ (Nat.le_of_ble_eq_true rfl) ⟨Nat.le_of_ble_eq_true rfl, Nat.le_of_ble_eq_true rfl⟩ dX12_landing_22 25 rfl (fun x_2 hF => ?_)
    refine x_if_ne X hF 63 28 dX12_landing_25 (by decide) rfl (fun hF => ?_) (fun hF => ?_)
    · refine x_aload_n X 1 dX12_landing_28 rfl rfl 29 rfl ?_
      refine x_iload_n X 2 dX12_landing_29 rfl rfl 30 rfl ?_
      refine x_aload_n X 0 dX12_landing_30 rfl rfl 31 rfl ?_
      refine x_iconst X 0 dX12_landing_31 rfl 32 rfl ?_
      refine x_ial X (13 + (Int32.toNatClampNeg x1)) (nw_p (vp_lt h_1)) (kw_p (vp_lt h_1)) (t0 := 0) rfl (by unfold vp_in; decide +kernel) dX12_landing_32 33 rfl ?_
      refine x_aload_n X 0 dX12_landing_33 rfl rfl 34 rfl ?_
      refine x_iconst X 1 dX12_landing_34 rfl 35 rfl ?_
      refine x_ial X (13 + (Int32.toNatClampNeg x1)) (nw_p (vp_lt h_1)) (kw_p (vp_lt h_1)) (t0 := 0) rfl (by unfold vp_in; decide +kernel) dX12_landing_35 36 rfl ?_
      refine x_aload_n X 0 dX12_landing_36 rfl rfl 37 rfl ?_
      refine x_iconst X 5 dX12_landing_37 rfl 38 rfl ?_
      refine x_ial X (13 + (Int32.toNatClampNeg x1)) (nw_p (vp_lt h_1)) (kw_p (vp_lt h_1)) (t0 := 0) rfl (by unfold vp_in; decide +kernel) dX12_landing_38 39 rfl ?_
      refine x_aload_n X 0 dX12_landing_39 rfl rfl 40 rfl ?_
      refine x_iconst X 4 dX12_landing_40 rfl 41 rfl ?_
      refine x_ial X (13 + (Int32.toNatClampNeg x1)) (nw_p (vp_lt h_1)) (kw_p (vp_lt h_1)) (t0 := 0) rfl (by unfold vp_in; decide +kernel) dX12_landing_41 42 rfl ?_
      refine x_iload_n X 3 dX12_landing_42 rfl rfl 43 rfl ?_
      refine x_callVi (fun x => x) (fun _ => mem) X hZ hF [.int x1, .int (rd mem (13 + (Int32.toNatClampNeg x1)) 0), .int (rd mem (13 + (Int32.toNatClampNeg x1)) 1), .int (rd mem (13 + (Int32.toNatClampNeg x1)) 5), .int (rd mem (13 + (Int32.toNatClampNeg x1)) 4), .int x2] 0 nw_0 kw_0 rfl rfl rfl kB_X12_isBanned kL_X12_207 (fun res h => cw_isBanned l hZ hW hg fu x1 (rd mem (13 + (Int32.toNatClampNeg x1)) 0) (rd mem (13 + (Int32.toNatClampNeg x1)) 1) (rd mem (13 + (Int32.toNatClampNeg x1)) 5) (rd mem (13 + (Int32.toNatClampNeg x1)) 4) x2 mem res h) rfl ⟨Nat.le_of_ble_eq_true rfl, Nat.le_of_ble_eq_true rfl⟩ (Nat.le_of_ble_eq_true rfl) ⟨Nat.le_of_ble_eq_true rfl, Nat.le_of_ble_eq_true rfl⟩ dX12_landing_43 46 rfl (fun x_3 hF => ?_)
      refine x_if_ne X hF 63 49 dX12_landing_46 (by decide) rfl (fun hF => ?_) (fun hF => ?_)
      · refine x_aload_n X 1 dX12_landing_49 rfl rfl 50 rfl ?_
        refine x_aload_n X 0 dX12_landing_50 rfl rfl 51 rfl ?_
        refine x_iconst X 0 dX12_landing_51 rfl 52 rfl ?_
        refine x_ial X (13 + (Int32.toNatClampNeg x1)) (nw_p (vp_lt h_1)) (kw_p (vp_lt h_1)) (t0 := 0) rfl (by unfold vp_in; decide +kernel) dX12_landing_52 53 rfl ?_
        refine x_aload_n X 0 dX12_landing_53 rfl rfl 54 rfl ?_
        refine x_iconst X 1 dX12_landing_54 rfl 55 rfl ?_
        refine x_ial X (13 + (Int32.toNatClampNeg x1)) (nw_p (vp_lt h_1)) (kw_p (vp_lt h_1)) (t0 := 0) rfl (by unfold vp_in; decide +kernel) dX12_landing_55 56 rfl ?_
        refine x_iload_n X 3 dX12_landing_56 rfl rfl 57 rfl ?_
        refine x_callVi (fun x => x) (fun _ => mem) X hZ hF [.int (rd mem (13 + (Int32.toNatClampNeg x1)) 0), .int (rd mem (13 + (Int32.toNatClampNeg x1)) 1), .int x2] 0 nw_0 kw_0 rfl rfl rfl kB_X12_isOpen kL_X12_190 (fun res h => cw_isOpen l hZ hW hg fu (rd mem (13 + (Int32.toNatClampNeg x1)) 0) (rd mem (13 + (Int32.toNatClampNeg x1)) 1) x2 mem res h) rfl ⟨Nat.le_of_ble_eq_true rfl, Nat.le_of_ble_eq_true rfl⟩ (Nat.le_of_ble_eq_true rfl) ⟨Nat.le_of_ble_eq_true rfl, Nat.le_of_ble_eq_true rfl⟩ dX12_landing_57 60 rfl (fun x_4 hF => ?_)
        refine x_if_ne X hF 65 63 dX12_landing_60 (by decide) rfl (fun hF => ?_) (fun hF => ?_)
        · refine x_iconst X (-1) dX12_landing_63 rfl 64 rfl ?_
          exact x_iret X hQ (o_inj hF) rfl rfl (Nat.le_of_ble_eq_true rfl) (Nat.le_of_ble_eq_true rfl) dX12_landing_64
        · refine x_aload_n X 0 dX12_landing_65 rfl rfl 66 rfl ?_
          refine x_iconst X 0 dX12_landing_66 rfl 67 rfl ?_
          refine x_ial X (13 + (Int32.toNatClampNeg x1)) (nw_p (vp_lt h_1)) (kw_p (vp_lt h_1)) (t0 := 0) rfl (by unfold vp_in; decide +kernel) dX12_landing_67 68 rfl ?_
          refine x_acr X hW (List.mem_of_getElem? (i := 0) rfl) dX12_landing_68 71 rfl ?_
          refine x_iload_n X 3 dX12_landing_71 rfl rfl 72 rfl ?_
          refine x_gi hF (fun h_5 hF => ?_)
          refine x_acl X hW h_5 dX12_landing_72 73 rfl ?_
          refine x_iadd X dX12_landing_73 74 rfl ?_
          refine x_let hF (fun x_6 hF => ?_)
          refine x_istore X [(4, .int x_6), (3, .ref (ad (13 + (Int32.toNatClampNeg x1)))), (0, .ref (ad 0)), (1, .int x1), (2, .int x2)] dX12_landing_74 (by decide) rfl 76 rfl ?_
          refine x_aload_n X 1 dX12_landing_76 rfl rfl 77 rfl ?_
          refine x_iconst X 1 dX12_landing_77 rfl 78 rfl ?_
          refine x_ial X (13 + (Int32.toNatClampNeg x1)) (nw_p (vp_lt h_1)) (kw_p (vp_lt h_1)) (t0 := 0) rfl (by unfold vp_in; decide +kernel) dX12_landing_78 79 rfl ?_
          refine x_ups X hW (List.mem_of_getElem? (i := 1) rfl) dX12_landing_79 82 rfl ?_
          refine x_iload_n X 4 dX12_landing_82 rfl rfl 83 rfl ?_
          refine x_gi hF (fun h_7 hF => ?_)
          refine x_upl X hW h_7 dX12_landing_83 84 rfl ?_
          refine x_iadd X dX12_landing_84 85 rfl ?_
          refine x_let hF (fun x_8 hF => ?_)
          refine x_istore X [(5, .int x_8), (4, .int x_6), (3, .ref (ad (13 + (Int32.toNatClampNeg x1)))), (0, .ref (ad 0)), (1, .int x1), (2, .int x2)] dX12_landing_85 (by decide) rfl 87 rfl ?_
          refine x_aload_n X 3 dX12_landing_87 rfl rfl 88 rfl ?_
          refine x_iload X 1 dX12_landing_88 rfl 90 rfl ?_
          refine x_iload X 0 dX12_landing_90 rfl 92 rfl ?_
          refine x_callVi (fun x => x) (fun _ => mem) X hZ hF [.int x_6, .int x_8] 0 nw_0 kw_0 rfl rfl rfl kB_X12_pawnAt kL_X12_96 (fun res h => cw_pawnAt l hZ hW hg fu x_6 x_8 mem res h) rfl ⟨Nat.le_of_ble_eq_true rfl, Nat.le_of_ble_eq_true rfl⟩ (Nat.le_of_ble_eq_true rfl) ⟨Nat.le_of_ble_eq_true rfl, Nat.le_of_ble_eq_true rfl⟩ dX12_landing_92 95 rfl (fun x_9 hF => ?_)
          refine x_if_ge X hF 107 98 dX12_landing_95 (by decide) rfl (fun hF => ?_) (fun hF => ?_)
          · refine x_bipush X 10 dX12_landing_98 rfl 100 rfl ?_
            refine x_iload X 0 dX12_landing_100 rfl 102 rfl ?_
            refine x_imul X dX12_landing_102 103 rfl ?_
            refine x_iload X 1 dX12_landing_103 rfl 105 rfl ?_
            refine x_iadd X dX12_landing_105 106 rfl ?_
            exact x_iret X hQ (o_inj hF) rfl rfl (Nat.le_of_ble_eq_true rfl) (Nat.le_of_ble_eq_true rfl) dX12_landing_106
          · refine x_aload_n X 3 dX12_landing_107 rfl rfl 108 rfl ?_
            refine x_iload X 1 dX12_landing_108 rfl 110 rfl ?_
            refine x_iload X 0 dX12_landing_110 rfl 112 rfl ?_
            refine x_iload_n X 5 dX12_landing_112 rfl rfl 113 rfl ?_
            refine x_callVi (fun x => x) (fun _ => mem) X hZ hF [.int x_6, .int x_8, .int x2] 0 nw_0 kw_0 rfl rfl rfl kB_X12_isOpen kL_X12_190 (fun res h => cw_isOpen l hZ hW hg fu x_6 x_8 x2 mem res h) rfl ⟨Nat.le_of_ble_eq_true rfl, Nat.le_of_ble_eq_true rfl⟩ (Nat.le_of_ble_eq_true rfl) ⟨Nat.le_of_ble_eq_true rfl, Nat.le_of_ble_eq_true rfl⟩ dX12_landing_113 116 rfl (fun x_10 hF => ?_)
            refine x_if_eq X hF 142 119 dX12_landing_116 (by decide) rfl (fun hF => ?_) (fun hF => ?_)
            · refine x_iconst X (-1) dX12_landing_142 rfl 143 rfl ?_
              exact x_iret X hQ (o_inj hF) rfl rfl (Nat.le_of_ble_eq_true rfl) (Nat.le_of_ble_eq_true rfl) dX12_landing_143
            · refine x_aload_n X 3 dX12_landing_119 rfl rfl 120 rfl ?_
              refine x_iload X 1 dX12_landing_120 rfl 122 rfl ?_
              refine x_acr X hW (List.mem_of_getElem? (i := 0) rfl) dX12_landing_122 125 rfl ?_
              refine x_iload_n X 5 dX12_landing_125 rfl rfl 126 rfl ?_
              refine x_gi hF (fun h_11 hF => ?_)
              refine x_acl X hW h_11 dX12_landing_126 127 rfl ?_
              refine x_iadd X dX12_landing_127 128 rfl ?_
              refine x_iload X 0 dX12_landing_128 rfl 130 rfl ?_
              refine x_ups X hW (List.mem_of_getElem? (i := 1) rfl) dX12_landing_130 133 rfl ?_
              refine x_iload_n X 5 dX12_landing_133 rfl rfl 134 rfl ?_
              refine x_gi hF (fun h_12 hF => ?_)
              refine x_upl X hW h_12 dX12_landing_134 135 rfl ?_
              refine x_iadd X dX12_landing_135 136 rfl ?_
              refine x_callVi (fun x => x) (fun _ => mem) X hZ hF [.int (x_6 + (dxV (Int32.toNatClampNeg x2))), .int (x_8 + (dyV (Int32.toNatClampNeg x2)))] 0 nw_0 kw_0 rfl rfl rfl kB_X12_pawnAt kL_X12_96 (fun res h => cw_pawnAt l hZ hW hg fu (x_6 + (dxV (Int32.toNatClampNeg x2))) (x_8 + (dyV (Int32.toNatClampNeg x2))) mem res h) rfl ⟨Nat.le_of_ble_eq_true rfl, Nat.le_of_ble_eq_true rfl⟩ (Nat.le_of_ble_eq_true rfl) ⟨Nat.le_of_ble_eq_true rfl, Nat.le_of_ble_eq_true rfl⟩ dX12_landing_136 139 rfl (fun x_13 hF => ?_)
              refine x_if_lt X hF 144 142 dX12_landing_139 (by decide) rfl (fun hF => ?_) (fun hF => ?_)
              · refine x_bipush X 10 dX12_landing_144 rfl 146 rfl ?_
                refine x_iload X 0 dX12_landing_146 rfl 148 rfl ?_
                refine x_ups X hW (List.mem_of_getElem? (i := 1) rfl) dX12_landing_148 151 rfl ?_
                refine x_iload_n X 5 dX12_landing_151 rfl rfl 152 rfl ?_
                refine x_gi hF (fun h_14 hF => ?_)
                refine x_upl X hW h_14 dX12_landing_152 153 rfl ?_
                refine x_iadd X dX12_landing_153 154 rfl ?_
                refine x_imul X dX12_landing_154 155 rfl ?_
                refine x_iload X 1 dX12_landing_155 rfl 157 rfl ?_
                refine x_iadd X dX12_landing_157 158 rfl ?_
                refine x_acr X hW (List.mem_of_getElem? (i := 0) rfl) dX12_landing_158 161 rfl ?_
                refine x_iload_n X 5 dX12_landing_161 rfl rfl 162 rfl ?_
                refine x_gi hF (fun h_15 hF => ?_)
                refine x_acl X hW h_15 dX12_landing_162 163 rfl ?_
                refine x_iadd X dX12_landing_163 164 rfl ?_
                exact x_iret X hQ (o_inj hF) rfl rfl (Nat.le_of_ble_eq_true rfl) (Nat.le_of_ble_eq_true rfl) dX12_landing_164
              · refine x_iconst X (-1) dX12_landing_142 rfl 143 rfl ?_
                exact x_iret X hQ (o_inj hF) rfl rfl (Nat.le_of_ble_eq_true rfl) (Nat.le_of_ble_eq_true rfl) dX12_landing_143
      · refine x_iconst X (-1) dX12_landing_63 rfl 64 rfl ?_
        exact x_iret X hQ (o_inj hF) rfl rfl (Nat.le_of_ble_eq_true rfl) (Nat.le_of_ble_eq_true rfl) dX12_landing_64
    · refine x_iconst X (-1) dX12_landing_63 rfl 64 rfl ?_
      exact x_iret X hQ (o_inj hF) rfl rfl (Nat.le_of_ble_eq_true rfl) (Nat.le_of_ble_eq_true rfl) dX12_landing_64

def KW_step (np nb : Nat) (fu : Nat) (x1 : Int32) (mem : Mem) : Option (Int32 × Mem) := gi (rd mem 0 4) np (bd (KW_landing np nb fu (rd mem 0 4) x1 mem) (fun x_2 => lt_ (mw mem (13 + (Int32.toNatClampNeg (rd mem 0 4))) 0 (x_2 - x_2 / 10 * 10)) (fun m_3 => lt_ (mw m_3 (13 + (Int32.toNatClampNeg (rd mem 0 4))) 1 (x_2 / 10)) (fun m_4 => lt_ (mw m_4 (13 + (Int32.toNatClampNeg (rd mem 0 4))) 4 ((rd m_4 (13 + (Int32.toNatClampNeg (rd mem 0 4))) 4) + 1)) (fun m_5 => lt_ (mw m_5 (13 + (Int32.toNatClampNeg (rd mem 0 4))) 5 x1) (fun m_6 => bd (KW_isAtSide np nb fu (rd m_6 (13 + (Int32.toNatClampNeg (rd mem 0 4))) 0) (rd m_6 (13 + (Int32.toNatClampNeg (rd mem 0 4))) 1) (rd m_6 (13 + (Int32.toNatClampNeg (rd mem 0 4))) 2) m_6) (fun x_7 => (if x_7 = 0 then bd (KW_endTurn np nb fu  m_6) (fun m_8 => bd (KW_distance np nb fu (rd mem 0 4) m_8) (fun x_9 => some (x_9, m_8))) else lt_ (mw m_6 0 3 ((rd m_6 0 3) + 1)) (fun m_10 => lt_ (mw m_10 (13 + (Int32.toNatClampNeg (rd mem 0 4))) 6 ((rd m_6 0 3) + 1)) (fun m_11 => bd (KW_endTurn np nb fu  m_11) (fun m_12 => bd (KW_distance np nb fu (rd mem 0 4) m_12) (fun x_13 => some (x_13, m_12)))))))))))))
def rw_step : Room := { frames := 5, cells := 10, slots := 76, locals := 116 }
theorem rwc_step : rw_step.cells = 10 ∧ rw_step.slots = 76 := ⟨rfl, rfl⟩
set_option maxHeartbeats 4000000 in
set_option maxRecDepth 100000 in
theorem cw_step (l : Launch) {D : va_G} {ca ad : Nat → Nat} {np nb eD tS sB : Nat} {Z : (Nat → Prop) → State → Heap → Prop} (hZ : ZOK Z) {tA tU L : Nat} {xs : Nat → Int32} (hW : ZWO Z tA tU sB L xs) (hg : np ≤ 4 ∧ nb ≤ 4 ∧ (np = 0 → nb = 0)) (fu : Nat) (x1 : Int32) (mem : Mem) (res : (Int32 × Mem)) (hF : KW_step np nb fu x1 mem = some res) : CJ l D (tyL ca) (nW np nb) ad (cWd ca ad np nb eD tS sB) Z yX12_step cX12_step 5 .int rw_step [.ref (ad 0), .int x1] mem res.1 res.2 := by
  refine xstart_i (own := RX12) rfl (by decide) (Nat.le_of_ble_eq_true rfl) ?_
  intro p e s m args below meth c Q hQ X
  have ec_distance := rwc_distance
  have ec_endTurn := rwc_endTurn
  have ec_isAtSide := rwc_isAtSide
  have ec_landing := rwc_landing
  rw [KW_step] at hF
  refine x_aload_n X 0 dX12_step_0 rfl rfl 1 rfl ?_
  refine x_getV (v := .int (rd mem 0 4)) X 0 nw_0 kw_0 (T := TX12) (N := 11) rfl in_X12 4 (by decide) kF_X12_154 rfl rfl dX12_step_1 4 rfl ?_
  refine x_istore_n X [(2, .int (rd mem 0 4)), (0, .ref (ad 0)), (1, .int x1)] dX12_step_4 rfl (by decide) rfl 5 rfl ?_
  refine x_aload_n X 1 dX12_step_5 rfl rfl 6 rfl ?_
  refine x_getV (v := .ref (ad 1)) X 0 nw_0 kw_0 (T := TX12) (N := 11) rfl in_X12 5 (by decide) kF_X12_19 rfl rfl dX12_step_6 9 rfl ?_
  refine x_iload_n X 0 dX12_step_9 rfl rfl 10 rfl ?_
  refine x_gi hF (fun h_1 hF => ?_)
  refine xw_get X hZ hW hg.1 h_1 kL_X12_193 kCl_X12_169 ⟨Nat.le_of_ble_eq_true rfl, Nat.le_of_ble_eq_true rfl⟩ (Nat.le_of_ble_eq_true rfl) ⟨Nat.le_of_ble_eq_true rfl, Nat.le_of_ble_eq_true rfl⟩ dX12_step_10 15 rfl dX12_step_15 18 rfl ?_
  refine x_astore_n X [(3, .ref (ad (13 + (Int32.toNatClampNeg (rd mem 0 4))))), (2, .int (rd mem 0 4)), (0, .ref (ad 0)), (1, .int x1)] dX12_step_18 rfl (by decide) rfl 19 rfl ?_
  refine x_aload_n X 2 dX12_step_19 rfl rfl 20 rfl ?_
  refine x_iload_n X 1 dX12_step_20 rfl rfl 21 rfl ?_
  refine x_iload_n X 3 dX12_step_21 rfl rfl 22 rfl ?_
  refine x_callVi (fun x => x) (fun _ => mem) X hZ hF [.int (rd mem 0 4), .int x1] 0 nw_0 kw_0 rfl rfl rfl kB_X12_landing kL_X12_211 (fun res h => cw_landing l hZ hW hg fu (rd mem 0 4) x1 mem res h) rfl ⟨Nat.le_of_ble_eq_true rfl, Nat.le_of_ble_eq_true rfl⟩ (Nat.le_of_ble_eq_true rfl) ⟨Nat.le_of_ble_eq_true rfl, Nat.le_of_ble_eq_true rfl⟩ dX12_step_22 25 rfl (fun x_2 hF => ?_)
  refine x_istore X [(4, .int x_2), (3, .ref (ad (13 + (Int32.toNatClampNeg (rd mem 0 4))))), (2, .int (rd mem 0 4)), (0, .ref (ad 0)), (1, .int x1)] dX12_step_25 (by decide) rfl 27 rfl ?_
  refine x_aload_n X 1 dX12_step_27 rfl rfl 28 rfl ?_
  refine x_iconst X 0 dX12_step_28 rfl 29 rfl ?_
  refine x_iload X 0 dX12_step_29 rfl 31 rfl ?_
  refine x_bipush X 10 dX12_step_31 rfl 33 rfl ?_
  refine x_irem X (by decide) dX12_step_33 34 rfl ?_
  refine x_ias X (13 + (Int32.toNatClampNeg (rd mem 0 4))) (nw_p (vp_lt h_1)) (kw_p (vp_lt h_1)) (t0 := 0) rfl (by unfold vp_in; decide +kernel) dX12_step_34 35 rfl ?_
  refine x_letm hF (fun m_3 hF => ?_)
  refine x_aload_n X 1 dX12_step_35 rfl rfl 36 rfl ?_
  refine x_iconst X 1 dX12_step_36 rfl 37 rfl ?_
  refine x_iload X 0 dX12_step_37 rfl 39 rfl ?_
  refine x_bipush X 10 dX12_step_39 rfl 41 rfl ?_
  refine x_idiv X (by decide) dX12_step_41 42 rfl ?_
  refine x_ias X (13 + (Int32.toNatClampNeg (rd mem 0 4))) (nw_p (vp_lt h_1)) (kw_p (vp_lt h_1)) (t0 := 0) rfl (by unfold vp_in; decide +kernel) dX12_step_42 43 rfl ?_
  refine x_letm hF (fun m_4 hF => ?_)
  refine x_aload_n X 1 dX12_step_43 rfl rfl 44 rfl ?_
  refine x_iconst X 4 dX12_step_44 rfl 45 rfl ?_
  refine x_dup2 X dX12_step_45 rfl rfl 46 rfl ?_
  refine x_ial X (13 + (Int32.toNatClampNeg (rd mem 0 4))) (nw_p (vp_lt h_1)) (kw_p (vp_lt h_1)) (t0 := 0) rfl (by unfold vp_in; decide +kernel) dX12_step_46 47 rfl ?_
  refine x_iconst X 1 dX12_step_47 rfl 48 rfl ?_
  refine x_iadd X dX12_step_48 49 rfl ?_
  refine x_ias X (13 + (Int32.toNatClampNeg (rd mem 0 4))) (nw_p (vp_lt h_1)) (kw_p (vp_lt h_1)) (t0 := 0) rfl (by unfold vp_in; decide +kernel) dX12_step_49 50 rfl ?_
  refine x_letm hF (fun m_5 hF => ?_)
  refine x_aload_n X 1 dX12_step_50 rfl rfl 51 rfl ?_
  refine x_iconst X 5 dX12_step_51 rfl 52 rfl ?_
  refine x_iload_n X 4 dX12_step_52 rfl rfl 53 rfl ?_
  refine x_ias X (13 + (Int32.toNatClampNeg (rd mem 0 4))) (nw_p (vp_lt h_1)) (kw_p (vp_lt h_1)) (t0 := 0) rfl (by unfold vp_in; decide +kernel) dX12_step_53 54 rfl ?_
  refine x_letm hF (fun m_6 hF => ?_)
  refine x_aload_n X 3 dX12_step_54 rfl rfl 55 rfl ?_
  refine x_aload_n X 1 dX12_step_55 rfl rfl 56 rfl ?_
  refine x_iconst X 0 dX12_step_56 rfl 57 rfl ?_
  refine x_ial X (13 + (Int32.toNatClampNeg (rd mem 0 4))) (nw_p (vp_lt h_1)) (kw_p (vp_lt h_1)) (t0 := 0) rfl (by unfold vp_in; decide +kernel) dX12_step_57 58 rfl ?_
  refine x_aload_n X 1 dX12_step_58 rfl rfl 59 rfl ?_
  refine x_iconst X 1 dX12_step_59 rfl 60 rfl ?_
  refine x_ial X (13 + (Int32.toNatClampNeg (rd mem 0 4))) (nw_p (vp_lt h_1)) (kw_p (vp_lt h_1)) (t0 := 0) rfl (by unfold vp_in; decide +kernel) dX12_step_60 61 rfl ?_
  refine x_aload_n X 1 dX12_step_61 rfl rfl 62 rfl ?_
  refine x_iconst X 2 dX12_step_62 rfl 63 rfl ?_
  refine x_ial X (13 + (Int32.toNatClampNeg (rd mem 0 4))) (nw_p (vp_lt h_1)) (kw_p (vp_lt h_1)) (t0 := 0) rfl (by unfold vp_in; decide +kernel) dX12_step_63 64 rfl ?_
  refine x_callVi (fun x => x) (fun _ => m_6) X hZ hF [.int (rd m_6 (13 + (Int32.toNatClampNeg (rd mem 0 4))) 0), .int (rd m_6 (13 + (Int32.toNatClampNeg (rd mem 0 4))) 1), .int (rd m_6 (13 + (Int32.toNatClampNeg (rd mem 0 4))) 2)] 0 nw_0 kw_0 rfl rfl rfl kB_X12_isAtSide kL_X12_100 (fun res h => cw_isAtSide l hZ hW hg fu (rd m_6 (13 + (Int32.toNatClampNeg (rd mem 0 4))) 0) (rd m_6 (13 + (Int32.toNatClampNeg (rd mem 0 4))) 1) (rd m_6 (13 + (Int32.toNatClampNeg (rd mem 0 4))) 2) m_6 res h) rfl ⟨Nat.le_of_ble_eq_true rfl, Nat.le_of_ble_eq_true rfl⟩ (Nat.le_of_ble_eq_true rfl) ⟨Nat.le_of_ble_eq_true rfl, Nat.le_of_ble_eq_true rfl⟩ dX12_step_64 67 rfl (fun x_7 hF => ?_)
  refine x_if_eq X hF 85 70 dX12_step_67 (by decide) rfl (fun hF => ?_) (fun hF => ?_)
  · refine x_aload_n X 3 dX12_step_85 rfl rfl 86 rfl ?_
    refine x_callVv (fun m => m) X hZ hF [] 0 nw_0 kw_0 rfl rfl rfl kB_X12_endTurn kL_X12_214 (fun res h => cw_endTurn l hZ hW hg fu  m_6 res h) rfl ⟨Nat.le_of_ble_eq_true rfl, Nat.le_of_ble_eq_true rfl⟩ (Nat.le_of_ble_eq_true rfl) ⟨Nat.le_of_ble_eq_true rfl, Nat.le_of_ble_eq_true rfl⟩ dX12_step_86 89 rfl (fun m_8 hF => ?_)
    refine x_aload_n X 3 dX12_step_89 rfl rfl 90 rfl ?_
    refine x_iload_n X 2 dX12_step_90 rfl rfl 91 rfl ?_
    refine x_callVi (fun x => x) (fun _ => m_8) X hZ hF [.int (rd mem 0 4)] 0 nw_0 kw_0 rfl rfl rfl kB_X12_distance kL_X12_201 (fun res h => cw_distance l hZ hW hg fu (rd mem 0 4) m_8 res h) rfl ⟨Nat.le_of_ble_eq_true rfl, Nat.le_of_ble_eq_true rfl⟩ (Nat.le_of_ble_eq_true rfl) ⟨Nat.le_of_ble_eq_true rfl, Nat.le_of_ble_eq_true rfl⟩ dX12_step_91 94 rfl (fun x_9 hF => ?_)
    exact x_iret X hQ (o_inj1 hF) (o_inj2 hF) rfl (Nat.le_of_ble_eq_true rfl) (Nat.le_of_ble_eq_true rfl) dX12_step_94
  · refine x_aload_n X 1 dX12_step_70 rfl rfl 71 rfl ?_
    refine x_bipush X 6 dX12_step_71 rfl 73 rfl ?_
    refine x_aload_n X 3 dX12_step_73 rfl rfl 74 rfl ?_
    refine x_dup X dX12_step_74 rfl 75 rfl ?_
    refine x_getV (v := .int (rd m_6 0 3)) X 0 nw_0 kw_0 (T := TX12) (N := 11) rfl in_X12 3 (by decide) kF_X12_151 rfl rfl dX12_step_75 78 rfl ?_
    refine x_iconst X 1 dX12_step_78 rfl 79 rfl ?_
    refine x_iadd X dX12_step_79 80 rfl ?_
    refine x_dup_x1 X dX12_step_80 rfl rfl 81 rfl ?_
    refine x_putI X 0 nw_0 kw_0 (T := TX12) (N := 11) rfl in_X12 tyX12 tyX12_ok nmX12 3 (by decide) kF_X12_151 rfl rfl rfl rfl (Nat.le_of_ble_eq_true rfl) rfl dX12_step_81 84 rfl ?_
    refine x_letm hF (fun m_10 hF => ?_)
    refine x_ias X (13 + (Int32.toNatClampNeg (rd mem 0 4))) (nw_p (vp_lt h_1)) (kw_p (vp_lt h_1)) (t0 := 0) rfl (by unfold vp_in; decide +kernel) dX12_step_84 85 rfl ?_
    refine x_letm hF (fun m_11 hF => ?_)
    refine x_aload_n X 3 dX12_step_85 rfl rfl 86 rfl ?_
    refine x_callVv (fun m => m) X hZ hF [] 0 nw_0 kw_0 rfl rfl rfl kB_X12_endTurn kL_X12_214 (fun res h => cw_endTurn l hZ hW hg fu  m_11 res h) rfl ⟨Nat.le_of_ble_eq_true rfl, Nat.le_of_ble_eq_true rfl⟩ (Nat.le_of_ble_eq_true rfl) ⟨Nat.le_of_ble_eq_true rfl, Nat.le_of_ble_eq_true rfl⟩ dX12_step_86 89 rfl (fun m_12 hF => ?_)
    refine x_aload_n X 3 dX12_step_89 rfl rfl 90 rfl ?_
    refine x_iload_n X 2 dX12_step_90 rfl rfl 91 rfl ?_
    refine x_callVi (fun x => x) (fun _ => m_12) X hZ hF [.int (rd mem 0 4)] 0 nw_0 kw_0 rfl rfl rfl kB_X12_distance kL_X12_201 (fun res h => cw_distance l hZ hW hg fu (rd mem 0 4) m_12 res h) rfl ⟨Nat.le_of_ble_eq_true rfl, Nat.le_of_ble_eq_true rfl⟩ (Nat.le_of_ble_eq_true rfl) ⟨Nat.le_of_ble_eq_true rfl, Nat.le_of_ble_eq_true rfl⟩ dX12_step_91 94 rfl (fun x_13 hF => ?_)
    exact x_iret X hQ (o_inj1 hF) (o_inj2 hF) rfl (Nat.le_of_ble_eq_true rfl) (Nat.le_of_ble_eq_true rfl) dX12_step_94

def KW_build (np nb : Nat) (fu : Nat) (x1 : Int32) (x2 : Int32) (x3 : Int32) (mem : Mem) : Option (Int32 × Mem) := gi (rd mem 0 4) np (gi x2 8 (gi x1 8 (lt_ (mw mem (4 + (Int32.toNatClampNeg x2)) (Int32.toNatClampNeg x1) x3) (fun m_4 => lt_ (mw m_4 (13 + (Int32.toNatClampNeg (rd mem 0 4))) 3 ((rd m_4 (13 + (Int32.toNatClampNeg (rd mem 0 4))) 3) - 1)) (fun m_5 => bd (KW_endTurn np nb fu  m_5) (fun m_6 => some ((rd m_6 (13 + (Int32.toNatClampNeg (rd mem 0 4))) 3), m_6)))))))
def rw_build : Room := { frames := 4, cells := 0, slots := 0, locals := 86 }
theorem rwc_build : rw_build.cells = 0 ∧ rw_build.slots = 0 := ⟨rfl, rfl⟩
set_option maxHeartbeats 4000000 in
set_option maxRecDepth 100000 in
theorem cw_build (l : Launch) {D : va_G} {ca ad : Nat → Nat} {np nb eD tS sB : Nat} {Z : (Nat → Prop) → State → Heap → Prop} (hZ : ZOK Z) {tA tU L : Nat} {xs : Nat → Int32} (hW : ZWO Z tA tU sB L xs) (hg : np ≤ 4 ∧ nb ≤ 4 ∧ (np = 0 → nb = 0)) (fu : Nat) (x1 : Int32) (x2 : Int32) (x3 : Int32) (mem : Mem) (res : (Int32 × Mem)) (hF : KW_build np nb fu x1 x2 x3 mem = some res) : CJ l D (tyL ca) (nW np nb) ad (cWd ca ad np nb eD tS sB) Z yX12_build cX12_build 5 .int rw_build [.ref (ad 0), .int x1, .int x2, .int x3] mem res.1 res.2 := by
  refine xstart_i (own := RX12) rfl (by decide) (Nat.le_of_ble_eq_true rfl) ?_
  intro p e s m args below meth c Q hQ X
  have ec_endTurn := rwc_endTurn
  rw [KW_build] at hF
  refine x_aload_n X 0 dX12_build_0 rfl rfl 1 rfl ?_
  refine x_getV (v := .ref (ad 1)) X 0 nw_0 kw_0 (T := TX12) (N := 11) rfl in_X12 5 (by decide) kF_X12_19 rfl rfl dX12_build_1 4 rfl ?_
  refine x_aload_n X 0 dX12_build_4 rfl rfl 5 rfl ?_
  refine x_getV (v := .int (rd mem 0 4)) X 0 nw_0 kw_0 (T := TX12) (N := 11) rfl in_X12 4 (by decide) kF_X12_154 rfl rfl dX12_build_5 8 rfl ?_
  refine x_gi hF (fun h_1 hF => ?_)
  refine xw_get X hZ hW hg.1 h_1 kL_X12_193 kCl_X12_169 ⟨Nat.le_of_ble_eq_true rfl, Nat.le_of_ble_eq_true rfl⟩ (Nat.le_of_ble_eq_true rfl) ⟨Nat.le_of_ble_eq_true rfl, Nat.le_of_ble_eq_true rfl⟩ dX12_build_8 13 rfl dX12_build_13 16 rfl ?_
  refine x_astore X [(4, .ref (ad (13 + (Int32.toNatClampNeg (rd mem 0 4))))), (0, .ref (ad 0)), (1, .int x1), (2, .int x2), (3, .int x3)] dX12_build_16 (by decide) rfl 18 rfl ?_
  refine x_aload_n X 1 dX12_build_18 rfl rfl 19 rfl ?_
  refine x_getV (v := .ref (ad 3)) X 0 nw_0 kw_0 (T := TX12) (N := 11) rfl in_X12 7 (by decide) kF_X12_28 rfl rfl dX12_build_19 22 rfl ?_
  refine x_iload_n X 3 dX12_build_22 rfl rfl 23 rfl ?_
  refine x_gi hF (fun h_2 hF => ?_)
  refine x_aar X 3 nw_3 (4 + (Int32.toNatClampNeg x2)) kw_3 (t0 := 6) rfl h_2 (el_rows (vp_lt h_2)) dX12_build_23 24 rfl ?_
  refine x_iload_n X 2 dX12_build_24 rfl rfl 25 rfl ?_
  refine x_iload_n X 4 dX12_build_25 rfl rfl 26 rfl ?_
  refine x_gi hF (fun h_3 hF => ?_)
  refine x_ias X (4 + (Int32.toNatClampNeg x2)) (nw_r (vp_lt h_2)) (kw_r (vp_lt h_2)) (t0 := 0) rfl h_3 dX12_build_26 27 rfl ?_
  refine x_letm hF (fun m_4 hF => ?_)
  refine x_aload X 0 dX12_build_27 rfl 29 rfl ?_
  refine x_iconst X 3 dX12_build_29 rfl 30 rfl ?_
  refine x_dup2 X dX12_build_30 rfl rfl 31 rfl ?_
  refine x_ial X (13 + (Int32.toNatClampNeg (rd mem 0 4))) (nw_p (vp_lt h_1)) (kw_p (vp_lt h_1)) (t0 := 0) rfl (by unfold vp_in; decide +kernel) dX12_build_31 32 rfl ?_
  refine x_iconst X 1 dX12_build_32 rfl 33 rfl ?_
  refine x_isub X dX12_build_33 34 rfl ?_
  refine x_ias X (13 + (Int32.toNatClampNeg (rd mem 0 4))) (nw_p (vp_lt h_1)) (kw_p (vp_lt h_1)) (t0 := 0) rfl (by unfold vp_in; decide +kernel) dX12_build_34 35 rfl ?_
  refine x_letm hF (fun m_5 hF => ?_)
  refine x_aload_n X 1 dX12_build_35 rfl rfl 36 rfl ?_
  refine x_callVv (fun m => m) X hZ hF [] 0 nw_0 kw_0 rfl rfl rfl kB_X12_endTurn kL_X12_214 (fun res h => cw_endTurn l hZ hW hg fu  m_5 res h) rfl ⟨Nat.le_of_ble_eq_true rfl, Nat.le_of_ble_eq_true rfl⟩ (Nat.le_of_ble_eq_true rfl) ⟨Nat.le_of_ble_eq_true rfl, Nat.le_of_ble_eq_true rfl⟩ dX12_build_36 39 rfl (fun m_6 hF => ?_)
  refine x_aload X 0 dX12_build_39 rfl 41 rfl ?_
  refine x_iconst X 3 dX12_build_41 rfl 42 rfl ?_
  refine x_ial X (13 + (Int32.toNatClampNeg (rd mem 0 4))) (nw_p (vp_lt h_1)) (kw_p (vp_lt h_1)) (t0 := 0) rfl (by unfold vp_in; decide +kernel) dX12_build_42 43 rfl ?_
  exact x_iret X hQ (o_inj1 hF) (o_inj2 hF) rfl (Nat.le_of_ble_eq_true rfl) (Nat.le_of_ble_eq_true rfl) dX12_build_43

def KW_advised_73 (np nb : Nat) (fu : Nat) (mem : Mem) (k_28 : Nat → Nat → (Nat → Nat → Int32) → Int32 → Int32 → Int32 → Int32 → Option Int32) (w : Nat) (h : Nat) (d : Nat → Nat → Int32) (x1 : Int32) (x5 : Int32) (x6 : Int32) : Option Int32 := gi (x6 - x6 / 10 * 10) w (gi (x6 / 10) h (lt_ (d (Int32.toNatClampNeg (x6 - x6 / 10 * 10)) (Int32.toNatClampNeg (x6 / 10))) (fun x_3 => (k_28 w h d x1 x5 x_3 (x5 + 1)))))
def KW_advised_28 (np nb : Nat) (fu : Nat) (mem : Mem)  : Nat → Nat → Nat → (Nat → Nat → Int32) → Int32 → Int32 → Int32 → Int32 → Option Int32
  | 0, _, _, _, _, _, _, _ => none
  | n + 1, w, h, d, x1, x2, x3, x5 => (if x5 < 4 then bd (KW_landing np nb fu x1 x5 mem) (fun x_4 => (if x_4 < 0 then (KW_advised_28 np nb fu mem  n w h d x1 x2 x3 (x5 + 1)) else (if x2 < 0 then (KW_advised_73 np nb fu mem (KW_advised_28 np nb fu mem  n)  w h d x1 x5 x_4) else gi (x_4 - x_4 / 10 * 10) w (gi (x_4 / 10) h ((if (d (Int32.toNatClampNeg (x_4 - x_4 / 10 * 10)) (Int32.toNatClampNeg (x_4 / 10))) < x3 then (KW_advised_73 np nb fu mem (KW_advised_28 np nb fu mem  n)  w h d x1 x5 x_4) else (KW_advised_28 np nb fu mem  n w h d x1 x2 x3 (x5 + 1)))))))) else some x2)
def KW_advised (np nb : Nat) (fu : Nat) (x1 : Int32) (mem : Mem) : Option Int32 := gi x1 np (bd (KW_distances np nb fu (rd mem (13 + (Int32.toNatClampNeg x1)) 2) mem) (fun t_8 => (KW_advised_28 np nb fu mem  5 t_8.1 t_8.2.1 t_8.2.2 x1 (-1) 0 0)))
def rw_advised : Room := { frames := 5, cells := 14, slots := 92, locals := 114 }
theorem rwc_advised : rw_advised.cells = 14 ∧ rw_advised.slots = 92 := ⟨rfl, rfl⟩
set_option maxHeartbeats 4000000 in
set_option maxRecDepth 100000 in
theorem cw_advised (l : Launch) {D : va_G} {ca ad : Nat → Nat} {np nb eD tS sB : Nat} {Z : (Nat → Prop) → State → Heap → Prop} (hZ : ZOK Z) {tA tU L : Nat} {xs : Nat → Int32} (hW : ZWO Z tA tU sB L xs) (hg : np ≤ 4 ∧ nb ≤ 4 ∧ (np = 0 → nb = 0)) (fu : Nat) (x1 : Int32) (mem : Mem) (res : Int32) (hF : KW_advised np nb fu x1 mem = some res) : CJ l D (tyL ca) (nW np nb) ad (cWd ca ad np nb eD tS sB) Z yX12_advised cX12_advised 7 .int rw_advised [.ref (ad 0), .int x1] mem res mem := by
  refine xstart_i (own := RX12) rfl (by decide) (Nat.le_of_ble_eq_true rfl) ?_
  intro p e s m args below meth c Q hQ X
  have ec_distances := rwc_distances
  have ec_landing := rwc_landing
  rw [KW_advised] at hF
  revert hF
  have w_73 : ∀ (q : Nat) (r : Nat → Nat) (n_28 : Nat) (hn_28 : n_28 + 1 ≤ 5) (k_28 : Nat → Nat → (Nat → Nat → Int32) → Int32 → Int32 → Int32 → Int32 → Option Int32) (hk_28 : ∀ (w : Nat) (h : Nat) (d : Nat → Nat → Int32) (x1 : Int32) (x2 : Int32) (x3 : Int32) (x5 : Int32), k_28 w h d x1 x2 x3 x5 = some res → XX D (nW np nb) ad (cWd ca ad np nb eD tS sB) p l e rw_advised s m args below meth c 7 (9 + (5 - n_28) * 1) (72 + (5 - n_28) * 4) Q mem (exD ca q r w h d) 28 [(0, .ref (ad 0)), (1, .int x1), (2, .int x2), (3, .int x3), (4, .ref q), (5, .int x5)] []) (w : Nat) (h : Nat) (d : Nat → Nat → Int32) (x1 : Int32) (x5 : Int32) (x6 : Int32), KW_advised_73 np nb fu mem k_28 w h d x1 x5 x6 = some res → XX D (nW np nb) ad (cWd ca ad np nb eD tS sB) p l e rw_advised s m args below meth c 7 (10 + (5 - (n_28 + 1)) * 1) (76 + (5 - (n_28 + 1)) * 4) Q mem (exD ca q r w h d) 73 [(0, .ref (ad 0)), (1, .int x1), (4, .ref q), (5, .int x5), (6, .int x6)] [] := by
    intro q r n_28 hn_28 k_28 hk_28 w h d x1 x5 x6 hF
    rw [KW_advised_73] at hF
    refine x_iload X 3 dX12_advised_73 rfl 75 rfl ?_
    refine x_istore_n X [(2, .int x5), (0, .ref (ad 0)), (1, .int x1), (4, .ref q), (5, .int x5), (6, .int x6)] dX12_advised_75 rfl (by decide) rfl 76 rfl ?_
    refine x_aload X 3 dX12_advised_76 rfl 78 rfl ?_
    refine x_iload X 5 dX12_advised_78 rfl 80 rfl ?_
    refine x_bipush X 10 dX12_advised_80 rfl 82 rfl ?_
    refine x_irem X (by decide) dX12_advised_82 83 rfl ?_
    refine x_gi hF (fun h_1 hF => ?_)
    refine e_aar X 0 (b := r (Int32.toNatClampNeg (x6 - x6 / 10 * 10))) exD_0 (t0 := 6) rfl h_1 (if_pos (vp_lt h_1)) dX12_advised_83 84 rfl ?_
    refine x_iload X 5 dX12_advised_84 rfl 86 rfl ?_
    refine x_bipush X 10 dX12_advised_86 rfl 88 rfl ?_
    refine x_idiv X (by decide) dX12_advised_88 89 rfl ?_
    refine x_gi hF (fun h_2 hF => ?_)
    refine e_ial X (1 + (Int32.toNatClampNeg (x6 - x6 / 10 * 10))) (exD_r (vp_lt h_1)) (t0 := 0) rfl h_2 dX12_advised_89 90 rfl ?_
    refine x_let hF (fun x_3 hF => ?_)
    refine x_istore_n X [(3, .int x_3), (2, .int x5), (0, .ref (ad 0)), (1, .int x1), (4, .ref q), (5, .int x5), (6, .int x6)] dX12_advised_90 rfl (by decide) rfl 91 rfl ?_
    refine x_iinc X 5 (x5 + 1) [(5, .int (x5 + 1)), (3, .int x_3), (2, .int x5), (0, .ref (ad 0)), (1, .int x1), (4, .ref q), (6, .int x6)] dX12_advised_91 rfl rfl (by decide) rfl 94 rfl ?_
    refine x_goto X 28 dX12_advised_94 (by decide) ?_
    refine x_keep [3, 4, 2, 1, 5, 0] rfl ?_
    refine x_widen (k := (9 + (5 - n_28) * 1)) (k2 := (72 + (5 - n_28) * 4)) (by omega) (by omega) ?_
    exact hk_28 w h d x1 x5 x_3 (x5 + 1) hF
  have w_28 : ∀ (q : Nat) (r : Nat → Nat)  (n : Nat) (hn : n ≤ 5) (w : Nat) (h : Nat) (d : Nat → Nat → Int32) (x1 : Int32) (x2 : Int32) (x3 : Int32) (x5 : Int32), KW_advised_28 np nb fu mem  n w h d x1 x2 x3 x5 = some res → XX D (nW np nb) ad (cWd ca ad np nb eD tS sB) p l e rw_advised s m args below meth c 7 (9 + (5 - n) * 1) (72 + (5 - n) * 4) Q mem (exD ca q r w h d) 28 [(0, .ref (ad 0)), (1, .int x1), (2, .int x2), (3, .int x3), (4, .ref q), (5, .int x5)] [] := by
    intro q r  n
    induction n with
    | zero => intro hn w h d x1 x2 x3 x5 hF; exact no_none (show (none : Option Int32) = some res from hF)
    | succ n ih =>
      intro hn w h d x1 x2 x3 x5 hF
      rw [KW_advised_28] at hF
      refine x_iload X 5 dX12_advised_28 rfl 30 rfl ?_
      refine x_iconst X 4 dX12_advised_30 rfl 31 rfl ?_
      refine x_icmp_ge X hF 97 34 dX12_advised_31 (by decide) rfl (fun hF => ?_) (fun hF => ?_)
      · refine x_aload_n X 0 dX12_advised_34 rfl rfl 35 rfl ?_
        refine x_iload_n X 1 dX12_advised_35 rfl rfl 36 rfl ?_
        refine x_iload X 5 dX12_advised_36 rfl 38 rfl ?_
        refine x_callVi (fun x => x) (fun _ => mem) X hZ hF [.int x1, .int x5] 0 nw_0 kw_0 rfl rfl rfl kB_X12_landing kL_X12_211 (fun res h => cw_landing l hZ hW hg fu x1 x5 mem res h) rfl ⟨Nat.le_of_ble_eq_true rfl, Nat.le_of_ble_eq_true rfl⟩ (Nat.le_of_ble_eq_true rfl) ⟨by show _ ≤ 14; omega, by show _ ≤ 92; omega⟩ dX12_advised_38 41 rfl (fun x_4 hF => ?_)
        refine x_istore X [(6, .int x_4), (0, .ref (ad 0)), (1, .int x1), (2, .int x2), (3, .int x3), (4, .ref q), (5, .int x5)] dX12_advised_41 (by decide) rfl 43 rfl ?_
        refine x_iload X 0 dX12_advised_43 rfl 45 rfl ?_
        refine x_if_lt X hF 91 48 dX12_advised_45 (by decide) rfl (fun hF => ?_) (fun hF => ?_)
        · refine x_iinc X 6 (x5 + 1) [(5, .int (x5 + 1)), (6, .int x_4), (0, .ref (ad 0)), (1, .int x1), (2, .int x2), (3, .int x3), (4, .ref q)] dX12_advised_91 rfl rfl (by decide) rfl 94 rfl ?_
          refine x_goto X 28 dX12_advised_94 (by decide) ?_
          refine x_keep [2, 3, 4, 5, 6, 0] rfl ?_
          refine x_widen (k := (9 + (5 - n) * 1)) (k2 := (72 + (5 - n) * 4)) (by omega) (by omega) ?_
          exact ih (by omega) w h d x1 x2 x3 (x5 + 1) hF
        · refine x_iload_n X 3 dX12_advised_48 rfl rfl 49 rfl ?_
          refine x_if_lt X hF 73 52 dX12_advised_49 (by decide) rfl (fun hF => ?_) (fun hF => ?_)
          · refine x_keep [1, 2, 5, 6, 0] rfl ?_
            refine x_widen (k := (10 + (5 - (n + 1)) * 1)) (k2 := (76 + (5 - (n + 1)) * 4)) (by omega) (by omega) ?_
            exact w_73 q r n (by omega) (KW_advised_28 np nb fu mem  n) (fun w h d x1 x2 x3 x5 => ih (by omega) w h d x1 x2 x3 x5)  w h d x1 x5 x_4 hF
          · refine x_aload X 5 dX12_advised_52 rfl 54 rfl ?_
            refine x_iload X 0 dX12_advised_54 rfl 56 rfl ?_
            refine x_bipush X 10 dX12_advised_56 rfl 58 rfl ?_
            refine x_irem X (by decide) dX12_advised_58 59 rfl ?_
            refine x_gi hF (fun h_5 hF => ?_)
            refine e_aar X 0 (b := r (Int32.toNatClampNeg (x_4 - x_4 / 10 * 10))) exD_0 (t0 := 6) rfl h_5 (if_pos (vp_lt h_5)) dX12_advised_59 60 rfl ?_
            refine x_iload X 0 dX12_advised_60 rfl 62 rfl ?_
            refine x_bipush X 10 dX12_advised_62 rfl 64 rfl ?_
            refine x_idiv X (by decide) dX12_advised_64 65 rfl ?_
            refine x_gi hF (fun h_6 hF => ?_)
            refine e_ial X (1 + (Int32.toNatClampNeg (x_4 - x_4 / 10 * 10))) (exD_r (vp_lt h_5)) (t0 := 0) rfl h_6 dX12_advised_65 66 rfl ?_
            refine x_iload_n X 4 dX12_advised_66 rfl rfl 67 rfl ?_
            refine x_icmp_lt X hF 73 70 dX12_advised_67 (by decide) rfl (fun hF => ?_) (fun hF => ?_)
            · refine x_keep [1, 2, 5, 6, 0] rfl ?_
              refine x_widen (k := (10 + (5 - (n + 1)) * 1)) (k2 := (76 + (5 - (n + 1)) * 4)) (by omega) (by omega) ?_
              exact w_73 q r n (by omega) (KW_advised_28 np nb fu mem  n) (fun w h d x1 x2 x3 x5 => ih (by omega) w h d x1 x2 x3 x5)  w h d x1 x5 x_4 hF
            · refine x_goto X 91 dX12_advised_70 (by decide) ?_
              refine x_iinc X 6 (x5 + 1) [(5, .int (x5 + 1)), (6, .int x_4), (0, .ref (ad 0)), (1, .int x1), (2, .int x2), (3, .int x3), (4, .ref q)] dX12_advised_91 rfl rfl (by decide) rfl 94 rfl ?_
              refine x_goto X 28 dX12_advised_94 (by decide) ?_
              refine x_keep [2, 3, 4, 5, 6, 0] rfl ?_
              refine x_widen (k := (9 + (5 - n) * 1)) (k2 := (72 + (5 - n) * 4)) (by omega) (by omega) ?_
              exact ih (by omega) w h d x1 x2 x3 (x5 + 1) hF
      · refine x_iload_n X 2 dX12_advised_97 rfl rfl 98 rfl ?_
        exact x_iret X hQ (o_inj hF) rfl rfl (by show _ ≤ 14; omega) (by show _ ≤ 92; omega) dX12_advised_98
  intro hF
  refine x_iconst X (-1) dX12_advised_0 rfl 1 rfl ?_
  refine x_istore_n X [(2, .int (-1)), (0, .ref (ad 0)), (1, .int x1)] dX12_advised_1 rfl (by decide) rfl 2 rfl ?_
  refine x_iconst X 0 dX12_advised_2 rfl 3 rfl ?_
  refine x_istore_n X [(3, .int 0), (2, .int (-1)), (0, .ref (ad 0)), (1, .int x1)] dX12_advised_3 rfl (by decide) rfl 4 rfl ?_
  refine x_aload_n X 2 dX12_advised_4 rfl rfl 5 rfl ?_
  refine x_aload_n X 2 dX12_advised_5 rfl rfl 6 rfl ?_
  refine x_getV (v := .ref (ad 1)) X 0 nw_0 kw_0 (T := TX12) (N := 11) rfl in_X12 5 (by decide) kF_X12_19 rfl rfl dX12_advised_6 9 rfl ?_
  refine x_iload_n X 3 dX12_advised_9 rfl rfl 10 rfl ?_
  refine x_gi hF (fun h_7 hF => ?_)
  refine xw_get X hZ hW hg.1 h_7 kL_X12_193 kCl_X12_169 ⟨Nat.le_of_ble_eq_true rfl, Nat.le_of_ble_eq_true rfl⟩ (Nat.le_of_ble_eq_true rfl) ⟨Nat.le_of_ble_eq_true rfl, Nat.le_of_ble_eq_true rfl⟩ dX12_advised_10 15 rfl dX12_advised_15 18 rfl ?_
  refine x_iconst X 2 dX12_advised_18 rfl 19 rfl ?_
  refine x_ial X (13 + (Int32.toNatClampNeg x1)) (nw_p (vp_lt h_7)) (kw_p (vp_lt h_7)) (t0 := 0) rfl (by unfold vp_in; decide +kernel) dX12_advised_19 20 rfl ?_
  refine x_callVr (fun (t : Nat × Nat × (Nat → Nat → Int32)) a ws => ∃ r, ws = exD ca a r t.1 t.2.1 t.2.2) (fun _ => mem) X hZ hF [.int (rd mem (13 + (Int32.toNatClampNeg x1)) 2)] 0 nw_0 kw_0 rfl rfl rfl kB_X12_distances kL_X12_197 (fun res h => cw_distances l hZ hW hg fu (rd mem (13 + (Int32.toNatClampNeg x1)) 2) mem res h) rfl ⟨Nat.le_of_ble_eq_true rfl, Nat.le_of_ble_eq_true rfl⟩ (Nat.le_of_ble_eq_true rfl) ⟨Nat.le_of_ble_eq_true rfl, Nat.le_of_ble_eq_true rfl⟩ dX12_advised_20 23 rfl (fun t_8 q w1 hF hw1 => ?_)
  obtain ⟨r, rfl⟩ := hw1
  rw [List.nil_append]
  refine x_astore X [(4, .ref q), (3, .int 0), (2, .int (-1)), (0, .ref (ad 0)), (1, .int x1)] dX12_advised_23 (by decide) rfl 25 rfl ?_
  refine x_iconst X 0 dX12_advised_25 rfl 26 rfl ?_
  refine x_istore X [(5, .int 0), (4, .ref q), (3, .int 0), (2, .int (-1)), (0, .ref (ad 0)), (1, .int x1)] dX12_advised_26 (by decide) rfl 28 rfl ?_
  refine x_keep [4, 5, 3, 2, 1, 0] rfl ?_
  refine x_widen (k := (9 + (5 - 5) * 1)) (k2 := (72 + (5 - 5) * 4)) (by omega) (by omega) ?_
  exact w_28 q r  5 (by omega) t_8.1 t_8.2.1 t_8.2.2 x1 (-1) 0 0 hF

def KW_bestWall_131 (np nb : Nat) (fu : Nat) (k_4 : (Option (Nat → Int32)) → Int32 → Int32 → Mem → Option (Option (Nat → Int32) × Mem)) (x1 : Int32) (x3 : Int32) (x4 : Int32) (x5 : Int32) (x6 : Int32) (x7 : Int32) (mem : Mem) : Option (Option (Nat → Int32) × Mem) := (k_4 (some (upd (upd (upd (upd (fun _ => 0) 0 x4) 1 x5) 2 x6) 3 x7)) x1 (x3 + 1) mem)
def KW_bestWall_4 (np nb : Nat) (fu : Nat)  : Nat → (Option (Nat → Int32)) → Int32 → Int32 → Mem → Option (Option (Nat → Int32) × Mem)
  | 0, _, _, _, _ => none
  | n + 1, b, x1, x3, mem => (if x3 < 128 then gi x1 np ((if (rd mem (13 + (Int32.toNatClampNeg x1)) 6) = 0 then (if ((x3 / 2) - (x3 / 2) / 8 * 8) < ((rd mem 0 0) - 1) then (if (x3 / 16) < ((rd mem 0 1) - 1) then bd (KW_isAdmissible np nb fu ((x3 / 2) - (x3 / 2) / 8 * 8) (x3 / 16) (1 + (x3 - x3 / 2 * 2)) mem) (fun p_3 => (if p_3.1 = 0 then (KW_bestWall_4 np nb fu  n b x1 (x3 + 1) p_3.2) else gi (x3 / 16) 8 (gi ((x3 / 2) - (x3 / 2) / 8 * 8) 8 (lt_ (mw p_3.2 (4 + (Int32.toNatClampNeg (x3 / 16))) (Int32.toNatClampNeg ((x3 / 2) - (x3 / 2) / 8 * 8)) (1 + (x3 - x3 / 2 * 2))) (fun m_6 => bd (KW_distance np nb fu x1 m_6) (fun x_7 => gi (x3 / 16) 8 (gi ((x3 / 2) - (x3 / 2) / 8 * 8) 8 (lt_ (mw m_6 (4 + (Int32.toNatClampNeg (x3 / 16))) (Int32.toNatClampNeg ((x3 / 2) - (x3 / 2) / 8 * 8)) 0) (fun m_10 => (mtB b (KW_bestWall_131 np nb fu (KW_bestWall_4 np nb fu  n)  x1 x3 ((x3 / 2) - (x3 / 2) / 8 * 8) (x3 / 16) (1 + (x3 - x3 / 2 * 2)) x_7 m_10) (fun f_11 => (if (f_11 3) < x_7 then (KW_bestWall_131 np nb fu (KW_bestWall_4 np nb fu  n)  x1 x3 ((x3 / 2) - (x3 / 2) / 8 * 8) (x3 / 16) (1 + (x3 - x3 / 2 * 2)) x_7 m_10) else (KW_bestWall_4 np nb fu  n (some f_11) x1 (x3 + 1) m_10))))))))))))) else (KW_bestWall_4 np nb fu  n b x1 (x3 + 1) mem)) else (KW_bestWall_4 np nb fu  n b x1 (x3 + 1) mem)) else some (b, mem))) else some (b, mem))
def KW_bestWall (np nb : Nat) (fu : Nat) (x1 : Int32) (mem : Mem) : Option (Option (Nat → Int32) × Mem) := (KW_bestWall_4 np nb fu  130 none x1 0 mem)
def rw_bestWall : Room := { frames := 6, cells := 7150, slots := 56680, locals := 141 }
theorem rwc_bestWall : rw_bestWall.cells = 7150 ∧ rw_bestWall.slots = 56680 := ⟨rfl, rfl⟩
set_option maxHeartbeats 4000000 in
set_option maxRecDepth 100000 in
theorem cw_bestWall (l : Launch) {D : va_G} {ca ad : Nat → Nat} {np nb eD tS sB : Nat} {Z : (Nat → Prop) → State → Heap → Prop} (hZ : ZOK Z) {tA tU L : Nat} {xs : Nat → Int32} (hW : ZWO Z tA tU sB L xs) (hg : np ≤ 4 ∧ nb ≤ 4 ∧ (np = 0 → nb = 0)) (fu : Nat) (x1 : Int32) (mem : Mem) (res : (Option (Nat → Int32) × Mem)) (hF : KW_bestWall np nb fu x1 mem = some res) : CJn l D (tyL ca) (nW np nb) ad (cWd ca ad np nb eD tS sB) Z ca yX12_bestWall cX12_bestWall 8 (.array .int) rw_bestWall [.ref (ad 0), .int x1] mem res.1 res.2 := by
  refine xstart_nn (own := RX12) rfl (by decide) (Nat.le_of_ble_eq_true rfl) ?_
  intro p e s m args below meth c Q hQ X
  have ec_distance := rwc_distance
  have ec_isAdmissible := rwc_isAdmissible
  rw [KW_bestWall] at hF
  revert hF
  have w_131 : ∀ (n_4 : Nat) (hn_4 : n_4 + 1 ≤ 130) (k_4 : (Option (Nat → Int32)) → Int32 → Int32 → Mem → Option (Option (Nat → Int32) × Mem)) (hk_4 : ∀ (q : Nat) (b : Option (Nat → Int32)) (x1 : Int32) (x3 : Int32) (mem : Mem), k_4 b x1 x3 mem = some res → XX D (nW np nb) ad (cWd ca ad np nb eD tS sB) p l e rw_bestWall s m args below meth c 8 (0 + (130 - n_4) * 55) (0 + (130 - n_4) * 436) Q mem (exB ca b q) 4 [(0, .ref (ad 0)), (1, .int x1), (2, (vB b q)), (3, .int x3)] []) (x1 : Int32) (x3 : Int32) (x4 : Int32) (x5 : Int32) (x6 : Int32) (x7 : Int32) (mem : Mem), KW_bestWall_131 np nb fu k_4 x1 x3 x4 x5 x6 x7 mem = some res → XX D (nW np nb) ad (cWd ca ad np nb eD tS sB) p l e rw_bestWall s m args below meth c 8 (54 + (130 - (n_4 + 1)) * 55) (432 + (130 - (n_4 + 1)) * 436) Q mem [] 131 [(0, .ref (ad 0)), (1, .int x1), (3, .int x3), (4, .int x4), (5, .int x5), (6, .int x6), (7, .int x7)] [] := by
    intro n_4 hn_4 k_4 hk_4 x1 x3 x4 x5 x6 x7 mem hF
    rw [KW_bestWall_131] at hF
    refine x_iconst X 4 dX12_bestWall_131 rfl 132 rfl ?_
    refine x_newa (atype := .int) (ty := .int) (N' := 4) (cT := ca 0) (t0 := 0) (4, .inl (fun _ => 0)) X rfl kA_int rfl (fun _ => rfl) (by decide) rfl (Nat.le_of_ble_eq_true rfl) ⟨by show _ ≤ 7150; omega, by show _ ≤ 56680; omega⟩ dX12_bestWall_132 134 rfl (fun q_1 _ => ?_)
    rw [List.nil_append]
    refine x_dup X dX12_bestWall_134 rfl 135 rfl ?_
    refine x_iconst X 0 dX12_bestWall_135 rfl 136 rfl ?_
    refine x_iload X 3 dX12_bestWall_136 rfl 138 rfl ?_
    refine e_ias X 0 [(q_1, .inl (ca 0, 4, .inl (upd (fun _ => 0) 0 x4)))] rfl (t0 := 0) rfl (by unfold vp_in; decide +kernel) rfl dX12_bestWall_138 139 rfl ?_
    refine x_dup X dX12_bestWall_139 rfl 140 rfl ?_
    refine x_iconst X 1 dX12_bestWall_140 rfl 141 rfl ?_
    refine x_iload X 4 dX12_bestWall_141 rfl 143 rfl ?_
    refine e_ias X 0 [(q_1, .inl (ca 0, 4, .inl (upd (upd (fun _ => 0) 0 x4) 1 x5)))] rfl (t0 := 0) rfl (by unfold vp_in; decide +kernel) rfl dX12_bestWall_143 144 rfl ?_
    refine x_dup X dX12_bestWall_144 rfl 145 rfl ?_
    refine x_iconst X 2 dX12_bestWall_145 rfl 146 rfl ?_
    refine x_iload X 5 dX12_bestWall_146 rfl 148 rfl ?_
    refine e_ias X 0 [(q_1, .inl (ca 0, 4, .inl (upd (upd (upd (fun _ => 0) 0 x4) 1 x5) 2 x6)))] rfl (t0 := 0) rfl (by unfold vp_in; decide +kernel) rfl dX12_bestWall_148 149 rfl ?_
    refine x_dup X dX12_bestWall_149 rfl 150 rfl ?_
    refine x_iconst X 3 dX12_bestWall_150 rfl 151 rfl ?_
    refine x_iload X 6 dX12_bestWall_151 rfl 153 rfl ?_
    refine e_ias X 0 [(q_1, .inl (ca 0, 4, .inl (upd (upd (upd (upd (fun _ => 0) 0 x4) 1 x5) 2 x6) 3 x7)))] rfl (t0 := 0) rfl (by unfold vp_in; decide +kernel) rfl dX12_bestWall_153 154 rfl ?_
    refine x_astore_n X [(2, .ref q_1), (0, .ref (ad 0)), (1, .int x1), (3, .int x3), (4, .int x4), (5, .int x5), (6, .int x6), (7, .int x7)] dX12_bestWall_154 rfl (by decide) rfl 155 rfl ?_
    refine x_iinc X 3 (x3 + 1) [(3, .int (x3 + 1)), (2, .ref q_1), (0, .ref (ad 0)), (1, .int x1), (4, .int x4), (5, .int x5), (6, .int x6), (7, .int x7)] dX12_bestWall_155 rfl rfl (by decide) rfl 158 rfl ?_
    refine x_goto X 4 dX12_bestWall_158 (by decide) ?_
    refine x_keep [2, 3, 1, 0] rfl ?_
    refine x_widen (k := (0 + (130 - n_4) * 55)) (k2 := (0 + (130 - n_4) * 436)) (by omega) (by omega) ?_
    exact hk_4 q_1 (some (upd (upd (upd (upd (fun _ => 0) 0 x4) 1 x5) 2 x6) 3 x7)) x1 (x3 + 1) mem hF
  have w_4 : ∀  (n : Nat) (hn : n ≤ 130) (q : Nat) (b : Option (Nat → Int32)) (x1 : Int32) (x3 : Int32) (mem : Mem), KW_bestWall_4 np nb fu  n b x1 x3 mem = some res → XX D (nW np nb) ad (cWd ca ad np nb eD tS sB) p l e rw_bestWall s m args below meth c 8 (0 + (130 - n) * 55) (0 + (130 - n) * 436) Q mem (exB ca b q) 4 [(0, .ref (ad 0)), (1, .int x1), (2, (vB b q)), (3, .int x3)] [] := by
    intro  n
    induction n with
    | zero => intro hn q b x1 x3 mem hF; exact no_none (show (none : Option (Option (Nat → Int32) × Mem)) = some res from hF)
    | succ n ih =>
      intro hn q b x1 x3 mem hF
      rw [KW_bestWall_4] at hF
      refine x_iload_n X 3 dX12_bestWall_4 rfl rfl 5 rfl ?_
      refine x_sipush X 128 dX12_bestWall_5 rfl 8 rfl ?_
      refine x_icmp_ge X hF 161 11 dX12_bestWall_8 (by decide) rfl (fun hF => ?_) (fun hF => ?_)
      · refine x_aload_n X 0 dX12_bestWall_11 rfl rfl 12 rfl ?_
        refine x_getV (v := .ref (ad 1)) X 0 nw_0 kw_0 (T := TX12) (N := 11) rfl in_X12 5 (by decide) kF_X12_19 rfl rfl dX12_bestWall_12 15 rfl ?_
        refine x_iload_n X 1 dX12_bestWall_15 rfl rfl 16 rfl ?_
        refine x_gi hF (fun h_2 hF => ?_)
        refine xw_get X hZ hW hg.1 h_2 kL_X12_193 kCl_X12_169 ⟨Nat.le_of_ble_eq_true rfl, Nat.le_of_ble_eq_true rfl⟩ (Nat.le_of_ble_eq_true rfl) ⟨by show _ ≤ 7150; omega, by show _ ≤ 56680; omega⟩ dX12_bestWall_16 21 rfl dX12_bestWall_21 24 rfl ?_
        refine x_bipush X 6 dX12_bestWall_24 rfl 26 rfl ?_
        refine x_ial X (13 + (Int32.toNatClampNeg x1)) (nw_p (vp_lt h_2)) (kw_p (vp_lt h_2)) (t0 := 0) rfl (by unfold vp_in; decide +kernel) dX12_bestWall_26 27 rfl ?_
        refine x_if_ne X hF 161 30 dX12_bestWall_27 (by decide) rfl (fun hF => ?_) (fun hF => ?_)
        · refine x_iload_n X 3 dX12_bestWall_30 rfl rfl 31 rfl ?_
          refine x_iconst X 2 dX12_bestWall_31 rfl 32 rfl ?_
          refine x_idiv X (by decide) dX12_bestWall_32 33 rfl ?_
          refine x_bipush X 8 dX12_bestWall_33 rfl 35 rfl ?_
          refine x_irem X (by decide) dX12_bestWall_35 36 rfl ?_
          refine x_istore X [(4, .int ((x3 / 2) - (x3 / 2) / 8 * 8)), (0, .ref (ad 0)), (1, .int x1), (2, (vB b q)), (3, .int x3)] dX12_bestWall_36 (by decide) (by simp only [List.filter, vB_cat]; rfl) 38 rfl ?_
          refine x_iload_n X 4 dX12_bestWall_38 rfl rfl 39 rfl ?_
          refine x_bipush X 16 dX12_bestWall_39 rfl 41 rfl ?_
          refine x_idiv X (by decide) dX12_bestWall_41 42 rfl ?_
          refine x_istore X [(5, .int (x3 / 16)), (4, .int ((x3 / 2) - (x3 / 2) / 8 * 8)), (0, .ref (ad 0)), (1, .int x1), (2, (vB b q)), (3, .int x3)] dX12_bestWall_42 (by decide) (by simp only [List.filter, vB_cat]; rfl) 44 rfl ?_
          refine x_iconst X 1 dX12_bestWall_44 rfl 45 rfl ?_
          refine x_iload_n X 5 dX12_bestWall_45 rfl rfl 46 rfl ?_
          refine x_iconst X 2 dX12_bestWall_46 rfl 47 rfl ?_
          refine x_irem X (by decide) dX12_bestWall_47 48 rfl ?_
          refine x_iadd X dX12_bestWall_48 49 rfl ?_
          refine x_istore X [(6, .int (1 + (x3 - x3 / 2 * 2))), (5, .int (x3 / 16)), (4, .int ((x3 / 2) - (x3 / 2) / 8 * 8)), (0, .ref (ad 0)), (1, .int x1), (2, (vB b q)), (3, .int x3)] dX12_bestWall_49 (by decide) (by simp only [List.filter, vB_cat]; rfl) 51 rfl ?_
          refine x_iload X 2 dX12_bestWall_51 rfl 53 rfl ?_
          refine x_aload_n X 3 dX12_bestWall_53 rfl rfl 54 rfl ?_
          refine x_getV (v := .int (rd mem 0 0)) X 0 nw_0 kw_0 (T := TX12) (N := 11) rfl in_X12 0 (by decide) kF_X12_7 rfl rfl dX12_bestWall_54 57 rfl ?_
          refine x_iconst X 1 dX12_bestWall_57 rfl 58 rfl ?_
          refine x_isub X dX12_bestWall_58 59 rfl ?_
          refine x_icmp_ge X hF 155 62 dX12_bestWall_59 (by decide) rfl (fun hF => ?_) (fun hF => ?_)
          · refine x_iload X 1 dX12_bestWall_62 rfl 64 rfl ?_
            refine x_aload_n X 3 dX12_bestWall_64 rfl rfl 65 rfl ?_
            refine x_getV (v := .int (rd mem 0 1)) X 0 nw_0 kw_0 (T := TX12) (N := 11) rfl in_X12 1 (by decide) kF_X12_13 rfl rfl dX12_bestWall_65 68 rfl ?_
            refine x_iconst X 1 dX12_bestWall_68 rfl 69 rfl ?_
            refine x_isub X dX12_bestWall_69 70 rfl ?_
            refine x_icmp_ge X hF 155 73 dX12_bestWall_70 (by decide) rfl (fun hF => ?_) (fun hF => ?_)
            · refine x_aload_n X 3 dX12_bestWall_73 rfl rfl 74 rfl ?_
              refine x_iload X 2 dX12_bestWall_74 rfl 76 rfl ?_
              refine x_iload X 1 dX12_bestWall_76 rfl 78 rfl ?_
              refine x_iload X 0 dX12_bestWall_78 rfl 80 rfl ?_
              refine x_callVi (fun x => x.1) (fun x => x.2) X hZ hF [.int ((x3 / 2) - (x3 / 2) / 8 * 8), .int (x3 / 16), .int (1 + (x3 - x3 / 2 * 2))] 0 nw_0 kw_0 rfl rfl rfl kB_X12_isAdmissible kL_X12_139 (fun res h => cw_isAdmissible l hZ hW hg fu ((x3 / 2) - (x3 / 2) / 8 * 8) (x3 / 16) (1 + (x3 - x3 / 2 * 2)) mem res h) rfl ⟨Nat.le_of_ble_eq_true rfl, Nat.le_of_ble_eq_true rfl⟩ (Nat.le_of_ble_eq_true rfl) ⟨by show _ ≤ 7150; omega, by show _ ≤ 56680; omega⟩ dX12_bestWall_80 83 rfl (fun p_3 hF => ?_)
              refine x_if_ne X hF 89 86 dX12_bestWall_83 (by decide) rfl (fun hF => ?_) (fun hF => ?_)
              · refine x_goto X 155 dX12_bestWall_86 (by decide) ?_
                refine x_iinc X 6 (x3 + 1) [(3, .int (x3 + 1)), (6, .int (1 + (x3 - x3 / 2 * 2))), (5, .int (x3 / 16)), (4, .int ((x3 / 2) - (x3 / 2) / 8 * 8)), (0, .ref (ad 0)), (1, .int x1), (2, (vB b q))] dX12_bestWall_155 rfl rfl (by decide) (by simp only [List.filter, vB_cat]; rfl) 158 rfl ?_
                refine x_goto X 4 dX12_bestWall_158 (by decide) ?_
                refine x_keep [4, 5, 6, 0] rfl ?_
                refine x_widen (k := (0 + (130 - n) * 55)) (k2 := (0 + (130 - n) * 436)) (by omega) (by omega) ?_
                exact ih (by omega) q b x1 (x3 + 1) p_3.2 hF
              · refine x_aload_n X 3 dX12_bestWall_89 rfl rfl 90 rfl ?_
                refine x_getV (v := .ref (ad 3)) X 0 nw_0 kw_0 (T := TX12) (N := 11) rfl in_X12 7 (by decide) kF_X12_28 rfl rfl dX12_bestWall_90 93 rfl ?_
                refine x_iload X 1 dX12_bestWall_93 rfl 95 rfl ?_
                refine x_gi hF (fun h_4 hF => ?_)
                refine x_aar X 3 nw_3 (4 + (Int32.toNatClampNeg (x3 / 16))) kw_3 (t0 := 6) rfl h_4 (el_rows (vp_lt h_4)) dX12_bestWall_95 96 rfl ?_
                refine x_iload X 2 dX12_bestWall_96 rfl 98 rfl ?_
                refine x_iload X 0 dX12_bestWall_98 rfl 100 rfl ?_
                refine x_gi hF (fun h_5 hF => ?_)
                refine x_ias X (4 + (Int32.toNatClampNeg (x3 / 16))) (nw_r (vp_lt h_4)) (kw_r (vp_lt h_4)) (t0 := 0) rfl h_5 dX12_bestWall_100 101 rfl ?_
                refine x_letm hF (fun m_6 hF => ?_)
                refine x_aload_n X 3 dX12_bestWall_101 rfl rfl 102 rfl ?_
                refine x_iload_n X 4 dX12_bestWall_102 rfl rfl 103 rfl ?_
                refine x_callVi (fun x => x) (fun _ => m_6) X hZ hF [.int x1] 0 nw_0 kw_0 rfl rfl rfl kB_X12_distance kL_X12_201 (fun res h => cw_distance l hZ hW hg fu x1 m_6 res h) rfl ⟨Nat.le_of_ble_eq_true rfl, Nat.le_of_ble_eq_true rfl⟩ (Nat.le_of_ble_eq_true rfl) ⟨by show _ ≤ 7150; omega, by show _ ≤ 56680; omega⟩ dX12_bestWall_103 106 rfl (fun x_7 hF => ?_)
                refine x_istore X [(7, .int x_7), (6, .int (1 + (x3 - x3 / 2 * 2))), (5, .int (x3 / 16)), (4, .int ((x3 / 2) - (x3 / 2) / 8 * 8)), (0, .ref (ad 0)), (1, .int x1), (2, (vB b q)), (3, .int x3)] dX12_bestWall_106 (by decide) (by simp only [List.filter, vB_cat]; rfl) 108 rfl ?_
                refine x_aload_n X 4 dX12_bestWall_108 rfl rfl 109 rfl ?_
                refine x_getV (v := .ref (ad 3)) X 0 nw_0 kw_0 (T := TX12) (N := 11) rfl in_X12 7 (by decide) kF_X12_28 rfl rfl dX12_bestWall_109 112 rfl ?_
                refine x_iload X 2 dX12_bestWall_112 rfl 114 rfl ?_
                refine x_gi hF (fun h_8 hF => ?_)
                refine x_aar X 3 nw_3 (4 + (Int32.toNatClampNeg (x3 / 16))) kw_3 (t0 := 6) rfl h_8 (el_rows (vp_lt h_8)) dX12_bestWall_114 115 rfl ?_
                refine x_iload X 3 dX12_bestWall_115 rfl 117 rfl ?_
                refine x_iconst X 0 dX12_bestWall_117 rfl 118 rfl ?_
                refine x_gi hF (fun h_9 hF => ?_)
                refine x_ias X (4 + (Int32.toNatClampNeg (x3 / 16))) (nw_r (vp_lt h_8)) (kw_r (vp_lt h_8)) (t0 := 0) rfl h_9 dX12_bestWall_118 119 rfl ?_
                refine x_letm hF (fun m_10 hF => ?_)
                refine x_aload_nB X b q 6 dX12_bestWall_119 rfl rfl 120 rfl ?_
                refine x_ifnullB X (fun v => [(7, .int x_7), (6, .int (1 + (x3 - x3 / 2 * 2))), (5, .int (x3 / 16)), (4, .int ((x3 / 2) - (x3 / 2) / 8 * 8)), (0, .ref (ad 0)), (1, .int x1), (2, v), (3, .int x3)]) b q hF 131 123 dX12_bestWall_120 (by decide) rfl (fun hF => ?_) (fun f_11 hF => ?_)
                · refine x_keep [4, 5, 7, 3, 2, 1, 0] rfl ?_
                  refine x_widen (k := (54 + (130 - (n + 1)) * 55)) (k2 := (432 + (130 - (n + 1)) * 436)) (by omega) (by omega) ?_
                  exact w_131 n (by omega) (KW_bestWall_4 np nb fu  n) (fun q b x1 x3 mem => ih (by omega) q b x1 x3 mem)  x1 x3 ((x3 / 2) - (x3 / 2) / 8 * 8) (x3 / 16) (1 + (x3 - x3 / 2 * 2)) x_7 m_10 hF
                · refine x_iload X 0 dX12_bestWall_123 rfl 125 rfl ?_
                  refine x_aload_n X 6 dX12_bestWall_125 rfl rfl 126 rfl ?_
                  refine x_iconst X 3 dX12_bestWall_126 rfl 127 rfl ?_
                  refine e_ial X 0 rfl (t0 := 0) rfl (by unfold vp_in; decide +kernel) dX12_bestWall_127 128 rfl ?_
                  refine x_icmp_le X hF 155 131 dX12_bestWall_128 (by decide) rfl (fun hF => ?_) (fun hF => ?_)
                  · refine x_keep [4, 5, 7, 3, 2, 1, 0] rfl ?_
                    refine x_widen (k := (54 + (130 - (n + 1)) * 55)) (k2 := (432 + (130 - (n + 1)) * 436)) (by omega) (by omega) ?_
                    refine x_drop ?_
                    exact w_131 n (by omega) (KW_bestWall_4 np nb fu  n) (fun q b x1 x3 mem => ih (by omega) q b x1 x3 mem)  x1 x3 ((x3 / 2) - (x3 / 2) / 8 * 8) (x3 / 16) (1 + (x3 - x3 / 2 * 2)) x_7 m_10 hF
                  · refine x_iinc X 7 (x3 + 1) [(3, .int (x3 + 1)), (7, .int x_7), (6, .int (1 + (x3 - x3 / 2 * 2))), (5, .int (x3 / 16)), (4, .int ((x3 / 2) - (x3 / 2) / 8 * 8)), (0, .ref (ad 0)), (1, .int x1), (2, .ref q)] dX12_bestWall_155 rfl rfl (by decide) rfl 158 rfl ?_
                    refine x_goto X 4 dX12_bestWall_158 (by decide) ?_
                    refine x_keep [5, 6, 7, 0] rfl ?_
                    refine x_widen (k := (0 + (130 - n) * 55)) (k2 := (0 + (130 - n) * 436)) (by omega) (by omega) ?_
                    exact ih (by omega) q (some f_11) x1 (x3 + 1) m_10 hF
            · refine x_iinc X 6 (x3 + 1) [(3, .int (x3 + 1)), (6, .int (1 + (x3 - x3 / 2 * 2))), (5, .int (x3 / 16)), (4, .int ((x3 / 2) - (x3 / 2) / 8 * 8)), (0, .ref (ad 0)), (1, .int x1), (2, (vB b q))] dX12_bestWall_155 rfl rfl (by decide) (by simp only [List.filter, vB_cat]; rfl) 158 rfl ?_
              refine x_goto X 4 dX12_bestWall_158 (by decide) ?_
              refine x_keep [4, 5, 6, 0] rfl ?_
              refine x_widen (k := (0 + (130 - n) * 55)) (k2 := (0 + (130 - n) * 436)) (by omega) (by omega) ?_
              exact ih (by omega) q b x1 (x3 + 1) mem hF
          · refine x_iinc X 6 (x3 + 1) [(3, .int (x3 + 1)), (6, .int (1 + (x3 - x3 / 2 * 2))), (5, .int (x3 / 16)), (4, .int ((x3 / 2) - (x3 / 2) / 8 * 8)), (0, .ref (ad 0)), (1, .int x1), (2, (vB b q))] dX12_bestWall_155 rfl rfl (by decide) (by simp only [List.filter, vB_cat]; rfl) 158 rfl ?_
            refine x_goto X 4 dX12_bestWall_158 (by decide) ?_
            refine x_keep [4, 5, 6, 0] rfl ?_
            refine x_widen (k := (0 + (130 - n) * 55)) (k2 := (0 + (130 - n) * 436)) (by omega) (by omega) ?_
            exact ih (by omega) q b x1 (x3 + 1) mem hF
        · refine x_aload_nB X b q 2 dX12_bestWall_161 rfl rfl 162 rfl ?_
          exact x_aretN X (Or.inr ⟨_, rfl⟩) hQ (o_inj1 hF) (o_inj2 hF) (by show _ ≤ 7150; omega) (by show _ ≤ 56680; omega) dX12_bestWall_162
      · refine x_aload_nB X b q 2 dX12_bestWall_161 rfl rfl 162 rfl ?_
        exact x_aretN X (Or.inr ⟨_, rfl⟩) hQ (o_inj1 hF) (o_inj2 hF) (by show _ ≤ 7150; omega) (by show _ ≤ 56680; omega) dX12_bestWall_162
  intro hF
  refine x_anull X dX12_bestWall_0 1 rfl ?_
  refine x_astore_nB X none 0  [(2, .null), (0, .ref (ad 0)), (1, .int x1)] dX12_bestWall_1 rfl (by decide) rfl 2 rfl ?_
  refine x_iconst X 0 dX12_bestWall_2 rfl 3 rfl ?_
  refine x_istore_n X [(3, .int 0), (2, .null), (0, .ref (ad 0)), (1, .int x1)] dX12_bestWall_3 rfl (by decide) rfl 4 rfl ?_
  refine x_keep [2, 3, 1, 0] rfl ?_
  refine x_widen (k := (0 + (130 - 130) * 55)) (k2 := (0 + (130 - 130) * 436)) (by omega) (by omega) ?_
  exact w_4  130 (by omega) 0 none x1 0 mem hF

def KW_play_152 (np nb : Nat) (fu : Nat)  (mem : Mem) : Option Mem := bd (KW_advised np nb fu (rd mem 0 4) mem) (fun x_1 => (if x_1 < 0 then bd (KW_endTurn np nb fu  mem) (fun m_2 => some m_2) else bd (KW_step np nb fu x_1 mem) (fun p_3 => some p_3.2)))
def KW_play_95 (np nb : Nat) (fu : Nat)  (x2 : Int32) (mem : Mem) : Option Mem := (if x2 < 0 then (KW_play_152 np nb fu   mem) else bd (KW_distance np nb fu x2 mem) (fun x_4 => bd (KW_distance np nb fu (rd mem 0 4) mem) (fun x_5 => (if x_4 < x_5 then bd (KW_bestWall np nb fu x2 mem) (fun t_6 => (mtB t_6.1 (KW_play_152 np nb fu   t_6.2) (fun f_7 => bd (KW_distance np nb fu x2 t_6.2) (fun x_8 => (if x_8 < (f_7 3) then bd (KW_build np nb fu (f_7 0) (f_7 1) (f_7 2) t_6.2) (fun p_9 => some p_9.2) else (KW_play_152 np nb fu   t_6.2)))))) else (KW_play_152 np nb fu   mem)))))
def KW_play_4 (np nb : Nat) (fu : Nat)  : Nat → Int32 → Int32 → Int32 → Mem → Option Mem
  | 0, _, _, _, _ => none
  | n + 1, x1, x2, x3, mem => (if x3 < (Int32.ofNat np) then (if x1 = 1 then gi (rd mem 0 4) np ((if 0 < (rd mem (13 + (Int32.toNatClampNeg (rd mem 0 4))) 3) then (if x3 = (rd mem 0 4) then (KW_play_4 np nb fu  n x1 x2 (x3 + 1) mem) else gi x3 np ((if (rd mem (13 + (Int32.toNatClampNeg x3)) 6) = 0 then (if x2 < 0 then (KW_play_4 np nb fu  n x1 x3 (x3 + 1) mem) else bd (KW_distance np nb fu x3 mem) (fun x_12 => bd (KW_distance np nb fu x2 mem) (fun x_13 => (if x_12 < x_13 then (KW_play_4 np nb fu  n x1 x3 (x3 + 1) mem) else (KW_play_4 np nb fu  n x1 x2 (x3 + 1) mem))))) else (KW_play_4 np nb fu  n x1 x2 (x3 + 1) mem)))) else (KW_play_95 np nb fu   x2 mem))) else (KW_play_95 np nb fu   x2 mem)) else (KW_play_95 np nb fu   x2 mem))
def KW_play (np nb : Nat) (fu : Nat) (x1 : Int32) (mem : Mem) : Option Mem := (KW_play_4 np nb fu  5 x1 (-1) 0 mem)
def rw_play : Room := { frames := 7, cells := 7324, slots := 58168, locals := 168 }
theorem rwc_play : rw_play.cells = 7324 ∧ rw_play.slots = 58168 := ⟨rfl, rfl⟩
set_option maxHeartbeats 4000000 in
set_option maxRecDepth 100000 in
theorem cw_play (l : Launch) {D : va_G} {ca ad : Nat → Nat} {np nb eD tS sB : Nat} {Z : (Nat → Prop) → State → Heap → Prop} (hZ : ZOK Z) {tA tU L : Nat} {xs : Nat → Int32} (hW : ZWO Z tA tU sB L xs) (hg : np ≤ 4 ∧ nb ≤ 4 ∧ (np = 0 → nb = 0)) (fu : Nat) (x1 : Int32) (mem : Mem) (res : Mem) (hF : KW_play np nb fu x1 mem = some res) : CJv l D (tyL ca) (nW np nb) ad (cWd ca ad np nb eD tS sB) Z yX12_play cX12_play 5 rw_play [.ref (ad 0), .int x1] mem res := by
  refine xstart_v (own := RX12) rfl (by decide) (Nat.le_of_ble_eq_true rfl) ?_
  intro p e s m args below meth c Q hQ X
  have ec_advised := rwc_advised
  have ec_bestWall := rwc_bestWall
  have ec_build := rwc_build
  have ec_distance := rwc_distance
  have ec_endTurn := rwc_endTurn
  have ec_step := rwc_step
  rw [KW_play] at hF
  revert hF
  have w_152 : ∀  (mem : Mem), KW_play_152 np nb fu  mem = some res → XX D (nW np nb) ad (cWd ca ad np nb eD tS sB) p l e rw_play s m args below meth c 5 7300 58000 Q mem [] 152 [(0, .ref (ad 0))] [] := by
    intro  mem hF
    rw [KW_play_152] at hF
    refine x_aload_n X 0 dX12_play_152 rfl rfl 153 rfl ?_
    refine x_aload_n X 0 dX12_play_153 rfl rfl 154 rfl ?_
    refine x_getV (v := .int (rd mem 0 4)) X 0 nw_0 kw_0 (T := TX12) (N := 11) rfl in_X12 4 (by decide) kF_X12_154 rfl rfl dX12_play_154 157 rfl ?_
    refine x_callVi (fun x => x) (fun _ => mem) X hZ hF [.int (rd mem 0 4)] 0 nw_0 kw_0 rfl rfl rfl kB_X12_advised kL_X12_225 (fun res h => cw_advised l hZ hW hg fu (rd mem 0 4) mem res h) rfl ⟨Nat.le_of_ble_eq_true rfl, Nat.le_of_ble_eq_true rfl⟩ (Nat.le_of_ble_eq_true rfl) ⟨Nat.le_of_ble_eq_true rfl, Nat.le_of_ble_eq_true rfl⟩ dX12_play_157 160 rfl (fun x_1 hF => ?_)
    refine x_istore_n X [(3, .int x_1), (0, .ref (ad 0))] dX12_play_160 rfl (by decide) rfl 161 rfl ?_
    refine x_iload_n X 0 dX12_play_161 rfl rfl 162 rfl ?_
    refine x_if_ge X hF 172 165 dX12_play_162 (by decide) rfl (fun hF => ?_) (fun hF => ?_)
    · refine x_aload_n X 1 dX12_play_165 rfl rfl 166 rfl ?_
      refine x_callVv (fun m => m) X hZ hF [] 0 nw_0 kw_0 rfl rfl rfl kB_X12_endTurn kL_X12_214 (fun res h => cw_endTurn l hZ hW hg fu  mem res h) rfl ⟨Nat.le_of_ble_eq_true rfl, Nat.le_of_ble_eq_true rfl⟩ (Nat.le_of_ble_eq_true rfl) ⟨Nat.le_of_ble_eq_true rfl, Nat.le_of_ble_eq_true rfl⟩ dX12_play_166 169 rfl (fun m_2 hF => ?_)
      refine x_goto X 179 dX12_play_169 (by decide) ?_
      exact x_vret X hQ (o_inj hF) (Nat.le_of_ble_eq_true rfl) (Nat.le_of_ble_eq_true rfl) dX12_play_179
    · refine x_aload_n X 1 dX12_play_172 rfl rfl 173 rfl ?_
      refine x_iload_n X 0 dX12_play_173 rfl rfl 174 rfl ?_
      refine x_callVi (fun x => x.1) (fun x => x.2) X hZ hF [.int x_1] 0 nw_0 kw_0 rfl rfl rfl kB_X12_step kL_X12_228 (fun res h => cw_step l hZ hW hg fu x_1 mem res h) rfl ⟨Nat.le_of_ble_eq_true rfl, Nat.le_of_ble_eq_true rfl⟩ (Nat.le_of_ble_eq_true rfl) ⟨Nat.le_of_ble_eq_true rfl, Nat.le_of_ble_eq_true rfl⟩ dX12_play_174 177 rfl (fun p_3 hF => ?_)
      refine x_istore X [(4, .int p_3.1), (3, .int x_1), (0, .ref (ad 0))] dX12_play_177 (by decide) rfl 179 rfl ?_
      exact x_vret X hQ (o_inj hF) (Nat.le_of_ble_eq_true rfl) (Nat.le_of_ble_eq_true rfl) dX12_play_179
  have w_95 : ∀  (x2 : Int32) (mem : Mem), KW_play_95 np nb fu  x2 mem = some res → XX D (nW np nb) ad (cWd ca ad np nb eD tS sB) p l e rw_play s m args below meth c 5 90 720 Q mem [] 95 [(0, .ref (ad 0)), (2, .int x2)] [] := by
    intro  x2 mem hF
    rw [KW_play_95] at hF
    refine x_iload_n X 1 dX12_play_95 rfl rfl 96 rfl ?_
    refine x_if_lt X hF 152 99 dX12_play_96 (by decide) rfl (fun hF => ?_) (fun hF => ?_)
    · refine x_keep [0] rfl ?_
      refine x_widen (k := 7300) (k2 := 58000) (by omega) (by omega) ?_
      exact w_152   mem hF
    · refine x_aload_n X 0 dX12_play_99 rfl rfl 100 rfl ?_
      refine x_iload_n X 1 dX12_play_100 rfl rfl 101 rfl ?_
      refine x_callVi (fun x => x) (fun _ => mem) X hZ hF [.int x2] 0 nw_0 kw_0 rfl rfl rfl kB_X12_distance kL_X12_201 (fun res h => cw_distance l hZ hW hg fu x2 mem res h) rfl ⟨Nat.le_of_ble_eq_true rfl, Nat.le_of_ble_eq_true rfl⟩ (Nat.le_of_ble_eq_true rfl) ⟨Nat.le_of_ble_eq_true rfl, Nat.le_of_ble_eq_true rfl⟩ dX12_play_101 104 rfl (fun x_4 hF => ?_)
      refine x_aload_n X 0 dX12_play_104 rfl rfl 105 rfl ?_
      refine x_aload_n X 0 dX12_play_105 rfl rfl 106 rfl ?_
      refine x_getV (v := .int (rd mem 0 4)) X 0 nw_0 kw_0 (T := TX12) (N := 11) rfl in_X12 4 (by decide) kF_X12_154 rfl rfl dX12_play_106 109 rfl ?_
      refine x_callVi (fun x => x) (fun _ => mem) X hZ hF [.int (rd mem 0 4)] 0 nw_0 kw_0 rfl rfl rfl kB_X12_distance kL_X12_201 (fun res h => cw_distance l hZ hW hg fu (rd mem 0 4) mem res h) rfl ⟨Nat.le_of_ble_eq_true rfl, Nat.le_of_ble_eq_true rfl⟩ (Nat.le_of_ble_eq_true rfl) ⟨Nat.le_of_ble_eq_true rfl, Nat.le_of_ble_eq_true rfl⟩ dX12_play_109 112 rfl (fun x_5 hF => ?_)
      refine x_icmp_ge X hF 152 115 dX12_play_112 (by decide) rfl (fun hF => ?_) (fun hF => ?_)
      · refine x_aload_n X 0 dX12_play_115 rfl rfl 116 rfl ?_
        refine x_iload_n X 1 dX12_play_116 rfl rfl 117 rfl ?_
        refine x_callVn (ca := ca) (fun t => t.1) (fun t => t.2) X hZ hF [.int x2] 0 nw_0 kw_0 rfl rfl rfl kB_X12_bestWall kL_X12_217 (fun res h => cw_bestWall l hZ hW hg fu x2 mem res h) rfl ⟨Nat.le_of_ble_eq_true rfl, Nat.le_of_ble_eq_true rfl⟩ (Nat.le_of_ble_eq_true rfl) ⟨Nat.le_of_ble_eq_true rfl, Nat.le_of_ble_eq_true rfl⟩ dX12_play_117 120 rfl (fun t_6 q hF => ?_)
        rw [List.nil_append]
        refine x_astore_nB X t_6.1 q  [(3, (vB t_6.1 q)), (0, .ref (ad 0)), (2, .int x2)] dX12_play_120 rfl (by decide) rfl 121 rfl ?_
        refine x_aload_nB X t_6.1 q 0 dX12_play_121 rfl rfl 122 rfl ?_
        refine x_ifnullB X (fun v => [(3, v), (0, .ref (ad 0)), (2, .int x2)]) t_6.1 q hF 152 125 dX12_play_122 (by decide) rfl (fun hF => ?_) (fun f_7 hF => ?_)
        · refine x_keep [1] rfl ?_
          refine x_widen (k := 7300) (k2 := 58000) (by omega) (by omega) ?_
          exact w_152   t_6.2 hF
        · refine x_aload_n X 0 dX12_play_125 rfl rfl 126 rfl ?_
          refine x_iconst X 3 dX12_play_126 rfl 127 rfl ?_
          refine e_ial X 0 rfl (t0 := 0) rfl (by unfold vp_in; decide +kernel) dX12_play_127 128 rfl ?_
          refine x_aload_n X 1 dX12_play_128 rfl rfl 129 rfl ?_
          refine x_iload_n X 2 dX12_play_129 rfl rfl 130 rfl ?_
          refine x_callVi (fun x => x) (fun _ => t_6.2) X hZ hF [.int x2] 0 nw_0 kw_0 rfl rfl rfl kB_X12_distance kL_X12_201 (fun res h => cw_distance l hZ hW hg fu x2 t_6.2 res h) rfl ⟨Nat.le_of_ble_eq_true rfl, Nat.le_of_ble_eq_true rfl⟩ (Nat.le_of_ble_eq_true rfl) ⟨Nat.le_of_ble_eq_true rfl, Nat.le_of_ble_eq_true rfl⟩ dX12_play_130 133 rfl (fun x_8 hF => ?_)
          refine x_icmp_le X hF 152 136 dX12_play_133 (by decide) rfl (fun hF => ?_) (fun hF => ?_)
          · refine x_aload_n X 1 dX12_play_136 rfl rfl 137 rfl ?_
            refine x_aload_n X 0 dX12_play_137 rfl rfl 138 rfl ?_
            refine x_iconst X 0 dX12_play_138 rfl 139 rfl ?_
            refine e_ial X 0 rfl (t0 := 0) rfl (by unfold vp_in; decide +kernel) dX12_play_139 140 rfl ?_
            refine x_aload_n X 0 dX12_play_140 rfl rfl 141 rfl ?_
            refine x_iconst X 1 dX12_play_141 rfl 142 rfl ?_
            refine e_ial X 0 rfl (t0 := 0) rfl (by unfold vp_in; decide +kernel) dX12_play_142 143 rfl ?_
            refine x_aload_n X 0 dX12_play_143 rfl rfl 144 rfl ?_
            refine x_iconst X 2 dX12_play_144 rfl 145 rfl ?_
            refine e_ial X 0 rfl (t0 := 0) rfl (by unfold vp_in; decide +kernel) dX12_play_145 146 rfl ?_
            refine x_callVi (fun x => x.1) (fun x => x.2) X hZ hF [.int (f_7 0), .int (f_7 1), .int (f_7 2)] 0 nw_0 kw_0 rfl rfl rfl kB_X12_build kL_X12_221 (fun res h => cw_build l hZ hW hg fu (f_7 0) (f_7 1) (f_7 2) t_6.2 res h) rfl ⟨Nat.le_of_ble_eq_true rfl, Nat.le_of_ble_eq_true rfl⟩ (Nat.le_of_ble_eq_true rfl) ⟨Nat.le_of_ble_eq_true rfl, Nat.le_of_ble_eq_true rfl⟩ dX12_play_146 149 rfl (fun p_9 hF => ?_)
            refine x_istore X [(4, .int p_9.1), (3, .ref q), (0, .ref (ad 0)), (2, .int x2)] dX12_play_149 (by decide) rfl 151 rfl ?_
            exact x_vret X hQ (o_inj hF) (Nat.le_of_ble_eq_true rfl) (Nat.le_of_ble_eq_true rfl) dX12_play_151
          · refine x_keep [1] rfl ?_
            refine x_widen (k := 7300) (k2 := 58000) (by omega) (by omega) ?_
            refine x_drop ?_
            exact w_152   t_6.2 hF
      · refine x_keep [0] rfl ?_
        refine x_widen (k := 7300) (k2 := 58000) (by omega) (by omega) ?_
        exact w_152   mem hF
  have w_4 : ∀  (n : Nat) (hn : n ≤ 5) (x1 : Int32) (x2 : Int32) (x3 : Int32) (mem : Mem), KW_play_4 np nb fu  n x1 x2 x3 mem = some res → XX D (nW np nb) ad (cWd ca ad np nb eD tS sB) p l e rw_play s m args below meth c 5 (0 + (5 - n) * 18) (0 + (5 - n) * 144) Q mem [] 4 [(0, .ref (ad 0)), (1, .int x1), (2, .int x2), (3, .int x3)] [] := by
    intro  n
    induction n with
    | zero => intro hn x1 x2 x3 mem hF; exact no_none (show (none : Option Mem) = some res from hF)
    | succ n ih =>
      intro hn x1 x2 x3 mem hF
      rw [KW_play_4] at hF
      refine x_iload_n X 3 dX12_play_4 rfl rfl 5 rfl ?_
      refine x_aload_n X 0 dX12_play_5 rfl rfl 6 rfl ?_
      refine x_getV (v := .ref (ad 1)) X 0 nw_0 kw_0 (T := TX12) (N := 11) rfl in_X12 5 (by decide) kF_X12_19 rfl rfl dX12_play_6 9 rfl ?_
      refine xw_size X hZ hW kL_X12_106 ⟨Nat.le_of_ble_eq_true rfl, Nat.le_of_ble_eq_true rfl⟩ (Nat.le_of_ble_eq_true rfl) ⟨by show _ ≤ 7324; omega, by show _ ≤ 58168; omega⟩ dX12_play_9 14 rfl ?_
      refine x_icmp_ge X hF 95 17 dX12_play_14 (by decide) rfl (fun hF => ?_) (fun hF => ?_)
      · refine x_iload_n X 1 dX12_play_17 rfl rfl 18 rfl ?_
        refine x_iconst X 1 dX12_play_18 rfl 19 rfl ?_
        refine x_icmp_ne X hF 95 22 dX12_play_19 (by decide) rfl (fun hF => ?_) (fun hF => ?_)
        · refine x_aload_n X 0 dX12_play_22 rfl rfl 23 rfl ?_
          refine x_getV (v := .ref (ad 1)) X 0 nw_0 kw_0 (T := TX12) (N := 11) rfl in_X12 5 (by decide) kF_X12_19 rfl rfl dX12_play_23 26 rfl ?_
          refine x_aload_n X 0 dX12_play_26 rfl rfl 27 rfl ?_
          refine x_getV (v := .int (rd mem 0 4)) X 0 nw_0 kw_0 (T := TX12) (N := 11) rfl in_X12 4 (by decide) kF_X12_154 rfl rfl dX12_play_27 30 rfl ?_
          refine x_gi hF (fun h_10 hF => ?_)
          refine xw_get X hZ hW hg.1 h_10 kL_X12_193 kCl_X12_169 ⟨Nat.le_of_ble_eq_true rfl, Nat.le_of_ble_eq_true rfl⟩ (Nat.le_of_ble_eq_true rfl) ⟨by show _ ≤ 7324; omega, by show _ ≤ 58168; omega⟩ dX12_play_30 35 rfl dX12_play_35 38 rfl ?_
          refine x_iconst X 3 dX12_play_38 rfl 39 rfl ?_
          refine x_ial X (13 + (Int32.toNatClampNeg (rd mem 0 4))) (nw_p (vp_lt h_10)) (kw_p (vp_lt h_10)) (t0 := 0) rfl (by unfold vp_in; decide +kernel) dX12_play_39 40 rfl ?_
          refine x_if_le X hF 95 43 dX12_play_40 (by decide) rfl (fun hF => ?_) (fun hF => ?_)
          · refine x_iload_n X 3 dX12_play_43 rfl rfl 44 rfl ?_
            refine x_aload_n X 0 dX12_play_44 rfl rfl 45 rfl ?_
            refine x_getV (v := .int (rd mem 0 4)) X 0 nw_0 kw_0 (T := TX12) (N := 11) rfl in_X12 4 (by decide) kF_X12_154 rfl rfl dX12_play_45 48 rfl ?_
            refine x_icmp_eq X hF 89 51 dX12_play_48 (by decide) rfl (fun hF => ?_) (fun hF => ?_)
            · refine x_iinc X 3 (x3 + 1) [(3, .int (x3 + 1)), (0, .ref (ad 0)), (1, .int x1), (2, .int x2)] dX12_play_89 rfl rfl (by decide) rfl 92 rfl ?_
              refine x_goto X 4 dX12_play_92 (by decide) ?_
              refine x_keep [1, 2, 3, 0] rfl ?_
              refine x_widen (k := (0 + (5 - n) * 18)) (k2 := (0 + (5 - n) * 144)) (by omega) (by omega) ?_
              exact ih (by omega) x1 x2 (x3 + 1) mem hF
            · refine x_aload_n X 0 dX12_play_51 rfl rfl 52 rfl ?_
              refine x_getV (v := .ref (ad 1)) X 0 nw_0 kw_0 (T := TX12) (N := 11) rfl in_X12 5 (by decide) kF_X12_19 rfl rfl dX12_play_52 55 rfl ?_
              refine x_iload_n X 3 dX12_play_55 rfl rfl 56 rfl ?_
              refine x_gi hF (fun h_11 hF => ?_)
              refine xw_get X hZ hW hg.1 h_11 kL_X12_193 kCl_X12_169 ⟨Nat.le_of_ble_eq_true rfl, Nat.le_of_ble_eq_true rfl⟩ (Nat.le_of_ble_eq_true rfl) ⟨by show _ ≤ 7324; omega, by show _ ≤ 58168; omega⟩ dX12_play_56 61 rfl dX12_play_61 64 rfl ?_
              refine x_bipush X 6 dX12_play_64 rfl 66 rfl ?_
              refine x_ial X (13 + (Int32.toNatClampNeg x3)) (nw_p (vp_lt h_11)) (kw_p (vp_lt h_11)) (t0 := 0) rfl (by unfold vp_in; decide +kernel) dX12_play_66 67 rfl ?_
              refine x_if_ne X hF 89 70 dX12_play_67 (by decide) rfl (fun hF => ?_) (fun hF => ?_)
              · refine x_iload_n X 2 dX12_play_70 rfl rfl 71 rfl ?_
                refine x_if_lt X hF 87 74 dX12_play_71 (by decide) rfl (fun hF => ?_) (fun hF => ?_)
                · refine x_iload_n X 3 dX12_play_87 rfl rfl 88 rfl ?_
                  refine x_istore_n X [(2, .int x3), (0, .ref (ad 0)), (1, .int x1), (3, .int x3)] dX12_play_88 rfl (by decide) rfl 89 rfl ?_
                  refine x_iinc X 3 (x3 + 1) [(3, .int (x3 + 1)), (2, .int x3), (0, .ref (ad 0)), (1, .int x1)] dX12_play_89 rfl rfl (by decide) rfl 92 rfl ?_
                  refine x_goto X 4 dX12_play_92 (by decide) ?_
                  refine x_keep [2, 3, 1, 0] rfl ?_
                  refine x_widen (k := (0 + (5 - n) * 18)) (k2 := (0 + (5 - n) * 144)) (by omega) (by omega) ?_
                  exact ih (by omega) x1 x3 (x3 + 1) mem hF
                · refine x_aload_n X 0 dX12_play_74 rfl rfl 75 rfl ?_
                  refine x_iload_n X 3 dX12_play_75 rfl rfl 76 rfl ?_
                  refine x_callVi (fun x => x) (fun _ => mem) X hZ hF [.int x3] 0 nw_0 kw_0 rfl rfl rfl kB_X12_distance kL_X12_201 (fun res h => cw_distance l hZ hW hg fu x3 mem res h) rfl ⟨Nat.le_of_ble_eq_true rfl, Nat.le_of_ble_eq_true rfl⟩ (Nat.le_of_ble_eq_true rfl) ⟨by show _ ≤ 7324; omega, by show _ ≤ 58168; omega⟩ dX12_play_76 79 rfl (fun x_12 hF => ?_)
                  refine x_aload_n X 0 dX12_play_79 rfl rfl 80 rfl ?_
                  refine x_iload_n X 2 dX12_play_80 rfl rfl 81 rfl ?_
                  refine x_callVi (fun x => x) (fun _ => mem) X hZ hF [.int x2] 0 nw_0 kw_0 rfl rfl rfl kB_X12_distance kL_X12_201 (fun res h => cw_distance l hZ hW hg fu x2 mem res h) rfl ⟨Nat.le_of_ble_eq_true rfl, Nat.le_of_ble_eq_true rfl⟩ (Nat.le_of_ble_eq_true rfl) ⟨by show _ ≤ 7324; omega, by show _ ≤ 58168; omega⟩ dX12_play_81 84 rfl (fun x_13 hF => ?_)
                  refine x_icmp_ge X hF 89 87 dX12_play_84 (by decide) rfl (fun hF => ?_) (fun hF => ?_)
                  · refine x_iload_n X 3 dX12_play_87 rfl rfl 88 rfl ?_
                    refine x_istore_n X [(2, .int x3), (0, .ref (ad 0)), (1, .int x1), (3, .int x3)] dX12_play_88 rfl (by decide) rfl 89 rfl ?_
                    refine x_iinc X 3 (x3 + 1) [(3, .int (x3 + 1)), (2, .int x3), (0, .ref (ad 0)), (1, .int x1)] dX12_play_89 rfl rfl (by decide) rfl 92 rfl ?_
                    refine x_goto X 4 dX12_play_92 (by decide) ?_
                    refine x_keep [2, 3, 1, 0] rfl ?_
                    refine x_widen (k := (0 + (5 - n) * 18)) (k2 := (0 + (5 - n) * 144)) (by omega) (by omega) ?_
                    exact ih (by omega) x1 x3 (x3 + 1) mem hF
                  · refine x_iinc X 3 (x3 + 1) [(3, .int (x3 + 1)), (0, .ref (ad 0)), (1, .int x1), (2, .int x2)] dX12_play_89 rfl rfl (by decide) rfl 92 rfl ?_
                    refine x_goto X 4 dX12_play_92 (by decide) ?_
                    refine x_keep [1, 2, 3, 0] rfl ?_
                    refine x_widen (k := (0 + (5 - n) * 18)) (k2 := (0 + (5 - n) * 144)) (by omega) (by omega) ?_
                    exact ih (by omega) x1 x2 (x3 + 1) mem hF
              · refine x_iinc X 3 (x3 + 1) [(3, .int (x3 + 1)), (0, .ref (ad 0)), (1, .int x1), (2, .int x2)] dX12_play_89 rfl rfl (by decide) rfl 92 rfl ?_
                refine x_goto X 4 dX12_play_92 (by decide) ?_
                refine x_keep [1, 2, 3, 0] rfl ?_
                refine x_widen (k := (0 + (5 - n) * 18)) (k2 := (0 + (5 - n) * 144)) (by omega) (by omega) ?_
                exact ih (by omega) x1 x2 (x3 + 1) mem hF
          · refine x_keep [0, 2] rfl ?_
            refine x_widen (k := 90) (k2 := 720) (by omega) (by omega) ?_
            exact w_95   x2 mem hF
        · refine x_keep [0, 2] rfl ?_
          refine x_widen (k := 90) (k2 := 720) (by omega) (by omega) ?_
          exact w_95   x2 mem hF
      · refine x_keep [0, 2] rfl ?_
        refine x_widen (k := 90) (k2 := 720) (by omega) (by omega) ?_
        exact w_95   x2 mem hF
  intro hF
  refine x_iconst X (-1) dX12_play_0 rfl 1 rfl ?_
  refine x_istore_n X [(2, .int (-1)), (0, .ref (ad 0)), (1, .int x1)] dX12_play_1 rfl (by decide) rfl 2 rfl ?_
  refine x_iconst X 0 dX12_play_2 rfl 3 rfl ?_
  refine x_istore_n X [(3, .int 0), (2, .int (-1)), (0, .ref (ad 0)), (1, .int x1)] dX12_play_3 rfl (by decide) rfl 4 rfl ?_
  refine x_keep [2, 3, 1, 0] rfl ?_
  refine x_widen (k := (0 + (5 - 5) * 18)) (k2 := (0 + (5 - 5) * 144)) (by omega) (by omega) ?_
  exact w_4  5 (by omega) x1 (-1) 0 mem hF

end WB
