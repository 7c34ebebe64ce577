theorem dbg_k69_2 : (match bget 9 mtT (kM t_k69) with
    | some row => seE Yt (gDep dept) t_k69 50 (anOf a_k69) (lnOf l_k69) (kM t_k69) (fun n _ => cond (Nat.beq n 2) (some true) (match cutAt c_k69 n with | some _ => some true | none => none)) 3000 0 (fltA (rArgs t_k69) ++ List.replicate (row.2.1 - (fltA (rArgs t_k69)).length) aD, [], kB t_k69, (kArgs t_k69).length, [], (0, kArgs t_k69) :: kPre t_k69, 0, 0)
    | none => false) = true := by decide +kernel
theorem dbg_k69_3 : (match bget 9 mtT (kM t_k69) with
    | some row => seE Yt (gDep dept) t_k69 50 (anOf a_k69) (lnOf l_k69) (kM t_k69) (fun n _ => cond (Nat.beq n 3) (some true) (match cutAt c_k69 n with | some _ => some true | none => none)) 3000 0 (fltA (rArgs t_k69) ++ List.replicate (row.2.1 - (fltA (rArgs t_k69)).length) aD, [], kB t_k69, (kArgs t_k69).length, [], (0, kArgs t_k69) :: kPre t_k69, 0, 0)
    | none => false) = true := by decide +kernel
theorem dbg_k69_11 : (match bget 9 mtT (kM t_k69) with
    | some row => seE Yt (gDep dept) t_k69 50 (anOf a_k69) (lnOf l_k69) (kM t_k69) (fun n _ => cond (Nat.beq n 11) (some true) (match cutAt c_k69 n with | some _ => some true | none => none)) 3000 0 (fltA (rArgs t_k69) ++ List.replicate (row.2.1 - (fltA (rArgs t_k69)).length) aD, [], kB t_k69, (kArgs t_k69).length, [], (0, kArgs t_k69) :: kPre t_k69, 0, 0)
    | none => false) = true := by decide +kernel
theorem dbg_k69_12 : (match bget 9 mtT (kM t_k69) with
    | some row => seE Yt (gDep dept) t_k69 50 (anOf a_k69) (lnOf l_k69) (kM t_k69) (fun n _ => cond (Nat.beq n 12) (some true) (match cutAt c_k69 n with | some _ => some true | none => none)) 3000 0 (fltA (rArgs t_k69) ++ List.replicate (row.2.1 - (fltA (rArgs t_k69)).length) aD, [], kB t_k69, (kArgs t_k69).length, [], (0, kArgs t_k69) :: kPre t_k69, 0, 0)
    | none => false) = true := by decide +kernel
theorem dbg_k69_18 : (match bget 9 mtT (kM t_k69) with
    | some row => seE Yt (gDep dept) t_k69 50 (anOf a_k69) (lnOf l_k69) (kM t_k69) (fun n _ => cond (Nat.beq n 18) (some true) (match cutAt c_k69 n with | some _ => some true | none => none)) 3000 0 (fltA (rArgs t_k69) ++ List.replicate (row.2.1 - (fltA (rArgs t_k69)).length) aD, [], kB t_k69, (kArgs t_k69).length, [], (0, kArgs t_k69) :: kPre t_k69, 0, 0)
    | none => false) = true := by decide +kernel
theorem dbg_k69_25 : (match bget 9 mtT (kM t_k69) with
    | some row => seE Yt (gDep dept) t_k69 50 (anOf a_k69) (lnOf l_k69) (kM t_k69) (fun n _ => cond (Nat.beq n 25) (some true) (match cutAt c_k69 n with | some _ => some true | none => none)) 3000 0 (fltA (rArgs t_k69) ++ List.replicate (row.2.1 - (fltA (rArgs t_k69)).length) aD, [], kB t_k69, (kArgs t_k69).length, [], (0, kArgs t_k69) :: kPre t_k69, 0, 0)
    | none => false) = true := by decide +kernel
theorem dbg_k69_26 : (match bget 9 mtT (kM t_k69) with
    | some row => seE Yt (gDep dept) t_k69 50 (anOf a_k69) (lnOf l_k69) (kM t_k69) (fun n _ => cond (Nat.beq n 26) (some true) (match cutAt c_k69 n with | some _ => some true | none => none)) 3000 0 (fltA (rArgs t_k69) ++ List.replicate (row.2.1 - (fltA (rArgs t_k69)).length) aD, [], kB t_k69, (kArgs t_k69).length, [], (0, kArgs t_k69) :: kPre t_k69, 0, 0)
    | none => false) = true := by decide +kernel
theorem dbg_k69_28 : (match bget 9 mtT (kM t_k69) with
    | some row => seE Yt (gDep dept) t_k69 50 (anOf a_k69) (lnOf l_k69) (kM t_k69) (fun n _ => cond (Nat.beq n 28) (some true) (match cutAt c_k69 n with | some _ => some true | none => none)) 3000 0 (fltA (rArgs t_k69) ++ List.replicate (row.2.1 - (fltA (rArgs t_k69)).length) aD, [], kB t_k69, (kArgs t_k69).length, [], (0, kArgs t_k69) :: kPre t_k69, 0, 0)
    | none => false) = true := by decide +kernel
theorem dbg_k69_31 : (match bget 9 mtT (kM t_k69) with
    | some row => seE Yt (gDep dept) t_k69 50 (anOf a_k69) (lnOf l_k69) (kM t_k69) (fun n _ => cond (Nat.beq n 31) (some true) (match cutAt c_k69 n with | some _ => some true | none => none)) 3000 0 (fltA (rArgs t_k69) ++ List.replicate (row.2.1 - (fltA (rArgs t_k69)).length) aD, [], kB t_k69, (kArgs t_k69).length, [], (0, kArgs t_k69) :: kPre t_k69, 0, 0)
    | none => false) = true := by decide +kernel
theorem dbg_k69_32 : (match bget 9 mtT (kM t_k69) with
    | some row => seE Yt (gDep dept) t_k69 50 (anOf a_k69) (lnOf l_k69) (kM t_k69) (fun n _ => cond (Nat.beq n 32) (some true) (match cutAt c_k69 n with | some _ => some true | none => none)) 3000 0 (fltA (rArgs t_k69) ++ List.replicate (row.2.1 - (fltA (rArgs t_k69)).length) aD, [], kB t_k69, (kArgs t_k69).length, [], (0, kArgs t_k69) :: kPre t_k69, 0, 0)
    | none => false) = true := by decide +kernel

