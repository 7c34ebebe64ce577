theorem dbg_k45_3 : (match bget 9 mtT (kM t_k45) with
    | some row => seE Yt (gDep dept) t_k45 50 (anOf a_k45) (lnOf l_k45) (kM t_k45) (fun n _ => cond (Nat.beq n 3) (some true) (match cutAt c_k45 n with | some _ => some true | none => none)) 3000 0 (fltA (kArgs t_k45) ++ List.replicate (row.2.1 - (fltA (kArgs t_k45)).length) aD, [], kB t_k45, (kArgs t_k45).length, [], (0, kArgs t_k45) :: kPre t_k45, 0, 0)
    | none => false) = true := by decide +kernel
theorem dbg_k45_7 : (match bget 9 mtT (kM t_k45) with
    | some row => seE Yt (gDep dept) t_k45 50 (anOf a_k45) (lnOf l_k45) (kM t_k45) (fun n _ => cond (Nat.beq n 7) (some true) (match cutAt c_k45 n with | some _ => some true | none => none)) 3000 0 (fltA (kArgs t_k45) ++ List.replicate (row.2.1 - (fltA (kArgs t_k45)).length) aD, [], kB t_k45, (kArgs t_k45).length, [], (0, kArgs t_k45) :: kPre t_k45, 0, 0)
    | none => false) = true := by decide +kernel
theorem dbg_k45_12 : (match bget 9 mtT (kM t_k45) with
    | some row => seE Yt (gDep dept) t_k45 50 (anOf a_k45) (lnOf l_k45) (kM t_k45) (fun n _ => cond (Nat.beq n 12) (some true) (match cutAt c_k45 n with | some _ => some true | none => none)) 3000 0 (fltA (kArgs t_k45) ++ List.replicate (row.2.1 - (fltA (kArgs t_k45)).length) aD, [], kB t_k45, (kArgs t_k45).length, [], (0, kArgs t_k45) :: kPre t_k45, 0, 0)
    | none => false) = true := by decide +kernel
theorem dbg_k45_17 : (match bget 9 mtT (kM t_k45) with
    | some row => seE Yt (gDep dept) t_k45 50 (anOf a_k45) (lnOf l_k45) (kM t_k45) (fun n _ => cond (Nat.beq n 17) (some true) (match cutAt c_k45 n with | some _ => some true | none => none)) 3000 0 (fltA (kArgs t_k45) ++ List.replicate (row.2.1 - (fltA (kArgs t_k45)).length) aD, [], kB t_k45, (kArgs t_k45).length, [], (0, kArgs t_k45) :: kPre t_k45, 0, 0)
    | none => false) = true := by decide +kernel
theorem dbg_k45_23 : (match bget 9 mtT (kM t_k45) with
    | some row => seE Yt (gDep dept) t_k45 50 (anOf a_k45) (lnOf l_k45) (kM t_k45) (fun n _ => cond (Nat.beq n 23) (some true) (match cutAt c_k45 n with | some _ => some true | none => none)) 3000 0 (fltA (kArgs t_k45) ++ List.replicate (row.2.1 - (fltA (kArgs t_k45)).length) aD, [], kB t_k45, (kArgs t_k45).length, [], (0, kArgs t_k45) :: kPre t_k45, 0, 0)
    | none => false) = true := by decide +kernel
theorem dbg_k45_24 : (match bget 9 mtT (kM t_k45) with
    | some row => seE Yt (gDep dept) t_k45 50 (anOf a_k45) (lnOf l_k45) (kM t_k45) (fun n _ => cond (Nat.beq n 24) (some true) (match cutAt c_k45 n with | some _ => some true | none => none)) 3000 0 (fltA (kArgs t_k45) ++ List.replicate (row.2.1 - (fltA (kArgs t_k45)).length) aD, [], kB t_k45, (kArgs t_k45).length, [], (0, kArgs t_k45) :: kPre t_k45, 0, 0)
    | none => false) = true := by decide +kernel
theorem dbg_k45_32 : (match bget 9 mtT (kM t_k45) with
    | some row => seE Yt (gDep dept) t_k45 50 (anOf a_k45) (lnOf l_k45) (kM t_k45) (fun n _ => cond (Nat.beq n 32) (some true) (match cutAt c_k45 n with | some _ => some true | none => none)) 3000 0 (fltA (kArgs t_k45) ++ List.replicate (row.2.1 - (fltA (kArgs t_k45)).length) aD, [], kB t_k45, (kArgs t_k45).length, [], (0, kArgs t_k45) :: kPre t_k45, 0, 0)
    | none => false) = true := by decide +kernel
theorem dbg_k45_43 : (match bget 9 mtT (kM t_k45) with
    | some row => seE Yt (gDep dept) t_k45 50 (anOf a_k45) (lnOf l_k45) (kM t_k45) (fun n _ => cond (Nat.beq n 43) (some true) (match cutAt c_k45 n with | some _ => some true | none => none)) 3000 0 (fltA (kArgs t_k45) ++ List.replicate (row.2.1 - (fltA (kArgs t_k45)).length) aD, [], kB t_k45, (kArgs t_k45).length, [], (0, kArgs t_k45) :: kPre t_k45, 0, 0)
    | none => false) = true := by decide +kernel
theorem dbg_k45_44 : (match bget 9 mtT (kM t_k45) with
    | some row => seE Yt (gDep dept) t_k45 50 (anOf a_k45) (lnOf l_k45) (kM t_k45) (fun n _ => cond (Nat.beq n 44) (some true) (match cutAt c_k45 n with | some _ => some true | none => none)) 3000 0 (fltA (kArgs t_k45) ++ List.replicate (row.2.1 - (fltA (kArgs t_k45)).length) aD, [], kB t_k45, (kArgs t_k45).length, [], (0, kArgs t_k45) :: kPre t_k45, 0, 0)
    | none => false) = true := by decide +kernel
theorem dbg_k45_49 : (match bget 9 mtT (kM t_k45) with
    | some row => seE Yt (gDep dept) t_k45 50 (anOf a_k45) (lnOf l_k45) (kM t_k45) (fun n _ => cond (Nat.beq n 49) (some true) (match cutAt c_k45 n with | some _ => some true | none => none)) 3000 0 (fltA (kArgs t_k45) ++ List.replicate (row.2.1 - (fltA (kArgs t_k45)).length) aD, [], kB t_k45, (kArgs t_k45).length, [], (0, kArgs t_k45) :: kPre t_k45, 0, 0)
    | none => false) = true := by decide +kernel
theorem dbg_k45_56 : (match bget 9 mtT (kM t_k45) with
    | some row => seE Yt (gDep dept) t_k45 50 (anOf a_k45) (lnOf l_k45) (kM t_k45) (fun n _ => cond (Nat.beq n 56) (some true) (match cutAt c_k45 n with | some _ => some true | none => none)) 3000 0 (fltA (kArgs t_k45) ++ List.replicate (row.2.1 - (fltA (kArgs t_k45)).length) aD, [], kB t_k45, (kArgs t_k45).length, [], (0, kArgs t_k45) :: kPre t_k45, 0, 0)
    | none => false) = true := by decide +kernel
theorem dbg_k45_60 : (match bget 9 mtT (kM t_k45) with
    | some row => seE Yt (gDep dept) t_k45 50 (anOf a_k45) (lnOf l_k45) (kM t_k45) (fun n _ => cond (Nat.beq n 60) (some true) (match cutAt c_k45 n with | some _ => some true | none => none)) 3000 0 (fltA (kArgs t_k45) ++ List.replicate (row.2.1 - (fltA (kArgs t_k45)).length) aD, [], kB t_k45, (kArgs t_k45).length, [], (0, kArgs t_k45) :: kPre t_k45, 0, 0)
    | none => false) = true := by decide +kernel
theorem dbg_k45_67 : (match bget 9 mtT (kM t_k45) with
    | some row => seE Yt (gDep dept) t_k45 50 (anOf a_k45) (lnOf l_k45) (kM t_k45) (fun n _ => cond (Nat.beq n 67) (some true) (match cutAt c_k45 n with | some _ => some true | none => none)) 3000 0 (fltA (kArgs t_k45) ++ List.replicate (row.2.1 - (fltA (kArgs t_k45)).length) aD, [], kB t_k45, (kArgs t_k45).length, [], (0, kArgs t_k45) :: kPre t_k45, 0, 0)
    | none => false) = true := by decide +kernel

theorem dbg_k101_8 : (match bget 9 mtT (kM t_k101) with
    | some row => seE Yt (gDep dept) t_k101 50 (anOf a_k101) (lnOf l_k101) (kM t_k101) (fun n _ => cond (Nat.beq n 8) (some true) (match cutAt c_k101 n with | some _ => some true | none => none)) 3000 0 (fltA (kArgs t_k101) ++ List.replicate (row.2.1 - (fltA (kArgs t_k101)).length) aD, [], kB t_k101, (kArgs t_k101).length, [], (0, kArgs t_k101) :: kPre t_k101, 0, 0)
    | none => false) = true := by decide +kernel
theorem dbg_k101_8_17 : (match cutAt c_k101 8 with
    | some A => (match (ops (kM t_k101)).drop A.1 with
      | [] => false
      | e :: _ => e_lems (lnOf l_k101 A.1) (stepE (kM t_k101) Yt (gDep dept) t_k101 50 (anOf a_k101) (seE Yt (gDep dept) t_k101 50 (anOf a_k101) (lnOf l_k101) (kM t_k101) (fun n _ => cond (Nat.beq n 17) (some true) (match cutAt c_k101 n with | some _ => some true | none => none)) 3000) A.1 e) (cutSt1 A))
    | none => false) = true := by decide +kernel
theorem dbg_k101_8_21 : (match cutAt c_k101 8 with
    | some A => (match (ops (kM t_k101)).drop A.1 with
      | [] => false
      | e :: _ => e_lems (lnOf l_k101 A.1) (stepE (kM t_k101) Yt (gDep dept) t_k101 50 (anOf a_k101) (seE Yt (gDep dept) t_k101 50 (anOf a_k101) (lnOf l_k101) (kM t_k101) (fun n _ => cond (Nat.beq n 21) (some true) (match cutAt c_k101 n with | some _ => some true | none => none)) 3000) A.1 e) (cutSt1 A))
    | none => false) = true := by decide +kernel
theorem dbg_k101_8_25 : (match cutAt c_k101 8 with
    | some A => (match (ops (kM t_k101)).drop A.1 with
      | [] => false
      | e :: _ => e_lems (lnOf l_k101 A.1) (stepE (kM t_k101) Yt (gDep dept) t_k101 50 (anOf a_k101) (seE Yt (gDep dept) t_k101 50 (anOf a_k101) (lnOf l_k101) (kM t_k101) (fun n _ => cond (Nat.beq n 25) (some true) (match cutAt c_k101 n with | some _ => some true | none => none)) 3000) A.1 e) (cutSt1 A))
    | none => false) = true := by decide +kernel
theorem dbg_k101_8_27 : (match cutAt c_k101 8 with
    | some A => (match (ops (kM t_k101)).drop A.1 with
      | [] => false
      | e :: _ => e_lems (lnOf l_k101 A.1) (stepE (kM t_k101) Yt (gDep dept) t_k101 50 (anOf a_k101) (seE Yt (gDep dept) t_k101 50 (anOf a_k101) (lnOf l_k101) (kM t_k101) (fun n _ => cond (Nat.beq n 27) (some true) (match cutAt c_k101 n with | some _ => some true | none => none)) 3000) A.1 e) (cutSt1 A))
    | none => false) = true := by decide +kernel
theorem dbg_k101_8_32 : (match cutAt c_k101 8 with
    | some A => (match (ops (kM t_k101)).drop A.1 with
      | [] => false
      | e :: _ => e_lems (lnOf l_k101 A.1) (stepE (kM t_k101) Yt (gDep dept) t_k101 50 (anOf a_k101) (seE Yt (gDep dept) t_k101 50 (anOf a_k101) (lnOf l_k101) (kM t_k101) (fun n _ => cond (Nat.beq n 32) (some true) (match cutAt c_k101 n with | some _ => some true | none => none)) 3000) A.1 e) (cutSt1 A))
    | none => false) = true := by decide +kernel
theorem dbg_k101_8_33 : (match cutAt c_k101 8 with
    | some A => (match (ops (kM t_k101)).drop A.1 with
      | [] => false
      | e :: _ => e_lems (lnOf l_k101 A.1) (stepE (kM t_k101) Yt (gDep dept) t_k101 50 (anOf a_k101) (seE Yt (gDep dept) t_k101 50 (anOf a_k101) (lnOf l_k101) (kM t_k101) (fun n _ => cond (Nat.beq n 33) (some true) (match cutAt c_k101 n with | some _ => some true | none => none)) 3000) A.1 e) (cutSt1 A))
    | none => false) = true := by decide +kernel
theorem dbg_k101_8_44 : (match cutAt c_k101 8 with
    | some A => (match (ops (kM t_k101)).drop A.1 with
      | [] => false
      | e :: _ => e_lems (lnOf l_k101 A.1) (stepE (kM t_k101) Yt (gDep dept) t_k101 50 (anOf a_k101) (seE Yt (gDep dept) t_k101 50 (anOf a_k101) (lnOf l_k101) (kM t_k101) (fun n _ => cond (Nat.beq n 44) (some true) (match cutAt c_k101 n with | some _ => some true | none => none)) 3000) A.1 e) (cutSt1 A))
    | none => false) = true := by decide +kernel
theorem dbg_k101_8_45 : (match cutAt c_k101 8 with
    | some A => (match (ops (kM t_k101)).drop A.1 with
      | [] => false
      | e :: _ => e_lems (lnOf l_k101 A.1) (stepE (kM t_k101) Yt (gDep dept) t_k101 50 (anOf a_k101) (seE Yt (gDep dept) t_k101 50 (anOf a_k101) (lnOf l_k101) (kM t_k101) (fun n _ => cond (Nat.beq n 45) (some true) (match cutAt c_k101 n with | some _ => some true | none => none)) 3000) A.1 e) (cutSt1 A))
    | none => false) = true := by decide +kernel
theorem dbg_k101_8_46 : (match cutAt c_k101 8 with
    | some A => (match (ops (kM t_k101)).drop A.1 with
      | [] => false
      | e :: _ => e_lems (lnOf l_k101 A.1) (stepE (kM t_k101) Yt (gDep dept) t_k101 50 (anOf a_k101) (seE Yt (gDep dept) t_k101 50 (anOf a_k101) (lnOf l_k101) (kM t_k101) (fun n _ => cond (Nat.beq n 46) (some true) (match cutAt c_k101 n with | some _ => some true | none => none)) 3000) A.1 e) (cutSt1 A))
    | none => false) = true := by decide +kernel
theorem dbg_k101_8_50 : (match cutAt c_k101 8 with
    | some A => (match (ops (kM t_k101)).drop A.1 with
      | [] => false
      | e :: _ => e_lems (lnOf l_k101 A.1) (stepE (kM t_k101) Yt (gDep dept) t_k101 50 (anOf a_k101) (seE Yt (gDep dept) t_k101 50 (anOf a_k101) (lnOf l_k101) (kM t_k101) (fun n _ => cond (Nat.beq n 50) (some true) (match cutAt c_k101 n with | some _ => some true | none => none)) 3000) A.1 e) (cutSt1 A))
    | none => false) = true := by decide +kernel
theorem dbg_k101_8_55 : (match cutAt c_k101 8 with
    | some A => (match (ops (kM t_k101)).drop A.1 with
      | [] => false
      | e :: _ => e_lems (lnOf l_k101 A.1) (stepE (kM t_k101) Yt (gDep dept) t_k101 50 (anOf a_k101) (seE Yt (gDep dept) t_k101 50 (anOf a_k101) (lnOf l_k101) (kM t_k101) (fun n _ => cond (Nat.beq n 55) (some true) (match cutAt c_k101 n with | some _ => some true | none => none)) 3000) A.1 e) (cutSt1 A))
    | none => false) = true := by decide +kernel
theorem dbg_k101_8_65 : (match cutAt c_k101 8 with
    | some A => (match (ops (kM t_k101)).drop A.1 with
      | [] => false
      | e :: _ => e_lems (lnOf l_k101 A.1) (stepE (kM t_k101) Yt (gDep dept) t_k101 50 (anOf a_k101) (seE Yt (gDep dept) t_k101 50 (anOf a_k101) (lnOf l_k101) (kM t_k101) (fun n _ => cond (Nat.beq n 65) (some true) (match cutAt c_k101 n with | some _ => some true | none => none)) 3000) A.1 e) (cutSt1 A))
    | none => false) = true := by decide +kernel
theorem dbg_k101_8_66 : (match cutAt c_k101 8 with
    | some A => (match (ops (kM t_k101)).drop A.1 with
      | [] => false
      | e :: _ => e_lems (lnOf l_k101 A.1) (stepE (kM t_k101) Yt (gDep dept) t_k101 50 (anOf a_k101) (seE Yt (gDep dept) t_k101 50 (anOf a_k101) (lnOf l_k101) (kM t_k101) (fun n _ => cond (Nat.beq n 66) (some true) (match cutAt c_k101 n with | some _ => some true | none => none)) 3000) A.1 e) (cutSt1 A))
    | none => false) = true := by decide +kernel

