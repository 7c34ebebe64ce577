/-! THE CHECKER: one step -/
/-- the called method's own contract: it is the one, and its receiver is of its class -/
noncomputable def calB (Y : Nat → TYE) (y : Nat) (c : KT) : Bool := (Nat.beq (kM c) y && idsK c) && (match kArgs c, bget 9 mtT y with
  | a :: _, some row => (Nat.beq a.1 2 && (Nat.beq a.2.1 0 && eqB a.2.2.2 0)) && (Nat.beq (Y a.2.2.1).1 row.2.2 && Nat.beq (Y a.2.2.1).2.1 0)
  | _, _ => false)
noncomputable def stepE (k : Nat) (Y : Nat → TYE) (dep : Nat → List EF) (t : KT) (dk : Nat) (AN : Nat → KT) (go : GE) (n : Nat) (e : OE) (S : SE) : Bool := match e.2.1 with
  | .iconst z => e_push (aC z) go n S
  | .bipush z => e_push (aC z) go n S
  | .sipush z => e_push (aC z) go n S
  | .ldc _ => e_push (aC (eInt e)) go n S
  | .ldc_w _ => e_push (aC (eInt e)) go n S
  | .ldc2_w _ => e_ldl (eInt e) go n S
  | .lconst l => e_ldl (Int.ofNat l.1) go n S
  | .iload _ => e_load 0 e.2.2.2.1 go n S
  | .iload_n _ => e_load 0 e.2.2.2.1 go n S
  | .lload _ => e_load 1 e.2.2.2.1 go n S
  | .lload_n _ => e_load 1 e.2.2.2.1 go n S
  | .aload _ => e_load 2 e.2.2.2.1 go n S
  | .aload_n _ => e_load 2 e.2.2.2.1 go n S
  | .istore _ => e_store 0 e.2.2.2.1 go n S
  | .istore_n _ => e_store 0 e.2.2.2.1 go n S
  | .astore _ => e_store 2 e.2.2.2.1 go n S
  | .astore_n _ => e_store 2 e.2.2.2.1 go n S
  | .lstore _ => e_lstore e.2.2.2.1 go n S
  | .lstore_n _ => e_lstore e.2.2.2.1 go n S
  | .iinc _ c => e_iinc (nInc c) e.2.2.2.1 go n S
  | .iadd => e_bin 23 nAdd go n S
  | .isub => e_bin 24 nSub go n S
  | .imul => e_bin 25 nMul go n S
  | .idiv => e_bin 26 nDivF go n S
  | .irem => e_bin 27 nRemF go n S
  | .iand => e_bin 82 nAnd go n S
  | .ixor => e_bin 83 nAny go n S
  | .ishl => e_bin 80 nShl go n S
  | .ishr => e_bin 81 nAny go n S
  | .iushr => e_bin 0 nUsr go n S
  | .ineg => e_un nNeg go n S
  | .ladd => e_lbin false 710 go n S
  | .lsub => e_lbin false 711 go n S
  | .lmul => e_lbin false 712 go n S
  | .land => e_lbin0 false go n S
  | .lor => e_lbin0 false go n S
  | .ldiv => e_lbin true 713 go n S
  | .lrem => e_lrem go n S
  | .lshl => e_lshl go n S
  | .lneg => e_lun go n S
  | .lcmp => e_lcmp go n S
  | .i2l => e_i2l go n S
  | .l2i => e_l2i go n S
  | .dup => e_dup go n S
  | .dup2 => e_dup2 go n S
  | .pop => e_pop go n S
  | .if_icmp c _ => e_icmp c e.2.2.2.1 go n S
  | .ifCond c _ => e_if c e.2.2.2.1 go n S
  | .goto _ => go e.2.2.2.1 S
  | .tableswitch df lo hi offs => e_sw k e.1 df lo hi offs go S
  | .getfield _ => cond (Nat.beq e.2.2.2.1 3) (e_getR Y e.2.2.2.2.1 e.2.2.2.2.2 go n S) (e_getI Y e.2.2.2.2.1 e.2.2.2.2.2 go n S)
  | .putfield _ => (not (fn e.2.2.2.2.1 e.2.2.2.2.2) && (Nat.ble 1 e.2.2.2.1 && Nat.ble e.2.2.2.1 2)) && e_putI Y dep (kEff t) e.2.2.2.1 e.2.2.2.2.1 e.2.2.2.2.2 go n S
  | .iaload => e_ald Y (fun g => Nat.beq g 20 || Nat.beq g 23) go n S
  | .baload => e_ald Y (fun g => Nat.beq g 21) go n S
  | .iastore => e_ast Y dep (kEff t) 20 false go n S
  | .bastore => e_ast Y dep (kEff t) 21 true go n S
  | .arraylength => e_alen Y go n S
  | .invokevirtual _ => calB Y e.2.2.2.2.1 (AN n) && e_call dep (kEff t) dk (AN n) (e.2.2.2.2.2 + 1) go n S
  | .invokestatic _ => cond (Nat.beq e.2.2.2.1 4) ((Nat.beq (kM (AN n)) e.2.2.2.2.1 && idsK (AN n)) && e_call dep (kEff t) dk (AN n) e.2.2.2.2.2 go n S)
      (cond (Nat.beq e.2.2.2.1 8) (e_mm 84 nMax go n S) (cond (Nat.beq e.2.2.2.1 9) (e_mm 85 nMin go n S)
        (cond (Nat.beq e.2.2.2.1 10) ((stB (S.2.1.drop 1) && Nat.ble (wdsE (S.2.1.drop 1)) 8) && e_unF 717 nAbs go n S) (cond (Nat.beq e.2.2.2.1 11) ((stB (S.2.1.drop 1) && Nat.ble (wdsE (S.2.1.drop 1)) 8) && e_lun go n S) (cond (Nat.beq e.2.2.2.1 6) (e_cpy Y dep (kEff t) go n S) false)))))
  | .ireturn => (match S.2.1 with
    | [w] => (isI w && (Nat.beq e.2.2.2.1 1 || is01 (ivl S.2.2.1 w))) && e_ret t (some w) S
    | _ => false)
  | .lreturn => (match S.2.1 with
    | [w] => isL w && e_ret t (some w) S
    | _ => false)
  | .return_ => (match S.2.1 with
    | [] => e_ret t none S
    | _ => false)
  | _ => false
section
variable {Y : Nat → TYE} {PS : PST} {dep : Nat → List EF} {Γ0 : Nat → Nat} {M0 : MM} {d k : Nat} {go : GE} {n : Nat}
variable {r : List OE} {S : SE} {t : KT} {g0 g1 : List MV} {ρ0 : Nat → Int} {α0 : Nat → Nat}
set_option maxHeartbeats 8000000 in
theorem step_okE (hPS : PSok Y PS dep) (hBR : PSax Y PS) {dk : Nat} (hdk : dk ≤ d) {AN : Nat → KT} (hAN : ∀ n, KOK Y PS (AN n)) (hi : idsK t = true) (ha : g0 = (kArgs t).map (valO ρ0 α0)) {e : OE} (Q : SQ Y (gPS g0 g1 PS) (kEff t) Γ0 M0 d k (KPost Y PS t ρ0 α0 Γ0 M0) go n e r) (h : stepE k Y (gDep dep) t dk AN go n e S = true) : TRU Y (gPS g0 g1 PS) (kEff t) Γ0 M0 d k (KPost Y PS t ρ0 α0 Γ0 M0) e.1 S := by
  obtain ⟨pc, i, len, a1, a2, a3⟩ := e
  have hd := Q.row.1
  have hA := Q.row.2.2
  have hPS2 := gPS_ok hPS g0 g1
  have hCP := (gPSdf hBR.2.2.2.2.2 g0 g1).1
  have hDF := (gPSdf hBR.2.2.2.2.2 g0 g1).2
  have hK2 : idsK (AN n) = true → KOK Y (gPS g0 g1 PS) (AN n) := fun q => gKOK (hAN n) q g0 g1
  cases i
  case iconst z =>
    obtain ⟨q1, q2⟩ := bb2 (show (Nat.beq len 1 && inB z) = true from hA)
    cases beq_iff.mp q1
    exact q_push (v := aC z) (m := vi z) Q (fun ρ α Γ => rfl) (fun {ls t M Q} kk => by obtain ⟨s0, u0, K, R, I⟩ := M; exact s_iconst hd (inB_ok q2) kk) h
  case bipush z =>
    obtain ⟨q1, q2⟩ := bb2 (show (Nat.beq len 2 && (inB z && decide ((Int8.ofInt z).toInt32 = Int32.ofInt z))) = true from hA)
    obtain ⟨q2, q3⟩ := bb2 q2
    cases beq_iff.mp q1
    exact q_push (v := aC z) (m := vi z) Q (fun ρ α Γ => rfl) (fun {ls t M Q} kk => by obtain ⟨s0, u0, K, R, I⟩ := M; exact s_bipush hd (inB_ok q2) (of_decide_eq_true q3) kk) h
  case sipush z =>
    obtain ⟨q1, q2⟩ := bb2 (show (Nat.beq len 3 && (inB z && decide ((Int16.ofInt z).toInt32 = Int32.ofInt z))) = true from hA)
    obtain ⟨q2, q3⟩ := bb2 q2
    cases beq_iff.mp q1
    exact q_push (v := aC z) (m := vi z) Q (fun ρ α Γ => rfl) (fun {ls t M Q} kk => by obtain ⟨s0, u0, K, R, I⟩ := M; exact s_sipush hd (inB_ok q2) (of_decide_eq_true q3) kk) h
  case lconst z =>
    cases beq_iff.mp (show Nat.beq len 1 = true from hA)
    exact q_ldl Q (fun {ls t M Q} kk => by obtain ⟨s0, u0, K, R, I⟩ := M; exact s_lconst hd rfl kk) h
  case ldc idx =>
    obtain ⟨q1, q2⟩ := bb2 (show (Nat.beq len 2 && _) = true from hA)
    obtain ⟨q2, q3⟩ := bb2 q2
    cases beq_iff.mp q1
    exact q_push (v := aC (eInt (pc, .ldc idx, 2, a1, a2, a3))) (m := vi (eInt (pc, .ldc idx, 2, a1, a2, a3))) Q (fun ρ α Γ => rfl) (fun {ls t M Q} kk => by obtain ⟨s0, u0, K, R, I⟩ := M; exact s_ldc hd (of_decide_eq_true q2) (inB_ok q3) kk) h
  case ldc_w idx =>
    obtain ⟨q1, q2⟩ := bb2 (show (Nat.beq len 3 && _) = true from hA)
    obtain ⟨q2, q3⟩ := bb2 q2
    cases beq_iff.mp q1
    exact q_push (v := aC (eInt (pc, .ldc_w idx, 3, a1, a2, a3))) (m := vi (eInt (pc, .ldc_w idx, 3, a1, a2, a3))) Q (fun ρ α Γ => rfl) (fun {ls t M Q} kk => by obtain ⟨s0, u0, K, R, I⟩ := M; exact s_ldcw hd (of_decide_eq_true q2) (inB_ok q3) kk) h
  case ldc2_w idx =>
    obtain ⟨q1, q2⟩ := bb2 (show (Nat.beq len 3 && _) = true from hA)
    obtain ⟨q2, q3⟩ := bb2 q2
    obtain ⟨q3, q4⟩ := bb2 q3
    cases beq_iff.mp q1
    rw [Bool.not_eq_true', ltB_f] at q3
    rw [ltB_iff] at q4
    exact q_ldl Q (fun {ls t M Q} kk => by obtain ⟨s0, u0, K, R, I⟩ := M; exact s_ldc2 hd (of_decide_eq_true q2) ⟨by omega, q4⟩ kk) h
  case iload j =>
    obtain ⟨q1, q2⟩ := bb2 (show (Nat.beq len 2 && Nat.beq j a1) = true from hA)
    cases beq_iff.mp q1
    cases beq_iff.mp q2
    exact q_load (t := 0) (by omega) Q (fun m {ls t2 M Q} hm hl kk => by
      obtain ⟨s0, u0, K, R, I⟩ := M
      rcases hm with ⟨-, x, rfl⟩ | ⟨q9, x, rfl⟩ | ⟨q9, x, rfl⟩ <;> first | (cases q9; done) | exact s_iload hd hl kk) h
  case iload_n j =>
    obtain ⟨q1, q2⟩ := bb2 (show (Nat.beq len 1 && Nat.beq j.1 a1) = true from hA)
    cases beq_iff.mp q1
    cases beq_iff.mp q2
    exact q_load (t := 0) (by omega) Q (fun m {ls t2 M Q} hm hl kk => by
      obtain ⟨s0, u0, K, R, I⟩ := M
      rcases hm with ⟨-, x, rfl⟩ | ⟨q9, x, rfl⟩ | ⟨q9, x, rfl⟩ <;> first | (cases q9; done) | exact s_iload_n hd hl kk) h
  case lload j =>
    obtain ⟨q1, q2⟩ := bb2 (show (Nat.beq len 2 && Nat.beq j a1) = true from hA)
    cases beq_iff.mp q1
    cases beq_iff.mp q2
    exact q_load (t := 1) (by omega) Q (fun m {ls t2 M Q} hm hl kk => by
      obtain ⟨s0, u0, K, R, I⟩ := M
      rcases hm with ⟨q9, x, rfl⟩ | ⟨-, x, rfl⟩ | ⟨q9, x, rfl⟩ <;> first | (cases q9; done) | exact s_lload hd hl kk) h
  case lload_n j =>
    obtain ⟨q1, q2⟩ := bb2 (show (Nat.beq len 1 && Nat.beq j.1 a1) = true from hA)
    cases beq_iff.mp q1
    cases beq_iff.mp q2
    exact q_load (t := 1) (by omega) Q (fun m {ls t2 M Q} hm hl kk => by
      obtain ⟨s0, u0, K, R, I⟩ := M
      rcases hm with ⟨q9, x, rfl⟩ | ⟨-, x, rfl⟩ | ⟨q9, x, rfl⟩ <;> first | (cases q9; done) | exact s_lload_n hd hl kk) h
  case aload j =>
    obtain ⟨q1, q2⟩ := bb2 (show (Nat.beq len 2 && Nat.beq j a1) = true from hA)
    cases beq_iff.mp q1
    cases beq_iff.mp q2
    exact q_load (t := 2) (by omega) Q (fun m {ls t2 M Q} hm hl kk => by
      obtain ⟨s0, u0, K, R, I⟩ := M
      rcases hm with ⟨q9, x, rfl⟩ | ⟨q9, x, rfl⟩ | ⟨-, x, rfl⟩ <;> first | (cases q9; done) | exact s_aload hd hl kk) h
  case aload_n j =>
    obtain ⟨q1, q2⟩ := bb2 (show (Nat.beq len 1 && Nat.beq j.1 a1) = true from hA)
    cases beq_iff.mp q1
    cases beq_iff.mp q2
    exact q_load (t := 2) (by omega) Q (fun m {ls t2 M Q} hm hl kk => by
      obtain ⟨s0, u0, K, R, I⟩ := M
      rcases hm with ⟨q9, x, rfl⟩ | ⟨q9, x, rfl⟩ | ⟨-, x, rfl⟩ <;> first | (cases q9; done) | exact s_aload_n hd hl kk) h
  case istore j =>
    obtain ⟨q1, q2⟩ := bb2 (show (Nat.beq len 2 && (Nat.beq j a1 && macB k pc a2)) = true from hA)
    obtain ⟨q2, -⟩ := bb2 q2
    cases beq_iff.mp q1
    cases beq_iff.mp q2
    exact q_store (t := 0) (by omega) Q (fun m {ls t2 M Q} hm hl kk => by
      obtain ⟨s0, u0, K, R, I⟩ := M
      rcases hm with ⟨-, x, rfl⟩ | ⟨q9, x, rfl⟩ | ⟨q9, x, rfl⟩ <;> first | (cases q9; done) | exact s_istore hd hl rfl kk) h
  case istore_n j =>
    obtain ⟨q1, q2⟩ := bb2 (show (Nat.beq len 1 && (Nat.beq j.1 a1 && macB k pc a2)) = true from hA)
    obtain ⟨q2, -⟩ := bb2 q2
    cases beq_iff.mp q1
    cases beq_iff.mp q2
    exact q_store (t := 0) (by omega) Q (fun m {ls t2 M Q} hm hl kk => by
      obtain ⟨s0, u0, K, R, I⟩ := M
      rcases hm with ⟨-, x, rfl⟩ | ⟨q9, x, rfl⟩ | ⟨q9, x, rfl⟩ <;> first | (cases q9; done) | exact s_istore_n hd hl rfl kk) h
  case astore j =>
    obtain ⟨q1, q2⟩ := bb2 (show (Nat.beq len 2 && (Nat.beq j a1 && macB k pc a2)) = true from hA)
    obtain ⟨q2, -⟩ := bb2 q2
    cases beq_iff.mp q1
    cases beq_iff.mp q2
    exact q_store (t := 2) (by omega) Q (fun m {ls t2 M Q} hm hl kk => by
      obtain ⟨s0, u0, K, R, I⟩ := M
      rcases hm with ⟨q9, x, rfl⟩ | ⟨q9, x, rfl⟩ | ⟨-, x, rfl⟩ <;> first | (cases q9; done) | exact s_astore hd hl rfl kk) h
  case astore_n j =>
    obtain ⟨q1, q2⟩ := bb2 (show (Nat.beq len 1 && (Nat.beq j.1 a1 && macB k pc a2)) = true from hA)
    obtain ⟨q2, -⟩ := bb2 q2
    cases beq_iff.mp q1
    cases beq_iff.mp q2
    exact q_store (t := 2) (by omega) Q (fun m {ls t2 M Q} hm hl kk => by
      obtain ⟨s0, u0, K, R, I⟩ := M
      rcases hm with ⟨q9, x, rfl⟩ | ⟨q9, x, rfl⟩ | ⟨-, x, rfl⟩ <;> first | (cases q9; done) | exact s_astore_n hd hl rfl kk) h
  case lstore j =>
    obtain ⟨q1, q2⟩ := bb2 (show (Nat.beq len 2 && Nat.beq j a1) = true from hA)
    cases beq_iff.mp q1
    cases beq_iff.mp q2
    exact q_lstore Q (fun x {ls t2 M Q} hl kk => by
      obtain ⟨s0, u0, K, R, I⟩ := M
      exact s_lstore hd hl rfl kk) h
  case lstore_n j =>
    obtain ⟨q1, q2⟩ := bb2 (show (Nat.beq len 1 && Nat.beq j.1 a1) = true from hA)
    cases beq_iff.mp q1
    cases beq_iff.mp q2
    exact q_lstore Q (fun x {ls t2 M Q} hl kk => by
      obtain ⟨s0, u0, K, R, I⟩ := M
      exact s_lstore_n hd hl rfl kk) h
  case iinc j z =>
    obtain ⟨q1, q2⟩ := bb2 (show (Nat.beq len 3 && Nat.beq j a1) = true from hA)
    cases beq_iff.mp q1
    cases beq_iff.mp q2
    exact q_iinc (nInc_ok z) Q (fun {ls t M Q x} hx kk => by
      obtain ⟨s0, u0, K, R, I⟩ := M
      exact s_iinc hd hx rfl kk) h
  case iadd =>
    cases beq_iff.mp (show Nat.beq len 1 = true from hA)
    exact q_bin (Or.inr fun x y Γ M => (hDF x y Γ M).1) nAdd_ok Q (fun {ls t M Q x y} hz kk => by obtain ⟨s0, u0, K, R, I⟩ := M; exact s_iadd hd kk) h
  case isub =>
    cases beq_iff.mp (show Nat.beq len 1 = true from hA)
    exact q_bin (Or.inr fun x y Γ M => (hDF x y Γ M).2.1) nSub_ok Q (fun {ls t M Q x y} hz kk => by obtain ⟨s0, u0, K, R, I⟩ := M; exact s_isub hd kk) h
  case imul =>
    cases beq_iff.mp (show Nat.beq len 1 = true from hA)
    exact q_bin (Or.inr fun x y Γ M => (hDF x y Γ M).2.2.1) nMul_ok Q (fun {ls t M Q x y} hz kk => by obtain ⟨s0, u0, K, R, I⟩ := M; exact s_imul hd kk) h
  case idiv =>
    cases beq_iff.mp (show Nat.beq len 1 = true from hA)
    exact q_bin (Or.inr fun x y Γ M => (hDF x y Γ M).2.2.2.1) nDivF_ok Q (fun {ls t M Q x y} hz kk => by obtain ⟨s0, u0, K, R, I⟩ := M; exact s_idiv hd (hz rfl) kk) h
  case irem =>
    cases beq_iff.mp (show Nat.beq len 1 = true from hA)
    exact q_bin (Or.inr fun x y Γ M => (hDF x y Γ M).2.2.2.2.1) nRemF_ok Q (fun {ls t M Q x y} hz kk => by obtain ⟨s0, u0, K, R, I⟩ := M; exact s_irem hd (hz rfl) kk) h
  case iand =>
    cases beq_iff.mp (show Nat.beq len 1 = true from hA)
    exact q_bin (Or.inr fun x y Γ M => (hDF x y Γ M).2.2.2.2.2.2.2.1) nAnd_ok Q (fun {ls t M Q x y} hz kk => by obtain ⟨s0, u0, K, R, I⟩ := M; exact s_iand hd kk) h
  case ixor =>
    cases beq_iff.mp (show Nat.beq len 1 = true from hA)
    exact q_bin (Or.inr fun x y Γ M => (hDF x y Γ M).2.2.2.2.2.2.2.2.1) nXor_ok Q (fun {ls t M Q x y} hz kk => by obtain ⟨s0, u0, K, R, I⟩ := M; exact s_ixor hd kk) h
  case ishl =>
    cases beq_iff.mp (show Nat.beq len 1 = true from hA)
    exact q_bin (Or.inr fun x y Γ M => (hDF x y Γ M).2.2.2.2.2.1) nShl_ok Q (fun {ls t M Q x y} hz kk => by obtain ⟨s0, u0, K, R, I⟩ := M; exact s_ishl hd kk) h
  case ishr =>
    cases beq_iff.mp (show Nat.beq len 1 = true from hA)
    exact q_bin (Or.inr fun x y Γ M => (hDF x y Γ M).2.2.2.2.2.2.1) nShr_ok Q (fun {ls t M Q x y} hz kk => by obtain ⟨s0, u0, K, R, I⟩ := M; exact s_ishr hd kk) h
  case iushr =>
    cases beq_iff.mp (show Nat.beq len 1 = true from hA)
    exact q_bin (Or.inl rfl) nUsr_ok Q (fun {ls t M Q x y} hz kk => by obtain ⟨s0, u0, K, R, I⟩ := M; exact s_iushr hd kk) h
  case ineg =>
    cases beq_iff.mp (show Nat.beq len 1 = true from hA)
    exact q_un nNeg_ok Q (fun {ls t M Q x} kk => by obtain ⟨s0, u0, K, R, I⟩ := M; exact s_ineg hd kk) h
  case ladd =>
    cases beq_iff.mp (show Nat.beq len 1 = true from hA)
    exact q_lbin (op := fun x y => wL (x + y)) (fun _ _ => wL_in _) (fun _ x y Γ M => (hDF x y Γ M).2.2.2.2.2.2.2.2.2.2.2.1) Q (fun {ls t M Q x y} hz kk => by obtain ⟨s0, u0, K, R, I⟩ := M; exact s_ladd hd kk) h
  case lsub =>
    cases beq_iff.mp (show Nat.beq len 1 = true from hA)
    exact q_lbin (op := fun x y => wL (x - y)) (fun _ _ => wL_in _) (fun _ x y Γ M => (hDF x y Γ M).2.2.2.2.2.2.2.2.2.2.2.2.1) Q (fun {ls t M Q x y} hz kk => by obtain ⟨s0, u0, K, R, I⟩ := M; exact s_lsub hd kk) h
  case lmul =>
    cases beq_iff.mp (show Nat.beq len 1 = true from hA)
    exact q_lbin (op := fun x y => wL (x * y)) (fun _ _ => wL_in _) (fun _ x y Γ M => (hDF x y Γ M).2.2.2.2.2.2.2.2.2.2.2.2.2.1) Q (fun {ls t M Q x y} hz kk => by obtain ⟨s0, u0, K, R, I⟩ := M; exact s_lmul hd kk) h
  case land =>
    cases beq_iff.mp (show Nat.beq len 1 = true from hA)
    exact q_lbin0 (op := lAnd) Q (fun {ls t M Q x y} hz kk => by obtain ⟨s0, u0, K, R, I⟩ := M; exact s_land hd kk) h
  case lor =>
    cases beq_iff.mp (show Nat.beq len 1 = true from hA)
    exact q_lbin0 (op := lOr) Q (fun {ls t M Q x y} hz kk => by obtain ⟨s0, u0, K, R, I⟩ := M; exact s_lor hd kk) h
  case ldiv =>
    cases beq_iff.mp (show Nat.beq len 1 = true from hA)
    exact q_lbin (op := fun x y => wL (x.tdiv y)) (fun _ _ => wL_in _) (fun _ x y Γ M => (hDF x y Γ M).2.2.2.2.2.2.2.2.2.2.2.2.2.2.1) Q (fun {ls t M Q x y} hz kk => by obtain ⟨s0, u0, K, R, I⟩ := M; exact s_ldiv hd (hz rfl) kk) h
  case lrem =>
    cases beq_iff.mp (show Nat.beq len 1 = true from hA)
    exact q_lrem (fun x y Γ M => (hDF x y Γ M).2.2.2.2.2.2.2.2.2.2.2.2.2.2.2.1) Q h
  case lshl =>
    cases beq_iff.mp (show Nat.beq len 1 = true from hA)
    exact q_lshl Q h
  case lneg =>
    cases beq_iff.mp (show Nat.beq len 1 = true from hA)
    exact q_lun Q (fun {ls t M Q x} kk => by obtain ⟨s0, u0, K, R, I⟩ := M; exact s_lneg hd kk) h
  case lcmp =>
    cases beq_iff.mp (show Nat.beq len 1 = true from hA)
    exact q_lcmpE (fun x y Γ M => (hDF x y Γ M).2.2.2.2.2.2.2.2.2.2.2.2.2.2.2.2.1) Q h
  case i2l =>
    cases beq_iff.mp (show Nat.beq len 1 = true from hA)
    exact q_i2l Q h
  case l2i =>
    cases beq_iff.mp (show Nat.beq len 1 = true from hA)
    exact q_l2i (fun x Γ M => (hDF x 0 Γ M).2.2.2.2.2.2.2.2.2.2.2.2.2.2.2.2.2) Q h
  case dup =>
    cases beq_iff.mp (show Nat.beq len 1 = true from hA)
    exact q_dup Q h
  case dup2 =>
    cases beq_iff.mp (show Nat.beq len 1 = true from hA)
    exact q_dup2 Q h
  case pop =>
    cases beq_iff.mp (show Nat.beq len 1 = true from hA)
    exact q_pop Q h
  case if_icmp c off =>
    obtain ⟨q1, q2⟩ := bb2 (show (Nat.beq len 3 && tgB pc off (dropN a1 (ops k))) = true from hA)
    exact q_icmp (gPSbr hBR.1 g0 g1) Q (beq_iff.mp q1) q2 h
  case ifCond c off =>
    obtain ⟨q1, q2⟩ := bb2 (show (Nat.beq len 3 && tgB pc off (dropN a1 (ops k))) = true from hA)
    exact q_if (gPSbr hBR.1 g0 g1) Q (beq_iff.mp q1) q2 h
  case goto off =>
    obtain ⟨q1, q2⟩ := bb2 (show (Nat.beq len 3 && tgB pc off (dropN a1 (ops k))) = true from hA)
    exact q_goto Q (beq_iff.mp q1) q2 h
  case tableswitch df lo hi offs => exact q_sw Q h
  case getfield idx =>
    obtain ⟨q1, q2⟩ := bb2 (show (Nat.beq len 3 && _) = true from hA)
    obtain ⟨q2, q3⟩ := bb2 q2
    obtain ⟨q3, q4⟩ := bb2 q3
    obtain ⟨q4, q5⟩ := bb2 q4
    obtain ⟨q5, q6⟩ := bb2 q5
    have b5 : 1 ≤ a1 := ble_iff.mp q5
    have b6 : a1 ≤ 3 := ble_iff.mp q6
    cases beq_iff.mp q1
    have h : cond (Nat.beq a1 3) (e_getR Y a2 a3 go n S) (e_getI Y a2 a3 go n S) = true := h
    cases hc : Nat.beq a1 3 with
    | true =>
      rw [hc, cond_true] at h
      have := beq_iff.mp hc
      subst this
      exact q_getR Q (of_decide_eq_true q2) h
    | false =>
      rw [hc, cond_false] at h
      have : a1 ≠ 3 := fun q => by rw [beq_iff.mpr q] at hc; cases hc
      exact q_getI (gPSfr hBR.2.1 g0 g1) (gPSty hBR.2.2.2.2.1 g0 g1) Q (of_decide_eq_true q2) (by omega) h
  case putfield idx =>
    obtain ⟨q1, q2⟩ := bb2 (show (Nat.beq len 3 && _) = true from hA)
    obtain ⟨q2, q3⟩ := bb2 q2
    cases beq_iff.mp q1
    obtain ⟨h1, h2⟩ := bb2 (show ((not (fn a2 a3) && (Nat.ble 1 a1 && Nat.ble a1 2)) && e_putI Y (gDep dep) (kEff t) a1 a2 a3 go n S) = true from h)
    obtain ⟨h1, h3⟩ := bb2 h1
    rw [Bool.not_eq_true'] at h1
    obtain ⟨h3, h4⟩ := bb2 h3
    have b3 := ble_iff.mp h3
    have b4 := ble_iff.mp h4
    have hg : a1 = 1 ∨ a1 = 2 := by omega
    exact q_putI hPS2 (gPSho hBR.2.2.2.1 g0 g1) Q (of_decide_eq_true q2) hg h1 h2
  case iaload =>
    cases beq_iff.mp (show Nat.beq len 1 = true from hA)
    refine q_ald (gPSfr hBR.2.1 g0 g1) (gPSty hBR.2.2.2.2.1 g0 g1) (ok := fun g => Nat.beq g 20 || Nat.beq g 23) rfl Q (fun {ls t s0 u0 K R I Q a m kc x} hk ha h0 h1 kk => ?_) h
    rw [Bool.or_eq_true, beq_iff, beq_iff] at hk
    rcases hk with rfl | rfl
    · exact s_iald hd ha h0 h1 rfl kk
    · exact s_sald hd ha h0 h1 rfl kk
  case baload =>
    cases beq_iff.mp (show Nat.beq len 1 = true from hA)
    refine q_ald (gPSfr hBR.2.1 g0 g1) (gPSty hBR.2.2.2.2.1 g0 g1) (ok := fun g => Nat.beq g 21) rfl Q (fun {ls t s0 u0 K R I Q a m kc x} hk ha h0 h1 kk => ?_) h
    cases beq_iff.mp hk
    exact s_bald hd ha h0 h1 rfl kk
  case iastore =>
    cases beq_iff.mp (show Nat.beq len 1 = true from hA)
    exact q_ast hPS2 (gPSho hBR.2.2.2.1 g0 g1) (gPSty hBR.2.2.2.2.1 g0 g1) (by decide) Q (fun {ls t s0 u0 K R I Q a m x y} ha h0 h1 _ kk => s_iast hd ha h0 h1 rfl kk) h
  case bastore =>
    cases beq_iff.mp (show Nat.beq len 1 = true from hA)
    exact q_ast hPS2 (gPSho hBR.2.2.2.1 g0 g1) (gPSty hBR.2.2.2.2.1 g0 g1) (by decide) Q (fun {ls t s0 u0 K R I Q a m x y} ha h0 h1 hx kk => s_bast hd ha h0 h1 (hx rfl) rfl kk) h
  case arraylength =>
    cases beq_iff.mp (show Nat.beq len 1 = true from hA)
    exact q_alen Q h
  case invokevirtual idx =>
    obtain ⟨q1, q2⟩ := bb2 (show (Nat.beq len 3 && _) = true from hA)
    obtain ⟨q2, q3⟩ := bb2 q2
    obtain ⟨q3, q4⟩ := bb2 q3
    obtain ⟨q4, q5⟩ := bb2 q4
    cases beq_iff.mp q1
    obtain ⟨h1, h2⟩ := bb2 (show (calB Y a2 (AN n) && e_call (gDep dep) (kEff t) dk (AN n) (a3 + 1) go n S) = true from h)
    obtain ⟨h1, h3⟩ := bb2 h1
    obtain ⟨h1, h4⟩ := bb2 h1
    have e1 := beq_iff.mp h1
    refine q_inv hPS2 (gPSw hBR.2.2.1 g0 g1) hdk (hK2 h4) Q (by rw [e1]; exact of_decide_eq_true q2) (by rw [e1]; exact of_decide_eq_true q4) (by rw [e1]; exact of_decide_eq_true q5) ?_ h2
    split at h3
    · rename_i a as row hk2 hrow
      obtain ⟨h3, h5⟩ := bb2 h3
      obtain ⟨h3, h6⟩ := bb2 h3
      obtain ⟨h6, h7⟩ := bb2 h6
      obtain ⟨h5, h8⟩ := bb2 h5
      have hm := (mt_at (ble_iff.mp q3) hrow).2.2.1
      obtain ⟨ta, ja, τa, ca⟩ := a
      have x1 : ta = 2 := beq_iff.mp h3
      have x2 : ja = 0 := beq_iff.mp h6
      have x3 : ca = 0 := (eqB_iff _ _).mp h7
      subst x1
      subst x2
      subst x3
      exact ⟨τa, as, hk2, by rw [e1, ← hm]; exact beq_iff.mp h5, beq_iff.mp h8⟩
    · cases h3
  case invokestatic idx =>
    obtain ⟨q1, q2⟩ := bb2 (show (Nat.beq len 3 && _) = true from hA)
    obtain ⟨q2, q3⟩ := bb2 q2
    cases beq_iff.mp q1
    have hp := of_decide_eq_true q2
    have hz : cond (Nat.beq a1 4) ((Nat.beq (kM (AN n)) a2 && idsK (AN n)) && e_call (gDep dep) (kEff t) dk (AN n) a3 go n S)
      (cond (Nat.beq a1 8) (e_mm 84 nMax go n S) (cond (Nat.beq a1 9) (e_mm 85 nMin go n S)
        (cond (Nat.beq a1 10) ((stB (S.2.1.drop 1) && Nat.ble (wdsE (S.2.1.drop 1)) 8) && e_unF 717 nAbs go n S) (cond (Nat.beq a1 11) ((stB (S.2.1.drop 1) && Nat.ble (wdsE (S.2.1.drop 1)) 8) && e_lun go n S) (cond (Nat.beq a1 6) (e_cpy Y (gDep dep) (kEff t) go n S) false))))) = true := h
    cases h4 : Nat.beq a1 4 with
    | true =>
      rw [h4, cond_true] at q3 hz
      obtain ⟨q3, q4⟩ := bb2 q3
      obtain ⟨h1, h2⟩ := bb2 hz
      obtain ⟨h1, h3⟩ := bb2 h1
      have e1 := beq_iff.mp h1
      have e2 := beq_iff.mp h4
      subst e2
      exact q_sta hPS2 (gPSw hBR.2.2.1 g0 g1) hdk (hK2 h3) Q (by rw [e1]; exact hp) (by rw [e1]; exact of_decide_eq_true q4) h2
    | false =>
      rw [h4, cond_false] at q3 hz
      obtain ⟨q3, q4⟩ := bb2 q3
      have e2 := beq_iff.mp q3
      have e3 := beq_iff.mp q4
      subst e2
      subst e3
      have hW : ∀ m, (stB (S.2.1.drop m) && Nat.ble (wdsE (S.2.1.drop m)) 8) = true → ∀ ρ α Γ t2, ARs ρ α Γ (S.2.1.drop m) t2 → wds t2 ≤ 8 := by
        intro m hm ρ α Γ t2 r
        obtain ⟨m1, m2⟩ := bb2 hm
        rw [wds_ok m1 r]
        exact ble_iff.mp m2
      cases h8 : Nat.beq a1 8 with
      | true =>
        rw [h8, cond_true] at hz
        have := beq_iff.mp h8
        subst this
        obtain ⟨h1, h2⟩ := bb2 hz
        exact q_binP (Or.inr fun x y Γ M => (hDF x y Γ M).2.2.2.2.2.2.2.2.2.1) (hW 2 h1) nMax_ok Q (fun {ls t M Q x y} hw _ kk => by obtain ⟨s0, u0, K, R, I⟩ := M; exact s_max hd hp hw kk) h2
      | false =>
        rw [h8, cond_false] at hz
        cases h9 : Nat.beq a1 9 with
        | true =>
          rw [h9, cond_true] at hz
          have := beq_iff.mp h9
          subst this
          obtain ⟨h1, h2⟩ := bb2 hz
          exact q_binP (Or.inr fun x y Γ M => (hDF x y Γ M).2.2.2.2.2.2.2.2.2.2.1) (hW 2 h1) nMin_ok Q (fun {ls t M Q x y} hw _ kk => by obtain ⟨s0, u0, K, R, I⟩ := M; exact s_min hd hp hw kk) h2
        | false =>
          rw [h9, cond_false] at hz
          cases h10 : Nat.beq a1 10 with
          | true =>
            rw [h10, cond_true] at hz
            have := beq_iff.mp h10
            subst this
            obtain ⟨h1, h2⟩ := bb2 hz
            exact q_unF (fun x Γ M => hCP.2.1 x Γ M) (hW 1 h1) nAbs_ok Q (fun {ls t M Q x} hw kk => by obtain ⟨s0, u0, K, R, I⟩ := M; exact s_abs hd hp hw kk) h2
          | false =>
            rw [h10, cond_false] at hz
            cases h11 : Nat.beq a1 11 with
            | true =>
              rw [h11, cond_true] at hz
              have := beq_iff.mp h11
              subst this
              obtain ⟨h1, h2⟩ := bb2 hz
              exact q_lunP (hW 1 h1) Q (fun {ls t M Q x} hw kk => by obtain ⟨s0, u0, K, R, I⟩ := M; exact s_absl hd hp hw kk) h2
            | false =>
              rw [h11, cond_false] at hz
              cases h6 : Nat.beq a1 6 with
              | true =>
                rw [h6, cond_true] at hz
                have := beq_iff.mp h6
                subst this
                exact q_cpy hPS2 hCP Q hp hz
              | false => rw [h6, cond_false] at hz; cases hz
  case ireturn =>
    obtain ⟨q1, q2⟩ := bb2 (show (Nat.beq len 1 && _) = true from hA)
    cases beq_iff.mp q1
    rw [Bool.or_eq_true, Bool.and_eq_true, Bool.and_eq_true, beq_iff, beq_iff, decide_eq_true_iff, decide_eq_true_iff] at q2
    obtain ⟨ls, st, S3⟩ := S
    intro ρ α Γ M ls2 st2 r
    match st, h, r with
    | [], h, _ => cases h
    | _ :: _ :: _, h, _ => cases h
    | [w], h, r =>
      obtain ⟨h1a, h2⟩ := bb2 (show ((isI w && (Nat.beq a1 1 || is01 (ivl S3.1 w))) && e_ret t (some w) (ls, [w], S3)) = true from h)
      obtain ⟨h1, h3⟩ := bb2 h1a
      obtain ⟨m, t2, rfl, h5, h6⟩ := ARs.cons r.2.2.2.1
      cases h6.nil
      have hq := ret_ok hBR.2.2.1 (m := some m) h2 hi ha h5 r
      cases h5.int h1
      rcases q2 with ⟨-, q2⟩ | ⟨e1, q2⟩
      · exact s_iret hd q2 hq
      · refine s_zret hd q2 ?_ hq
        subst e1
        have hb : (ivl S3.1 w).1 ≤ iv ρ w ∧ iv ρ w ≤ (ivl S3.1 w).2 := ivl_ok r.2.1 h1
        exact is01_ok (show is01 (ivl S3.1 w) = true from h3) hb.1 hb.2
  case lreturn =>
    obtain ⟨q1, q2⟩ := bb2 (show (Nat.beq len 1 && decide (mret k = some .long)) = true from hA)
    cases beq_iff.mp q1
    obtain ⟨ls, st, S3⟩ := S
    intro ρ α Γ M ls2 st2 r
    match st, h, r with
    | [], h, _ => cases h
    | _ :: _ :: _, h, _ => cases h
    | [w], h, r =>
      obtain ⟨h1, h2⟩ := bb2 (show (isL w && e_ret t (some w) (ls, [w], S3)) = true from h)
      obtain ⟨m, t2, rfl, h5, h6⟩ := ARs.cons r.2.2.2.1
      cases h6.nil
      have hq := ret_ok hBR.2.2.1 (m := some m) h2 hi ha h5 r
      obtain ⟨x, rfl, -⟩ := h5.lng h1
      exact s_lret hd (of_decide_eq_true q2) hq
  case return_ =>
    obtain ⟨q1, q2⟩ := bb2 (show (Nat.beq len 1 && decide (mret k = none)) = true from hA)
    cases beq_iff.mp q1
    obtain ⟨ls, st, S3⟩ := S
    intro ρ α Γ M ls2 st2 r
    match st, h, r with
    | _ :: _, h, _ => cases h
    | [], h, r =>
      cases (show ARs ρ α Γ [] st2 from r.2.2.2.1).nil
      exact s_vret hd (of_decide_eq_true q2) (ret_ok hBR.2.2.1 (m := none) (show e_ret t none (ls, [], S3) = true from h) hi ha trivial r)
  all_goals cases (show false = true from h)
end
