/-! the evaluator tells the truth -/
theorem bb2 {a b : Bool} (h : (a && b) = true) : a = true ∧ b = true := by rw [Bool.and_eq_true] at h; exact h
theorem fadd_f : (bin2 fadd) = bin2 (fun x y => wI (x + y)) := congrArg bin2 (funext fun x => funext fun y => fadd_eq x y)
theorem fsub_f : (bin2 fsub) = bin2 (fun x y => wI (x - y)) := congrArg bin2 (funext fun x => funext fun y => fsub_eq x y)
theorem fmul_f : (bin2 fmul) = bin2 (fun x y => wI (x * y)) := congrArg bin2 (funext fun x => funext fun y => fmul_eq x y)
theorem fdiv_f : (bin2z fdiv) = bin2z (fun x y => wI (x.tdiv y)) := congrArg bin2z (funext fun x => funext fun y => fdiv_eq x y)
set_option maxHeartbeats 4000000 in
theorem op_ok {go : GO} {k n : Nat} {e : OE} {r : List OE} (S : STP go k n e r) {D : Nat} {ls st : List VV} {fs : List FR} {T : HT} {s u : Nat} {C : CT} (h : disp e.2.1 go e D k (ops k) r ls st fs T s u C = true) : SemAt D k e.1 ls st fs T s u C := by
  obtain ⟨pc, i, len, a1, a2, a3⟩ := e
  have hd := S.row.1
  have hA := S.row.2.2
  cases i
  case iconst z =>
    obtain ⟨q1, q2⟩ := bb2 (show (Nat.beq len 1 && inB z) = true from hA)
    cases beq_iff.mp q1
    exact o_push S (fun ρ => VR.ofC (vi z)) (fun {ls t M Q} kk => by obtain ⟨s0, u0, K, R, I⟩ := M; exact s_iconst hd (inB_ok q2) kk) h
  case bipush z =>
    obtain ⟨q1, q2⟩ := bb2 (show (Nat.beq len 2 && (inB z && decide ((Int8.ofInt z).toInt32 = Int32.ofInt z))) = true from hA)
    obtain ⟨q2, q3⟩ := bb2 q2
    cases beq_iff.mp q1
    exact o_push S (fun ρ => VR.ofC (vi z)) (fun {ls t M Q} kk => by obtain ⟨s0, u0, K, R, I⟩ := M; exact s_bipush hd (inB_ok q2) (of_decide_eq_true q3) kk) h
  case sipush z =>
    obtain ⟨q1, q2⟩ := bb2 (show (Nat.beq len 3 && (inB z && decide ((Int16.ofInt z).toInt32 = Int32.ofInt z))) = true from hA)
    obtain ⟨q2, q3⟩ := bb2 q2
    cases beq_iff.mp q1
    exact o_push S (fun ρ => VR.ofC (vi z)) (fun {ls t M Q} kk => by obtain ⟨s0, u0, K, R, I⟩ := M; exact s_sipush hd (inB_ok q2) (of_decide_eq_true q3) kk) h
  case lconst z =>
    cases beq_iff.mp (show Nat.beq len 1 = true from hA)
    exact o_push S (fun ρ => VR.ofC (vl ((z : Nat) : Int))) (fun {ls t M Q} kk => by obtain ⟨s0, u0, K, R, I⟩ := M; exact s_lconst hd rfl kk) h
  case ldc idx =>
    obtain ⟨q1, q2⟩ := bb2 (show (Nat.beq len 2 && _) = true from hA)
    obtain ⟨q2, q3⟩ := bb2 q2
    cases beq_iff.mp q1
    exact o_push S (fun ρ => VR.ofC (vi (eInt (pc, .ldc idx, 2, a1, a2, a3)))) (fun {ls t M Q} kk => by obtain ⟨s0, u0, K, R, I⟩ := M; exact s_ldc hd (of_decide_eq_true q2) (inB_ok q3) kk) (by rw [show disp (pc, Instr.ldc idx, 2, a1, a2, a3).2.1 = x_ldc from rfl] at h; unfold x_ldc at h; rw [fI_eq] at h; exact h)
  case ldc_w idx =>
    obtain ⟨q1, q2⟩ := bb2 (show (Nat.beq len 3 && _) = true from hA)
    obtain ⟨q2, q3⟩ := bb2 q2
    cases beq_iff.mp q1
    exact o_push S (fun ρ => VR.ofC (vi (eInt (pc, .ldc_w idx, 3, a1, a2, a3)))) (fun {ls t M Q} kk => by obtain ⟨s0, u0, K, R, I⟩ := M; exact s_ldcw hd (of_decide_eq_true q2) (inB_ok q3) kk) (by rw [show disp (pc, Instr.ldc_w idx, 3, a1, a2, a3).2.1 = x_ldc from rfl] at h; unfold x_ldc at h; rw [fI_eq] at h; exact h)
  case ldc2_w idx =>
    obtain ⟨q1, q2⟩ := bb2 (show (Nat.beq len 3 && _) = true from hA)
    obtain ⟨q2, q3⟩ := bb2 q2
    obtain ⟨q3, q4⟩ := bb2 q3
    cases beq_iff.mp q1
    rw [Bool.not_eq_true', ltB_f] at q3
    rw [ltB_iff] at q4
    exact o_push S (fun ρ => VR.ofC (vl (eInt (pc, .ldc2_w idx, 3, a1, a2, a3)))) (fun {ls t M Q} kk => by obtain ⟨s0, u0, K, R, I⟩ := M; exact s_ldc2 hd (of_decide_eq_true q2) ⟨by omega, q4⟩ kk) (by rw [show disp (pc, Instr.ldc2_w idx, 3, a1, a2, a3).2.1 = x_ldl from rfl] at h; unfold x_ldl at h; rw [fI_eq] at h; exact h)
  case iload j =>
    obtain ⟨q1, q2⟩ := bb2 (show (Nat.beq len 2 && Nat.beq j a1) = true from hA)
    cases beq_iff.mp q1
    cases beq_iff.mp q2
    exact o_load S (fun m {ls t2 M Q} hm hl kk => by
      obtain ⟨s0, u0, K, R, I⟩ := M
      rcases hm with ⟨-, x, rfl⟩ | ⟨q9, x, rfl⟩ | ⟨q9, x, rfl⟩ <;> first | (cases q9; done) | exact s_iload hd hl kk) h
  case iload_n j =>
    obtain ⟨q1, q2⟩ := bb2 (show (Nat.beq len 1 && Nat.beq j.1 a1) = true from hA)
    cases beq_iff.mp q1
    cases beq_iff.mp q2
    exact o_load S (fun m {ls t2 M Q} hm hl kk => by
      obtain ⟨s0, u0, K, R, I⟩ := M
      rcases hm with ⟨-, x, rfl⟩ | ⟨q9, x, rfl⟩ | ⟨q9, x, rfl⟩ <;> first | (cases q9; done) | exact s_iload_n hd hl kk) h
  case lload j =>
    obtain ⟨q1, q2⟩ := bb2 (show (Nat.beq len 2 && Nat.beq j a1) = true from hA)
    cases beq_iff.mp q1
    cases beq_iff.mp q2
    exact o_load S (fun m {ls t2 M Q} hm hl kk => by
      obtain ⟨s0, u0, K, R, I⟩ := M
      rcases hm with ⟨q9, x, rfl⟩ | ⟨-, x, rfl⟩ | ⟨q9, x, rfl⟩ <;> first | (cases q9; done) | exact s_lload hd hl kk) h
  case lload_n j =>
    obtain ⟨q1, q2⟩ := bb2 (show (Nat.beq len 1 && Nat.beq j.1 a1) = true from hA)
    cases beq_iff.mp q1
    cases beq_iff.mp q2
    exact o_load S (fun m {ls t2 M Q} hm hl kk => by
      obtain ⟨s0, u0, K, R, I⟩ := M
      rcases hm with ⟨q9, x, rfl⟩ | ⟨-, x, rfl⟩ | ⟨q9, x, rfl⟩ <;> first | (cases q9; done) | exact s_lload_n hd hl kk) h
  case aload j =>
    obtain ⟨q1, q2⟩ := bb2 (show (Nat.beq len 2 && Nat.beq j a1) = true from hA)
    cases beq_iff.mp q1
    cases beq_iff.mp q2
    exact o_load S (fun m {ls t2 M Q} hm hl kk => by
      obtain ⟨s0, u0, K, R, I⟩ := M
      rcases hm with ⟨q9, x, rfl⟩ | ⟨q9, x, rfl⟩ | ⟨-, x, rfl⟩ <;> first | (cases q9; done) | exact s_aload hd hl kk) h
  case aload_n j =>
    obtain ⟨q1, q2⟩ := bb2 (show (Nat.beq len 1 && Nat.beq j.1 a1) = true from hA)
    cases beq_iff.mp q1
    cases beq_iff.mp q2
    exact o_load S (fun m {ls t2 M Q} hm hl kk => by
      obtain ⟨s0, u0, K, R, I⟩ := M
      rcases hm with ⟨q9, x, rfl⟩ | ⟨q9, x, rfl⟩ | ⟨-, x, rfl⟩ <;> first | (cases q9; done) | exact s_aload_n hd hl kk) h
  case istore j =>
    obtain ⟨q1, q2⟩ := bb2 (show (Nat.beq len 2 && (Nat.beq j a1 && macB k pc a2)) = true from hA)
    obtain ⟨q2, q3⟩ := bb2 q2
    cases beq_iff.mp q1
    cases beq_iff.mp q2
    exact o_store S (fun m {ls t2 M Q} hm hl kk => by
      obtain ⟨s0, u0, K, R, I⟩ := M
      rcases hm with ⟨-, x, rfl⟩ | ⟨q9, x, rfl⟩ | ⟨q9, x, rfl⟩ <;> first | (cases q9; done) | exact s_istore hd hl rfl kk) h (fun h9 h8 => mac_ok S q3 h9 h8)
  case istore_n j =>
    obtain ⟨q1, q2⟩ := bb2 (show (Nat.beq len 1 && (Nat.beq j.1 a1 && macB k pc a2)) = true from hA)
    obtain ⟨q2, q3⟩ := bb2 q2
    cases beq_iff.mp q1
    cases beq_iff.mp q2
    exact o_store S (fun m {ls t2 M Q} hm hl kk => by
      obtain ⟨s0, u0, K, R, I⟩ := M
      rcases hm with ⟨-, x, rfl⟩ | ⟨q9, x, rfl⟩ | ⟨q9, x, rfl⟩ <;> first | (cases q9; done) | exact s_istore_n hd hl rfl kk) h (fun h9 h8 => mac_ok S q3 h9 h8)
  case astore j =>
    obtain ⟨q1, q2⟩ := bb2 (show (Nat.beq len 2 && (Nat.beq j a1 && macB k pc a2)) = true from hA)
    obtain ⟨q2, q3⟩ := bb2 q2
    cases beq_iff.mp q1
    cases beq_iff.mp q2
    exact o_store S (fun m {ls t2 M Q} hm hl kk => by
      obtain ⟨s0, u0, K, R, I⟩ := M
      rcases hm with ⟨q9, x, rfl⟩ | ⟨q9, x, rfl⟩ | ⟨-, x, rfl⟩ <;> first | (cases q9; done) | exact s_astore hd hl rfl kk) h (fun h9 h8 => mac_ok S q3 h9 h8)
  case astore_n j =>
    obtain ⟨q1, q2⟩ := bb2 (show (Nat.beq len 1 && (Nat.beq j.1 a1 && macB k pc a2)) = true from hA)
    obtain ⟨q2, q3⟩ := bb2 q2
    cases beq_iff.mp q1
    cases beq_iff.mp q2
    exact o_store S (fun m {ls t2 M Q} hm hl kk => by
      obtain ⟨s0, u0, K, R, I⟩ := M
      rcases hm with ⟨q9, x, rfl⟩ | ⟨q9, x, rfl⟩ | ⟨-, x, rfl⟩ <;> first | (cases q9; done) | exact s_astore_n hd hl rfl kk) h (fun h9 h8 => mac_ok S q3 h9 h8)
  case lstore j =>
    obtain ⟨q1, q2⟩ := bb2 (show (Nat.beq len 2 && Nat.beq j a1) = true from hA)
    cases beq_iff.mp q1
    cases beq_iff.mp q2
    exact o_lstore S (fun x {ls t2 M Q} hl kk => by
      obtain ⟨s0, u0, K, R, I⟩ := M
      exact s_lstore hd hl rfl kk) h
  case lstore_n j =>
    obtain ⟨q1, q2⟩ := bb2 (show (Nat.beq len 1 && Nat.beq j.1 a1) = true from hA)
    cases beq_iff.mp q1
    cases beq_iff.mp q2
    exact o_lstore S (fun x {ls t2 M Q} hl kk => by
      obtain ⟨s0, u0, K, R, I⟩ := M
      exact s_lstore_n hd hl rfl kk) h
  case iinc j z =>
    obtain ⟨q1, q2⟩ := bb2 (show (Nat.beq len 3 && Nat.beq j a1) = true from hA)
    exact o_iinc S (beq_iff.mp q1) (beq_iff.mp q2) h
  case iadd =>
    cases beq_iff.mp (show Nat.beq len 1 = true from hA)
    exact o_bin S (fun ρ y x v my mx hC hg hy hx => by
      rw [fadd_f] at hg; obtain ⟨a, b, rfl, rfl, q⟩ := bin2_ok hg hy hx
      exact ⟨_, q, fun {ls t M Q} kk => by obtain ⟨s0, u0, K, R, I⟩ := M; exact s_iadd hd kk⟩) h
  case isub =>
    cases beq_iff.mp (show Nat.beq len 1 = true from hA)
    exact o_bin S (fun ρ y x v my mx hC hg hy hx => by
      rw [fsub_f] at hg; obtain ⟨a, b, rfl, rfl, q⟩ := bin2_ok hg hy hx
      exact ⟨_, q, fun {ls t M Q} kk => by obtain ⟨s0, u0, K, R, I⟩ := M; exact s_isub hd kk⟩) h
  case imul =>
    cases beq_iff.mp (show Nat.beq len 1 = true from hA)
    exact o_bin S (fun ρ y x v my mx hC hg hy hx => by
      rw [fmul_f] at hg; obtain ⟨a, b, rfl, rfl, q⟩ := bin2_ok hg hy hx
      exact ⟨_, q, fun {ls t M Q} kk => by obtain ⟨s0, u0, K, R, I⟩ := M; exact s_imul hd kk⟩) h
  case idiv =>
    cases beq_iff.mp (show Nat.beq len 1 = true from hA)
    exact o_bin S (fun ρ y x v my mx hC hg hy hx => by
      rw [fdiv_f] at hg; obtain ⟨a, b, rfl, rfl, hz, q⟩ := bin2z_ok hg hy hx
      exact ⟨_, q, fun {ls t M Q} kk => by obtain ⟨s0, u0, K, R, I⟩ := M; exact s_idiv hd hz kk⟩) h
  case irem =>
    cases beq_iff.mp (show Nat.beq len 1 = true from hA)
    exact o_bin S (fun ρ y x v my mx hC hg hy hx => by
      obtain ⟨a, b, rfl, rfl, hz, q⟩ := bin2z_ok hg hy hx
      exact ⟨_, q, fun {ls t M Q} kk => by obtain ⟨s0, u0, K, R, I⟩ := M; exact s_irem hd hz kk⟩) h
  case ixor =>
    cases beq_iff.mp (show Nat.beq len 1 = true from hA)
    exact o_bin S (fun ρ y x v my mx hC hg hy hx => by
      obtain ⟨a, b, rfl, rfl, q⟩ := bin2_ok hg hy hx
      exact ⟨_, q, fun {ls t M Q} kk => by obtain ⟨s0, u0, K, R, I⟩ := M; exact s_ixor hd kk⟩) h
  case ishl =>
    cases beq_iff.mp (show Nat.beq len 1 = true from hA)
    exact o_bin S (fun ρ y x v my mx hC hg hy hx => by
      obtain ⟨a, b, rfl, rfl, q⟩ := bin2_ok hg hy hx
      exact ⟨_, q, fun {ls t M Q} kk => by obtain ⟨s0, u0, K, R, I⟩ := M; exact s_ishl hd kk⟩) h
  case ishr =>
    cases beq_iff.mp (show Nat.beq len 1 = true from hA)
    exact o_bin S (fun ρ y x v my mx hC hg hy hx => by
      obtain ⟨a, b, rfl, rfl, q⟩ := bin2_ok hg hy hx
      exact ⟨_, q, fun {ls t M Q} kk => by obtain ⟨s0, u0, K, R, I⟩ := M; exact s_ishr hd kk⟩) h
  case iushr =>
    cases beq_iff.mp (show Nat.beq len 1 = true from hA)
    exact o_bin S (fun ρ y x v my mx hC hg hy hx => by
      obtain ⟨a, b, rfl, rfl, q⟩ := bin2_ok hg hy hx
      exact ⟨_, q, fun {ls t M Q} kk => by obtain ⟨s0, u0, K, R, I⟩ := M; exact s_iushr hd kk⟩) h
  case ladd =>
    cases beq_iff.mp (show Nat.beq len 1 = true from hA)
    exact o_bin S (fun ρ y x v my mx hC hg hy hx => by
      obtain ⟨a, b, rfl, rfl, q⟩ := lbin2_ok hg hy hx
      exact ⟨_, q, fun {ls t M Q} kk => by obtain ⟨s0, u0, K, R, I⟩ := M; exact s_ladd hd kk⟩) h
  case lsub =>
    cases beq_iff.mp (show Nat.beq len 1 = true from hA)
    exact o_bin S (fun ρ y x v my mx hC hg hy hx => by
      obtain ⟨a, b, rfl, rfl, q⟩ := lbin2_ok hg hy hx
      exact ⟨_, q, fun {ls t M Q} kk => by obtain ⟨s0, u0, K, R, I⟩ := M; exact s_lsub hd kk⟩) h
  case lmul =>
    cases beq_iff.mp (show Nat.beq len 1 = true from hA)
    exact o_bin S (fun ρ y x v my mx hC hg hy hx => by
      obtain ⟨a, b, rfl, rfl, q⟩ := lmul2_ok hg hy hx
      exact ⟨_, q, fun {ls t M Q} kk => by obtain ⟨s0, u0, K, R, I⟩ := M; exact s_lmul hd kk⟩) h
  case ldiv =>
    cases beq_iff.mp (show Nat.beq len 1 = true from hA)
    exact o_bin S (fun ρ y x v my mx hC hg hy hx => by
      obtain ⟨a, b, rfl, rfl, hz, q⟩ := lbin2z_ok hg hy hx
      exact ⟨_, q, fun {ls t M Q} kk => by obtain ⟨s0, u0, K, R, I⟩ := M; exact s_ldiv hd hz kk⟩) h
  case lrem =>
    cases beq_iff.mp (show Nat.beq len 1 = true from hA)
    exact o_bin S (fun ρ y x v my mx hC hg hy hx => by
      obtain ⟨a, b, rfl, rfl, hz, q⟩ := lbin2z_ok hg hy hx
      exact ⟨_, q, fun {ls t M Q} kk => by obtain ⟨s0, u0, K, R, I⟩ := M; exact s_lrem hd hz kk⟩) h
  case land =>
    cases beq_iff.mp (show Nat.beq len 1 = true from hA)
    exact o_bin S (fun ρ y x v my mx hC hg hy hx => by
      obtain ⟨a, b, rfl, rfl, q⟩ := land2_ok hg hy hx
      exact ⟨_, q, fun {ls t M Q} kk => by obtain ⟨s0, u0, K, R, I⟩ := M; exact s_land hd kk⟩) h
  case lshl =>
    cases beq_iff.mp (show Nat.beq len 1 = true from hA)
    exact o_bin S (fun ρ y x v my mx hC hg hy hx => by
      obtain ⟨a, b, rfl, rfl, q⟩ := lshl2_ok hg hy hx
      exact ⟨_, q, fun {ls t M Q} kk => by obtain ⟨s0, u0, K, R, I⟩ := M; exact s_lshl hd kk⟩) h
  case ineg =>
    cases beq_iff.mp (show Nat.beq len 1 = true from hA)
    exact o_un S (fun ρ x v mx hg hx => by
      obtain ⟨a, rfl, q⟩ := un2_ok hg hx
      exact ⟨_, q, fun {ls t M Q} kk => by obtain ⟨s0, u0, K, R, I⟩ := M; exact s_ineg hd kk⟩) h
  case lneg =>
    cases beq_iff.mp (show Nat.beq len 1 = true from hA)
    exact o_un S (fun ρ x v mx hg hx => by
      obtain ⟨a, rfl, q⟩ := lun2_ok hg hx
      exact ⟨_, q, fun {ls t M Q} kk => by obtain ⟨s0, u0, K, R, I⟩ := M; exact s_lneg hd kk⟩) h
  case i2l =>
    cases beq_iff.mp (show Nat.beq len 1 = true from hA)
    exact o_un S (fun ρ x v mx hg hx => by
      obtain ⟨a, rfl, q⟩ := i2l2_ok hg hx
      exact ⟨_, q, fun {ls t M Q} kk => by obtain ⟨s0, u0, K, R, I⟩ := M; exact s_i2l hd kk⟩) h
  case l2i =>
    cases beq_iff.mp (show Nat.beq len 1 = true from hA)
    exact o_un S (fun ρ x v mx hg hx => by
      obtain ⟨a, rfl, q⟩ := l2i2_ok hg hx
      exact ⟨_, q, fun {ls t M Q} kk => by obtain ⟨s0, u0, K, R, I⟩ := M; exact s_l2i hd kk⟩) h
  case lcmp =>
    cases beq_iff.mp (show Nat.beq len 1 = true from hA)
    exact o_bin S (fun ρ y x v my mx hC hg hy hx => by
      obtain ⟨a, b, rfl, rfl, q⟩ := lcm2_ok hC hg hy hx
      exact ⟨_, q, fun {ls t M Q} kk => by obtain ⟨s0, u0, K, R, I⟩ := M; exact s_lcmp hd kk⟩) (o_lcmp S h)
  case iand =>
    cases beq_iff.mp (show Nat.beq len 1 = true from hA)
    exact o_bin S (fun ρ y x v my mx hC hg hy hx => by
      obtain ⟨a, b, rfl, rfl, q⟩ := and2_ok hC hg hy hx
      exact ⟨_, q, fun {ls t M Q} kk => by obtain ⟨s0, u0, K, R, I⟩ := M; exact s_iand hd kk⟩) h
  case lor =>
    cases beq_iff.mp (show Nat.beq len 1 = true from hA)
    exact o_bin S (fun ρ y x v my mx hC hg hy hx => by
      obtain ⟨a, b, rfl, rfl, q⟩ := lor2_ok hC hg hy hx
      exact ⟨_, q, fun {ls t M Q} kk => by obtain ⟨s0, u0, K, R, I⟩ := M; exact s_lor hd kk⟩) h
  case dup => exact o_dup S (beq_iff.mp (show Nat.beq len 1 = true from hA)) h
  case dup2 => exact o_dup2 S (beq_iff.mp (show Nat.beq len 1 = true from hA)) h
  case pop => exact o_pop S (beq_iff.mp (show Nat.beq len 1 = true from hA)) h
  case if_icmp c off =>
    obtain ⟨q1, q2⟩ := bb2 (show (Nat.beq len 3 && tgB pc off (dropN a1 (ops k))) = true from hA)
    exact o_icmp S (beq_iff.mp q1) q2 h
  case ifCond c off =>
    obtain ⟨q1, q2⟩ := bb2 (show (Nat.beq len 3 && tgB pc off (dropN a1 (ops k))) = true from hA)
    exact o_if S (beq_iff.mp q1) q2 h
  case goto off =>
    obtain ⟨q1, q2⟩ := bb2 (show (Nat.beq len 3 && tgB pc off (dropN a1 (ops k))) = true from hA)
    exact o_goto S (beq_iff.mp q1) q2 h
  case ifnull off =>
    obtain ⟨q1, q2⟩ := bb2 (show (Nat.beq len 3 && tgB pc off (dropN a1 (ops k))) = true from hA)
    exact o_ifnull S (beq_iff.mp q1) q2 h
  case ifnonnull off =>
    obtain ⟨q1, q2⟩ := bb2 (show (Nat.beq len 3 && tgB pc off (dropN a1 (ops k))) = true from hA)
    exact o_ifnonnull S (beq_iff.mp q1) q2 h
  case tableswitch df lo hi offs => exact o_sw S h
  case getfield idx =>
    obtain ⟨q1, q2⟩ := bb2 (show (Nat.beq len 3 && _) = true from hA)
    obtain ⟨q2, q3⟩ := bb2 q2
    obtain ⟨q3, q4⟩ := bb2 q3
    obtain ⟨q4, q5⟩ := bb2 q4
    obtain ⟨q5, q6⟩ := bb2 q5
    exact o_get S (beq_iff.mp q1) (of_decide_eq_true q2) (ble_iff.mp q4) ⟨ble_iff.mp q5, ble_iff.mp q6⟩ h
  case putfield idx =>
    obtain ⟨q1, q2⟩ := bb2 (show (Nat.beq len 3 && _) = true from hA)
    obtain ⟨q2, q3⟩ := bb2 q2
    obtain ⟨q3, q4⟩ := bb2 q3
    obtain ⟨q4, q5⟩ := bb2 q4
    rw [Bool.or_eq_true, decide_eq_true_iff, decide_eq_true_iff] at q5
    exact o_put S (beq_iff.mp q1) (of_decide_eq_true q2) (ble_iff.mp q4) q5 h
  case iaload =>
    cases beq_iff.mp (show Nat.beq len 1 = true from hA)
    refine o_ald S (fun kc hk => ?_) (fun {ls t s0 u0 K R I Q} a m kc kn hk ha hm kk => ?_) h
    · rw [Bool.or_eq_true, beq_iff, beq_iff] at hk
      rcases hk with rfl | rfl <;> rfl
    · rw [Bool.or_eq_true, beq_iff, beq_iff] at hk
      rcases hk with rfl | rfl
      · exact s_iald hd ha (by omega) (by omega) rfl kk
      · exact s_sald hd ha (by omega) (by omega) rfl kk
  case baload =>
    cases beq_iff.mp (show Nat.beq len 1 = true from hA)
    refine o_ald S (fun kc hk => ?_) (fun {ls t s0 u0 K R I Q} a m kc kn hk ha hm kk => ?_) h
    · rw [beq_iff] at hk; subst hk; rfl
    · rw [beq_iff] at hk
      subst hk
      exact s_bald hd ha (by omega) (by omega) rfl kk
  case aaload => exact o_aald S (beq_iff.mp (show Nat.beq len 1 = true from hA)) h
  case iastore =>
    cases beq_iff.mp (show Nat.beq len 1 = true from hA)
    exact o_ast S (Or.inl rfl) rfl (fun {ls t s0 u0 K R I Q} a m kn x _ ha hm kk => s_iast hd ha (by omega) (by omega) rfl kk) h
  case bastore =>
    cases beq_iff.mp (show Nat.beq len 1 = true from hA)
    exact o_ast S (Or.inr rfl) rfl (fun {ls t s0 u0 K R I Q} a m kn x hx ha hm kk => s_bast hd ha (by omega) (by omega) (hx rfl) rfl kk) h
  case aastore => exact o_aast S (beq_iff.mp (show Nat.beq len 1 = true from hA)) h
  case arraylength => exact o_alen S (beq_iff.mp (show Nat.beq len 1 = true from hA)) h
  case newarray t =>
    obtain ⟨q1, q2⟩ := bb2 (show (Nat.beq len 2 && decide (t = .int ∨ t = .boolean)) = true from hA)
    cases beq_iff.mp q1
    rcases of_decide_eq_true q2 with rfl | rfl
    · exact o_newa (kc := 20) S (fun {ls t s0 u0 K R I Q} m hm kk => s_newa (g := 20) hd (by omega) (by omega) (Or.inl ⟨rfl, rfl⟩) kk) h
    · exact o_newa (kc := 21) S (fun {ls t s0 u0 K R I Q} m hm kk => s_newa (g := 21) hd (by omega) (by omega) (Or.inr ⟨rfl, rfl⟩) kk) h
  case anewarray idx =>
    obtain ⟨q1, q2⟩ := bb2 (show (Nat.beq len 3 && decide (pool (mcls k) idx = some (5, 10, 3))) = true from hA)
    cases beq_iff.mp q1
    exact o_newa (kc := 22) S (fun {ls t s0 u0 K R I Q} m hm kk => s_anew hd (of_decide_eq_true q2) (by omega) (by omega) kk) h
  case new idx =>
    obtain ⟨q1, q2⟩ := bb2 (show (Nat.beq len 3 && _) = true from hA)
    obtain ⟨q2, q3⟩ := bb2 q2
    exact o_new S (beq_iff.mp q1) (of_decide_eq_true q2) h
  case invokevirtual idx =>
    obtain ⟨q1, q2⟩ := bb2 (show (Nat.beq len 3 && _) = true from hA)
    obtain ⟨q2, q3⟩ := bb2 q2
    obtain ⟨q3, q4⟩ := bb2 q3
    obtain ⟨q4, q5⟩ := bb2 q4
    exact o_inv S (beq_iff.mp q1) (of_decide_eq_true q2) (ble_iff.mp q3) (of_decide_eq_true q4) (of_decide_eq_true q5) h
  case invokestatic idx =>
    obtain ⟨q1, q2⟩ := bb2 (show (Nat.beq len 3 && _) = true from hA)
    obtain ⟨q2, q3⟩ := bb2 q2
    refine o_sta S (beq_iff.mp q1) (of_decide_eq_true q2) ?_ h
    cases h4 : Nat.beq a1 4 with
    | true =>
      rw [h4, cond_true] at q3
      obtain ⟨q3, q4⟩ := bb2 q3
      exact Or.inl ⟨beq_iff.mp h4, ble_iff.mp q3, of_decide_eq_true q4⟩
    | false =>
      rw [h4, cond_false] at q3
      obtain ⟨q3, q4⟩ := bb2 q3
      exact Or.inr ⟨fun q => (by rw [beq_iff.mpr q] at h4; cases h4), beq_iff.mp q3, beq_iff.mp q4⟩
  case invokespecial idx =>
    obtain ⟨q1, q2⟩ := bb2 (show (Nat.beq len 3 && _) = true from hA)
    obtain ⟨q2, q3⟩ := bb2 q2
    refine o_ini S (beq_iff.mp q1) (of_decide_eq_true q2) ?_ h
    cases h7 : Nat.beq a1 7 with
    | true =>
      rw [h7, cond_true] at q3
      obtain ⟨q3, q4⟩ := bb2 q3
      exact Or.inl ⟨beq_iff.mp h7, beq_iff.mp q3, beq_iff.mp q4⟩
    | false =>
      rw [h7, cond_false] at q3
      obtain ⟨q3, q4⟩ := bb2 q3
      obtain ⟨q4, q5⟩ := bb2 q4
      obtain ⟨q5, q6⟩ := bb2 q5
      obtain ⟨q6, q7⟩ := bb2 q6
      exact Or.inr ⟨fun q => (by rw [beq_iff.mpr q] at h7; cases h7), beq_iff.mp q3, ble_iff.mp q4, of_decide_eq_true q5, of_decide_eq_true q6, of_decide_eq_true q7⟩
  case ireturn =>
    obtain ⟨q1, q2⟩ := bb2 (show (Nat.beq len 1 && _) = true from hA)
    refine o_iret S (beq_iff.mp q1) ?_ h
    rw [Bool.or_eq_true, Bool.and_eq_true, Bool.and_eq_true, beq_iff, beq_iff, decide_eq_true_iff, decide_eq_true_iff] at q2
    exact q2
  case lreturn =>
    obtain ⟨q1, q2⟩ := bb2 (show (Nat.beq len 1 && decide (mret k = some .long)) = true from hA)
    exact o_lret S (beq_iff.mp q1) (of_decide_eq_true q2) h
  case return_ =>
    obtain ⟨q1, q2⟩ := bb2 (show (Nat.beq len 1 && decide (mret k = none)) = true from hA)
    exact o_vret S (beq_iff.mp q1) (of_decide_eq_true q2) h
  all_goals cases (show false = true from h)
theorem stp_ok {go : GO} (hg : GOK go) : GOK (stp go) := by
  intro D k n ls st fs T s u C hk h
  cases hq : (ops k).drop n with
  | nil => rw [hq] at h; cases (show false = true from h)
  | cons e r =>
    rw [hq] at h
    cases hn : isNop e.2.1 with
    | true =>
      have e1 : e.2.1 = .nop := by
        unfold isNop at hn
        split at hn
        · assumption
        · cases hn
      have h : disp e.2.1 go e D k (ops k) r ls st fs T s u C = true := h
      rw [e1] at h
      cases (show false = true from h)
    | false => exact ⟨e, r, rfl, op_ok ⟨hg, hk, hq, row_at hk hq, hn⟩ h⟩
theorem se_ok : ∀ n : Nat, GOK (se n)
  | 0 => fun _ _ _ _ _ _ _ _ _ _ _ h => by cases (show false = true from h)
  | n + 1 => stp_ok (se_ok n)
