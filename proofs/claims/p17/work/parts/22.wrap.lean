/-! WRAPPED, in the class and in the reference -/
def wr (x : Int) : Int := if 127 < x.tmod 255 then x.tmod 255 - 255 else if x.tmod 255 < -127 then x.tmod 255 + 255 else x.tmod 255
theorem tm_bd (x : Int) : -255 < x.tmod 255 ∧ x.tmod 255 < 255 := by
  have h1 : x.tmod 255 < 255 := Int.tmod_lt_of_pos x (by decide)
  have h2 : -255 < x.tmod 255 := by
    have := Int.tmod_lt_of_pos (-x) (show (0 : Int) < 255 by decide)
    rw [Int.neg_tmod] at this
    omega
  exact ⟨h2, h1⟩
theorem wr_bd (x : Int) : -127 ≤ wr x ∧ wr x ≤ 127 := by
  have := tm_bd x
  unfold wr
  split
  · omega
  · split <;> omega
theorem wr_a {x : Int} (h : 127 < x.tmod 255) : wI (x.tmod 255 - 255) = wr x := by
  have := tm_bd x
  rw [wI_id (by unfold inI; omega)]
  unfold wr
  rw [if_pos h]
theorem wr_b {x : Int} (h : x.tmod 255 ≤ 127) (h2 : x.tmod 255 < -127) : wI (x.tmod 255 + 255) = wr x := by
  have := tm_bd x
  rw [wI_id (by unfold inI; omega)]
  unfold wr
  rw [if_neg (by omega), if_pos h2]
theorem wr_c {x : Int} (h : x.tmod 255 ≤ 127) (h2 : -127 ≤ x.tmod 255) : x.tmod 255 = wr x := by
  unfold wr
  rw [if_neg (by omega), if_neg (by omega)]
theorem wc_0 : decode (mcode 19) 0 = .ok (.iload_n 0, 1) := by decide +kernel
theorem wc_1 : decode (mcode 19) 1 = .ok (.sipush 255, 3) := by decide +kernel
theorem wc_4 : decode (mcode 19) 4 = .ok (.irem, 1) := by decide +kernel
theorem wc_5 : decode (mcode 19) 5 = .ok (.istore_n 1, 1) := by decide +kernel
theorem wc_6 : decode (mcode 19) 6 = .ok (.iload_n 1, 1) := by decide +kernel
theorem wc_7 : decode (mcode 19) 7 = .ok (.bipush 127, 2) := by decide +kernel
theorem wc_9 : decode (mcode 19) 9 = .ok (.if_icmp .le 9, 3) := by decide +kernel
theorem wc_12 : decode (mcode 19) 12 = .ok (.iload_n 1, 1) := by decide +kernel
theorem wc_13 : decode (mcode 19) 13 = .ok (.sipush 255, 3) := by decide +kernel
theorem wc_16 : decode (mcode 19) 16 = .ok (.isub, 1) := by decide +kernel
theorem wc_17 : decode (mcode 19) 17 = .ok (.ireturn, 1) := by decide +kernel
theorem wc_18 : decode (mcode 19) 18 = .ok (.iload_n 1, 1) := by decide +kernel
theorem wc_19 : decode (mcode 19) 19 = .ok (.bipush (-127), 2) := by decide +kernel
theorem wc_21 : decode (mcode 19) 21 = .ok (.if_icmp .ge 11, 3) := by decide +kernel
theorem wc_24 : decode (mcode 19) 24 = .ok (.iload_n 1, 1) := by decide +kernel
theorem wc_25 : decode (mcode 19) 25 = .ok (.sipush 255, 3) := by decide +kernel
theorem wc_28 : decode (mcode 19) 28 = .ok (.iadd, 1) := by decide +kernel
theorem wc_29 : decode (mcode 19) 29 = .ok (.goto 4, 3) := by decide +kernel
theorem wc_32 : decode (mcode 19) 32 = .ok (.iload_n 1, 1) := by decide +kernel
theorem wc_33 : decode (mcode 19) 33 = .ok (.ireturn, 1) := by decide +kernel
theorem wm_0 : decode (mcode 177) 0 = .ok (.lload_n 1, 1) := by decide +kernel
theorem wm_1 : decode (mcode 177) 1 = .ok (.ldc2_w 70, 3) := by decide +kernel
theorem wm_4 : decode (mcode 177) 4 = .ok (.lrem, 1) := by decide +kernel
theorem wm_5 : decode (mcode 177) 5 = .ok (.l2i, 1) := by decide +kernel
theorem wm_6 : decode (mcode 177) 6 = .ok (.istore_n 3, 1) := by decide +kernel
theorem wm_7 : decode (mcode 177) 7 = .ok (.iload_n 3, 1) := by decide +kernel
theorem wm_8 : decode (mcode 177) 8 = .ok (.bipush 127, 2) := by decide +kernel
theorem wm_10 : decode (mcode 177) 10 = .ok (.if_icmp .le 11, 3) := by decide +kernel
theorem wm_13 : decode (mcode 177) 13 = .ok (.iload_n 3, 1) := by decide +kernel
theorem wm_14 : decode (mcode 177) 14 = .ok (.sipush 255, 3) := by decide +kernel
theorem wm_17 : decode (mcode 177) 17 = .ok (.isub, 1) := by decide +kernel
theorem wm_18 : decode (mcode 177) 18 = .ok (.goto 18, 3) := by decide +kernel
theorem wm_21 : decode (mcode 177) 21 = .ok (.iload_n 3, 1) := by decide +kernel
theorem wm_22 : decode (mcode 177) 22 = .ok (.bipush (-127), 2) := by decide +kernel
theorem wm_24 : decode (mcode 177) 24 = .ok (.if_icmp .ge 11, 3) := by decide +kernel
theorem wm_27 : decode (mcode 177) 27 = .ok (.iload_n 3, 1) := by decide +kernel
theorem wm_28 : decode (mcode 177) 28 = .ok (.sipush 255, 3) := by decide +kernel
theorem wm_31 : decode (mcode 177) 31 = .ok (.iadd, 1) := by decide +kernel
theorem wm_32 : decode (mcode 177) 32 = .ok (.goto 4, 3) := by decide +kernel
theorem wm_35 : decode (mcode 177) 35 = .ok (.iload_n 3, 1) := by decide +kernel
theorem wm_36 : decode (mcode 177) 36 = .ok (.ireturn, 1) := by decide +kernel
theorem wc_r : mret 19 = some .int := by decide +kernel
theorem wm_r : mret 177 = some .int := by decide +kernel
theorem wm_c : csl (mcls 177) 70 = some 255 := by decide +kernel
theorem wrC_ok (d : Nat) (x : Int) (M : MM) : Rm (d + 1) wrC [vi x] M (fun r M1 => r = some (vi (wr x)) ∧ M1 = M) := by
  obtain ⟨s, u, K, R, I⟩ := M
  refine Rm.of [vi x, vn] (eq_true (Nat.le_of_ble_eq_true rfl)) (by rfl) ?_
  refine s_iload_n wc_0 rfl ?_
  refine s_sipush wc_1 ⟨by decide, by decide⟩ (by decide) ?_
  refine s_irem wc_4 (by decide) ?_
  refine s_istore_n (ls2 := [vi x, vi (x.tmod 255)]) wc_5 (by show 1 < 2; decide) rfl ?_
  refine s_iload_n wc_6 rfl ?_
  refine s_bipush wc_7 ⟨by decide, by decide⟩ (by decide) ?_
  refine s_icmp_le 18 wc_9 rfl (fun h1 => ?_) (fun h1 => ?_)
  · refine s_iload_n wc_18 rfl ?_
    refine s_bipush wc_19 ⟨by decide, by decide⟩ (by decide) ?_
    refine s_icmp_ge 32 wc_21 rfl (fun h2 => ?_) (fun h2 => ?_)
    · refine s_iload_n wc_32 rfl ?_
      exact s_iret wc_33 wc_r ⟨by rw [wr_c h1 h2], rfl⟩
    · refine s_iload_n wc_24 rfl ?_
      refine s_sipush wc_25 ⟨by decide, by decide⟩ (by decide) ?_
      refine s_iadd wc_28 ?_
      refine s_goto 33 wc_29 rfl ?_
      exact s_iret wc_33 wc_r ⟨by rw [wr_b h1 h2], rfl⟩
  · refine s_iload_n wc_12 rfl ?_
    refine s_sipush wc_13 ⟨by decide, by decide⟩ (by decide) ?_
    refine s_isub wc_16 ?_
    exact s_iret wc_17 wc_r ⟨by rw [wr_a h1], rfl⟩
theorem wrM_ok (d a : Nat) (x : Int) (M : MM) : Rm (d + 1) wrM [vr a, vl x] M (fun r M1 => r = some (vi (wr x)) ∧ M1 = M) := by
  obtain ⟨s, u, K, R, I⟩ := M
  have hb := tm_bd x
  refine Rm.of [vr a, vl x, vn, vn] (eq_true (Nat.le_of_ble_eq_true rfl)) (by rfl) ?_
  refine s_lload_n wm_0 rfl ?_
  refine s_ldc2 wm_1 wm_c ⟨by decide, by decide⟩ ?_
  refine s_lrem wm_4 (by decide) ?_
  refine s_l2i wm_5 ?_
  rw [wI_id (by unfold inI; omega)]
  refine s_istore_n (ls2 := [vr a, vl x, vn, vi (x.tmod 255)]) wm_6 (by show 3 < 4; decide) rfl ?_
  refine s_iload_n wm_7 rfl ?_
  refine s_bipush wm_8 ⟨by decide, by decide⟩ (by decide) ?_
  refine s_icmp_le 21 wm_10 rfl (fun h1 => ?_) (fun h1 => ?_)
  · refine s_iload_n wm_21 rfl ?_
    refine s_bipush wm_22 ⟨by decide, by decide⟩ (by decide) ?_
    refine s_icmp_ge 35 wm_24 rfl (fun h2 => ?_) (fun h2 => ?_)
    · refine s_iload_n wm_35 rfl ?_
      exact s_iret wm_36 wm_r ⟨by rw [wr_c h1 h2], rfl⟩
    · refine s_iload_n wm_27 rfl ?_
      refine s_sipush wm_28 ⟨by decide, by decide⟩ (by decide) ?_
      refine s_iadd wm_31 ?_
      refine s_goto 36 wm_32 rfl ?_
      exact s_iret wm_36 wm_r ⟨by rw [wr_b h1 h2], rfl⟩
  · refine s_iload_n wm_13 rfl ?_
    refine s_sipush wm_14 ⟨by decide, by decide⟩ (by decide) ?_
    refine s_isub wm_17 ?_
    refine s_goto 36 wm_18 rfl ?_
    exact s_iret wm_36 wm_r ⟨by rw [wr_a h1], rfl⟩

