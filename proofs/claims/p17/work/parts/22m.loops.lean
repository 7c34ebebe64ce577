/-! loops of the program that the evaluator does in one step, by walk -/
theorem lp {d k head : Nat} {t : List MV} {Q : Option MV → MM → Prop} {s u : Nat} {K : Nat → Nat × Nat} {R : Nat → Nat → Option Nat} (N : Nat) (L : Nat → List MV) (J : Nat → (Nat → Nat → Int) → Prop)
    (hb : ∀ n I, n < N → J n I → (∀ I2, J (n + 1) I2 → Wm d k head (L (n + 1)) t (s, u, K, R, I2) Q) → Wm d k head (L n) t (s, u, K, R, I) Q)
    (he : ∀ I, J N I → Wm d k head (L N) t (s, u, K, R, I) Q) : ∀ (m n : Nat) (I : Nat → Nat → Int), N - n = m → n ≤ N → J n I → Wm d k head (L n) t (s, u, K, R, I) Q
  | 0, n, I, h, h2, h3 => by
    have : n = N := by omega
    subst this
    exact he I h3
  | m + 1, n, I, h, h2, h3 => hb n I (by omega) h3 (fun I2 h4 => lp N L J hb he m (n + 1) I2 (by omega) (by omega) h4)
theorem md187_9 : decode (mcode 187) 9 = .ok (.aload_n 0, 1) := by decide +kernel
theorem md187_10 : decode (mcode 187) 10 = .ok (.getfield 7, 3) := by decide +kernel
theorem mp187_7 : pool (mcls 187) 7 = some (3, 12, 1) := by decide +kernel
theorem md187_13 : decode (mcode 187) 13 = .ok (.sipush 874, 3) := by decide +kernel
theorem md187_16 : decode (mcode 187) 16 = .ok (.iload_n 1, 1) := by decide +kernel
theorem md187_17 : decode (mcode 187) 17 = .ok (.iadd, 1) := by decide +kernel
theorem md187_18 : decode (mcode 187) 18 = .ok (.iconst 0, 1) := by decide +kernel
theorem md187_19 : decode (mcode 187) 19 = .ok (.iastore, 1) := by decide +kernel
theorem md187_20 : decode (mcode 187) 20 = .ok (.aload_n 0, 1) := by decide +kernel
theorem md187_21 : decode (mcode 187) 21 = .ok (.getfield 7, 3) := by decide +kernel
theorem md187_24 : decode (mcode 187) 24 = .ok (.sipush 442, 3) := by decide +kernel
theorem md187_27 : decode (mcode 187) 27 = .ok (.iload_n 1, 1) := by decide +kernel
theorem md187_28 : decode (mcode 187) 28 = .ok (.iadd, 1) := by decide +kernel
theorem md187_29 : decode (mcode 187) 29 = .ok (.iconst 0, 1) := by decide +kernel
theorem md187_30 : decode (mcode 187) 30 = .ok (.iastore, 1) := by decide +kernel
theorem md187_31 : decode (mcode 187) 31 = .ok (.aload_n 0, 1) := by decide +kernel
theorem md187_32 : decode (mcode 187) 32 = .ok (.getfield 7, 3) := by decide +kernel
theorem md187_35 : decode (mcode 187) 35 = .ok (.sipush 586, 3) := by decide +kernel
theorem md187_38 : decode (mcode 187) 38 = .ok (.iload_n 1, 1) := by decide +kernel
theorem md187_39 : decode (mcode 187) 39 = .ok (.iadd, 1) := by decide +kernel
theorem md187_40 : decode (mcode 187) 40 = .ok (.iconst 0, 1) := by decide +kernel
theorem md187_41 : decode (mcode 187) 41 = .ok (.iastore, 1) := by decide +kernel
theorem md187_42 : decode (mcode 187) 42 = .ok (.aload_n 0, 1) := by decide +kernel
theorem md187_43 : decode (mcode 187) 43 = .ok (.getfield 7, 3) := by decide +kernel
theorem md187_46 : decode (mcode 187) 46 = .ok (.sipush 730, 3) := by decide +kernel
theorem md187_49 : decode (mcode 187) 49 = .ok (.iload_n 1, 1) := by decide +kernel
theorem md187_50 : decode (mcode 187) 50 = .ok (.iadd, 1) := by decide +kernel
theorem md187_51 : decode (mcode 187) 51 = .ok (.iconst 0, 1) := by decide +kernel
theorem md187_52 : decode (mcode 187) 52 = .ok (.iastore, 1) := by decide +kernel
theorem md187_53 : decode (mcode 187) 53 = .ok (.aload_n 0, 1) := by decide +kernel
theorem md187_54 : decode (mcode 187) 54 = .ok (.getfield 7, 3) := by decide +kernel
theorem md187_57 : decode (mcode 187) 57 = .ok (.sipush 2026, 3) := by decide +kernel
theorem md187_60 : decode (mcode 187) 60 = .ok (.iload_n 1, 1) := by decide +kernel
theorem md187_61 : decode (mcode 187) 61 = .ok (.iadd, 1) := by decide +kernel
theorem md187_62 : decode (mcode 187) 62 = .ok (.iconst 0, 1) := by decide +kernel
theorem md187_63 : decode (mcode 187) 63 = .ok (.iastore, 1) := by decide +kernel
theorem md187_64 : decode (mcode 187) 64 = .ok (.aload_n 0, 1) := by decide +kernel
theorem md187_65 : decode (mcode 187) 65 = .ok (.getfield 7, 3) := by decide +kernel
theorem md187_68 : decode (mcode 187) 68 = .ok (.sipush 2170, 3) := by decide +kernel
theorem md187_71 : decode (mcode 187) 71 = .ok (.iload_n 1, 1) := by decide +kernel
theorem md187_72 : decode (mcode 187) 72 = .ok (.iadd, 1) := by decide +kernel
theorem md187_73 : decode (mcode 187) 73 = .ok (.iconst 0, 1) := by decide +kernel
theorem md187_74 : decode (mcode 187) 74 = .ok (.iastore, 1) := by decide +kernel
theorem md187_2 : decode (mcode 187) 2 = .ok (.iload_n 1, 1) := by decide +kernel
theorem md187_3 : decode (mcode 187) 3 = .ok (.sipush 144, 3) := by decide +kernel
theorem md187_6 : decode (mcode 187) 6 = .ok (.if_icmp .ge 75, 3) := by decide +kernel
theorem md187_75 : decode (mcode 187) 75 = .ok (.iinc 1 1, 3) := by decide +kernel
theorem md187_78 : decode (mcode 187) 78 = .ok (.goto (-76), 3) := by decide +kernel
theorem mc_7 {D : Nat} {s u : Nat} {K : Nat → Nat × Nat} {R : Nat → Nat → Option Nat} {I : Nat → Nat → Int} {Q : Option MV → MM → Prop} {m sa : Nat} (hK : K m = (12, 0)) (hs : R m 1 = some sa) (hKs : K sa = (20, 2314))
    (kk : ∀ I2, (∀ b j, I2 b j = if b = sa ∧ ((874 ≤ j ∧ j < 874 + 144) ∨ (442 ≤ j ∧ j < 442 + 144) ∨ (586 ≤ j ∧ j < 586 + 144) ∨ (730 ≤ j ∧ j < 730 + 144) ∨ (2026 ≤ j ∧ j < 2026 + 144) ∨ (2170 ≤ j ∧ j < 2170 + 144)) then 0 else I b j) → Wm D 187 81 [vr m, vi 144] [] (s, u, K, R, I2) Q) : Wm D 187 2 [vr m, vi 0] [] (s, u, K, R, I) Q := by
  refine lp 144 (fun n => [vr m, vi (n : Int)]) (fun n I1 => ∀ b j, I1 b j = if b = sa ∧ ((874 ≤ j ∧ j < 874 + n) ∨ (442 ≤ j ∧ j < 442 + n) ∨ (586 ≤ j ∧ j < 586 + n) ∨ (730 ≤ j ∧ j < 730 + n) ∨ (2026 ≤ j ∧ j < 2026 + n) ∨ (2170 ≤ j ∧ j < 2170 + n)) then 0 else I b j) (fun n I1 hn hJ kb => ?_) (fun I1 hJ => ?_) 144 0 I rfl (Nat.zero_le _) (fun b j => by rw [if_neg (by omega)])
  · show Wm D 187 2 [vr m, vi (n : Int)] [] (s, u, K, R, I1) Q
    refine s_iload_n md187_2 rfl ?_
    refine s_sipush md187_3 ⟨by decide, by decide⟩ (by decide) ?_
    refine s_icmp_ge 81 md187_6 rfl (fun h => absurd h (by omega)) (fun _ => ?_)
    refine s_aload_n md187_9 rfl ?_
    refine s_getR md187_10 mp187_7 hK hs ?_
    refine s_sipush md187_13 ⟨by decide, by decide⟩ (by decide) ?_
    refine s_iload_n md187_16 rfl ?_
    refine s_iadd md187_17 ?_
    rw [wI_id (by unfold inI; omega)]
    refine s_iconst md187_18 ⟨by decide, by decide⟩ ?_
    refine s_iast md187_19 hKs (by omega) (by omega) rfl ?_
    refine s_aload_n md187_20 rfl ?_
    refine s_getR md187_21 mp187_7 hK hs ?_
    refine s_sipush md187_24 ⟨by decide, by decide⟩ (by decide) ?_
    refine s_iload_n md187_27 rfl ?_
    refine s_iadd md187_28 ?_
    rw [wI_id (by unfold inI; omega)]
    refine s_iconst md187_29 ⟨by decide, by decide⟩ ?_
    refine s_iast md187_30 hKs (by omega) (by omega) rfl ?_
    refine s_aload_n md187_31 rfl ?_
    refine s_getR md187_32 mp187_7 hK hs ?_
    refine s_sipush md187_35 ⟨by decide, by decide⟩ (by decide) ?_
    refine s_iload_n md187_38 rfl ?_
    refine s_iadd md187_39 ?_
    rw [wI_id (by unfold inI; omega)]
    refine s_iconst md187_40 ⟨by decide, by decide⟩ ?_
    refine s_iast md187_41 hKs (by omega) (by omega) rfl ?_
    refine s_aload_n md187_42 rfl ?_
    refine s_getR md187_43 mp187_7 hK hs ?_
    refine s_sipush md187_46 ⟨by decide, by decide⟩ (by decide) ?_
    refine s_iload_n md187_49 rfl ?_
    refine s_iadd md187_50 ?_
    rw [wI_id (by unfold inI; omega)]
    refine s_iconst md187_51 ⟨by decide, by decide⟩ ?_
    refine s_iast md187_52 hKs (by omega) (by omega) rfl ?_
    refine s_aload_n md187_53 rfl ?_
    refine s_getR md187_54 mp187_7 hK hs ?_
    refine s_sipush md187_57 ⟨by decide, by decide⟩ (by decide) ?_
    refine s_iload_n md187_60 rfl ?_
    refine s_iadd md187_61 ?_
    rw [wI_id (by unfold inI; omega)]
    refine s_iconst md187_62 ⟨by decide, by decide⟩ ?_
    refine s_iast md187_63 hKs (by omega) (by omega) rfl ?_
    refine s_aload_n md187_64 rfl ?_
    refine s_getR md187_65 mp187_7 hK hs ?_
    refine s_sipush md187_68 ⟨by decide, by decide⟩ (by decide) ?_
    refine s_iload_n md187_71 rfl ?_
    refine s_iadd md187_72 ?_
    rw [wI_id (by unfold inI; omega)]
    refine s_iconst md187_73 ⟨by decide, by decide⟩ ?_
    refine s_iast md187_74 hKs (by omega) (by omega) rfl ?_
    refine s_iinc (ls2 := [vr m, vi (wI ((n : Int) + 1))]) md187_75 rfl rfl ?_
    rw [wI_id (by unfold inI; omega)]
    refine s_goto 2 md187_78 rfl ?_
    have e : ((n : Int) + 1) = ((n + 1 : Nat) : Int) := by omega
    rw [e]
    refine kb _ (fun b j => ?_)
    show (up (up (up (up (up (up I1 sa (Int.toNat (874 + (n : Int))) 0) sa (Int.toNat (442 + (n : Int))) 0) sa (Int.toNat (586 + (n : Int))) 0) sa (Int.toNat (730 + (n : Int))) 0) sa (Int.toNat (2026 + (n : Int))) 0) sa (Int.toNat (2170 + (n : Int))) 0) b j = _
    unfold up
    rw [hJ b j]
    by_cases hb : b = sa
    · subst hb
      by_cases hz : ((874 ≤ j ∧ j < 874 + (n + 1)) ∨ (442 ≤ j ∧ j < 442 + (n + 1)) ∨ (586 ≤ j ∧ j < 586 + (n + 1)) ∨ (730 ≤ j ∧ j < 730 + (n + 1)) ∨ (2026 ≤ j ∧ j < 2026 + (n + 1)) ∨ (2170 ≤ j ∧ j < 2170 + (n + 1)))
      · rw [if_pos (show b = b ∧ _ from ⟨rfl, hz⟩)]
        repeat' split
        all_goals first | rfl | (exfalso; omega)
      · rw [if_neg (show ¬ (b = b ∧ _) from fun q => hz q.2)]
        repeat' split
        all_goals first | rfl | (exfalso; omega)
    · simp only [hb, false_and, if_false]
  · show Wm D 187 2 [vr m, vi ((144 : Nat) : Int)] [] (s, u, K, R, I1) Q
    refine s_iload_n md187_2 rfl ?_
    refine s_sipush md187_3 ⟨by decide, by decide⟩ (by decide) ?_
    exact s_icmp_ge 81 md187_6 rfl (fun _ => kk I1 hJ) (fun h => absurd h (by omega))
theorem md8_19 : decode (mcode 8) 19 = .ok (.aload_n 0, 1) := by decide +kernel
theorem md8_20 : decode (mcode 8) 20 = .ok (.getfield 9, 3) := by decide +kernel
theorem mp8_9 : pool (mcls 8) 9 = some (3, 2, 2) := by decide +kernel
theorem md8_23 : decode (mcode 8) 23 = .ok (.iload_n 3, 1) := by decide +kernel
theorem md8_24 : decode (mcode 8) 24 = .ok (.iconst 0, 1) := by decide +kernel
theorem md8_25 : decode (mcode 8) 25 = .ok (.iastore, 1) := by decide +kernel
theorem md8_26 : decode (mcode 8) 26 = .ok (.aload_n 0, 1) := by decide +kernel
theorem md8_27 : decode (mcode 8) 27 = .ok (.getfield 15, 3) := by decide +kernel
theorem mp8_15 : pool (mcls 8) 15 = some (3, 2, 3) := by decide +kernel
theorem md8_30 : decode (mcode 8) 30 = .ok (.iload_n 3, 1) := by decide +kernel
theorem md8_31 : decode (mcode 8) 31 = .ok (.bipush 50, 2) := by decide +kernel
theorem md8_33 : decode (mcode 8) 33 = .ok (.iastore, 1) := by decide +kernel
theorem md8_34 : decode (mcode 8) 34 = .ok (.aload_n 0, 1) := by decide +kernel
theorem md8_35 : decode (mcode 8) 35 = .ok (.getfield 18, 3) := by decide +kernel
theorem mp8_18 : pool (mcls 8) 18 = some (3, 2, 4) := by decide +kernel
theorem md8_38 : decode (mcode 8) 38 = .ok (.iload_n 3, 1) := by decide +kernel
theorem md8_39 : decode (mcode 8) 39 = .ok (.iconst 0, 1) := by decide +kernel
theorem md8_40 : decode (mcode 8) 40 = .ok (.bastore, 1) := by decide +kernel
theorem md8_12 : decode (mcode 8) 12 = .ok (.iload_n 3, 1) := by decide +kernel
theorem md8_13 : decode (mcode 8) 13 = .ok (.sipush 144, 3) := by decide +kernel
theorem md8_16 : decode (mcode 8) 16 = .ok (.if_icmp .ge 31, 3) := by decide +kernel
theorem md8_41 : decode (mcode 8) 41 = .ok (.iinc 3 1, 3) := by decide +kernel
theorem md8_44 : decode (mcode 8) 44 = .ok (.goto (-32), 3) := by decide +kernel
theorem mc_8 {D : Nat} {s u : Nat} {K : Nat → Nat × Nat} {R : Nat → Nat → Option Nat} {I : Nat → Nat → Int} {Q : Option MV → MM → Prop} {m p g q : Nat} {w1 w2 : MV} (hw : ∀ x, w2 ≠ vl x) (hK : K m = (2, 0)) (hp : R m 2 = some p) (kp : K p = (20, 144)) (hg : R m 3 = some g) (kg : K g = (20, 144)) (hq : R m 4 = some q) (kq : K q = (21, 144)) (npg : p ≠ g) (npq : p ≠ q) (ngq : g ≠ q)
    (kk : ∀ I2, (∀ b j, I2 b j = if b = p ∧ j < 144 then 0 else if b = g ∧ j < 144 then 50 else if b = q ∧ j < 144 then 0 else I b j) → Wm D 8 47 [vr m, w1, w2, vi 144] [] (s, u, K, R, I2) Q) : Wm D 8 12 [vr m, w1, w2, vi 0] [] (s, u, K, R, I) Q := by
  have hk : ∀ v w, st1 [vr m, w1, w2, v] 3 w = [vr m, w1, w2, w] := fun v w => by
    match w2, hw with
    | .inl x, _ => rfl
    | .inr (.inl x), hw => exact absurd rfl (hw x)
    | .inr (.inr q), _ => rfl
  refine lp 144 (fun n => [vr m, w1, w2, vi (n : Int)]) (fun n I1 => ∀ b j, I1 b j = if b = p ∧ j < n then 0 else if b = g ∧ j < n then 50 else if b = q ∧ j < n then 0 else I b j) (fun n I1 hn hJ kb => ?_) (fun I1 hJ => ?_) 144 0 I rfl (Nat.zero_le _) (fun b j => by simp only [Nat.not_lt_zero, and_false, if_false])
  · show Wm D 8 12 [vr m, w1, w2, vi (n : Int)] [] (s, u, K, R, I1) Q
    refine s_iload_n md8_12 rfl ?_
    refine s_sipush md8_13 ⟨by decide, by decide⟩ (by decide) ?_
    refine s_icmp_ge 47 md8_16 rfl (fun h => absurd h (by omega)) (fun _ => ?_)
    refine s_aload_n md8_19 rfl ?_
    refine s_getR md8_20 mp8_9 hK hp ?_
    refine s_iload_n md8_23 rfl ?_
    refine s_iconst md8_24 ⟨by decide, by decide⟩ ?_
    refine s_iast md8_25 kp (by omega) (by omega) rfl ?_
    refine s_aload_n md8_26 rfl ?_
    refine s_getR md8_27 mp8_15 hK hg ?_
    refine s_iload_n md8_30 rfl ?_
    refine s_bipush md8_31 ⟨by decide, by decide⟩ (by decide) ?_
    refine s_iast md8_33 kg (by omega) (by omega) rfl ?_
    refine s_aload_n md8_34 rfl ?_
    refine s_getR md8_35 mp8_18 hK hq ?_
    refine s_iload_n md8_38 rfl ?_
    refine s_iconst md8_39 ⟨by decide, by decide⟩ ?_
    refine s_bast md8_40 kq (by omega) (by omega) (Or.inl rfl) rfl ?_
    refine s_iinc (ls2 := [vr m, w1, w2, vi (wI ((n : Int) + 1))]) md8_41 rfl (hk _ _) ?_
    rw [wI_id (by unfold inI; omega)]
    refine s_goto 12 md8_44 rfl ?_
    have e : ((n : Int) + 1) = ((n + 1 : Nat) : Int) := by omega
    rw [e]
    refine kb _ (fun b j => ?_)
    show (up (up (up I1 p n 0) g n 50) q n 0) b j = _
    unfold up
    rw [hJ b j]
    by_cases hj : j = n
    · subst hj
      by_cases h0 : b = p
      · subst h0
        simp [npg, npq, Ne.symm npg, Ne.symm npq]
      by_cases h1 : b = g
      · subst h1
        simp [npg, ngq, Ne.symm npg, Ne.symm ngq]
      by_cases h2 : b = q
      · subst h2
        simp [npq, ngq, Ne.symm npq, Ne.symm ngq]
      simp only [h0, h1, h2, false_and, if_false]
    · have hlt : (j < n + 1) = (j < n) := propext ⟨fun q => by omega, fun q => by omega⟩
      simp only [hlt, hj, and_false, if_false]
  · show Wm D 8 12 [vr m, w1, w2, vi ((144 : Nat) : Int)] [] (s, u, K, R, I1) Q
    refine s_iload_n md8_12 rfl ?_
    refine s_sipush md8_13 ⟨by decide, by decide⟩ (by decide) ?_
    exact s_icmp_ge 47 md8_16 rfl (fun _ => kk I1 hJ) (fun h => absurd h (by omega))
theorem md8_56 : decode (mcode 8) 56 = .ok (.aload_n 0, 1) := by decide +kernel
theorem md8_57 : decode (mcode 8) 57 = .ok (.getfield 22, 3) := by decide +kernel
theorem mp8_22 : pool (mcls 8) 22 = some (3, 2, 5) := by decide +kernel
theorem md8_60 : decode (mcode 8) 60 = .ok (.iload_n 3, 1) := by decide +kernel
theorem md8_61 : decode (mcode 8) 61 = .ok (.iconst 0, 1) := by decide +kernel
theorem md8_62 : decode (mcode 8) 62 = .ok (.bastore, 1) := by decide +kernel
theorem md8_49 : decode (mcode 8) 49 = .ok (.iload_n 3, 1) := by decide +kernel
theorem md8_50 : decode (mcode 8) 50 = .ok (.sipush 288, 3) := by decide +kernel
theorem md8_53 : decode (mcode 8) 53 = .ok (.if_icmp .ge 16, 3) := by decide +kernel
theorem md8_63 : decode (mcode 8) 63 = .ok (.iinc 3 1, 3) := by decide +kernel
theorem md8_66 : decode (mcode 8) 66 = .ok (.goto (-17), 3) := by decide +kernel
theorem mc_9 {D : Nat} {s u : Nat} {K : Nat → Nat × Nat} {R : Nat → Nat → Option Nat} {I : Nat → Nat → Int} {Q : Option MV → MM → Prop} {m p : Nat} {w1 w2 : MV} (hw : ∀ x, w2 ≠ vl x) (hK : K m = (2, 0)) (hp : R m 5 = some p) (kp : K p = (21, 288)) 
    (kk : ∀ I2, (∀ b j, I2 b j = if b = p ∧ j < 288 then 0 else I b j) → Wm D 8 69 [vr m, w1, w2, vi 288] [] (s, u, K, R, I2) Q) : Wm D 8 49 [vr m, w1, w2, vi 0] [] (s, u, K, R, I) Q := by
  have hk : ∀ v w, st1 [vr m, w1, w2, v] 3 w = [vr m, w1, w2, w] := fun v w => by
    match w2, hw with
    | .inl x, _ => rfl
    | .inr (.inl x), hw => exact absurd rfl (hw x)
    | .inr (.inr q), _ => rfl
  refine lp 288 (fun n => [vr m, w1, w2, vi (n : Int)]) (fun n I1 => ∀ b j, I1 b j = if b = p ∧ j < n then 0 else I b j) (fun n I1 hn hJ kb => ?_) (fun I1 hJ => ?_) 288 0 I rfl (Nat.zero_le _) (fun b j => by simp only [Nat.not_lt_zero, and_false, if_false])
  · show Wm D 8 49 [vr m, w1, w2, vi (n : Int)] [] (s, u, K, R, I1) Q
    refine s_iload_n md8_49 rfl ?_
    refine s_sipush md8_50 ⟨by decide, by decide⟩ (by decide) ?_
    refine s_icmp_ge 69 md8_53 rfl (fun h => absurd h (by omega)) (fun _ => ?_)
    refine s_aload_n md8_56 rfl ?_
    refine s_getR md8_57 mp8_22 hK hp ?_
    refine s_iload_n md8_60 rfl ?_
    refine s_iconst md8_61 ⟨by decide, by decide⟩ ?_
    refine s_bast md8_62 kp (by omega) (by omega) (Or.inl rfl) rfl ?_
    refine s_iinc (ls2 := [vr m, w1, w2, vi (wI ((n : Int) + 1))]) md8_63 rfl (hk _ _) ?_
    rw [wI_id (by unfold inI; omega)]
    refine s_goto 49 md8_66 rfl ?_
    have e : ((n : Int) + 1) = ((n + 1 : Nat) : Int) := by omega
    rw [e]
    refine kb _ (fun b j => ?_)
    show (up I1 p n 0) b j = _
    unfold up
    rw [hJ b j]
    by_cases hj : j = n
    · subst hj
      by_cases h0 : b = p
      · subst h0
        simp []
      simp only [h0, false_and, if_false]
    · have hlt : (j < n + 1) = (j < n) := propext ⟨fun q => by omega, fun q => by omega⟩
      simp only [hlt, hj, and_false, if_false]
  · show Wm D 8 49 [vr m, w1, w2, vi ((288 : Nat) : Int)] [] (s, u, K, R, I1) Q
    refine s_iload_n md8_49 rfl ?_
    refine s_sipush md8_50 ⟨by decide, by decide⟩ (by decide) ?_
    exact s_icmp_ge 69 md8_53 rfl (fun _ => kk I1 hJ) (fun h => absurd h (by omega))
theorem md289_5 : decode (mcode 289) 5 = .ok (.iload_n 2, 1) := by decide +kernel
theorem md289_6 : decode (mcode 289) 6 = .ok (.iload_n 3, 1) := by decide +kernel
theorem md289_7 : decode (mcode 289) 7 = .ok (.if_icmp .ge 13, 3) := by decide +kernel
theorem md289_10 : decode (mcode 289) 10 = .ok (.aload_n 0, 1) := by decide +kernel
theorem md289_11 : decode (mcode 289) 11 = .ok (.iload_n 2, 1) := by decide +kernel
theorem md289_12 : decode (mcode 289) 12 = .ok (.iload_n 1, 1) := by decide +kernel
theorem md289_13 : decode (mcode 289) 13 = .ok (.iastore, 1) := by decide +kernel
theorem md289_14 : decode (mcode 289) 14 = .ok (.iinc 2 1, 3) := by decide +kernel
theorem md289_17 : decode (mcode 289) 17 = .ok (.goto (-12), 3) := by decide +kernel
theorem mc_10 {D : Nat} {s u : Nat} {K : Nat → Nat × Nat} {R : Nat → Nat → Option Nat} {I : Nat → Nat → Int} {Q : Option MV → MM → Prop} {a N : Nat} {v : Int} (hK : K a = (20, N)) (hN : N < 2147483647)
    (kk : ∀ I2, (∀ b j, I2 b j = if b = a ∧ j < N then v else I b j) → Wm D 289 20 [vr a, vi v, vi (N : Int), vi (N : Int)] [] (s, u, K, R, I2) Q) : Wm D 289 5 [vr a, vi v, vi 0, vi (N : Int)] [] (s, u, K, R, I) Q := by
  refine lp N (fun n => [vr a, vi v, vi (n : Int), vi (N : Int)]) (fun n I1 => ∀ b j, I1 b j = if b = a ∧ j < n then v else I b j) (fun n I1 hn hJ kb => ?_) (fun I1 hJ => ?_) N 0 I rfl (Nat.zero_le _) (fun b j => by rw [if_neg (by omega)])
  · show Wm D 289 5 [vr a, vi v, vi (n : Int), vi (N : Int)] [] (s, u, K, R, I1) Q
    refine s_iload_n md289_5 rfl ?_
    refine s_iload_n md289_6 rfl ?_
    refine s_icmp_ge 20 md289_7 rfl (fun h => absurd h (by omega)) (fun _ => ?_)
    refine s_aload_n md289_10 rfl ?_
    refine s_iload_n md289_11 rfl ?_
    refine s_iload_n md289_12 rfl ?_
    refine s_iast md289_13 hK (by omega) (by omega) rfl ?_
    refine s_iinc (ls2 := [vr a, vi v, vi (wI ((n : Int) + 1)), vi (N : Int)]) md289_14 rfl rfl ?_
    rw [wI_id (by unfold inI; omega)]
    refine s_goto 5 md289_17 rfl ?_
    have e : ((n : Int) + 1) = ((n + 1 : Nat) : Int) := by omega
    rw [e]
    refine kb _ (fun b j => ?_)
    show up I1 a n v b j = _
    unfold up
    rw [hJ b j]
    by_cases h : b = a ∧ j = n
    · rw [if_pos h, if_pos ⟨h.1, by omega⟩]
    · rw [if_neg h]
      by_cases h2 : b = a ∧ j < n
      · rw [if_pos h2, if_pos ⟨h2.1, by omega⟩]
      · rw [if_neg h2, if_neg (fun q => by
          rcases Nat.lt_or_ge j n with q2 | q2
          · exact h2 ⟨q.1, q2⟩
          · exact h ⟨q.1, by omega⟩)]
  · show Wm D 289 5 [vr a, vi v, vi (N : Int), vi (N : Int)] [] (s, u, K, R, I1) Q
    refine s_iload_n md289_5 rfl ?_
    refine s_iload_n md289_6 rfl ?_
    exact s_icmp_ge 20 md289_7 rfl (fun _ => kk I1 hJ) (fun h => absurd h (by omega))
theorem md186_48 : decode (mcode 186) 48 = .ok (.iload_n 1, 1) := by decide +kernel
theorem md186_49 : decode (mcode 186) 49 = .ok (.sipush 2314, 3) := by decide +kernel
theorem md186_52 : decode (mcode 186) 52 = .ok (.if_icmp .ge 30, 3) := by decide +kernel
theorem md186_55 : decode (mcode 186) 55 = .ok (.aload_n 0, 1) := by decide +kernel
theorem md186_56 : decode (mcode 186) 56 = .ok (.getfield 19, 3) := by decide +kernel
theorem md186_59 : decode (mcode 186) 59 = .ok (.aload_n 0, 1) := by decide +kernel
theorem md186_60 : decode (mcode 186) 60 = .ok (.getfield 102, 3) := by decide +kernel
theorem md186_63 : decode (mcode 186) 63 = .ok (.sipush 2314, 3) := by decide +kernel
theorem md186_66 : decode (mcode 186) 66 = .ok (.imul, 1) := by decide +kernel
theorem md186_67 : decode (mcode 186) 67 = .ok (.iload_n 1, 1) := by decide +kernel
theorem md186_68 : decode (mcode 186) 68 = .ok (.iadd, 1) := by decide +kernel
theorem md186_69 : decode (mcode 186) 69 = .ok (.aload_n 0, 1) := by decide +kernel
theorem md186_70 : decode (mcode 186) 70 = .ok (.getfield 7, 3) := by decide +kernel
theorem md186_73 : decode (mcode 186) 73 = .ok (.iload_n 1, 1) := by decide +kernel
theorem md186_74 : decode (mcode 186) 74 = .ok (.iaload, 1) := by decide +kernel
theorem md186_75 : decode (mcode 186) 75 = .ok (.iastore, 1) := by decide +kernel
theorem md186_76 : decode (mcode 186) 76 = .ok (.iinc 1 1, 3) := by decide +kernel
theorem md186_79 : decode (mcode 186) 79 = .ok (.goto (-31), 3) := by decide +kernel
theorem mp186_19 : pool (mcls 186) 19 = some (3, 12, 6) := by decide +kernel
theorem mp186_102 : pool (mcls 186) 102 = some (1, 12, 7) := by decide +kernel
theorem mp186_7 : pool (mcls 186) 7 = some (3, 12, 1) := by decide +kernel
theorem mc_1 {D : Nat} {s u : Nat} {K : Nat → Nat × Nat} {R : Nat → Nat → Option Nat} {I : Nat → Nat → Int} {Q : Option MV → MM → Prop} {m da sa a : Nat} (hK : K m = (12, 0)) (hd : R m 6 = some da) (hs : R m 1 = some sa) (hKd : K da = (20, 27768)) (hKs : K sa = (20, 2314)) (ham : I m 7 = (a : Int)) (ha : a ≤ 11)
    (kk : ∀ I2, (∀ b j, b ≠ da → I2 b j = I b j) → Wm D 186 82 [vr m, vi 2314] [] (s, u, K, R, I2) Q) : Wm D 186 48 [vr m, vi 0] [] (s, u, K, R, I) Q := by
  have hmd : m ≠ da := fun q => by rw [q, hKd] at hK; cases hK
  refine lp 2314 (fun n => [vr m, vi (n : Int)]) (fun n I1 => ∀ b j, b ≠ da → I1 b j = I b j) (fun n I1 hn hJ kb => ?_) (fun I1 hJ => ?_) 2314 0 I rfl (Nat.zero_le _) (fun b j _ => rfl)
  · show Wm D 186 48 [vr m, vi (n : Int)] [] (s, u, K, R, I1) Q
    refine s_iload_n md186_48 rfl ?_
    refine s_sipush md186_49 ⟨by decide, by decide⟩ (by decide) ?_
    refine s_icmp_ge 82 md186_52 rfl (fun h => absurd h (by omega)) (fun _ => ?_)
    refine s_aload_n md186_55 rfl ?_
    refine s_getR md186_56 mp186_19 hK hd ?_
    refine s_aload_n md186_59 rfl ?_
    refine s_getI md186_60 mp186_102 hK ((hJ m 7 hmd).trans ham) ?_
    refine s_sipush md186_63 ⟨by decide, by decide⟩ (by decide) ?_
    refine s_imul md186_66 ?_
    rw [wI_id (by unfold inI; omega)]
    refine s_iload_n md186_67 rfl ?_
    refine s_iadd md186_68 ?_
    rw [wI_id (by unfold inI; omega)]
    refine s_aload_n md186_69 rfl ?_
    refine s_getR md186_70 mp186_7 hK hs ?_
    refine s_iload_n md186_73 rfl ?_
    refine s_iald md186_74 hKs (by omega) (by omega) rfl ?_
    refine s_iast md186_75 hKd (by omega) (by omega) rfl ?_
    refine s_iinc (ls2 := [vr m, vi (wI ((n : Int) + 1))]) md186_76 rfl rfl ?_
    rw [wI_id (by unfold inI; omega)]
    refine s_goto 48 md186_79 rfl ?_
    have e : ((n : Int) + 1) = ((n + 1 : Nat) : Int) := by omega
    rw [e]
    refine kb _ (fun b j hb => ?_)
    unfold up
    rw [if_neg (fun q => hb q.1)]
    exact hJ b j hb
  · show Wm D 186 48 [vr m, vi ((2314 : Nat) : Int)] [] (s, u, K, R, I1) Q
    refine s_iload_n md186_48 rfl ?_
    refine s_sipush md186_49 ⟨by decide, by decide⟩ (by decide) ?_
    exact s_icmp_ge 82 md186_52 rfl (fun _ => kk I1 hJ) (fun h => absurd h (by omega))
theorem md245_7 : decode (mcode 245) 7 = .ok (.iload_n 1, 1) := by decide +kernel
theorem md245_8 : decode (mcode 245) 8 = .ok (.sipush 2314, 3) := by decide +kernel
theorem md245_11 : decode (mcode 245) 11 = .ok (.if_icmp .ge 21, 3) := by decide +kernel
theorem md245_14 : decode (mcode 245) 14 = .ok (.aload_n 0, 1) := by decide +kernel
theorem md245_15 : decode (mcode 245) 15 = .ok (.getfield 13, 3) := by decide +kernel
theorem md245_18 : decode (mcode 245) 18 = .ok (.iload_n 1, 1) := by decide +kernel
theorem md245_19 : decode (mcode 245) 19 = .ok (.aload_n 0, 1) := by decide +kernel
theorem md245_20 : decode (mcode 245) 20 = .ok (.getfield 7, 3) := by decide +kernel
theorem md245_23 : decode (mcode 245) 23 = .ok (.iload_n 1, 1) := by decide +kernel
theorem md245_24 : decode (mcode 245) 24 = .ok (.iaload, 1) := by decide +kernel
theorem md245_25 : decode (mcode 245) 25 = .ok (.iastore, 1) := by decide +kernel
theorem md245_26 : decode (mcode 245) 26 = .ok (.iinc 1 1, 3) := by decide +kernel
theorem md245_29 : decode (mcode 245) 29 = .ok (.goto (-22), 3) := by decide +kernel
theorem mp245_13 : pool (mcls 245) 13 = some (3, 12, 2) := by decide +kernel
theorem mp245_7 : pool (mcls 245) 7 = some (3, 12, 1) := by decide +kernel
theorem mc_2 {D : Nat} {s u : Nat} {K : Nat → Nat × Nat} {R : Nat → Nat → Option Nat} {I : Nat → Nat → Int} {Q : Option MV → MM → Prop} {m da sa : Nat} {base : List MV} (hK : K m = (12, 0)) (hd : R m 2 = some da) (hs : R m 1 = some sa) (hKd : K da = (20, 2314)) (hKs : K sa = (20, 2314)) (hne : da ≠ sa) (h0 : base[0]? = some (vr m)) (hli : 1 < base.length) (hb : ∀ x, base[1 - 1]? ≠ some (vl x))
    (kk : ∀ I2, (∀ b j, I2 b j = if b = da ∧ j < 2314 then I sa j else I b j) → Wm D 245 32 (base.set 1 (vi 2314)) [] (s, u, K, R, I2) Q) : Wm D 245 7 (base.set 1 (vi 0)) [] (s, u, K, R, I) Q := by
  have hl : ∀ v, (base.set 1 v)[1]? = some v := fun v => by rw [List.getElem?_set_self hli]
  have h1 : ∀ v, (base.set 1 v)[0]? = some (vr m) := fun v => by rw [List.getElem?_set_ne (by decide)]; exact h0
  have hk : ∀ v w, st1 (base.set 1 v) 1 w = base.set 1 w := fun v w => by
    have e : kl (base.set 1 v) 1 = base.set 1 v := by
      unfold kl
      rw [List.getElem?_set_ne (by decide)]
      split
      · rename_i x h9
        exact absurd h9 (hb x)
      · rfl
    unfold st1
    rw [e, List.set_set]
  refine lp 2314 (fun n => base.set 1 (vi (n : Int))) (fun n I1 => ∀ b j, I1 b j = if b = da ∧ j < n then I sa j else I b j) (fun n I1 hn hJ kb => ?_) (fun I1 hJ => ?_) 2314 0 I rfl (Nat.zero_le _) (fun b j => by rw [if_neg (by omega)])
  · show Wm D 245 7 (base.set 1 (vi (n : Int))) [] (s, u, K, R, I1) Q
    refine s_iload_n md245_7 (hl _) ?_
    refine s_sipush md245_8 ⟨by decide, by decide⟩ (by decide) ?_
    refine s_icmp_ge 32 md245_11 rfl (fun h => absurd h (by omega)) (fun _ => ?_)
    refine s_aload_n md245_14 (h1 _) ?_
    refine s_getR md245_15 mp245_13 hK hd ?_
    refine s_iload_n md245_18 (hl _) ?_
    refine s_aload_n md245_19 (h1 _) ?_
    refine s_getR md245_20 mp245_7 hK hs ?_
    refine s_iload_n md245_23 (hl _) ?_
    refine s_iald md245_24 hKs (by omega) (by omega) rfl ?_
    refine s_iast md245_25 hKd (by omega) (by omega) rfl ?_
    refine s_iinc md245_26 (hl _) (hk _ _) ?_
    rw [wI_id (by unfold inI; omega)]
    refine s_goto 7 md245_29 rfl ?_
    have e : ((n : Int) + 1) = ((n + 1 : Nat) : Int) := by omega
    rw [e]
    refine kb _ (fun b j => ?_)
    show up I1 da n (I1 sa n) b j = _
    unfold up
    rw [hJ sa n, if_neg (fun q : sa = da ∧ n < n => hne q.1.symm)]
    by_cases h : b = da ∧ j = n
    · rw [if_pos h, if_pos ⟨h.1, by omega⟩, h.2]
    · rw [if_neg h, hJ b j]
      by_cases h2 : b = da ∧ j < n
      · rw [if_pos h2, if_pos ⟨h2.1, by omega⟩]
      · rw [if_neg h2, if_neg (fun q => by
          rcases Nat.lt_or_ge j n with q2 | q2
          · exact h2 ⟨q.1, q2⟩
          · exact h ⟨q.1, by omega⟩)]
  · show Wm D 245 7 (base.set 1 (vi ((2314 : Nat) : Int))) [] (s, u, K, R, I1) Q
    refine s_iload_n md245_7 (hl _) ?_
    refine s_sipush md245_8 ⟨by decide, by decide⟩ (by decide) ?_
    exact s_icmp_ge 32 md245_11 rfl (fun _ => kk I1 hJ) (fun h => absurd h (by omega))
theorem md279_27 : decode (mcode 279) 27 = .ok (.iload_n 3, 1) := by decide +kernel
theorem md279_28 : decode (mcode 279) 28 = .ok (.sipush 2314, 3) := by decide +kernel
theorem md279_31 : decode (mcode 279) 31 = .ok (.if_icmp .ge 21, 3) := by decide +kernel
theorem md279_34 : decode (mcode 279) 34 = .ok (.aload_n 0, 1) := by decide +kernel
theorem md279_35 : decode (mcode 279) 35 = .ok (.getfield 13, 3) := by decide +kernel
theorem md279_38 : decode (mcode 279) 38 = .ok (.iload_n 3, 1) := by decide +kernel
theorem md279_39 : decode (mcode 279) 39 = .ok (.aload_n 0, 1) := by decide +kernel
theorem md279_40 : decode (mcode 279) 40 = .ok (.getfield 7, 3) := by decide +kernel
theorem md279_43 : decode (mcode 279) 43 = .ok (.iload_n 3, 1) := by decide +kernel
theorem md279_44 : decode (mcode 279) 44 = .ok (.iaload, 1) := by decide +kernel
theorem md279_45 : decode (mcode 279) 45 = .ok (.iastore, 1) := by decide +kernel
theorem md279_46 : decode (mcode 279) 46 = .ok (.iinc 3 1, 3) := by decide +kernel
theorem md279_49 : decode (mcode 279) 49 = .ok (.goto (-22), 3) := by decide +kernel
theorem mp279_13 : pool (mcls 279) 13 = some (3, 12, 2) := by decide +kernel
theorem mp279_7 : pool (mcls 279) 7 = some (3, 12, 1) := by decide +kernel
theorem mc_3 {D : Nat} {s u : Nat} {K : Nat → Nat × Nat} {R : Nat → Nat → Option Nat} {I : Nat → Nat → Int} {Q : Option MV → MM → Prop} {m da sa : Nat} {base : List MV} (hK : K m = (12, 0)) (hd : R m 2 = some da) (hs : R m 1 = some sa) (hKd : K da = (20, 2314)) (hKs : K sa = (20, 2314)) (hne : da ≠ sa) (h0 : base[0]? = some (vr m)) (hli : 3 < base.length) (hb : ∀ x, base[3 - 1]? ≠ some (vl x))
    (kk : ∀ I2, (∀ b j, I2 b j = if b = da ∧ j < 2314 then I sa j else I b j) → Wm D 279 52 (base.set 3 (vi 2314)) [] (s, u, K, R, I2) Q) : Wm D 279 27 (base.set 3 (vi 0)) [] (s, u, K, R, I) Q := by
  have hl : ∀ v, (base.set 3 v)[3]? = some v := fun v => by rw [List.getElem?_set_self hli]
  have h1 : ∀ v, (base.set 3 v)[0]? = some (vr m) := fun v => by rw [List.getElem?_set_ne (by decide)]; exact h0
  have hk : ∀ v w, st1 (base.set 3 v) 3 w = base.set 3 w := fun v w => by
    have e : kl (base.set 3 v) 3 = base.set 3 v := by
      unfold kl
      rw [List.getElem?_set_ne (by decide)]
      split
      · rename_i x h9
        exact absurd h9 (hb x)
      · rfl
    unfold st1
    rw [e, List.set_set]
  refine lp 2314 (fun n => base.set 3 (vi (n : Int))) (fun n I1 => ∀ b j, I1 b j = if b = da ∧ j < n then I sa j else I b j) (fun n I1 hn hJ kb => ?_) (fun I1 hJ => ?_) 2314 0 I rfl (Nat.zero_le _) (fun b j => by rw [if_neg (by omega)])
  · show Wm D 279 27 (base.set 3 (vi (n : Int))) [] (s, u, K, R, I1) Q
    refine s_iload_n md279_27 (hl _) ?_
    refine s_sipush md279_28 ⟨by decide, by decide⟩ (by decide) ?_
    refine s_icmp_ge 52 md279_31 rfl (fun h => absurd h (by omega)) (fun _ => ?_)
    refine s_aload_n md279_34 (h1 _) ?_
    refine s_getR md279_35 mp279_13 hK hd ?_
    refine s_iload_n md279_38 (hl _) ?_
    refine s_aload_n md279_39 (h1 _) ?_
    refine s_getR md279_40 mp279_7 hK hs ?_
    refine s_iload_n md279_43 (hl _) ?_
    refine s_iald md279_44 hKs (by omega) (by omega) rfl ?_
    refine s_iast md279_45 hKd (by omega) (by omega) rfl ?_
    refine s_iinc md279_46 (hl _) (hk _ _) ?_
    rw [wI_id (by unfold inI; omega)]
    refine s_goto 27 md279_49 rfl ?_
    have e : ((n : Int) + 1) = ((n + 1 : Nat) : Int) := by omega
    rw [e]
    refine kb _ (fun b j => ?_)
    show up I1 da n (I1 sa n) b j = _
    unfold up
    rw [hJ sa n, if_neg (fun q : sa = da ∧ n < n => hne q.1.symm)]
    by_cases h : b = da ∧ j = n
    · rw [if_pos h, if_pos ⟨h.1, by omega⟩, h.2]
    · rw [if_neg h, hJ b j]
      by_cases h2 : b = da ∧ j < n
      · rw [if_pos h2, if_pos ⟨h2.1, by omega⟩]
      · rw [if_neg h2, if_neg (fun q => by
          rcases Nat.lt_or_ge j n with q2 | q2
          · exact h2 ⟨q.1, q2⟩
          · exact h ⟨q.1, by omega⟩)]
  · show Wm D 279 27 (base.set 3 (vi ((2314 : Nat) : Int))) [] (s, u, K, R, I1) Q
    refine s_iload_n md279_27 (hl _) ?_
    refine s_sipush md279_28 ⟨by decide, by decide⟩ (by decide) ?_
    exact s_icmp_ge 52 md279_31 rfl (fun _ => kk I1 hJ) (fun h => absurd h (by omega))
theorem md279_110 : decode (mcode 279) 110 = .ok (.iload 4, 2) := by decide +kernel
theorem md279_112 : decode (mcode 279) 112 = .ok (.sipush 2314, 3) := by decide +kernel
theorem md279_115 : decode (mcode 279) 115 = .ok (.if_icmp .ge 23, 3) := by decide +kernel
theorem md279_118 : decode (mcode 279) 118 = .ok (.aload_n 0, 1) := by decide +kernel
theorem md279_119 : decode (mcode 279) 119 = .ok (.getfield 7, 3) := by decide +kernel
theorem md279_122 : decode (mcode 279) 122 = .ok (.iload 4, 2) := by decide +kernel
theorem md279_124 : decode (mcode 279) 124 = .ok (.aload_n 0, 1) := by decide +kernel
theorem md279_125 : decode (mcode 279) 125 = .ok (.getfield 13, 3) := by decide +kernel
theorem md279_128 : decode (mcode 279) 128 = .ok (.iload 4, 2) := by decide +kernel
theorem md279_130 : decode (mcode 279) 130 = .ok (.iaload, 1) := by decide +kernel
theorem md279_131 : decode (mcode 279) 131 = .ok (.iastore, 1) := by decide +kernel
theorem md279_132 : decode (mcode 279) 132 = .ok (.iinc 4 1, 3) := by decide +kernel
theorem md279_135 : decode (mcode 279) 135 = .ok (.goto (-25), 3) := by decide +kernel
theorem mc_4 {D : Nat} {s u : Nat} {K : Nat → Nat × Nat} {R : Nat → Nat → Option Nat} {I : Nat → Nat → Int} {Q : Option MV → MM → Prop} {m da sa : Nat} {base : List MV} (hK : K m = (12, 0)) (hd : R m 1 = some da) (hs : R m 2 = some sa) (hKd : K da = (20, 2314)) (hKs : K sa = (20, 2314)) (hne : da ≠ sa) (h0 : base[0]? = some (vr m)) (hli : 4 < base.length) (hb : ∀ x, base[4 - 1]? ≠ some (vl x))
    (kk : ∀ I2, (∀ b j, I2 b j = if b = da ∧ j < 2314 then I sa j else I b j) → Wm D 279 138 (base.set 4 (vi 2314)) [] (s, u, K, R, I2) Q) : Wm D 279 110 (base.set 4 (vi 0)) [] (s, u, K, R, I) Q := by
  have hl : ∀ v, (base.set 4 v)[4]? = some v := fun v => by rw [List.getElem?_set_self hli]
  have h1 : ∀ v, (base.set 4 v)[0]? = some (vr m) := fun v => by rw [List.getElem?_set_ne (by decide)]; exact h0
  have hk : ∀ v w, st1 (base.set 4 v) 4 w = base.set 4 w := fun v w => by
    have e : kl (base.set 4 v) 4 = base.set 4 v := by
      unfold kl
      rw [List.getElem?_set_ne (by decide)]
      split
      · rename_i x h9
        exact absurd h9 (hb x)
      · rfl
    unfold st1
    rw [e, List.set_set]
  refine lp 2314 (fun n => base.set 4 (vi (n : Int))) (fun n I1 => ∀ b j, I1 b j = if b = da ∧ j < n then I sa j else I b j) (fun n I1 hn hJ kb => ?_) (fun I1 hJ => ?_) 2314 0 I rfl (Nat.zero_le _) (fun b j => by rw [if_neg (by omega)])
  · show Wm D 279 110 (base.set 4 (vi (n : Int))) [] (s, u, K, R, I1) Q
    refine s_iload md279_110 (hl _) ?_
    refine s_sipush md279_112 ⟨by decide, by decide⟩ (by decide) ?_
    refine s_icmp_ge 138 md279_115 rfl (fun h => absurd h (by omega)) (fun _ => ?_)
    refine s_aload_n md279_118 (h1 _) ?_
    refine s_getR md279_119 mp279_7 hK hd ?_
    refine s_iload md279_122 (hl _) ?_
    refine s_aload_n md279_124 (h1 _) ?_
    refine s_getR md279_125 mp279_13 hK hs ?_
    refine s_iload md279_128 (hl _) ?_
    refine s_iald md279_130 hKs (by omega) (by omega) rfl ?_
    refine s_iast md279_131 hKd (by omega) (by omega) rfl ?_
    refine s_iinc md279_132 (hl _) (hk _ _) ?_
    rw [wI_id (by unfold inI; omega)]
    refine s_goto 110 md279_135 rfl ?_
    have e : ((n : Int) + 1) = ((n + 1 : Nat) : Int) := by omega
    rw [e]
    refine kb _ (fun b j => ?_)
    show up I1 da n (I1 sa n) b j = _
    unfold up
    rw [hJ sa n, if_neg (fun q : sa = da ∧ n < n => hne q.1.symm)]
    by_cases h : b = da ∧ j = n
    · rw [if_pos h, if_pos ⟨h.1, by omega⟩, h.2]
    · rw [if_neg h, hJ b j]
      by_cases h2 : b = da ∧ j < n
      · rw [if_pos h2, if_pos ⟨h2.1, by omega⟩]
      · rw [if_neg h2, if_neg (fun q => by
          rcases Nat.lt_or_ge j n with q2 | q2
          · exact h2 ⟨q.1, q2⟩
          · exact h ⟨q.1, by omega⟩)]
  · show Wm D 279 110 (base.set 4 (vi ((2314 : Nat) : Int))) [] (s, u, K, R, I1) Q
    refine s_iload md279_110 (hl _) ?_
    refine s_sipush md279_112 ⟨by decide, by decide⟩ (by decide) ?_
    exact s_icmp_ge 138 md279_115 rfl (fun _ => kk I1 hJ) (fun h => absurd h (by omega))
theorem md280_17 : decode (mcode 280) 17 = .ok (.iload_n 2, 1) := by decide +kernel
theorem md280_18 : decode (mcode 280) 18 = .ok (.sipush 2314, 3) := by decide +kernel
theorem md280_21 : decode (mcode 280) 21 = .ok (.if_icmp .ge 21, 3) := by decide +kernel
theorem md280_24 : decode (mcode 280) 24 = .ok (.aload_n 0, 1) := by decide +kernel
theorem md280_25 : decode (mcode 280) 25 = .ok (.getfield 13, 3) := by decide +kernel
theorem md280_28 : decode (mcode 280) 28 = .ok (.iload_n 2, 1) := by decide +kernel
theorem md280_29 : decode (mcode 280) 29 = .ok (.aload_n 0, 1) := by decide +kernel
theorem md280_30 : decode (mcode 280) 30 = .ok (.getfield 7, 3) := by decide +kernel
theorem md280_33 : decode (mcode 280) 33 = .ok (.iload_n 2, 1) := by decide +kernel
theorem md280_34 : decode (mcode 280) 34 = .ok (.iaload, 1) := by decide +kernel
theorem md280_35 : decode (mcode 280) 35 = .ok (.iastore, 1) := by decide +kernel
theorem md280_36 : decode (mcode 280) 36 = .ok (.iinc 2 1, 3) := by decide +kernel
theorem md280_39 : decode (mcode 280) 39 = .ok (.goto (-22), 3) := by decide +kernel
theorem mp280_13 : pool (mcls 280) 13 = some (3, 12, 2) := by decide +kernel
theorem mp280_7 : pool (mcls 280) 7 = some (3, 12, 1) := by decide +kernel
theorem mc_5 {D : Nat} {s u : Nat} {K : Nat → Nat × Nat} {R : Nat → Nat → Option Nat} {I : Nat → Nat → Int} {Q : Option MV → MM → Prop} {m da sa : Nat} {base : List MV} (hK : K m = (12, 0)) (hd : R m 2 = some da) (hs : R m 1 = some sa) (hKd : K da = (20, 2314)) (hKs : K sa = (20, 2314)) (hne : da ≠ sa) (h0 : base[0]? = some (vr m)) (hli : 2 < base.length) (hb : ∀ x, base[2 - 1]? ≠ some (vl x))
    (kk : ∀ I2, (∀ b j, I2 b j = if b = da ∧ j < 2314 then I sa j else I b j) → Wm D 280 42 (base.set 2 (vi 2314)) [] (s, u, K, R, I2) Q) : Wm D 280 17 (base.set 2 (vi 0)) [] (s, u, K, R, I) Q := by
  have hl : ∀ v, (base.set 2 v)[2]? = some v := fun v => by rw [List.getElem?_set_self hli]
  have h1 : ∀ v, (base.set 2 v)[0]? = some (vr m) := fun v => by rw [List.getElem?_set_ne (by decide)]; exact h0
  have hk : ∀ v w, st1 (base.set 2 v) 2 w = base.set 2 w := fun v w => by
    have e : kl (base.set 2 v) 2 = base.set 2 v := by
      unfold kl
      rw [List.getElem?_set_ne (by decide)]
      split
      · rename_i x h9
        exact absurd h9 (hb x)
      · rfl
    unfold st1
    rw [e, List.set_set]
  refine lp 2314 (fun n => base.set 2 (vi (n : Int))) (fun n I1 => ∀ b j, I1 b j = if b = da ∧ j < n then I sa j else I b j) (fun n I1 hn hJ kb => ?_) (fun I1 hJ => ?_) 2314 0 I rfl (Nat.zero_le _) (fun b j => by rw [if_neg (by omega)])
  · show Wm D 280 17 (base.set 2 (vi (n : Int))) [] (s, u, K, R, I1) Q
    refine s_iload_n md280_17 (hl _) ?_
    refine s_sipush md280_18 ⟨by decide, by decide⟩ (by decide) ?_
    refine s_icmp_ge 42 md280_21 rfl (fun h => absurd h (by omega)) (fun _ => ?_)
    refine s_aload_n md280_24 (h1 _) ?_
    refine s_getR md280_25 mp280_13 hK hd ?_
    refine s_iload_n md280_28 (hl _) ?_
    refine s_aload_n md280_29 (h1 _) ?_
    refine s_getR md280_30 mp280_7 hK hs ?_
    refine s_iload_n md280_33 (hl _) ?_
    refine s_iald md280_34 hKs (by omega) (by omega) rfl ?_
    refine s_iast md280_35 hKd (by omega) (by omega) rfl ?_
    refine s_iinc md280_36 (hl _) (hk _ _) ?_
    rw [wI_id (by unfold inI; omega)]
    refine s_goto 17 md280_39 rfl ?_
    have e : ((n : Int) + 1) = ((n + 1 : Nat) : Int) := by omega
    rw [e]
    refine kb _ (fun b j => ?_)
    show up I1 da n (I1 sa n) b j = _
    unfold up
    rw [hJ sa n, if_neg (fun q : sa = da ∧ n < n => hne q.1.symm)]
    by_cases h : b = da ∧ j = n
    · rw [if_pos h, if_pos ⟨h.1, by omega⟩, h.2]
    · rw [if_neg h, hJ b j]
      by_cases h2 : b = da ∧ j < n
      · rw [if_pos h2, if_pos ⟨h2.1, by omega⟩]
      · rw [if_neg h2, if_neg (fun q => by
          rcases Nat.lt_or_ge j n with q2 | q2
          · exact h2 ⟨q.1, q2⟩
          · exact h ⟨q.1, by omega⟩)]
  · show Wm D 280 17 (base.set 2 (vi ((2314 : Nat) : Int))) [] (s, u, K, R, I1) Q
    refine s_iload_n md280_17 (hl _) ?_
    refine s_sipush md280_18 ⟨by decide, by decide⟩ (by decide) ?_
    exact s_icmp_ge 42 md280_21 rfl (fun _ => kk I1 hJ) (fun h => absurd h (by omega))
theorem md280_66 : decode (mcode 280) 66 = .ok (.iload_n 3, 1) := by decide +kernel
theorem md280_67 : decode (mcode 280) 67 = .ok (.sipush 2314, 3) := by decide +kernel
theorem md280_70 : decode (mcode 280) 70 = .ok (.if_icmp .ge 21, 3) := by decide +kernel
theorem md280_73 : decode (mcode 280) 73 = .ok (.aload_n 0, 1) := by decide +kernel
theorem md280_74 : decode (mcode 280) 74 = .ok (.getfield 7, 3) := by decide +kernel
theorem md280_77 : decode (mcode 280) 77 = .ok (.iload_n 3, 1) := by decide +kernel
theorem md280_78 : decode (mcode 280) 78 = .ok (.aload_n 0, 1) := by decide +kernel
theorem md280_79 : decode (mcode 280) 79 = .ok (.getfield 13, 3) := by decide +kernel
theorem md280_82 : decode (mcode 280) 82 = .ok (.iload_n 3, 1) := by decide +kernel
theorem md280_83 : decode (mcode 280) 83 = .ok (.iaload, 1) := by decide +kernel
theorem md280_84 : decode (mcode 280) 84 = .ok (.iastore, 1) := by decide +kernel
theorem md280_85 : decode (mcode 280) 85 = .ok (.iinc 3 1, 3) := by decide +kernel
theorem md280_88 : decode (mcode 280) 88 = .ok (.goto (-22), 3) := by decide +kernel
theorem mc_6 {D : Nat} {s u : Nat} {K : Nat → Nat × Nat} {R : Nat → Nat → Option Nat} {I : Nat → Nat → Int} {Q : Option MV → MM → Prop} {m da sa : Nat} {base : List MV} (hK : K m = (12, 0)) (hd : R m 1 = some da) (hs : R m 2 = some sa) (hKd : K da = (20, 2314)) (hKs : K sa = (20, 2314)) (hne : da ≠ sa) (h0 : base[0]? = some (vr m)) (hli : 3 < base.length) (hb : ∀ x, base[3 - 1]? ≠ some (vl x))
    (kk : ∀ I2, (∀ b j, I2 b j = if b = da ∧ j < 2314 then I sa j else I b j) → Wm D 280 91 (base.set 3 (vi 2314)) [] (s, u, K, R, I2) Q) : Wm D 280 66 (base.set 3 (vi 0)) [] (s, u, K, R, I) Q := by
  have hl : ∀ v, (base.set 3 v)[3]? = some v := fun v => by rw [List.getElem?_set_self hli]
  have h1 : ∀ v, (base.set 3 v)[0]? = some (vr m) := fun v => by rw [List.getElem?_set_ne (by decide)]; exact h0
  have hk : ∀ v w, st1 (base.set 3 v) 3 w = base.set 3 w := fun v w => by
    have e : kl (base.set 3 v) 3 = base.set 3 v := by
      unfold kl
      rw [List.getElem?_set_ne (by decide)]
      split
      · rename_i x h9
        exact absurd h9 (hb x)
      · rfl
    unfold st1
    rw [e, List.set_set]
  refine lp 2314 (fun n => base.set 3 (vi (n : Int))) (fun n I1 => ∀ b j, I1 b j = if b = da ∧ j < n then I sa j else I b j) (fun n I1 hn hJ kb => ?_) (fun I1 hJ => ?_) 2314 0 I rfl (Nat.zero_le _) (fun b j => by rw [if_neg (by omega)])
  · show Wm D 280 66 (base.set 3 (vi (n : Int))) [] (s, u, K, R, I1) Q
    refine s_iload_n md280_66 (hl _) ?_
    refine s_sipush md280_67 ⟨by decide, by decide⟩ (by decide) ?_
    refine s_icmp_ge 91 md280_70 rfl (fun h => absurd h (by omega)) (fun _ => ?_)
    refine s_aload_n md280_73 (h1 _) ?_
    refine s_getR md280_74 mp280_7 hK hd ?_
    refine s_iload_n md280_77 (hl _) ?_
    refine s_aload_n md280_78 (h1 _) ?_
    refine s_getR md280_79 mp280_13 hK hs ?_
    refine s_iload_n md280_82 (hl _) ?_
    refine s_iald md280_83 hKs (by omega) (by omega) rfl ?_
    refine s_iast md280_84 hKd (by omega) (by omega) rfl ?_
    refine s_iinc md280_85 (hl _) (hk _ _) ?_
    rw [wI_id (by unfold inI; omega)]
    refine s_goto 66 md280_88 rfl ?_
    have e : ((n : Int) + 1) = ((n + 1 : Nat) : Int) := by omega
    rw [e]
    refine kb _ (fun b j => ?_)
    show up I1 da n (I1 sa n) b j = _
    unfold up
    rw [hJ sa n, if_neg (fun q : sa = da ∧ n < n => hne q.1.symm)]
    by_cases h : b = da ∧ j = n
    · rw [if_pos h, if_pos ⟨h.1, by omega⟩, h.2]
    · rw [if_neg h, hJ b j]
      by_cases h2 : b = da ∧ j < n
      · rw [if_pos h2, if_pos ⟨h2.1, by omega⟩]
      · rw [if_neg h2, if_neg (fun q => by
          rcases Nat.lt_or_ge j n with q2 | q2
          · exact h2 ⟨q.1, q2⟩
          · exact h ⟨q.1, by omega⟩)]
  · show Wm D 280 66 (base.set 3 (vi ((2314 : Nat) : Int))) [] (s, u, K, R, I1) Q
    refine s_iload_n md280_66 (hl _) ?_
    refine s_sipush md280_67 ⟨by decide, by decide⟩ (by decide) ?_
    exact s_icmp_ge 91 md280_70 rfl (fun _ => kk I1 hJ) (fun h => absurd h (by omega))
