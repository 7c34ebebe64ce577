/-! loops of the program that the evaluator does in one step, by walk -/
theorem lp {d k head : Nat} {t : List MV} {Q : Option MV → MM → Prop} {s u : Nat} {K : Nat → Nat × Nat} {R : Nat → Nat → Option Nat} (N : Nat) (L : Nat → List MV) (J : Nat → (Nat → Nat → Int) → Prop)
    (hb : ∀ n I, n < N → J n I → (∀ I2, J (n + 1) I2 → Wm d k head (L (n + 1)) t (s, u, K, R, I2) Q) → Wm d k head (L n) t (s, u, K, R, I) Q)
    (he : ∀ I, J N I → Wm d k head (L N) t (s, u, K, R, I) Q) : ∀ (m n : Nat) (I : Nat → Nat → Int), N - n = m → n ≤ N → J n I → Wm d k head (L n) t (s, u, K, R, I) Q
  | 0, n, I, h, h2, h3 => by
    have : n = N := by omega
    subst this
    exact he I h3
  | m + 1, n, I, h, h2, h3 => hb n I (by omega) h3 (fun I2 h4 => lp N L J hb he m (n + 1) I2 (by omega) (by omega) h4)
theorem md186_48 : decode (mcode 186) 48 = .ok (.iload_n 1, 1) := by decide +kernel
theorem md186_49 : decode (mcode 186) 49 = .ok (.sipush 2314, 3) := by decide +kernel
theorem md186_52 : decode (mcode 186) 52 = .ok (.if_icmp .ge 30, 3) := by decide +kernel
theorem md186_55 : decode (mcode 186) 55 = .ok (.aload_n 0, 1) := by decide +kernel
theorem md186_56 : decode (mcode 186) 56 = .ok (.getfield 19, 3) := by decide +kernel
theorem md186_59 : decode (mcode 186) 59 = .ok (.aload_n 0, 1) := by decide +kernel
theorem md186_60 : decode (mcode 186) 60 = .ok (.getfield 102, 3) := by decide +kernel
theorem md186_63 : decode (mcode 186) 63 = .ok (.sipush 2314, 3) := by decide +kernel
theorem md186_66 : decode (mcode 186) 66 = .ok (.imul, 1) := by decide +kernel
theorem md186_67 : decode (mcode 186) 67 = .ok (.iload_n 1, 1) := by decide +kernel
theorem md186_68 : decode (mcode 186) 68 = .ok (.iadd, 1) := by decide +kernel
theorem md186_69 : decode (mcode 186) 69 = .ok (.aload_n 0, 1) := by decide +kernel
theorem md186_70 : decode (mcode 186) 70 = .ok (.getfield 7, 3) := by decide +kernel
theorem md186_73 : decode (mcode 186) 73 = .ok (.iload_n 1, 1) := by decide +kernel
theorem md186_74 : decode (mcode 186) 74 = .ok (.iaload, 1) := by decide +kernel
theorem md186_75 : decode (mcode 186) 75 = .ok (.iastore, 1) := by decide +kernel
theorem md186_76 : decode (mcode 186) 76 = .ok (.iinc 1 1, 3) := by decide +kernel
theorem md186_79 : decode (mcode 186) 79 = .ok (.goto (-31), 3) := by decide +kernel
theorem mp186_19 : pool (mcls 186) 19 = some (3, 12, 6) := by decide +kernel
theorem mp186_102 : pool (mcls 186) 102 = some (1, 12, 7) := by decide +kernel
theorem mp186_7 : pool (mcls 186) 7 = some (3, 12, 1) := by decide +kernel
theorem mc_1 {D : Nat} {s u : Nat} {K : Nat → Nat × Nat} {R : Nat → Nat → Option Nat} {I : Nat → Nat → Int} {Q : Option MV → MM → Prop} {m da sa a : Nat} (hK : K m = (12, 0)) (hd : R m 6 = some da) (hs : R m 1 = some sa) (hKd : K da = (20, 27768)) (hKs : K sa = (20, 2314)) (ham : I m 7 = (a : Int)) (ha : a ≤ 11)
    (kk : ∀ I2, (∀ b j, b ≠ da → I2 b j = I b j) → Wm D 186 82 [vr m, vi 2314] [] (s, u, K, R, I2) Q) : Wm D 186 48 [vr m, vi 0] [] (s, u, K, R, I) Q := by
  have hmd : m ≠ da := fun q => by rw [q, hKd] at hK; cases hK
  refine lp 2314 (fun n => [vr m, vi (n : Int)]) (fun n I1 => ∀ b j, b ≠ da → I1 b j = I b j) (fun n I1 hn hJ kb => ?_) (fun I1 hJ => ?_) 2314 0 I rfl (Nat.zero_le _) (fun b j _ => rfl)
  · show Wm D 186 48 [vr m, vi (n : Int)] [] (s, u, K, R, I1) Q
    refine s_iload_n md186_48 rfl ?_
    refine s_sipush md186_49 ⟨by decide, by decide⟩ (by decide) ?_
    refine s_icmp_ge 82 md186_52 rfl (fun h => absurd h (by omega)) (fun _ => ?_)
    refine s_aload_n md186_55 rfl ?_
    refine s_getR md186_56 mp186_19 hK hd ?_
    refine s_aload_n md186_59 rfl ?_
    refine s_getI md186_60 mp186_102 hK ((hJ m 7 hmd).trans ham) ?_
    refine s_sipush md186_63 ⟨by decide, by decide⟩ (by decide) ?_
    refine s_imul md186_66 ?_
    rw [wI_id (by unfold inI; omega)]
    refine s_iload_n md186_67 rfl ?_
    refine s_iadd md186_68 ?_
    rw [wI_id (by unfold inI; omega)]
    refine s_aload_n md186_69 rfl ?_
    refine s_getR md186_70 mp186_7 hK hs ?_
    refine s_iload_n md186_73 rfl ?_
    refine s_iald md186_74 hKs (by omega) (by omega) rfl ?_
    refine s_iast md186_75 hKd (by omega) (by omega) rfl ?_
    refine s_iinc (ls2 := [vr m, vi (wI ((n : Int) + 1))]) md186_76 rfl rfl ?_
    rw [wI_id (by unfold inI; omega)]
    refine s_goto 48 md186_79 rfl ?_
    have e : ((n : Int) + 1) = ((n + 1 : Nat) : Int) := by omega
    rw [e]
    refine kb _ (fun b j hb => ?_)
    unfold up
    rw [if_neg (fun q => hb q.1)]
    exact hJ b j hb
  · show Wm D 186 48 [vr m, vi ((2314 : Nat) : Int)] [] (s, u, K, R, I1) Q
    refine s_iload_n md186_48 rfl ?_
    refine s_sipush md186_49 ⟨by decide, by decide⟩ (by decide) ?_
    exact s_icmp_ge 82 md186_52 rfl (fun _ => kk I1 hJ) (fun h => absurd h (by omega))
theorem md245_7 : decode (mcode 245) 7 = .ok (.iload_n 1, 1) := by decide +kernel
theorem md245_8 : decode (mcode 245) 8 = .ok (.sipush 2314, 3) := by decide +kernel
theorem md245_11 : decode (mcode 245) 11 = .ok (.if_icmp .ge 21, 3) := by decide +kernel
theorem md245_14 : decode (mcode 245) 14 = .ok (.aload_n 0, 1) := by decide +kernel
theorem md245_15 : decode (mcode 245) 15 = .ok (.getfield 13, 3) := by decide +kernel
theorem md245_18 : decode (mcode 245) 18 = .ok (.iload_n 1, 1) := by decide +kernel
theorem md245_19 : decode (mcode 245) 19 = .ok (.aload_n 0, 1) := by decide +kernel
theorem md245_20 : decode (mcode 245) 20 = .ok (.getfield 7, 3) := by decide +kernel
theorem md245_23 : decode (mcode 245) 23 = .ok (.iload_n 1, 1) := by decide +kernel
theorem md245_24 : decode (mcode 245) 24 = .ok (.iaload, 1) := by decide +kernel
theorem md245_25 : decode (mcode 245) 25 = .ok (.iastore, 1) := by decide +kernel
theorem md245_26 : decode (mcode 245) 26 = .ok (.iinc 1 1, 3) := by decide +kernel
theorem md245_29 : decode (mcode 245) 29 = .ok (.goto (-22), 3) := by decide +kernel
theorem mp245_13 : pool (mcls 245) 13 = some (3, 12, 2) := by decide +kernel
theorem mp245_7 : pool (mcls 245) 7 = some (3, 12, 1) := by decide +kernel
theorem mc_2 {D : Nat} {s u : Nat} {K : Nat → Nat × Nat} {R : Nat → Nat → Option Nat} {I : Nat → Nat → Int} {Q : Option MV → MM → Prop} {m da sa : Nat} {base : List MV} (hK : K m = (12, 0)) (hd : R m 2 = some da) (hs : R m 1 = some sa) (hKd : K da = (20, 2314)) (hKs : K sa = (20, 2314)) (hne : da ≠ sa) (h0 : base[0]? = some (vr m)) (hli : 1 < base.length) (hb : ∀ x, base[1 - 1]? ≠ some (vl x))
    (kk : ∀ I2, (∀ b j, I2 b j = if b = da ∧ j < 2314 then I sa j else I b j) → Wm D 245 32 (base.set 1 (vi 2314)) [] (s, u, K, R, I2) Q) : Wm D 245 7 (base.set 1 (vi 0)) [] (s, u, K, R, I) Q := by
  have hl : ∀ v, (base.set 1 v)[1]? = some v := fun v => by rw [List.getElem?_set_self hli]
  have h1 : ∀ v, (base.set 1 v)[0]? = some (vr m) := fun v => by rw [List.getElem?_set_ne (by decide)]; exact h0
  have hk : ∀ v w, st1 (base.set 1 v) 1 w = base.set 1 w := fun v w => by
    have e : kl (base.set 1 v) 1 = base.set 1 v := by
      unfold kl
      rw [List.getElem?_set_ne (by decide)]
      split
      · rename_i x h9
        exact absurd h9 (hb x)
      · rfl
    unfold st1
    rw [e, List.set_set]
  refine lp 2314 (fun n => base.set 1 (vi (n : Int))) (fun n I1 => ∀ b j, I1 b j = if b = da ∧ j < n then I sa j else I b j) (fun n I1 hn hJ kb => ?_) (fun I1 hJ => ?_) 2314 0 I rfl (Nat.zero_le _) (fun b j => by rw [if_neg (by omega)])
  · show Wm D 245 7 (base.set 1 (vi (n : Int))) [] (s, u, K, R, I1) Q
    refine s_iload_n md245_7 (hl _) ?_
    refine s_sipush md245_8 ⟨by decide, by decide⟩ (by decide) ?_
    refine s_icmp_ge 32 md245_11 rfl (fun h => absurd h (by omega)) (fun _ => ?_)
    refine s_aload_n md245_14 (h1 _) ?_
    refine s_getR md245_15 mp245_13 hK hd ?_
    refine s_iload_n md245_18 (hl _) ?_
    refine s_aload_n md245_19 (h1 _) ?_
    refine s_getR md245_20 mp245_7 hK hs ?_
    refine s_iload_n md245_23 (hl _) ?_
    refine s_iald md245_24 hKs (by omega) (by omega) rfl ?_
    refine s_iast md245_25 hKd (by omega) (by omega) rfl ?_
    refine s_iinc md245_26 (hl _) (hk _ _) ?_
    rw [wI_id (by unfold inI; omega)]
    refine s_goto 7 md245_29 rfl ?_
    have e : ((n : Int) + 1) = ((n + 1 : Nat) : Int) := by omega
    rw [e]
    refine kb _ (fun b j => ?_)
    show up I1 da n (I1 sa n) b j = _
    unfold up
    rw [hJ sa n, if_neg (fun q : sa = da ∧ n < n => hne q.1.symm)]
    by_cases h : b = da ∧ j = n
    · rw [if_pos h, if_pos ⟨h.1, by omega⟩, h.2]
    · rw [if_neg h, hJ b j]
      by_cases h2 : b = da ∧ j < n
      · rw [if_pos h2, if_pos ⟨h2.1, by omega⟩]
      · rw [if_neg h2, if_neg (fun q => by
          rcases Nat.lt_or_ge j n with q2 | q2
          · exact h2 ⟨q.1, q2⟩
          · exact h ⟨q.1, by omega⟩)]
  · show Wm D 245 7 (base.set 1 (vi ((2314 : Nat) : Int))) [] (s, u, K, R, I1) Q
    refine s_iload_n md245_7 (hl _) ?_
    refine s_sipush md245_8 ⟨by decide, by decide⟩ (by decide) ?_
    exact s_icmp_ge 32 md245_11 rfl (fun _ => kk I1 hJ) (fun h => absurd h (by omega))
theorem md279_27 : decode (mcode 279) 27 = .ok (.iload_n 3, 1) := by decide +kernel
theorem md279_28 : decode (mcode 279) 28 = .ok (.sipush 2314, 3) := by decide +kernel
theorem md279_31 : decode (mcode 279) 31 = .ok (.if_icmp .ge 21, 3) := by decide +kernel
theorem md279_34 : decode (mcode 279) 34 = .ok (.aload_n 0, 1) := by decide +kernel
theorem md279_35 : decode (mcode 279) 35 = .ok (.getfield 13, 3) := by decide +kernel
theorem md279_38 : decode (mcode 279) 38 = .ok (.iload_n 3, 1) := by decide +kernel
theorem md279_39 : decode (mcode 279) 39 = .ok (.aload_n 0, 1) := by decide +kernel
theorem md279_40 : decode (mcode 279) 40 = .ok (.getfield 7, 3) := by decide +kernel
theorem md279_43 : decode (mcode 279) 43 = .ok (.iload_n 3, 1) := by decide +kernel
theorem md279_44 : decode (mcode 279) 44 = .ok (.iaload, 1) := by decide +kernel
theorem md279_45 : decode (mcode 279) 45 = .ok (.iastore, 1) := by decide +kernel
theorem md279_46 : decode (mcode 279) 46 = .ok (.iinc 3 1, 3) := by decide +kernel
theorem md279_49 : decode (mcode 279) 49 = .ok (.goto (-22), 3) := by decide +kernel
theorem mp279_13 : pool (mcls 279) 13 = some (3, 12, 2) := by decide +kernel
theorem mp279_7 : pool (mcls 279) 7 = some (3, 12, 1) := by decide +kernel
theorem mc_3 {D : Nat} {s u : Nat} {K : Nat → Nat × Nat} {R : Nat → Nat → Option Nat} {I : Nat → Nat → Int} {Q : Option MV → MM → Prop} {m da sa : Nat} {base : List MV} (hK : K m = (12, 0)) (hd : R m 2 = some da) (hs : R m 1 = some sa) (hKd : K da = (20, 2314)) (hKs : K sa = (20, 2314)) (hne : da ≠ sa) (h0 : base[0]? = some (vr m)) (hli : 3 < base.length) (hb : ∀ x, base[3 - 1]? ≠ some (vl x))
    (kk : ∀ I2, (∀ b j, I2 b j = if b = da ∧ j < 2314 then I sa j else I b j) → Wm D 279 52 (base.set 3 (vi 2314)) [] (s, u, K, R, I2) Q) : Wm D 279 27 (base.set 3 (vi 0)) [] (s, u, K, R, I) Q := by
  have hl : ∀ v, (base.set 3 v)[3]? = some v := fun v => by rw [List.getElem?_set_self hli]
  have h1 : ∀ v, (base.set 3 v)[0]? = some (vr m) := fun v => by rw [List.getElem?_set_ne (by decide)]; exact h0
  have hk : ∀ v w, st1 (base.set 3 v) 3 w = base.set 3 w := fun v w => by
    have e : kl (base.set 3 v) 3 = base.set 3 v := by
      unfold kl
      rw [List.getElem?_set_ne (by decide)]
      split
      · rename_i x h9
        exact absurd h9 (hb x)
      · rfl
    unfold st1
    rw [e, List.set_set]
  refine lp 2314 (fun n => base.set 3 (vi (n : Int))) (fun n I1 => ∀ b j, I1 b j = if b = da ∧ j < n then I sa j else I b j) (fun n I1 hn hJ kb => ?_) (fun I1 hJ => ?_) 2314 0 I rfl (Nat.zero_le _) (fun b j => by rw [if_neg (by omega)])
  · show Wm D 279 27 (base.set 3 (vi (n : Int))) [] (s, u, K, R, I1) Q
    refine s_iload_n md279_27 (hl _) ?_
    refine s_sipush md279_28 ⟨by decide, by decide⟩ (by decide) ?_
    refine s_icmp_ge 52 md279_31 rfl (fun h => absurd h (by omega)) (fun _ => ?_)
    refine s_aload_n md279_34 (h1 _) ?_
    refine s_getR md279_35 mp279_13 hK hd ?_
    refine s_iload_n md279_38 (hl _) ?_
    refine s_aload_n md279_39 (h1 _) ?_
    refine s_getR md279_40 mp279_7 hK hs ?_
    refine s_iload_n md279_43 (hl _) ?_
    refine s_iald md279_44 hKs (by omega) (by omega) rfl ?_
    refine s_iast md279_45 hKd (by omega) (by omega) rfl ?_
    refine s_iinc md279_46 (hl _) (hk _ _) ?_
    rw [wI_id (by unfold inI; omega)]
    refine s_goto 27 md279_49 rfl ?_
    have e : ((n : Int) + 1) = ((n + 1 : Nat) : Int) := by omega
    rw [e]
    refine kb _ (fun b j => ?_)
    show up I1 da n (I1 sa n) b j = _
    unfold up
    rw [hJ sa n, if_neg (fun q : sa = da ∧ n < n => hne q.1.symm)]
    by_cases h : b = da ∧ j = n
    · rw [if_pos h, if_pos ⟨h.1, by omega⟩, h.2]
    · rw [if_neg h, hJ b j]
      by_cases h2 : b = da ∧ j < n
      · rw [if_pos h2, if_pos ⟨h2.1, by omega⟩]
      · rw [if_neg h2, if_neg (fun q => by
          rcases Nat.lt_or_ge j n with q2 | q2
          · exact h2 ⟨q.1, q2⟩
          · exact h ⟨q.1, by omega⟩)]
  · show Wm D 279 27 (base.set 3 (vi ((2314 : Nat) : Int))) [] (s, u, K, R, I1) Q
    refine s_iload_n md279_27 (hl _) ?_
    refine s_sipush md279_28 ⟨by decide, by decide⟩ (by decide) ?_
    exact s_icmp_ge 52 md279_31 rfl (fun _ => kk I1 hJ) (fun h => absurd h (by omega))
theorem md279_110 : decode (mcode 279) 110 = .ok (.iload 4, 2) := by decide +kernel
theorem md279_112 : decode (mcode 279) 112 = .ok (.sipush 2314, 3) := by decide +kernel
theorem md279_115 : decode (mcode 279) 115 = .ok (.if_icmp .ge 23, 3) := by decide +kernel
theorem md279_118 : decode (mcode 279) 118 = .ok (.aload_n 0, 1) := by decide +kernel
theorem md279_119 : decode (mcode 279) 119 = .ok (.getfield 7, 3) := by decide +kernel
theorem md279_122 : decode (mcode 279) 122 = .ok (.iload 4, 2) := by decide +kernel
theorem md279_124 : decode (mcode 279) 124 = .ok (.aload_n 0, 1) := by decide +kernel
theorem md279_125 : decode (mcode 279) 125 = .ok (.getfield 13, 3) := by decide +kernel
theorem md279_128 : decode (mcode 279) 128 = .ok (.iload 4, 2) := by decide +kernel
theorem md279_130 : decode (mcode 279) 130 = .ok (.iaload, 1) := by decide +kernel
theorem md279_131 : decode (mcode 279) 131 = .ok (.iastore, 1) := by decide +kernel
theorem md279_132 : decode (mcode 279) 132 = .ok (.iinc 4 1, 3) := by decide +kernel
theorem md279_135 : decode (mcode 279) 135 = .ok (.goto (-25), 3) := by decide +kernel
theorem mc_4 {D : Nat} {s u : Nat} {K : Nat → Nat × Nat} {R : Nat → Nat → Option Nat} {I : Nat → Nat → Int} {Q : Option MV → MM → Prop} {m da sa : Nat} {base : List MV} (hK : K m = (12, 0)) (hd : R m 1 = some da) (hs : R m 2 = some sa) (hKd : K da = (20, 2314)) (hKs : K sa = (20, 2314)) (hne : da ≠ sa) (h0 : base[0]? = some (vr m)) (hli : 4 < base.length) (hb : ∀ x, base[4 - 1]? ≠ some (vl x))
    (kk : ∀ I2, (∀ b j, I2 b j = if b = da ∧ j < 2314 then I sa j else I b j) → Wm D 279 138 (base.set 4 (vi 2314)) [] (s, u, K, R, I2) Q) : Wm D 279 110 (base.set 4 (vi 0)) [] (s, u, K, R, I) Q := by
  have hl : ∀ v, (base.set 4 v)[4]? = some v := fun v => by rw [List.getElem?_set_self hli]
  have h1 : ∀ v, (base.set 4 v)[0]? = some (vr m) := fun v => by rw [List.getElem?_set_ne (by decide)]; exact h0
  have hk : ∀ v w, st1 (base.set 4 v) 4 w = base.set 4 w := fun v w => by
    have e : kl (base.set 4 v) 4 = base.set 4 v := by
      unfold kl
      rw [List.getElem?_set_ne (by decide)]
      split
      · rename_i x h9
        exact absurd h9 (hb x)
      · rfl
    unfold st1
    rw [e, List.set_set]
  refine lp 2314 (fun n => base.set 4 (vi (n : Int))) (fun n I1 => ∀ b j, I1 b j = if b = da ∧ j < n then I sa j else I b j) (fun n I1 hn hJ kb => ?_) (fun I1 hJ => ?_) 2314 0 I rfl (Nat.zero_le _) (fun b j => by rw [if_neg (by omega)])
  · show Wm D 279 110 (base.set 4 (vi (n : Int))) [] (s, u, K, R, I1) Q
    refine s_iload md279_110 (hl _) ?_
    refine s_sipush md279_112 ⟨by decide, by decide⟩ (by decide) ?_
    refine s_icmp_ge 138 md279_115 rfl (fun h => absurd h (by omega)) (fun _ => ?_)
    refine s_aload_n md279_118 (h1 _) ?_
    refine s_getR md279_119 mp279_7 hK hd ?_
    refine s_iload md279_122 (hl _) ?_
    refine s_aload_n md279_124 (h1 _) ?_
    refine s_getR md279_125 mp279_13 hK hs ?_
    refine s_iload md279_128 (hl _) ?_
    refine s_iald md279_130 hKs (by omega) (by omega) rfl ?_
    refine s_iast md279_131 hKd (by omega) (by omega) rfl ?_
    refine s_iinc md279_132 (hl _) (hk _ _) ?_
    rw [wI_id (by unfold inI; omega)]
    refine s_goto 110 md279_135 rfl ?_
    have e : ((n : Int) + 1) = ((n + 1 : Nat) : Int) := by omega
    rw [e]
    refine kb _ (fun b j => ?_)
    show up I1 da n (I1 sa n) b j = _
    unfold up
    rw [hJ sa n, if_neg (fun q : sa = da ∧ n < n => hne q.1.symm)]
    by_cases h : b = da ∧ j = n
    · rw [if_pos h, if_pos ⟨h.1, by omega⟩, h.2]
    · rw [if_neg h, hJ b j]
      by_cases h2 : b = da ∧ j < n
      · rw [if_pos h2, if_pos ⟨h2.1, by omega⟩]
      · rw [if_neg h2, if_neg (fun q => by
          rcases Nat.lt_or_ge j n with q2 | q2
          · exact h2 ⟨q.1, q2⟩
          · exact h ⟨q.1, by omega⟩)]
  · show Wm D 279 110 (base.set 4 (vi ((2314 : Nat) : Int))) [] (s, u, K, R, I1) Q
    refine s_iload md279_110 (hl _) ?_
    refine s_sipush md279_112 ⟨by decide, by decide⟩ (by decide) ?_
    exact s_icmp_ge 138 md279_115 rfl (fun _ => kk I1 hJ) (fun h => absurd h (by omega))
theorem md280_17 : decode (mcode 280) 17 = .ok (.iload_n 2, 1) := by decide +kernel
theorem md280_18 : decode (mcode 280) 18 = .ok (.sipush 2314, 3) := by decide +kernel
theorem md280_21 : decode (mcode 280) 21 = .ok (.if_icmp .ge 21, 3) := by decide +kernel
theorem md280_24 : decode (mcode 280) 24 = .ok (.aload_n 0, 1) := by decide +kernel
theorem md280_25 : decode (mcode 280) 25 = .ok (.getfield 13, 3) := by decide +kernel
theorem md280_28 : decode (mcode 280) 28 = .ok (.iload_n 2, 1) := by decide +kernel
theorem md280_29 : decode (mcode 280) 29 = .ok (.aload_n 0, 1) := by decide +kernel
theorem md280_30 : decode (mcode 280) 30 = .ok (.getfield 7, 3) := by decide +kernel
theorem md280_33 : decode (mcode 280) 33 = .ok (.iload_n 2, 1) := by decide +kernel
theorem md280_34 : decode (mcode 280) 34 = .ok (.iaload, 1) := by decide +kernel
theorem md280_35 : decode (mcode 280) 35 = .ok (.iastore, 1) := by decide +kernel
theorem md280_36 : decode (mcode 280) 36 = .ok (.iinc 2 1, 3) := by decide +kernel
theorem md280_39 : decode (mcode 280) 39 = .ok (.goto (-22), 3) := by decide +kernel
theorem mp280_13 : pool (mcls 280) 13 = some (3, 12, 2) := by decide +kernel
theorem mp280_7 : pool (mcls 280) 7 = some (3, 12, 1) := by decide +kernel
theorem mc_5 {D : Nat} {s u : Nat} {K : Nat → Nat × Nat} {R : Nat → Nat → Option Nat} {I : Nat → Nat → Int} {Q : Option MV → MM → Prop} {m da sa : Nat} {base : List MV} (hK : K m = (12, 0)) (hd : R m 2 = some da) (hs : R m 1 = some sa) (hKd : K da = (20, 2314)) (hKs : K sa = (20, 2314)) (hne : da ≠ sa) (h0 : base[0]? = some (vr m)) (hli : 2 < base.length) (hb : ∀ x, base[2 - 1]? ≠ some (vl x))
    (kk : ∀ I2, (∀ b j, I2 b j = if b = da ∧ j < 2314 then I sa j else I b j) → Wm D 280 42 (base.set 2 (vi 2314)) [] (s, u, K, R, I2) Q) : Wm D 280 17 (base.set 2 (vi 0)) [] (s, u, K, R, I) Q := by
  have hl : ∀ v, (base.set 2 v)[2]? = some v := fun v => by rw [List.getElem?_set_self hli]
  have h1 : ∀ v, (base.set 2 v)[0]? = some (vr m) := fun v => by rw [List.getElem?_set_ne (by decide)]; exact h0
  have hk : ∀ v w, st1 (base.set 2 v) 2 w = base.set 2 w := fun v w => by
    have e : kl (base.set 2 v) 2 = base.set 2 v := by
      unfold kl
      rw [List.getElem?_set_ne (by decide)]
      split
      · rename_i x h9
        exact absurd h9 (hb x)
      · rfl
    unfold st1
    rw [e, List.set_set]
  refine lp 2314 (fun n => base.set 2 (vi (n : Int))) (fun n I1 => ∀ b j, I1 b j = if b = da ∧ j < n then I sa j else I b j) (fun n I1 hn hJ kb => ?_) (fun I1 hJ => ?_) 2314 0 I rfl (Nat.zero_le _) (fun b j => by rw [if_neg (by omega)])
  · show Wm D 280 17 (base.set 2 (vi (n : Int))) [] (s, u, K, R, I1) Q
    refine s_iload_n md280_17 (hl _) ?_
    refine s_sipush md280_18 ⟨by decide, by decide⟩ (by decide) ?_
    refine s_icmp_ge 42 md280_21 rfl (fun h => absurd h (by omega)) (fun _ => ?_)
    refine s_aload_n md280_24 (h1 _) ?_
    refine s_getR md280_25 mp280_13 hK hd ?_
    refine s_iload_n md280_28 (hl _) ?_
    refine s_aload_n md280_29 (h1 _) ?_
    refine s_getR md280_30 mp280_7 hK hs ?_
    refine s_iload_n md280_33 (hl _) ?_
    refine s_iald md280_34 hKs (by omega) (by omega) rfl ?_
    refine s_iast md280_35 hKd (by omega) (by omega) rfl ?_
    refine s_iinc md280_36 (hl _) (hk _ _) ?_
    rw [wI_id (by unfold inI; omega)]
    refine s_goto 17 md280_39 rfl ?_
    have e : ((n : Int) + 1) = ((n + 1 : Nat) : Int) := by omega
    rw [e]
    refine kb _ (fun b j => ?_)
    show up I1 da n (I1 sa n) b j = _
    unfold up
    rw [hJ sa n, if_neg (fun q : sa = da ∧ n < n => hne q.1.symm)]
    by_cases h : b = da ∧ j = n
    · rw [if_pos h, if_pos ⟨h.1, by omega⟩, h.2]
    · rw [if_neg h, hJ b j]
      by_cases h2 : b = da ∧ j < n
      · rw [if_pos h2, if_pos ⟨h2.1, by omega⟩]
      · rw [if_neg h2, if_neg (fun q => by
          rcases Nat.lt_or_ge j n with q2 | q2
          · exact h2 ⟨q.1, q2⟩
          · exact h ⟨q.1, by omega⟩)]
  · show Wm D 280 17 (base.set 2 (vi ((2314 : Nat) : Int))) [] (s, u, K, R, I1) Q
    refine s_iload_n md280_17 (hl _) ?_
    refine s_sipush md280_18 ⟨by decide, by decide⟩ (by decide) ?_
    exact s_icmp_ge 42 md280_21 rfl (fun _ => kk I1 hJ) (fun h => absurd h (by omega))
theorem md280_66 : decode (mcode 280) 66 = .ok (.iload_n 3, 1) := by decide +kernel
theorem md280_67 : decode (mcode 280) 67 = .ok (.sipush 2314, 3) := by decide +kernel
theorem md280_70 : decode (mcode 280) 70 = .ok (.if_icmp .ge 21, 3) := by decide +kernel
theorem md280_73 : decode (mcode 280) 73 = .ok (.aload_n 0, 1) := by decide +kernel
theorem md280_74 : decode (mcode 280) 74 = .ok (.getfield 7, 3) := by decide +kernel
theorem md280_77 : decode (mcode 280) 77 = .ok (.iload_n 3, 1) := by decide +kernel
theorem md280_78 : decode (mcode 280) 78 = .ok (.aload_n 0, 1) := by decide +kernel
theorem md280_79 : decode (mcode 280) 79 = .ok (.getfield 13, 3) := by decide +kernel
theorem md280_82 : decode (mcode 280) 82 = .ok (.iload_n 3, 1) := by decide +kernel
theorem md280_83 : decode (mcode 280) 83 = .ok (.iaload, 1) := by decide +kernel
theorem md280_84 : decode (mcode 280) 84 = .ok (.iastore, 1) := by decide +kernel
theorem md280_85 : decode (mcode 280) 85 = .ok (.iinc 3 1, 3) := by decide +kernel
theorem md280_88 : decode (mcode 280) 88 = .ok (.goto (-22), 3) := by decide +kernel
theorem mc_6 {D : Nat} {s u : Nat} {K : Nat → Nat × Nat} {R : Nat → Nat → Option Nat} {I : Nat → Nat → Int} {Q : Option MV → MM → Prop} {m da sa : Nat} {base : List MV} (hK : K m = (12, 0)) (hd : R m 1 = some da) (hs : R m 2 = some sa) (hKd : K da = (20, 2314)) (hKs : K sa = (20, 2314)) (hne : da ≠ sa) (h0 : base[0]? = some (vr m)) (hli : 3 < base.length) (hb : ∀ x, base[3 - 1]? ≠ some (vl x))
    (kk : ∀ I2, (∀ b j, I2 b j = if b = da ∧ j < 2314 then I sa j else I b j) → Wm D 280 91 (base.set 3 (vi 2314)) [] (s, u, K, R, I2) Q) : Wm D 280 66 (base.set 3 (vi 0)) [] (s, u, K, R, I) Q := by
  have hl : ∀ v, (base.set 3 v)[3]? = some v := fun v => by rw [List.getElem?_set_self hli]
  have h1 : ∀ v, (base.set 3 v)[0]? = some (vr m) := fun v => by rw [List.getElem?_set_ne (by decide)]; exact h0
  have hk : ∀ v w, st1 (base.set 3 v) 3 w = base.set 3 w := fun v w => by
    have e : kl (base.set 3 v) 3 = base.set 3 v := by
      unfold kl
      rw [List.getElem?_set_ne (by decide)]
      split
      · rename_i x h9
        exact absurd h9 (hb x)
      · rfl
    unfold st1
    rw [e, List.set_set]
  refine lp 2314 (fun n => base.set 3 (vi (n : Int))) (fun n I1 => ∀ b j, I1 b j = if b = da ∧ j < n then I sa j else I b j) (fun n I1 hn hJ kb => ?_) (fun I1 hJ => ?_) 2314 0 I rfl (Nat.zero_le _) (fun b j => by rw [if_neg (by omega)])
  · show Wm D 280 66 (base.set 3 (vi (n : Int))) [] (s, u, K, R, I1) Q
    refine s_iload_n md280_66 (hl _) ?_
    refine s_sipush md280_67 ⟨by decide, by decide⟩ (by decide) ?_
    refine s_icmp_ge 91 md280_70 rfl (fun h => absurd h (by omega)) (fun _ => ?_)
    refine s_aload_n md280_73 (h1 _) ?_
    refine s_getR md280_74 mp280_7 hK hd ?_
    refine s_iload_n md280_77 (hl _) ?_
    refine s_aload_n md280_78 (h1 _) ?_
    refine s_getR md280_79 mp280_13 hK hs ?_
    refine s_iload_n md280_82 (hl _) ?_
    refine s_iald md280_83 hKs (by omega) (by omega) rfl ?_
    refine s_iast md280_84 hKd (by omega) (by omega) rfl ?_
    refine s_iinc md280_85 (hl _) (hk _ _) ?_
    rw [wI_id (by unfold inI; omega)]
    refine s_goto 66 md280_88 rfl ?_
    have e : ((n : Int) + 1) = ((n + 1 : Nat) : Int) := by omega
    rw [e]
    refine kb _ (fun b j => ?_)
    show up I1 da n (I1 sa n) b j = _
    unfold up
    rw [hJ sa n, if_neg (fun q : sa = da ∧ n < n => hne q.1.symm)]
    by_cases h : b = da ∧ j = n
    · rw [if_pos h, if_pos ⟨h.1, by omega⟩, h.2]
    · rw [if_neg h, hJ b j]
      by_cases h2 : b = da ∧ j < n
      · rw [if_pos h2, if_pos ⟨h2.1, by omega⟩]
      · rw [if_neg h2, if_neg (fun q => by
          rcases Nat.lt_or_ge j n with q2 | q2
          · exact h2 ⟨q.1, q2⟩
          · exact h ⟨q.1, by omega⟩)]
  · show Wm D 280 66 (base.set 3 (vi ((2314 : Nat) : Int))) [] (s, u, K, R, I1) Q
    refine s_iload_n md280_66 (hl _) ?_
    refine s_sipush md280_67 ⟨by decide, by decide⟩ (by decide) ?_
    exact s_icmp_ge 91 md280_70 rfl (fun _ => kk I1 hJ) (fun h => absurd h (by omega))
