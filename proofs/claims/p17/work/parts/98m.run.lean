/-! the law: its loop -/
set_option maxRecDepth 100000 in
theorem INV_up {L : Nat} {xs : Nat → Int32} {X Y n : Nat} {Γ : Nat → Nat} {M : MM} (hI : INV L xs X Y n n Γ M) : INV L xs X Y (n + 1) (n + 1) Γ M := by
  obtain ⟨hT, h0, hl, hK, hc, gX, gY, fX, fY⟩ := hI
  exact ⟨hT, h0, hl, hK, hc, gX, gY, fun f hf => cvX f hf (Or.inl (fX f hf)), fun f hf => cvY f hf (Or.inl (fY f hf))⟩
set_option maxRecDepth 100000 in
theorem law_tsw : decode (mcode 291) 33 = .ok (.tableswitch 1420 0 40 #[179, 212, 245, 294, 327, 350, 383, 406, 429, 452, 501, 514, 537, 570, 583, 646, 669, 682, 695, 728, 751, 784, 807, 830, 863, 896, 929, 972, 1025, 1048, 1111, 1134, 1167, 1200, 1223, 1256, 1289, 1312, 1325, 1358, 1397], 179) := by decide +kernel
set_option maxRecDepth 100000 in
theorem law_turn {d L : Nat} {xs : Nat → Int32} {X Y n : Nat} {Γ : Nat → Nat} {M : MM} {Q : Option MV → MM → Prop} (hd : 20 ≤ d) (hI : INV L xs X Y n n Γ M) (hA : AL X Y Γ M) (hn : n ≤ 512) (h6 : 6 * n + 6 ≤ L) (hL : L ≤ 3072) (kk : ∀ Γ2 M2, INV L xs X Y (n + 1) (n + 1) Γ2 M2 → AL X Y Γ2 M2 → M2.1 ≤ M.1 + 19 → M2.2.1 ≤ M.2.1 + 2600 → Wm d 291 1453 (lsn X Y n) [] M2 Q) : Wm d 291 27 (lsn X Y n) [] M Q := by
  have hK := hI.2.2.2.1
  have hc := hI.2.2.2.2.1
  obtain ⟨s, u, K, R, I⟩ := M
  have hc : ∀ j, I 0 j = scr L xs j := hc
  refine s_aload_n (i := 0) (show decode (mcode 291) 27 = _ by decide +kernel) rfl (s_iload_n (i := 3) (show decode (mcode 291) 28 = _ by decide +kernel) rfl (s_sald (show decode (mcode 291) 29 = _ by decide +kernel) hK (by omega) (by omega) rfl (s_bipush (n := 63) (show decode (mcode 291) 30 = _ by decide +kernel) ⟨by decide, by decide⟩ (by decide) (s_iand (show decode (mcode 291) 32 = _ by decide +kernel) ?_))))
  generalize aNd (I 0 (((6 * n : Nat) : Int)).toNat) 63 = x
  by_cases hx : 0 ≤ x ∧ x ≤ 40
  · obtain ⟨m, rfl⟩ := Int.eq_ofNat_of_zero_le hx.1
    have hm : m ≤ 40 := by omega
    match m, hm with
    | 0, _ => exact s_swIn (179) 212 law_tsw (by decide) (by decide) (by decide +kernel) (by decide) (law_c0 hd hI hA hn h6 hL kk)
    | 1, _ => exact s_swIn (212) 245 law_tsw (by decide) (by decide) (by decide +kernel) (by decide) (law_c1 hd hI hA hn h6 hL kk)
    | 2, _ => exact s_swIn (245) 278 law_tsw (by decide) (by decide) (by decide +kernel) (by decide) (law_c2 hd hI hA hn h6 hL kk)
    | 3, _ => exact s_swIn (294) 327 law_tsw (by decide) (by decide) (by decide +kernel) (by decide) (law_c3 hd hI hA hn h6 hL kk)
    | 4, _ => exact s_swIn (327) 360 law_tsw (by decide) (by decide) (by decide +kernel) (by decide) (law_c4 hd hI hA hn h6 hL kk)
    | 5, _ => exact s_swIn (350) 383 law_tsw (by decide) (by decide) (by decide +kernel) (by decide) (law_c5 hd hI hA hn h6 hL kk)
    | 6, _ => exact s_swIn (383) 416 law_tsw (by decide) (by decide) (by decide +kernel) (by decide) (law_c6 hd hI hA hn h6 hL kk)
    | 7, _ => exact s_swIn (406) 439 law_tsw (by decide) (by decide) (by decide +kernel) (by decide) (law_c7 hd hI hA hn h6 hL kk)
    | 8, _ => exact s_swIn (429) 462 law_tsw (by decide) (by decide) (by decide +kernel) (by decide) (law_c8 hd hI hA hn h6 hL kk)
    | 9, _ => exact s_swIn (452) 485 law_tsw (by decide) (by decide) (by decide +kernel) (by decide) (law_c9 hd hI hA hn h6 hL kk)
    | 10, _ => exact s_swIn (501) 534 law_tsw (by decide) (by decide) (by decide +kernel) (by decide) (law_c10 hd hI hA hn h6 hL kk)
    | 11, _ => exact s_swIn (514) 547 law_tsw (by decide) (by decide) (by decide +kernel) (by decide) (law_c11 hd hI hA hn h6 hL kk)
    | 12, _ => exact s_swIn (537) 570 law_tsw (by decide) (by decide) (by decide +kernel) (by decide) (law_c12 hd hI hA hn h6 hL kk)
    | 13, _ => exact s_swIn (570) 603 law_tsw (by decide) (by decide) (by decide +kernel) (by decide) (law_c13 hd hI hA hn h6 hL kk)
    | 14, _ => exact s_swIn (583) 616 law_tsw (by decide) (by decide) (by decide +kernel) (by decide) (law_c14 hd hI hA hn h6 hL kk)
    | 15, _ => exact s_swIn (646) 679 law_tsw (by decide) (by decide) (by decide +kernel) (by decide) (law_c15 hd hI hA hn h6 hL kk)
    | 16, _ => exact s_swIn (669) 702 law_tsw (by decide) (by decide) (by decide +kernel) (by decide) (law_c16 hd hI hA hn h6 hL kk)
    | 17, _ => exact s_swIn (682) 715 law_tsw (by decide) (by decide) (by decide +kernel) (by decide) (law_c17 hd hI hA hn h6 hL kk)
    | 18, _ => exact s_swIn (695) 728 law_tsw (by decide) (by decide) (by decide +kernel) (by decide) (law_c18 hd hI hA hn h6 hL kk)
    | 19, _ => exact s_swIn (728) 761 law_tsw (by decide) (by decide) (by decide +kernel) (by decide) (law_c19 hd hI hA hn h6 hL kk)
    | 20, _ => exact s_swIn (751) 784 law_tsw (by decide) (by decide) (by decide +kernel) (by decide) (law_c20 hd hI hA hn h6 hL kk)
    | 21, _ => exact s_swIn (784) 817 law_tsw (by decide) (by decide) (by decide +kernel) (by decide) (law_c21 hd hI hA hn h6 hL kk)
    | 22, _ => exact s_swIn (807) 840 law_tsw (by decide) (by decide) (by decide +kernel) (by decide) (law_c22 hd hI hA hn h6 hL kk)
    | 23, _ => exact s_swIn (830) 863 law_tsw (by decide) (by decide) (by decide +kernel) (by decide) (law_c23 hd hI hA hn h6 hL kk)
    | 24, _ => exact s_swIn (863) 896 law_tsw (by decide) (by decide) (by decide +kernel) (by decide) (law_c24 hd hI hA hn h6 hL kk)
    | 25, _ => exact s_swIn (896) 929 law_tsw (by decide) (by decide) (by decide +kernel) (by decide) (law_c25 hd hI hA hn h6 hL kk)
    | 26, _ => exact s_swIn (929) 962 law_tsw (by decide) (by decide) (by decide +kernel) (by decide) (law_c26 hd hI hA hn h6 hL kk)
    | 27, _ => exact s_swIn (972) 1005 law_tsw (by decide) (by decide) (by decide +kernel) (by decide) (law_c27 hd hI hA hn h6 hL kk)
    | 28, _ => exact s_swIn (1025) 1058 law_tsw (by decide) (by decide) (by decide +kernel) (by decide) (law_c28 hd hI hA hn h6 hL kk)
    | 29, _ => exact s_swIn (1048) 1081 law_tsw (by decide) (by decide) (by decide +kernel) (by decide) (law_c29 hd hI hA hn h6 hL kk)
    | 30, _ => exact s_swIn (1111) 1144 law_tsw (by decide) (by decide) (by decide +kernel) (by decide) (law_c30 hd hI hA hn h6 hL kk)
    | 31, _ => exact s_swIn (1134) 1167 law_tsw (by decide) (by decide) (by decide +kernel) (by decide) (law_c31 hd hI hA hn h6 hL kk)
    | 32, _ => exact s_swIn (1167) 1200 law_tsw (by decide) (by decide) (by decide +kernel) (by decide) (law_c32 hd hI hA hn h6 hL kk)
    | 33, _ => exact s_swIn (1200) 1233 law_tsw (by decide) (by decide) (by decide +kernel) (by decide) (law_c33 hd hI hA hn h6 hL kk)
    | 34, _ => exact s_swIn (1223) 1256 law_tsw (by decide) (by decide) (by decide +kernel) (by decide) (law_c34 hd hI hA hn h6 hL kk)
    | 35, _ => exact s_swIn (1256) 1289 law_tsw (by decide) (by decide) (by decide +kernel) (by decide) (law_c35 hd hI hA hn h6 hL kk)
    | 36, _ => exact s_swIn (1289) 1322 law_tsw (by decide) (by decide) (by decide +kernel) (by decide) (law_c36 hd hI hA hn h6 hL kk)
    | 37, _ => exact s_swIn (1312) 1345 law_tsw (by decide) (by decide) (by decide +kernel) (by decide) (law_c37 hd hI hA hn h6 hL kk)
    | 38, _ => exact s_swIn (1325) 1358 law_tsw (by decide) (by decide) (by decide +kernel) (by decide) (law_c38 hd hI hA hn h6 hL kk)
    | 39, _ => exact s_swIn (1358) 1391 law_tsw (by decide) (by decide) (by decide +kernel) (by decide) (law_c39 hd hI hA hn h6 hL kk)
    | 40, _ => exact s_swIn (1397) 1430 law_tsw (by decide) (by decide) (by decide +kernel) (by decide) (law_c40 hd hI hA hn h6 hL kk)
    | m + 41, hm => exact absurd hm (by omega)
  · exact s_swOut 1453 law_tsw (by omega) (by decide) (kk Γ _ (INV_up hI) hA (Nat.le_add_right _ _) (Nat.le_add_right _ _))
set_option maxRecDepth 100000 in
theorem law_loop {d L : Nat} {xs : Nat → Int32} {X Y c0 u0 : Nat} (hd : 20 ≤ d) (hL : L ≤ 3072) : ∀ (m n : Nat) (Γ : Nat → Nat) (M : MM), L ≤ 6 * n + m → 6 * n ≤ L → INV L xs X Y n n Γ M → AL X Y Γ M → M.1 ≤ c0 + 19 * n → M.2.1 ≤ u0 + 2600 * n → Wm d 291 18 (lsn X Y n) [] M (fun r M2 => r = some (vi 1) ∧ M2.1 ≤ c0 + 19 * 512 ∧ M2.2.1 ≤ u0 + 2600 * 512) := by
  intro m
  induction m using Nat.strongRecOn with
  | _ m ih =>
  intro n Γ M hm hn hI hA r1 r2
  have hK := hI.2.2.2.1
  have r1' := r1
  have r2' := r2
  have hI' := hI
  obtain ⟨s, u, K, R, I⟩ := M
  have e : wI ((L : Int) - 6) = (L : Int) - 6 := wI_id (by unfold inI; omega)
  refine s_iload_n (i := 3) (show decode (mcode 291) 18 = _ by decide +kernel) rfl (s_aload_n (i := 0) (show decode (mcode 291) 19 = _ by decide +kernel) rfl (s_alen (show decode (mcode 291) 20 = _ by decide +kernel) hK (Or.inr (Or.inr (Or.inr rfl))) (s_bipush (n := 6) (show decode (mcode 291) 21 = _ by decide +kernel) ⟨by decide, by decide⟩ (by decide) (s_isub (show decode (mcode 291) 23 = _ by decide +kernel) ?_))))
  rw [e]
  refine s_icmp_gt (off := 1435) 1459 (show decode (mcode 291) 24 = _ by decide +kernel) (by decide) (fun hx => ?_) (fun hx => ?_)
  · refine s_iconst (n := 1) (show decode (mcode 291) 1459 = _ by decide +kernel) ⟨by decide, by decide⟩ (s_zret (show decode (mcode 291) 1460 = _ by decide +kernel) (show mret 291 = _ by decide +kernel) (Or.inr rfl) ⟨rfl, ?_, ?_⟩)
    · have : s ≤ c0 + 19 * n := r1
      show s ≤ _
      omega
    · have : u ≤ u0 + 2600 * n := r2
      show u ≤ _
      omega
  · refine law_turn hd hI' hA (by omega) (by omega) hL (fun Γ2 M2 hI2 A2 a2 b2 => ?_)
    obtain ⟨s2, u2, K2, R2, I2⟩ := M2
    have a2 : s2 ≤ s + 19 := a2
    have b2 : u2 ≤ u + 2600 := b2
    have r1 : s ≤ c0 + 19 * n := r1
    have r2 : u ≤ u0 + 2600 * n := r2
    have e2 : wI (((6 * n : Nat) : Int) + 6) = ((6 * (n + 1) : Nat) : Int) := by
      rw [wI_id (by unfold inI; omega)]
      omega
    refine s_iinc (i := 3) (n := 6) (ls2 := lsn X Y (n + 1)) (show decode (mcode 291) 1453 = _ by decide +kernel) rfl (by show [vr 0, vr X, vr Y, vi (wI _)] = _; rw [e2]) (s_goto (off := -1438) 18 (show decode (mcode 291) 1456 = _ by decide +kernel) (by decide) ?_)
    have z1 : s2 ≤ c0 + 19 * (n + 1) := by omega
    have z2 : u2 ≤ u0 + 2600 * (n + 1) := by
      rw [Nat.mul_succ, ← Nat.add_assoc]
      exact Nat.le_trans b2 (Nat.add_le_add_right r2 2600)
    exact ih (m - 1) (by omega) (n + 1) Γ2 (s2, u2, K2, R2, I2) (by omega) (by omega) hI2 A2 z1 z2
set_option maxRecDepth 100000 in
theorem RI0_z {f : Nat → Int} (h : ∀ k, f k = 0) : RI0 f := clear_ok (h 2) (h 3) (fun p _ => h _)
set_option maxRecDepth 100000 in
theorem clp0 {rs : RNG} {f : Nat → Int} (h : ∀ k, f k = 0) (k : Nat) : clp rs f k = 0 := by
  unfold clp
  rw [h k]
  cases inR rs k <;> rfl
set_option maxRecDepth 100000 in
theorem upk_at {K : Nat → Nat × Nat} {a : Nat} {v : Nat × Nat} : upk K a v a = v := if_pos rfl
set_option maxRecDepth 100000 in
theorem upz_at {β : Type} {R : Nat → Nat → β} {a j : Nat} {v : β} : upz R a v a j = v := if_pos rfl
set_option maxRecDepth 100000 in
theorem law_run : whole_run := by
  intro L xs hL
  refine ⟨40, by decide, ?_⟩
  have hT0 : HTy Yt (fun _ => 0) (mM0 L xs) := fun a ha => absurd rfl ha
  have k0 : (mM0 L xs).2.2.1 0 = (23, L) := by
    show (if (0 : Nat) = 0 then ((23, L) : Nat × Nat) else (99, 0)) = (23, L)
    exact if_pos rfl
  have c0 : ∀ j, (mM0 L xs).2.2.2.2 0 j = scr L xs j := by
    intro j
    show (if 0 = 0 ∧ j < L then (xs j).toInt else 0) = scr L xs j
    unfold scr
    by_cases h : j < L
    · rw [if_pos h, if_pos ⟨rfl, h⟩]
    · rw [if_neg h, if_neg (fun q => h q.2)]
  have l0 : (mM0 L xs).1 = 1 ∧ (mM0 L xs).2.1 = 0 := ⟨rfl, rfl⟩
  generalize mM0 L xs = M0 at hT0 k0 c0 l0
  obtain ⟨s0, u0, K0, R0, I0⟩ := M0
  obtain ⟨rfl, rfl⟩ : s0 = 1 ∧ u0 = 0 := l0
  have k0 : K0 0 = (23, L) := k0
  have c0 : ∀ j, I0 0 j = scr L xs j := c0
  refine s_new (c := 11) (n := 14) (show decode (mcode 291) 0 = _ by decide +kernel) (show pool (mcls 291) 7 = _ by decide +kernel) (s_dup (show decode (mcode 291) 3 = _ by decide +kernel) rfl (s_ini0 (show decode (mcode 291) 4 = _ by decide +kernel) (show pool (mcls 291) 9 = _ by decide +kernel) (show mstat 117 = _ by decide +kernel) (show ((mname 117).name == "<init>") = _ by decide +kernel) (Nat.le_of_ble_eq_true rfl) (ct_117 40 (fun _ => 0) _ 1 (by decide) (HTy_new hT0 11 0 14) rfl (Nat.lt_succ_self _) (upk_at : upk K0 1 (11, 0) 1 = (11, 0)) (fun j => (upz_at : upz R0 1 (none : Option Nat) 1 j = none)) (fun j => (upz_at : upz I0 1 (0 : Int) 1 j = 0))) ?_))
  rintro r M2 ⟨hr, Γ2, hm⟩
  refine ⟨hr, ?_⟩
  have hT2 := MK_seal hm (τ := 54) (by decide +kernel)
  have h58 : PSt (gI 0) 58 [vr 1, vi 0] (gup Γ2 1 54) M2 := by
    obtain ⟨b, b1, b2, -, b4⟩ := hm.2.2.2.2.1 (3, 17, true) (by decide)
    have hne : b ≠ 1 := fun e => by
      have := hm.2.1
      rw [e, this] at b2
      cases b2
    show gup Γ2 1 54 1 = 54 ∧ ∃ b, M2.2.2.2.1 1 3 = some b ∧ gup Γ2 1 54 b = 17 ∧ M2.2.2.2.2 b 0 ≤ ((150 * 0 : Nat) : Int) + 0
    exact ⟨gup_at, b, b1, (gup_ne hne).trans b2, by rw [b4 rfl 0]; decide⟩
  have h29 : PSt (gI 0) 29 [vr 1, vi 0] (gup Γ2 1 54) M2 := by
    have hn := hm.2.2.2.2.2.1 12 (allne (by decide))
    show gup Γ2 1 54 1 = 54 ∧ ∀ b, M2.2.2.2.1 1 12 = some b → _
    refine ⟨gup_at, fun b hb => ?_⟩
    rw [hn] at hb
    cases hb
  have htp : ∃ b, M2.2.2.2.1 1 4 = some b ∧ gup Γ2 1 54 b = 19 ∧ M2.2.2.2.2 b 0 = 0 := by
    obtain ⟨b, b1, b2, -, b4⟩ := hm.2.2.2.2.1 (4, 19, true) (by decide)
    have hne : b ≠ 1 := fun e => by
      have := hm.2.1
      rw [e, this] at b2
      cases b2
    exact ⟨b, b1, (gup_ne hne).trans b2, b4 rfl 0⟩
  have q := hm.2.2.2.2.2.2.2.1.2 0 (by show 0 < 2; decide) (by decide)
  have k2 : M2.2.2.1 0 = (23, L) := q.1.trans ((if_neg (by decide) : upk K0 1 (11, 0) 0 = K0 0).trans k0)
  have c2 : ∀ j, M2.2.2.2.2 0 j = scr L xs j := fun j => (q.2 j (fun _ _ _ _ _ => rfl)).1.trans ((if_neg (by decide) : upz I0 1 0 0 j = I0 0 j).trans (c0 j))
  have g2 : Γ2 0 = 0 := hm.2.2.2.2.2.2.2.2.1 0 (by show 0 < 2; decide) (by decide)
  have l2 : 1 < M2.1 := hm.2.2.1
  have r2 : M2.1 ≤ 1 + 1 + 52 := hm.2.2.2.2.2.2.2.2.2.1
  have r3 : M2.2.1 ≤ 0 + 14 + 10360 := hm.2.2.2.2.2.2.2.2.2.2
  have hn1 := hm.2.2.2.2.2.1
  have hx1 := hm.2.2.2.2.2.2.1
  clear hm q
  have ga : gup Γ2 1 54 1 = 54 := gup_at
  have g0 : gup Γ2 1 54 0 = 0 := (gup_ne (by decide)).trans g2
  generalize gup Γ2 1 54 = Γa at hT2 h58 h29 ga g0 htp
  obtain ⟨s2, u2, K2, R2, I2⟩ := M2
  have l2 : 1 < s2 := l2
  have r2 : s2 ≤ 54 := r2
  have r3 : u2 ≤ 10374 := r3
  refine s_astore_n (i := 1) (ls2 := [vr 0, vr 1, vn, vn]) (show decode (mcode 291) 7 = _ by decide +kernel) (show 1 < 4 by decide) rfl ?_
  refine s_new (c := 12) (n := 28) (show decode (mcode 291) 8 = _ by decide +kernel) (show pool (mcls 291) 10 = _ by decide +kernel) (s_dup (show decode (mcode 291) 11 = _ by decide +kernel) rfl (s_ini0 (show decode (mcode 291) 12 = _ by decide +kernel) (show pool (mcls 291) 12 = _ by decide +kernel) (show mstat 164 = _ by decide +kernel) (show ((mname 164).name == "<init>") = _ by decide +kernel) (Nat.le_of_ble_eq_true rfl) (ct_164 40 Γa _ s2 (by decide) (HTy_new hT2 12 0 28) (HTy_un hT2 (Nat.le_refl _)) (Nat.lt_succ_self _) (upk_at : upk K2 s2 (12, 0) s2 = (12, 0)) (fun j => (upz_at : upz R2 s2 (none : Option Nat) s2 j = none)) (fun j => (upz_at : upz I2 s2 (0 : Int) s2 j = 0))) ?_))
  rintro r M4 ⟨hr, Γ4, hm⟩
  refine ⟨hr, ?_⟩
  have hT4 := MK_seal hm (τ := 40) (by decide +kernel)
  have e0 : Γ4 s2 = 0 := hm.2.1
  have hG : GEX s2 Γa (gup Γ4 s2 40) := fun b hb => (gup_ne (Nat.ne_of_lt hb)).trans (hm.2.2.2.2.2.2.2.2.1 b (by show b < s2 + 1; omega) (Nat.ne_of_lt hb))
  have l4 : s2 + 1 ≤ M4.1 := hm.2.2.2.2.2.2.2.1.1
  have hF : FRM [] Γa (s2, u2, K2, R2, I2) M4 := by
    refine ⟨by show s2 ≤ M4.1; omega, fun b hb => ?_⟩
    have hb : b < s2 := hb
    have x := hm.2.2.2.2.2.2.2.1.2 b (by show b < s2 + 1; omega) (by omega)
    refine ⟨x.1.trans (if_neg (by omega)), fun j hj => ?_⟩
    have y := x.2 j (fun e he => absurd he List.not_mem_nil)
    exact ⟨y.1.trans (if_neg (by omega)), y.2.trans (if_neg (by omega))⟩
  have f58 := FR_58 h58 hT2 hT4 hF hG (by decide +kernel)
  have f29 := FR_29 h29 hT2 hT4 hF hG (by decide +kernel)
  obtain ⟨t1, t2, t3⟩ := scr_kept hF g0 (by show 0 < s2; omega) k2 c2
  have hz : ∀ j τ, (j, τ, true) ∈ fsM → ∀ i, M4.2.2.2.2 (fl M4 s2 j) i = 0 := by
    intro j τ hj i
    obtain ⟨b, b1, -, -, b4⟩ := hm.2.2.2.2.1 (j, τ, true) hj
    rw [fl_eq b1]
    exact b4 rfl i
  have hi : ∀ j, M4.2.2.2.2 s2 j = ilv [(17, -1)] j := hm.2.2.2.2.2.2.1
  have r4 : M4.1 ≤ s2 + 1 + 14 := hm.2.2.2.2.2.2.2.2.2.1
  have r5 : M4.2.1 ≤ u2 + 28 + 40430 := hm.2.2.2.2.2.2.2.2.2.2
  clear hm
  have gY : gup Γ4 s2 40 s2 = 40 := gup_at
  generalize gup Γ4 s2 40 = Γb at hT4 hG f58 f29 gY
  have hI : INV L xs 1 s2 0 0 Γb M4 := by
    refine ⟨hT4, (hG 0 (by omega)).trans g0, t1, t2, t3, (hG 1 (by omega)).trans ga, gY, fun f hf => ?_, fun f hf => ?_⟩
    · unfold LX at hf
      simp only [List.mem_cons, List.not_mem_nil, or_false] at hf
      rcases hf with rfl | rfl
      · exact f58
      · exact f29
    · unfold LY at hf
      simp only [List.mem_cons, List.not_mem_nil, or_false] at hf
      rcases hf with rfl | rfl | rfl | rfl | rfl | rfl
      · show Γb s2 = 40 ∧ M4.2.2.2.2 s2 5 ≤ ((150 * 0 : Nat) : Int) + 0
        exact ⟨gY, by rw [hi]; decide⟩
      · show Γb s2 = 40 ∧ M4.2.2.2.2 s2 26 ≤ ((150 * 0 : Nat) : Int) + 0
        exact ⟨gY, by rw [hi]; decide⟩
      · exact ⟨gY, tyO_of hT4 gY (by decide) (by decide), RI0_z fun k => clp0 (hz 1 41 (by decide)) k⟩
      · exact ⟨gY, tyO_of hT4 gY (by decide) (by decide), FL0 (show vw M4 s2 1 [(0, 2), (4, 5), (298, 442), (874, 1018)] 4 = 0 from clp0 (hz 1 41 (by decide)) 4)⟩
      · exact ⟨gY, tyO_of hT4 gY (by decide) (by decide), fun i _ => ⟨RI0_z fun k => clp0 (hz 6 43 (by decide)) _, FL0 (clp0 (hz 6 43 (by decide)) _)⟩⟩
      · exact ⟨gY, tyO_of hT4 gY (by decide) (by decide), ⟨RI0_z fun k => clp0 (hz 24 53 (by decide)) k, FL0 (show vw M4 s2 24 [(0, 2314)] 4 = 0 from clp0 (hz 24 53 (by decide)) 4)⟩⟩
  obtain ⟨b, b1, b2, b3⟩ := htp
  have lb : b < s2 := (hT2 b (by rw [b2]; decide)).1
  have gb : Γb b = 19 := (hG b lb).trans b2
  have rb : M4.2.2.2.1 1 4 = some b := ((hF.2 1 l2).2 4 (fun e he => absurd he List.not_mem_nil)).2.trans b1
  have ib : M4.2.2.2.2 b 0 = 0 := ((hF.2 b lb).2 0 (fun e he => absurd he List.not_mem_nil)).1.trans b3
  obtain ⟨c, c1, c2⟩ := tyR hT4 gb (by decide) (j := 3) (τ2 := 20) (by decide)
  have e10 : M4.2.2.2.2 1 10 = -1 := ((hF.2 1 l2).2 10 (fun e he => absurd he List.not_mem_nil)).1.trans (hx1 10)
  have e17 : M4.2.2.2.2 s2 17 = -1 := hi 17
  have hAL : AL 1 s2 Γb M4 := ⟨⟨0, 0, (show taP (gZ 0 0) 1 0 Γb M4 from ⟨(hG 1 (by omega)).trans ga, b, rb, gb, c, c1, c2, ib, fun j hj => absurd hj (by omega)⟩), (show P479 (gZ 0 0) [vr s2, vi 0] Γb M4 from ⟨gY, tyO_of hT4 gY (by decide) (by decide), hi 16, fun j hj => absurd hj (by omega)⟩)⟩, e10.trans e17.symm⟩
  obtain ⟨s4, u4, K4, R4, I4⟩ := M4
  have r4 : s4 ≤ s2 + 1 + 14 := r4
  have r5 : u4 ≤ u2 + 28 + 40430 := r5
  refine s_astore_n (i := 2) (ls2 := [vr 0, vr 1, vr s2, vn]) (show decode (mcode 291) 15 = _ by decide +kernel) (show 2 < 4 by decide) rfl (s_iconst (n := 0) (show decode (mcode 291) 16 = _ by decide +kernel) ⟨by decide, by decide⟩ (s_istore_n (i := 3) (ls2 := lsn 1 s2 0) (show decode (mcode 291) 17 = _ by decide +kernel) (show 3 < 4 by decide) rfl ?_))
  obtain ⟨n9, r9, M9, h9, q1, q2, q3⟩ := law_loop (d := 40) (L := L) (xs := xs) (X := 1) (Y := s2) (c0 := s4) (u0 := u4) (by decide) hL L 0 Γb (s4, u4, K4, R4, I4) (by omega) (by omega) hI hAL (by show s4 ≤ _; omega) (by show u4 ≤ _; omega)
  exact ⟨n9, r9, M9, h9, q1, by omega, by omega⟩
