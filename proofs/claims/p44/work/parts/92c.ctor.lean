/-! MAKING: the constructors -/
theorem ct_0 : CT0 0 0 39 [] 1 12 1 true := by
  intro d Γ M a hd hT h1 h2 h3 h4 h5
  cases d with
  | zero => exact absurd hd (by decide)
  | succ d =>
  refine Rm.of [vr a] (eq_true (show 1 ≤ mmaxl 0 by decide +kernel)) rfl ?_
  have k0 := MK_init (E := []) (C := 0) hT h1 h2 h3 h4 h5
  obtain ⟨s, u, K, R, I⟩ := M
  have h2 : a < s := h2
  refine s_aload_n (i := 0) (show decode (mcode 0) 0 = _ by decide +kernel) rfl (s_obj (idx := 3) (show decode (mcode 0) 1 = _ by decide +kernel) (show pool (mcls 0) 3 = _ by decide +kernel) (by decide) ?_)
  refine mk_anew (τ := 55) (j := 2) (n := 12) k0 h2 rfl (show decode (mcode 0) 4 = _ by decide +kernel) (fun s u K R I t h => s_bipush (n := (12 : Int)) (show decode (mcode 0) 5 = _ by decide +kernel) ⟨by decide, by decide⟩ (by decide) h) (show decode (mcode 0) 7 = _ by decide +kernel) (show pool (mcls 0) 9 = _ by decide +kernel) (show decode (mcode 0) 10 = _ by decide +kernel) (show pool (mcls 0) 11 = _ by decide +kernel) (Or.inr ⟨by decide +kernel, by decide +kernel⟩) (by decide) (by decide +kernel) rfl (fun Γ1 M1 k1 => ?_)
  exact s_vret (show decode (mcode 0) 13 = _ by decide +kernel) (show mret 0 = _ by decide +kernel) (MK_ret k1 (by decide +kernel))
theorem ct_3 : CT0 2 1 35 [] 2 288 1 true := by
  intro d Γ M a hd hT h1 h2 h3 h4 h5
  cases d with
  | zero => exact absurd hd (by decide)
  | succ d =>
  refine Rm.of [vr a] (eq_true (show 1 ≤ mmaxl 2 by decide +kernel)) rfl ?_
  have k0 := MK_init (E := []) (C := 1) hT h1 h2 h3 h4 h5
  obtain ⟨s, u, K, R, I⟩ := M
  have h2 : a < s := h2
  refine s_aload_n (i := 0) (show decode (mcode 2) 0 = _ by decide +kernel) rfl (s_obj (idx := 3) (show decode (mcode 2) 1 = _ by decide +kernel) (show pool (mcls 2) 3 = _ by decide +kernel) (by decide) ?_)
  refine mk_arr (τ := 36) (j := 3) (n := 144) (g := 21) k0 h2 rfl (show decode (mcode 2) 4 = _ by decide +kernel) (fun s u K R I t h => s_sipush (n := (144 : Int)) (show decode (mcode 2) 5 = _ by decide +kernel) ⟨by decide, by decide⟩ (by decide) h) (show decode (mcode 2) 8 = _ by decide +kernel) (show decode (mcode 2) 10 = _ by decide +kernel) (show pool (mcls 2) 9 = _ by decide +kernel) (Or.inr ⟨by decide +kernel, by decide +kernel⟩) (Or.inr ⟨rfl, rfl⟩) (by decide) (by decide +kernel) rfl (fun Γ1 M1 k1 => ?_)
  refine mk_arr (τ := 37) (j := 4) (n := 144) (g := 20) k1 h2 rfl (show decode (mcode 2) 13 = _ by decide +kernel) (fun s u K R I t h => s_sipush (n := (144 : Int)) (show decode (mcode 2) 14 = _ by decide +kernel) ⟨by decide, by decide⟩ (by decide) h) (show decode (mcode 2) 17 = _ by decide +kernel) (show decode (mcode 2) 19 = _ by decide +kernel) (show pool (mcls 2) 15 = _ by decide +kernel) (Or.inr ⟨by decide +kernel, by decide +kernel⟩) (Or.inl ⟨rfl, rfl⟩) (by decide) (by decide +kernel) rfl (fun Γ2 M2 k2 => ?_)
  exact s_vret (show decode (mcode 2) 22 = _ by decide +kernel) (show mret 2 = _ by decide +kernel) (MK_ret k2 (by decide +kernel))
theorem ct_33 : CT0 27 3 26 [] 4 720 1 true := by
  intro d Γ M a hd hT h1 h2 h3 h4 h5
  cases d with
  | zero => exact absurd hd (by decide)
  | succ d =>
  refine Rm.of [vr a] (eq_true (show 1 ≤ mmaxl 27 by decide +kernel)) rfl ?_
  have k0 := MK_init (E := []) (C := 3) hT h1 h2 h3 h4 h5
  obtain ⟨s, u, K, R, I⟩ := M
  have h2 : a < s := h2
  refine s_aload_n (i := 0) (show decode (mcode 27) 0 = _ by decide +kernel) rfl (s_obj (idx := 3) (show decode (mcode 27) 1 = _ by decide +kernel) (show pool (mcls 27) 3 = _ by decide +kernel) (by decide) ?_)
  refine mk_arr (τ := 27) (j := 0) (n := 288) (g := 21) k0 h2 rfl (show decode (mcode 27) 4 = _ by decide +kernel) (fun s u K R I t h => s_sipush (n := (288 : Int)) (show decode (mcode 27) 5 = _ by decide +kernel) ⟨by decide, by decide⟩ (by decide) h) (show decode (mcode 27) 8 = _ by decide +kernel) (show decode (mcode 27) 10 = _ by decide +kernel) (show pool (mcls 27) 9 = _ by decide +kernel) (Or.inr ⟨by decide +kernel, by decide +kernel⟩) (Or.inr ⟨rfl, rfl⟩) (by decide) (by decide +kernel) rfl (fun Γ1 M1 k1 => ?_)
  refine mk_arr (τ := 28) (j := 1) (n := 144) (g := 20) k1 h2 rfl (show decode (mcode 27) 13 = _ by decide +kernel) (fun s u K R I t h => s_sipush (n := (144 : Int)) (show decode (mcode 27) 14 = _ by decide +kernel) ⟨by decide, by decide⟩ (by decide) h) (show decode (mcode 27) 17 = _ by decide +kernel) (show decode (mcode 27) 19 = _ by decide +kernel) (show pool (mcls 27) 15 = _ by decide +kernel) (Or.inr ⟨by decide +kernel, by decide +kernel⟩) (Or.inl ⟨rfl, rfl⟩) (by decide) (by decide +kernel) rfl (fun Γ2 M2 k2 => ?_)
  refine mk_arr (τ := 29) (j := 2) (n := 144) (g := 20) k2 h2 rfl (show decode (mcode 27) 22 = _ by decide +kernel) (fun s u K R I t h => s_sipush (n := (144 : Int)) (show decode (mcode 27) 23 = _ by decide +kernel) ⟨by decide, by decide⟩ (by decide) h) (show decode (mcode 27) 26 = _ by decide +kernel) (show decode (mcode 27) 28 = _ by decide +kernel) (show pool (mcls 27) 19 = _ by decide +kernel) (Or.inr ⟨by decide +kernel, by decide +kernel⟩) (Or.inl ⟨rfl, rfl⟩) (by decide) (by decide +kernel) rfl (fun Γ3 M3 k3 => ?_)
  refine mk_arr (τ := 30) (j := 3) (n := 144) (g := 20) k3 h2 rfl (show decode (mcode 27) 31 = _ by decide +kernel) (fun s u K R I t h => s_sipush (n := (144 : Int)) (show decode (mcode 27) 32 = _ by decide +kernel) ⟨by decide, by decide⟩ (by decide) h) (show decode (mcode 27) 35 = _ by decide +kernel) (show decode (mcode 27) 37 = _ by decide +kernel) (show pool (mcls 27) 22 = _ by decide +kernel) (Or.inr ⟨by decide +kernel, by decide +kernel⟩) (Or.inl ⟨rfl, rfl⟩) (by decide) (by decide +kernel) rfl (fun Γ4 M4 k4 => ?_)
  exact s_vret (show decode (mcode 27) 40 = _ by decide +kernel) (show mret 27 = _ by decide +kernel) (MK_ret k4 (by decide +kernel))
theorem ct_40 : CT0 34 4 6 [] 3 530 1 true := by
  intro d Γ M a hd hT h1 h2 h3 h4 h5
  cases d with
  | zero => exact absurd hd (by decide)
  | succ d =>
  refine Rm.of [vr a] (eq_true (show 1 ≤ mmaxl 34 by decide +kernel)) rfl ?_
  have k0 := MK_init (E := []) (C := 4) hT h1 h2 h3 h4 h5
  obtain ⟨s, u, K, R, I⟩ := M
  have h2 : a < s := h2
  refine s_aload_n (i := 0) (show decode (mcode 34) 0 = _ by decide +kernel) rfl (s_obj (idx := 3) (show decode (mcode 34) 1 = _ by decide +kernel) (show pool (mcls 34) 3 = _ by decide +kernel) (by decide) ?_)
  refine mk_arr (τ := 7) (j := 2) (n := 121) (g := 20) k0 h2 rfl (show decode (mcode 34) 4 = _ by decide +kernel) (fun s u K R I t h => s_bipush (n := (121 : Int)) (show decode (mcode 34) 5 = _ by decide +kernel) ⟨by decide, by decide⟩ (by decide) h) (show decode (mcode 34) 7 = _ by decide +kernel) (show decode (mcode 34) 9 = _ by decide +kernel) (show pool (mcls 34) 9 = _ by decide +kernel) (Or.inr ⟨by decide +kernel, by decide +kernel⟩) (Or.inl ⟨rfl, rfl⟩) (by decide) (by decide +kernel) rfl (fun Γ1 M1 k1 => ?_)
  refine mk_arr (τ := 8) (j := 3) (n := 121) (g := 20) k1 h2 rfl (show decode (mcode 34) 12 = _ by decide +kernel) (fun s u K R I t h => s_bipush (n := (121 : Int)) (show decode (mcode 34) 13 = _ by decide +kernel) ⟨by decide, by decide⟩ (by decide) h) (show decode (mcode 34) 15 = _ by decide +kernel) (show decode (mcode 34) 17 = _ by decide +kernel) (show pool (mcls 34) 15 = _ by decide +kernel) (Or.inr ⟨by decide +kernel, by decide +kernel⟩) (Or.inl ⟨rfl, rfl⟩) (by decide) (by decide +kernel) rfl (fun Γ2 M2 k2 => ?_)
  refine mk_arr (τ := 9) (j := 4) (n := 288) (g := 20) k2 h2 rfl (show decode (mcode 34) 20 = _ by decide +kernel) (fun s u K R I t h => s_sipush (n := (288 : Int)) (show decode (mcode 34) 21 = _ by decide +kernel) ⟨by decide, by decide⟩ (by decide) h) (show decode (mcode 34) 24 = _ by decide +kernel) (show decode (mcode 34) 26 = _ by decide +kernel) (show pool (mcls 34) 18 = _ by decide +kernel) (Or.inr ⟨by decide +kernel, by decide +kernel⟩) (Or.inl ⟨rfl, rfl⟩) (by decide) (by decide +kernel) rfl (fun Γ3 M3 k3 => ?_)
  exact s_vret (show decode (mcode 34) 29 = _ by decide +kernel) (show mret 34 = _ by decide +kernel) (MK_ret k3 (by decide +kernel))
theorem ct_40k : CT0 34 4 66 [] 3 530 1 true := by
  intro d Γ M a hd hT h1 h2 h3 h4 h5
  cases d with
  | zero => exact absurd hd (by decide)
  | succ d =>
  refine Rm.of [vr a] (eq_true (show 1 ≤ mmaxl 34 by decide +kernel)) rfl ?_
  have k0 := MK_init (E := []) (C := 4) hT h1 h2 h3 h4 h5
  obtain ⟨s, u, K, R, I⟩ := M
  have h2 : a < s := h2
  refine s_aload_n (i := 0) (show decode (mcode 34) 0 = _ by decide +kernel) rfl (s_obj (idx := 3) (show decode (mcode 34) 1 = _ by decide +kernel) (show pool (mcls 34) 3 = _ by decide +kernel) (by decide) ?_)
  refine mk_arr (τ := 67) (j := 2) (n := 121) (g := 20) k0 h2 rfl (show decode (mcode 34) 4 = _ by decide +kernel) (fun s u K R I t h => s_bipush (n := (121 : Int)) (show decode (mcode 34) 5 = _ by decide +kernel) ⟨by decide, by decide⟩ (by decide) h) (show decode (mcode 34) 7 = _ by decide +kernel) (show decode (mcode 34) 9 = _ by decide +kernel) (show pool (mcls 34) 9 = _ by decide +kernel) (Or.inr ⟨by decide +kernel, by decide +kernel⟩) (Or.inl ⟨rfl, rfl⟩) (by decide) (by decide +kernel) rfl (fun Γ1 M1 k1 => ?_)
  refine mk_arr (τ := 68) (j := 3) (n := 121) (g := 20) k1 h2 rfl (show decode (mcode 34) 12 = _ by decide +kernel) (fun s u K R I t h => s_bipush (n := (121 : Int)) (show decode (mcode 34) 13 = _ by decide +kernel) ⟨by decide, by decide⟩ (by decide) h) (show decode (mcode 34) 15 = _ by decide +kernel) (show decode (mcode 34) 17 = _ by decide +kernel) (show pool (mcls 34) 15 = _ by decide +kernel) (Or.inr ⟨by decide +kernel, by decide +kernel⟩) (Or.inl ⟨rfl, rfl⟩) (by decide) (by decide +kernel) rfl (fun Γ2 M2 k2 => ?_)
  refine mk_arr (τ := 69) (j := 4) (n := 288) (g := 20) k2 h2 rfl (show decode (mcode 34) 20 = _ by decide +kernel) (fun s u K R I t h => s_sipush (n := (288 : Int)) (show decode (mcode 34) 21 = _ by decide +kernel) ⟨by decide, by decide⟩ (by decide) h) (show decode (mcode 34) 24 = _ by decide +kernel) (show decode (mcode 34) 26 = _ by decide +kernel) (show pool (mcls 34) 18 = _ by decide +kernel) (Or.inr ⟨by decide +kernel, by decide +kernel⟩) (Or.inl ⟨rfl, rfl⟩) (by decide) (by decide +kernel) rfl (fun Γ3 M3 k3 => ?_)
  exact s_vret (show decode (mcode 34) 29 = _ by decide +kernel) (show mret 34 = _ by decide +kernel) (MK_ret k3 (by decide +kernel))
theorem ct_67 : CT0 56 6 17 [] 1 180 1 true := by
  intro d Γ M a hd hT h1 h2 h3 h4 h5
  cases d with
  | zero => exact absurd hd (by decide)
  | succ d =>
  refine Rm.of [vr a] (eq_true (show 1 ≤ mmaxl 56 by decide +kernel)) rfl ?_
  have k0 := MK_init (E := []) (C := 6) hT h1 h2 h3 h4 h5
  obtain ⟨s, u, K, R, I⟩ := M
  have h2 : a < s := h2
  refine s_aload_n (i := 0) (show decode (mcode 56) 0 = _ by decide +kernel) rfl (s_obj (idx := 3) (show decode (mcode 56) 1 = _ by decide +kernel) (show pool (mcls 56) 3 = _ by decide +kernel) (by decide) ?_)
  refine mk_arr (τ := 18) (j := 1) (n := 180) (g := 20) k0 h2 rfl (show decode (mcode 56) 4 = _ by decide +kernel) (fun s u K R I t h => s_sipush (n := (180 : Int)) (show decode (mcode 56) 5 = _ by decide +kernel) ⟨by decide, by decide⟩ (by decide) h) (show decode (mcode 56) 8 = _ by decide +kernel) (show decode (mcode 56) 10 = _ by decide +kernel) (show pool (mcls 56) 9 = _ by decide +kernel) (Or.inr ⟨by decide +kernel, by decide +kernel⟩) (Or.inl ⟨rfl, rfl⟩) (by decide) (by decide +kernel) rfl (fun Γ1 M1 k1 => ?_)
  exact s_vret (show decode (mcode 56) 13 = _ by decide +kernel) (show mret 56 = _ by decide +kernel) (MK_ret k1 (by decide +kernel))
theorem ct_67k : CT0 56 6 77 [] 1 180 1 true := by
  intro d Γ M a hd hT h1 h2 h3 h4 h5
  cases d with
  | zero => exact absurd hd (by decide)
  | succ d =>
  refine Rm.of [vr a] (eq_true (show 1 ≤ mmaxl 56 by decide +kernel)) rfl ?_
  have k0 := MK_init (E := []) (C := 6) hT h1 h2 h3 h4 h5
  obtain ⟨s, u, K, R, I⟩ := M
  have h2 : a < s := h2
  refine s_aload_n (i := 0) (show decode (mcode 56) 0 = _ by decide +kernel) rfl (s_obj (idx := 3) (show decode (mcode 56) 1 = _ by decide +kernel) (show pool (mcls 56) 3 = _ by decide +kernel) (by decide) ?_)
  refine mk_arr (τ := 78) (j := 1) (n := 180) (g := 20) k0 h2 rfl (show decode (mcode 56) 4 = _ by decide +kernel) (fun s u K R I t h => s_sipush (n := (180 : Int)) (show decode (mcode 56) 5 = _ by decide +kernel) ⟨by decide, by decide⟩ (by decide) h) (show decode (mcode 56) 8 = _ by decide +kernel) (show decode (mcode 56) 10 = _ by decide +kernel) (show pool (mcls 56) 9 = _ by decide +kernel) (Or.inr ⟨by decide +kernel, by decide +kernel⟩) (Or.inl ⟨rfl, rfl⟩) (by decide) (by decide +kernel) rfl (fun Γ1 M1 k1 => ?_)
  exact s_vret (show decode (mcode 56) 13 = _ by decide +kernel) (show mret 56 = _ by decide +kernel) (MK_ret k1 (by decide +kernel))
theorem ct_72 : CT0 58 7 21 [] 4 4459 1 true := by
  intro d Γ M a hd hT h1 h2 h3 h4 h5
  cases d with
  | zero => exact absurd hd (by decide)
  | succ d =>
  refine Rm.of [vr a] (eq_true (show 1 ≤ mmaxl 58 by decide +kernel)) rfl ?_
  have k0 := MK_init (E := []) (C := 7) hT h1 h2 h3 h4 h5
  obtain ⟨s, u, K, R, I⟩ := M
  have h2 : a < s := h2
  refine s_aload_n (i := 0) (show decode (mcode 58) 0 = _ by decide +kernel) rfl (s_obj (idx := 3) (show decode (mcode 58) 1 = _ by decide +kernel) (show pool (mcls 58) 3 = _ by decide +kernel) (by decide) ?_)
  refine mk_arr (τ := 22) (j := 1) (n := 121) (g := 20) k0 h2 rfl (show decode (mcode 58) 4 = _ by decide +kernel) (fun s u K R I t h => s_bipush (n := (121 : Int)) (show decode (mcode 58) 5 = _ by decide +kernel) ⟨by decide, by decide⟩ (by decide) h) (show decode (mcode 58) 7 = _ by decide +kernel) (show decode (mcode 58) 9 = _ by decide +kernel) (show pool (mcls 58) 9 = _ by decide +kernel) (Or.inr ⟨by decide +kernel, by decide +kernel⟩) (Or.inl ⟨rfl, rfl⟩) (by decide) (by decide +kernel) rfl (fun Γ1 M1 k1 => ?_)
  refine mk_arr (τ := 23) (j := 2) (n := 121) (g := 20) k1 h2 rfl (show decode (mcode 58) 12 = _ by decide +kernel) (fun s u K R I t h => s_bipush (n := (121 : Int)) (show decode (mcode 58) 13 = _ by decide +kernel) ⟨by decide, by decide⟩ (by decide) h) (show decode (mcode 58) 15 = _ by decide +kernel) (show decode (mcode 58) 17 = _ by decide +kernel) (show pool (mcls 58) 15 = _ by decide +kernel) (Or.inr ⟨by decide +kernel, by decide +kernel⟩) (Or.inl ⟨rfl, rfl⟩) (by decide) (by decide +kernel) rfl (fun Γ2 M2 k2 => ?_)
  refine mk_arr (τ := 24) (j := 3) (n := 121) (g := 20) k2 h2 rfl (show decode (mcode 58) 20 = _ by decide +kernel) (fun s u K R I t h => s_bipush (n := (121 : Int)) (show decode (mcode 58) 21 = _ by decide +kernel) ⟨by decide, by decide⟩ (by decide) h) (show decode (mcode 58) 23 = _ by decide +kernel) (show decode (mcode 58) 25 = _ by decide +kernel) (show pool (mcls 58) 18 = _ by decide +kernel) (Or.inr ⟨by decide +kernel, by decide +kernel⟩) (Or.inl ⟨rfl, rfl⟩) (by decide) (by decide +kernel) rfl (fun Γ3 M3 k3 => ?_)
  refine mk_arr (τ := 25) (j := 4) (n := 4096) (g := 20) k3 h2 rfl (show decode (mcode 58) 28 = _ by decide +kernel) (fun s u K R I t h => s_sipush (n := (4096 : Int)) (show decode (mcode 58) 29 = _ by decide +kernel) ⟨by decide, by decide⟩ (by decide) h) (show decode (mcode 58) 32 = _ by decide +kernel) (show decode (mcode 58) 34 = _ by decide +kernel) (show pool (mcls 58) 21 = _ by decide +kernel) (Or.inr ⟨by decide +kernel, by decide +kernel⟩) (Or.inl ⟨rfl, rfl⟩) (by decide) (by decide +kernel) rfl (fun Γ4 M4 k4 => ?_)
  exact s_vret (show decode (mcode 58) 37 = _ by decide +kernel) (show mret 58 = _ by decide +kernel) (MK_ret k4 (by decide +kernel))
theorem ct_85 : CT0 71 8 31 [] 3 720 1 true := by
  intro d Γ M a hd hT h1 h2 h3 h4 h5
  cases d with
  | zero => exact absurd hd (by decide)
  | succ d =>
  refine Rm.of [vr a] (eq_true (show 1 ≤ mmaxl 71 by decide +kernel)) rfl ?_
  have k0 := MK_init (E := []) (C := 8) hT h1 h2 h3 h4 h5
  obtain ⟨s, u, K, R, I⟩ := M
  have h2 : a < s := h2
  refine s_aload_n (i := 0) (show decode (mcode 71) 0 = _ by decide +kernel) rfl (s_obj (idx := 5) (show decode (mcode 71) 1 = _ by decide +kernel) (show pool (mcls 71) 5 = _ by decide +kernel) (by decide) ?_)
  refine mk_arr (τ := 32) (j := 3) (n := 288) (g := 20) k0 h2 rfl (show decode (mcode 71) 4 = _ by decide +kernel) (fun s u K R I t h => s_sipush (n := (288 : Int)) (show decode (mcode 71) 5 = _ by decide +kernel) ⟨by decide, by decide⟩ (by decide) h) (show decode (mcode 71) 8 = _ by decide +kernel) (show decode (mcode 71) 10 = _ by decide +kernel) (show pool (mcls 71) 11 = _ by decide +kernel) (Or.inr ⟨by decide +kernel, by decide +kernel⟩) (Or.inl ⟨rfl, rfl⟩) (by decide) (by decide +kernel) rfl (fun Γ1 M1 k1 => ?_)
  refine mk_arr (τ := 33) (j := 4) (n := 288) (g := 20) k1 h2 rfl (show decode (mcode 71) 13 = _ by decide +kernel) (fun s u K R I t h => s_sipush (n := (288 : Int)) (show decode (mcode 71) 14 = _ by decide +kernel) ⟨by decide, by decide⟩ (by decide) h) (show decode (mcode 71) 17 = _ by decide +kernel) (show decode (mcode 71) 19 = _ by decide +kernel) (show pool (mcls 71) 17 = _ by decide +kernel) (Or.inr ⟨by decide +kernel, by decide +kernel⟩) (Or.inl ⟨rfl, rfl⟩) (by decide) (by decide +kernel) rfl (fun Γ2 M2 k2 => ?_)
  refine mk_arr (τ := 34) (j := 5) (n := 144) (g := 20) k2 h2 rfl (show decode (mcode 71) 22 = _ by decide +kernel) (fun s u K R I t h => s_sipush (n := (144 : Int)) (show decode (mcode 71) 23 = _ by decide +kernel) ⟨by decide, by decide⟩ (by decide) h) (show decode (mcode 71) 26 = _ by decide +kernel) (show decode (mcode 71) 28 = _ by decide +kernel) (show pool (mcls 71) 20 = _ by decide +kernel) (Or.inr ⟨by decide +kernel, by decide +kernel⟩) (Or.inl ⟨rfl, rfl⟩) (by decide) (by decide +kernel) rfl (fun Γ3 M3 k3 => ?_)
  exact s_vret (show decode (mcode 71) 31 = _ by decide +kernel) (show mret 71 = _ by decide +kernel) (MK_ret k3 (by decide +kernel))
theorem ct_99 : CT0 84 9 19 [] 1 400 1 true := by
  intro d Γ M a hd hT h1 h2 h3 h4 h5
  cases d with
  | zero => exact absurd hd (by decide)
  | succ d =>
  refine Rm.of [vr a] (eq_true (show 1 ≤ mmaxl 84 by decide +kernel)) rfl ?_
  have k0 := MK_init (E := []) (C := 9) hT h1 h2 h3 h4 h5
  obtain ⟨s, u, K, R, I⟩ := M
  have h2 : a < s := h2
  refine s_aload_n (i := 0) (show decode (mcode 84) 0 = _ by decide +kernel) rfl (s_obj (idx := 3) (show decode (mcode 84) 1 = _ by decide +kernel) (show pool (mcls 84) 3 = _ by decide +kernel) (by decide) ?_)
  refine mk_arr (τ := 20) (j := 3) (n := 400) (g := 20) k0 h2 rfl (show decode (mcode 84) 4 = _ by decide +kernel) (fun s u K R I t h => s_sipush (n := (400 : Int)) (show decode (mcode 84) 5 = _ by decide +kernel) ⟨by decide, by decide⟩ (by decide) h) (show decode (mcode 84) 8 = _ by decide +kernel) (show decode (mcode 84) 10 = _ by decide +kernel) (show pool (mcls 84) 9 = _ by decide +kernel) (Or.inr ⟨by decide +kernel, by decide +kernel⟩) (Or.inl ⟨rfl, rfl⟩) (by decide) (by decide +kernel) rfl (fun Γ1 M1 k1 => ?_)
  exact s_vret (show decode (mcode 84) 13 = _ by decide +kernel) (show mret 84 = _ by decide +kernel) (MK_ret k1 (by decide +kernel))
set_option maxRecDepth 100000 in
theorem ct_7 : CT0 3 2 1 [(2, 0, 144), (3, 0, 144), (4, 0, 144), (5, 0, 288), (56, 0, 1), (56, 1, 2)] 4 720 3 false := by
  intro d Γ M a hd hT h1 h2 h3 h4 h5
  cases d with
  | zero => exact absurd hd (by decide)
  | succ d =>
  refine Rm.of [vr a] (eq_true (show 1 ≤ mmaxl 3 by decide +kernel)) rfl ?_
  have k0 := MK_init (E := [(2, 0, 144), (3, 0, 144), (4, 0, 144), (5, 0, 288), (56, 0, 1), (56, 1, 2)]) (C := 2) hT h1 h2 h3 h4 h5
  obtain ⟨s, u, K, R, I⟩ := M
  have h2 : a < s := h2
  refine s_aload_n (i := 0) (show decode (mcode 3) 0 = _ by decide +kernel) rfl (s_obj (idx := 3) (show decode (mcode 3) 1 = _ by decide +kernel) (show pool (mcls 3) 3 = _ by decide +kernel) (by decide) ?_)
  refine mk_arr (τ := 2) (j := 2) (n := 144) (g := 20) k0 h2 rfl (show decode (mcode 3) 4 = _ by decide +kernel) (fun s u K R I t h => s_sipush (n := (144 : Int)) (show decode (mcode 3) 5 = _ by decide +kernel) ⟨by decide, by decide⟩ (by decide) h) (show decode (mcode 3) 8 = _ by decide +kernel) (show decode (mcode 3) 10 = _ by decide +kernel) (show pool (mcls 3) 9 = _ by decide +kernel) (Or.inr ⟨by decide +kernel, by decide +kernel⟩) (Or.inl ⟨rfl, rfl⟩) (by decide) (by decide +kernel) rfl (fun Γ1 M1 k1 => ?_)
  refine mk_arr (τ := 3) (j := 3) (n := 144) (g := 20) k1 h2 rfl (show decode (mcode 3) 13 = _ by decide +kernel) (fun s u K R I t h => s_sipush (n := (144 : Int)) (show decode (mcode 3) 14 = _ by decide +kernel) ⟨by decide, by decide⟩ (by decide) h) (show decode (mcode 3) 17 = _ by decide +kernel) (show decode (mcode 3) 19 = _ by decide +kernel) (show pool (mcls 3) 15 = _ by decide +kernel) (Or.inr ⟨by decide +kernel, by decide +kernel⟩) (Or.inl ⟨rfl, rfl⟩) (by decide) (by decide +kernel) rfl (fun Γ2 M2 k2 => ?_)
  refine mk_arr (τ := 4) (j := 4) (n := 144) (g := 21) k2 h2 rfl (show decode (mcode 3) 22 = _ by decide +kernel) (fun s u K R I t h => s_sipush (n := (144 : Int)) (show decode (mcode 3) 23 = _ by decide +kernel) ⟨by decide, by decide⟩ (by decide) h) (show decode (mcode 3) 26 = _ by decide +kernel) (show decode (mcode 3) 28 = _ by decide +kernel) (show pool (mcls 3) 18 = _ by decide +kernel) (Or.inr ⟨by decide +kernel, by decide +kernel⟩) (Or.inr ⟨rfl, rfl⟩) (by decide) (by decide +kernel) rfl (fun Γ3 M3 k3 => ?_)
  refine mk_arr (τ := 5) (j := 5) (n := 288) (g := 21) k3 h2 rfl (show decode (mcode 3) 31 = _ by decide +kernel) (fun s u K R I t h => s_sipush (n := (288 : Int)) (show decode (mcode 3) 32 = _ by decide +kernel) ⟨by decide, by decide⟩ (by decide) h) (show decode (mcode 3) 35 = _ by decide +kernel) (show decode (mcode 3) 37 = _ by decide +kernel) (show pool (mcls 3) 22 = _ by decide +kernel) (Or.inr ⟨by decide +kernel, by decide +kernel⟩) (Or.inr ⟨rfl, rfl⟩) (by decide) (by decide +kernel) rfl (fun Γ4 M4 k4 => ?_)
  have hT1 := MK_seal k4 (τ := 56) (by decide +kernel)
  obtain ⟨s1, u1, K1, R1, I1⟩ := M4
  have ha1 : gup Γ4 a 56 a = 56 := gup_at
  refine s_aload_n (i := 0) (show decode (mcode 3) 40 = _ by decide +kernel) rfl (s_iconst (n := 4) (show decode (mcode 3) 41 = _ by decide +kernel) ⟨by decide, by decide⟩ (s_iconst (n := 4) (show decode (mcode 3) 42 = _ by decide +kernel) ⟨by decide, by decide⟩ ?_))
  refine s_inv2 (idx := 25) (y := 4) (c := 2) (show decode (mcode 3) 43 = _ by decide +kernel) (show pool (mcls 3) 25 = _ by decide +kernel) (show mcls 4 = _ by decide +kernel) k4.2.2.2.1 (show mstat 4 = _ by decide +kernel) (show ((mname 4).name == "<init>") = _ by decide +kernel) (by decide) (k_k8r (0, 0, 0) d (fun i => cond (Nat.beq i 0) 0 4) (fun _ => a) (gup Γ4 a 56) _ [vr a, vi 4, vi 4] [] rfl (by have : 3 ≤ d + 1 := hd; show kD _ ≤ d; exact Nat.le_trans (by decide) (Nat.le_of_succ_le_succ this)) hT1 ?_ ⟨⟨rfl, ha1, by decide⟩, rfl, rfl, trivial⟩ (fun p hp => absurd hp List.not_mem_nil)) ?_
  · intro i
    match i with
    | 0 => exact ⟨by decide, by decide⟩
    | 1 => exact ⟨by decide, by decide⟩
    | 2 => exact ⟨by decide, by decide⟩
    | i + 3 => exact ⟨(by decide : (-2147483648 : Int) ≤ 4), (by decide : (4 : Int) ≤ 2147483647)⟩
  rintro r M2 ⟨Γ2, q1, q2, q3, q4, q5, rfl, q6⟩
  have hlt : a < s1 := k4.2.2.1
  have hΓ2 : Γ2 a = 56 := (q3 a hlt).trans ha1
  have f0 := (fId_eq (0, 0, 0) 56 0 a 4 4 Γ2 M2 (by decide)).mp (q6 _ (List.mem_of_getElem? (i := 0) rfl))
  have f1 := (fId_eq (0, 0, 0) 56 1 a 4 4 Γ2 M2 (by decide)).mp (q6 _ (List.mem_of_getElem? (i := 1) rfl))
  have hT3 : HTy Yt (gup Γ2 a 1) M2 := HTy_re q1 hΓ2 (by decide) ⟨rfl, rfl, rfl⟩ (by decide +kernel) (fun r hr j j1 j2 => by
    have hr : r ∈ [(0, 1, 2, 12), (1, 2, 2, 12)] := hr
    simp only [List.mem_cons, List.not_mem_nil, or_false] at hr
    rcases hr with rfl | rfl
    · have j1 : 0 ≤ j := j1
      have j2 : j < 1 := j2
      rw [show j = 0 by omega]
      show 2 ≤ M2.2.2.2.2 a 0 ∧ M2.2.2.2.2 a 0 ≤ 12
      omega
    · have j1 : 1 ≤ j := j1
      have j2 : j < 2 := j2
      rw [show j = 1 by omega]
      show 2 ≤ M2.2.2.2.2 a 1 ∧ M2.2.2.2.2 a 1 ≤ 12
      omega)
  have g := k4.2.2.2.2.2.2.2
  refine s_vret (show decode (mcode 3) 46 = _ by decide +kernel) (show mret 3 = _ by decide +kernel) ⟨rfl, gup Γ2 a 1, hT3, gup_at, ?_, fun b b1 b2 => ?_, Nat.le_trans q4 g.2.2.1, Nat.le_trans q5 g.2.2.2, fun h => absurd h (by decide)⟩
  · refine ⟨Nat.le_trans g.1.1 q2.1, fun b b1 b2 => ?_⟩
    have hb : b < s1 := Nat.lt_of_lt_of_le b1 g.1.1
    obtain ⟨c1, c2⟩ := g.1.2 b b1 b2
    obtain ⟨e1, e2⟩ := q2.2 b hb
    refine ⟨e1.trans c1, fun j hj => ?_⟩
    have x1 := c2 j hj
    have hbΓ : gup Γ4 a 56 b = Γ b := (gup_ne b2).trans (g.2.1 b b1 b2)
    have x2 := e2 j (fun e he h3 h4 h5 => by
      rw [hbΓ] at h3 ⊢
      obtain ⟨f, f1, f2, f3, f4⟩ := efIn_ok (List.all_eq_true.mp (show efsIn (kEff t_k8r) [(2, 0, 144), (3, 0, 144), (4, 0, 144), (5, 0, 288), (56, 0, 1), (56, 1, 2)] = true by decide +kernel) e he)
      exact hj f f1 (h3.trans f2.symm) (Nat.le_trans f3 h4) (Nat.lt_of_lt_of_le h5 f4))
    exact ⟨x2.1.trans x1.1, x2.2.trans x1.2⟩
  · rw [gup_ne b2, q3 b (Nat.lt_of_lt_of_le b1 g.1.1), gup_ne b2]
    exact g.2.1 b b1 b2
set_option maxRecDepth 100000 in
theorem ct_7k : CT0 3 2 61 [(62, 0, 144), (63, 0, 144), (64, 0, 144), (65, 0, 288), (57, 0, 1), (57, 1, 2)] 4 720 3 false := by
  intro d Γ M a hd hT h1 h2 h3 h4 h5
  cases d with
  | zero => exact absurd hd (by decide)
  | succ d =>
  refine Rm.of [vr a] (eq_true (show 1 ≤ mmaxl 3 by decide +kernel)) rfl ?_
  have k0 := MK_init (E := [(62, 0, 144), (63, 0, 144), (64, 0, 144), (65, 0, 288), (57, 0, 1), (57, 1, 2)]) (C := 2) hT h1 h2 h3 h4 h5
  obtain ⟨s, u, K, R, I⟩ := M
  have h2 : a < s := h2
  refine s_aload_n (i := 0) (show decode (mcode 3) 0 = _ by decide +kernel) rfl (s_obj (idx := 3) (show decode (mcode 3) 1 = _ by decide +kernel) (show pool (mcls 3) 3 = _ by decide +kernel) (by decide) ?_)
  refine mk_arr (τ := 62) (j := 2) (n := 144) (g := 20) k0 h2 rfl (show decode (mcode 3) 4 = _ by decide +kernel) (fun s u K R I t h => s_sipush (n := (144 : Int)) (show decode (mcode 3) 5 = _ by decide +kernel) ⟨by decide, by decide⟩ (by decide) h) (show decode (mcode 3) 8 = _ by decide +kernel) (show decode (mcode 3) 10 = _ by decide +kernel) (show pool (mcls 3) 9 = _ by decide +kernel) (Or.inr ⟨by decide +kernel, by decide +kernel⟩) (Or.inl ⟨rfl, rfl⟩) (by decide) (by decide +kernel) rfl (fun Γ1 M1 k1 => ?_)
  refine mk_arr (τ := 63) (j := 3) (n := 144) (g := 20) k1 h2 rfl (show decode (mcode 3) 13 = _ by decide +kernel) (fun s u K R I t h => s_sipush (n := (144 : Int)) (show decode (mcode 3) 14 = _ by decide +kernel) ⟨by decide, by decide⟩ (by decide) h) (show decode (mcode 3) 17 = _ by decide +kernel) (show decode (mcode 3) 19 = _ by decide +kernel) (show pool (mcls 3) 15 = _ by decide +kernel) (Or.inr ⟨by decide +kernel, by decide +kernel⟩) (Or.inl ⟨rfl, rfl⟩) (by decide) (by decide +kernel) rfl (fun Γ2 M2 k2 => ?_)
  refine mk_arr (τ := 64) (j := 4) (n := 144) (g := 21) k2 h2 rfl (show decode (mcode 3) 22 = _ by decide +kernel) (fun s u K R I t h => s_sipush (n := (144 : Int)) (show decode (mcode 3) 23 = _ by decide +kernel) ⟨by decide, by decide⟩ (by decide) h) (show decode (mcode 3) 26 = _ by decide +kernel) (show decode (mcode 3) 28 = _ by decide +kernel) (show pool (mcls 3) 18 = _ by decide +kernel) (Or.inr ⟨by decide +kernel, by decide +kernel⟩) (Or.inr ⟨rfl, rfl⟩) (by decide) (by decide +kernel) rfl (fun Γ3 M3 k3 => ?_)
  refine mk_arr (τ := 65) (j := 5) (n := 288) (g := 21) k3 h2 rfl (show decode (mcode 3) 31 = _ by decide +kernel) (fun s u K R I t h => s_sipush (n := (288 : Int)) (show decode (mcode 3) 32 = _ by decide +kernel) ⟨by decide, by decide⟩ (by decide) h) (show decode (mcode 3) 35 = _ by decide +kernel) (show decode (mcode 3) 37 = _ by decide +kernel) (show pool (mcls 3) 22 = _ by decide +kernel) (Or.inr ⟨by decide +kernel, by decide +kernel⟩) (Or.inr ⟨rfl, rfl⟩) (by decide) (by decide +kernel) rfl (fun Γ4 M4 k4 => ?_)
  have hT1 := MK_seal k4 (τ := 57) (by decide +kernel)
  obtain ⟨s1, u1, K1, R1, I1⟩ := M4
  have ha1 : gup Γ4 a 57 a = 57 := gup_at
  refine s_aload_n (i := 0) (show decode (mcode 3) 40 = _ by decide +kernel) rfl (s_iconst (n := 4) (show decode (mcode 3) 41 = _ by decide +kernel) ⟨by decide, by decide⟩ (s_iconst (n := 4) (show decode (mcode 3) 42 = _ by decide +kernel) ⟨by decide, by decide⟩ ?_))
  refine s_inv2 (idx := 25) (y := 4) (c := 2) (show decode (mcode 3) 43 = _ by decide +kernel) (show pool (mcls 3) 25 = _ by decide +kernel) (show mcls 4 = _ by decide +kernel) k4.2.2.2.1 (show mstat 4 = _ by decide +kernel) (show ((mname 4).name == "<init>") = _ by decide +kernel) (by decide) (k_k8s (0, 0, 0) d (fun i => cond (Nat.beq i 0) 0 4) (fun _ => a) (gup Γ4 a 57) _ [vr a, vi 4, vi 4] [] rfl (by have : 3 ≤ d + 1 := hd; show kD _ ≤ d; exact Nat.le_trans (by decide) (Nat.le_of_succ_le_succ this)) hT1 ?_ ⟨⟨rfl, ha1, by decide⟩, rfl, rfl, trivial⟩ (fun p hp => absurd hp List.not_mem_nil)) ?_
  · intro i
    match i with
    | 0 => exact ⟨by decide, by decide⟩
    | 1 => exact ⟨by decide, by decide⟩
    | 2 => exact ⟨by decide, by decide⟩
    | i + 3 => exact ⟨(by decide : (-2147483648 : Int) ≤ 4), (by decide : (4 : Int) ≤ 2147483647)⟩
  rintro r M2 ⟨Γ2, q1, q2, q3, q4, q5, rfl, q6⟩
  have hlt : a < s1 := k4.2.2.1
  have hΓ2 : Γ2 a = 57 := (q3 a hlt).trans ha1
  have f0 := (fId_eq (0, 0, 0) 57 0 a 4 4 Γ2 M2 (by decide)).mp (q6 _ (List.mem_of_getElem? (i := 0) rfl))
  have f1 := (fId_eq (0, 0, 0) 57 1 a 4 4 Γ2 M2 (by decide)).mp (q6 _ (List.mem_of_getElem? (i := 1) rfl))
  have hT3 : HTy Yt (gup Γ2 a 61) M2 := HTy_re q1 hΓ2 (by decide) ⟨rfl, rfl, rfl⟩ (by decide +kernel) (fun r hr j j1 j2 => by
    have hr : r ∈ [(0, 1, 2, 12), (1, 2, 2, 12)] := hr
    simp only [List.mem_cons, List.not_mem_nil, or_false] at hr
    rcases hr with rfl | rfl
    · have j1 : 0 ≤ j := j1
      have j2 : j < 1 := j2
      rw [show j = 0 by omega]
      show 2 ≤ M2.2.2.2.2 a 0 ∧ M2.2.2.2.2 a 0 ≤ 12
      omega
    · have j1 : 1 ≤ j := j1
      have j2 : j < 2 := j2
      rw [show j = 1 by omega]
      show 2 ≤ M2.2.2.2.2 a 1 ∧ M2.2.2.2.2 a 1 ≤ 12
      omega)
  have g := k4.2.2.2.2.2.2.2
  refine s_vret (show decode (mcode 3) 46 = _ by decide +kernel) (show mret 3 = _ by decide +kernel) ⟨rfl, gup Γ2 a 61, hT3, gup_at, ?_, fun b b1 b2 => ?_, Nat.le_trans q4 g.2.2.1, Nat.le_trans q5 g.2.2.2, fun h => absurd h (by decide)⟩
  · refine ⟨Nat.le_trans g.1.1 q2.1, fun b b1 b2 => ?_⟩
    have hb : b < s1 := Nat.lt_of_lt_of_le b1 g.1.1
    obtain ⟨c1, c2⟩ := g.1.2 b b1 b2
    obtain ⟨e1, e2⟩ := q2.2 b hb
    refine ⟨e1.trans c1, fun j hj => ?_⟩
    have x1 := c2 j hj
    have hbΓ : gup Γ4 a 57 b = Γ b := (gup_ne b2).trans (g.2.1 b b1 b2)
    have x2 := e2 j (fun e he h3 h4 h5 => by
      rw [hbΓ] at h3 ⊢
      obtain ⟨f, f1, f2, f3, f4⟩ := efIn_ok (List.all_eq_true.mp (show efsIn (kEff t_k8s) [(62, 0, 144), (63, 0, 144), (64, 0, 144), (65, 0, 288), (57, 0, 1), (57, 1, 2)] = true by decide +kernel) e he)
      exact hj f f1 (h3.trans f2.symm) (Nat.le_trans f3 h4) (Nat.lt_of_lt_of_le h5 f4))
    exact ⟨x2.1.trans x1.1, x2.2.trans x1.2⟩
  · rw [gup_ne b2, q3 b (Nat.lt_of_lt_of_le b1 g.1.1), gup_ne b2]
    exact g.2.1 b b1 b2
theorem ct_48t : CT0 42 5 110 [(113, 0, 144)] 6 864 2 true := by
  intro d Γ M a hd hT h1 h2 h3 h4 h5
  cases d with
  | zero => exact absurd hd (by decide)
  | succ d =>
  refine Rm.of [vr a] (eq_true (show 1 ≤ mmaxl 42 by decide +kernel)) rfl ?_
  have k0 := MK_init (E := [(113, 0, 144)]) (C := 5) hT h1 h2 h3 h4 h5
  obtain ⟨s, u, K, R, I⟩ := M
  have h2 : a < s := h2
  refine s_aload_n (i := 0) (show decode (mcode 42) 0 = _ by decide +kernel) rfl (s_obj (idx := 3) (show decode (mcode 42) 1 = _ by decide +kernel) (show pool (mcls 42) 3 = _ by decide +kernel) (by decide) ?_)
  refine mk_arr (τ := 111) (j := 4) (n := 144) (g := 20) k0 h2 rfl (show decode (mcode 42) 4 = _ by decide +kernel) (fun s u K R I t h => s_sipush (n := (144 : Int)) (show decode (mcode 42) 5 = _ by decide +kernel) ⟨by decide, by decide⟩ (by decide) h) (show decode (mcode 42) 8 = _ by decide +kernel) (show decode (mcode 42) 10 = _ by decide +kernel) (show pool (mcls 42) 9 = _ by decide +kernel) (Or.inr ⟨by decide +kernel, by decide +kernel⟩) (Or.inl ⟨rfl, rfl⟩) (by decide) (by decide +kernel) rfl (fun Γ1 M1 k1 => ?_)
  refine mk_arr (τ := 112) (j := 5) (n := 144) (g := 20) k1 h2 rfl (show decode (mcode 42) 13 = _ by decide +kernel) (fun s u K R I t h => s_sipush (n := (144 : Int)) (show decode (mcode 42) 14 = _ by decide +kernel) ⟨by decide, by decide⟩ (by decide) h) (show decode (mcode 42) 17 = _ by decide +kernel) (show decode (mcode 42) 19 = _ by decide +kernel) (show pool (mcls 42) 15 = _ by decide +kernel) (Or.inr ⟨by decide +kernel, by decide +kernel⟩) (Or.inl ⟨rfl, rfl⟩) (by decide) (by decide +kernel) rfl (fun Γ2 M2 k2 => ?_)
  refine mk_arr (τ := 113) (j := 6) (n := 144) (g := 20) k2 h2 rfl (show decode (mcode 42) 22 = _ by decide +kernel) (fun s u K R I t h => s_sipush (n := (144 : Int)) (show decode (mcode 42) 23 = _ by decide +kernel) ⟨by decide, by decide⟩ (by decide) h) (show decode (mcode 42) 26 = _ by decide +kernel) (show decode (mcode 42) 28 = _ by decide +kernel) (show pool (mcls 42) 18 = _ by decide +kernel) (Or.inr ⟨by decide +kernel, by decide +kernel⟩) (Or.inl ⟨rfl, rfl⟩) (by decide) (by decide +kernel) rfl (fun Γ3 M3 k3 => ?_)
  refine mk_arr (τ := 114) (j := 7) (n := 144) (g := 20) k3 h2 rfl (show decode (mcode 42) 31 = _ by decide +kernel) (fun s u K R I t h => s_sipush (n := (144 : Int)) (show decode (mcode 42) 32 = _ by decide +kernel) ⟨by decide, by decide⟩ (by decide) h) (show decode (mcode 42) 35 = _ by decide +kernel) (show decode (mcode 42) 37 = _ by decide +kernel) (show pool (mcls 42) 21 = _ by decide +kernel) (Or.inr ⟨by decide +kernel, by decide +kernel⟩) (Or.inl ⟨rfl, rfl⟩) (by decide) (by decide +kernel) rfl (fun Γ4 M4 k4 => ?_)
  refine mk_arr (τ := 115) (j := 8) (n := 144) (g := 20) k4 h2 rfl (show decode (mcode 42) 40 = _ by decide +kernel) (fun s u K R I t h => s_sipush (n := (144 : Int)) (show decode (mcode 42) 41 = _ by decide +kernel) ⟨by decide, by decide⟩ (by decide) h) (show decode (mcode 42) 44 = _ by decide +kernel) (show decode (mcode 42) 46 = _ by decide +kernel) (show pool (mcls 42) 24 = _ by decide +kernel) (Or.inr ⟨by decide +kernel, by decide +kernel⟩) (Or.inl ⟨rfl, rfl⟩) (by decide) (by decide +kernel) rfl (fun Γ5 M5 k5 => ?_)
  refine mk_arr (τ := 116) (j := 9) (n := 144) (g := 20) k5 h2 rfl (show decode (mcode 42) 49 = _ by decide +kernel) (fun s u K R I t h => s_sipush (n := (144 : Int)) (show decode (mcode 42) 50 = _ by decide +kernel) ⟨by decide, by decide⟩ (by decide) h) (show decode (mcode 42) 53 = _ by decide +kernel) (show decode (mcode 42) 55 = _ by decide +kernel) (show pool (mcls 42) 27 = _ by decide +kernel) (Or.inr ⟨by decide +kernel, by decide +kernel⟩) (Or.inl ⟨rfl, rfl⟩) (by decide) (by decide +kernel) rfl (fun Γ6 M6 k6 => ?_)
  obtain ⟨x, x1, x2, x3, -⟩ := k6.2.2.2.2.1 (6, 113, true) (by decide)
  have x2 : Γ6 x = 113 := x2
  have hT1 := k6.1
  obtain ⟨s1, u1, K1, R1, I1⟩ := M6
  refine s_aload_n (i := 0) (show decode (mcode 42) 58 = _ by decide +kernel) rfl (s_getR (idx := 18) (show decode (mcode 42) 59 = _ by decide +kernel) (show pool (mcls 42) 18 = _ by decide +kernel) k6.2.2.2.1 x1 (s_iconst (n := -1) (show decode (mcode 42) 62 = _ by decide +kernel) ⟨by decide, by decide⟩ ?_))
  refine s_sta2 (idx := 30) (y := 121) (show decode (mcode 42) 63 = _ by decide +kernel) (show pool (mcls 42) 30 = _ by decide +kernel) (show mstat 121 = _ by decide +kernel) (by decide) (k_k289b (0, 0, 0) d (fun i => cond (Nat.beq i 0) 0 (-1)) (fun _ => x) Γ6 _ [vr x, vi (-1)] [] rfl (by have : 2 ≤ d + 1 := hd; show kD _ ≤ d; exact Nat.le_trans (by decide) (Nat.le_of_succ_le_succ this)) hT1 ?_ ⟨⟨rfl, x2, by decide⟩, rfl, trivial⟩ (fun p hp => absurd hp List.not_mem_nil)) ?_
  · intro i
    match i with
    | 0 => exact ⟨by decide, by decide⟩
    | 1 => exact ⟨by decide, by decide⟩
    | i + 2 => exact ⟨(by decide : (-2147483648 : Int) ≤ -1), (by decide : (-1 : Int) ≤ 2147483647)⟩
  rintro r M2 ⟨Γ2, q1, q2, q3, q4, q5, rfl, q6⟩
  have hlt : a < s1 := k6.2.2.1
  have k9 := MK_go k6 s1 (by omega) k6.2.2.2.2.2.2.2.1.1 (HTy_un hT1 (Nat.le_refl _)) q1 (FRA_of q2) (fun b b1 _ => q3 b b1) (by decide +kernel) q4 q5
  exact s_vret (show decode (mcode 42) 66 = _ by decide +kernel) (show mret 42 = _ by decide +kernel) (MK_ret k9 (by decide +kernel))
theorem ct_48 : CT0 42 5 10 [(13, 0, 144)] 6 864 2 true := by
  intro d Γ M a hd hT h1 h2 h3 h4 h5
  cases d with
  | zero => exact absurd hd (by decide)
  | succ d =>
  refine Rm.of [vr a] (eq_true (show 1 ≤ mmaxl 42 by decide +kernel)) rfl ?_
  have k0 := MK_init (E := [(13, 0, 144)]) (C := 5) hT h1 h2 h3 h4 h5
  obtain ⟨s, u, K, R, I⟩ := M
  have h2 : a < s := h2
  refine s_aload_n (i := 0) (show decode (mcode 42) 0 = _ by decide +kernel) rfl (s_obj (idx := 3) (show decode (mcode 42) 1 = _ by decide +kernel) (show pool (mcls 42) 3 = _ by decide +kernel) (by decide) ?_)
  refine mk_arr (τ := 11) (j := 4) (n := 144) (g := 20) k0 h2 rfl (show decode (mcode 42) 4 = _ by decide +kernel) (fun s u K R I t h => s_sipush (n := (144 : Int)) (show decode (mcode 42) 5 = _ by decide +kernel) ⟨by decide, by decide⟩ (by decide) h) (show decode (mcode 42) 8 = _ by decide +kernel) (show decode (mcode 42) 10 = _ by decide +kernel) (show pool (mcls 42) 9 = _ by decide +kernel) (Or.inr ⟨by decide +kernel, by decide +kernel⟩) (Or.inl ⟨rfl, rfl⟩) (by decide) (by decide +kernel) rfl (fun Γ1 M1 k1 => ?_)
  refine mk_arr (τ := 12) (j := 5) (n := 144) (g := 20) k1 h2 rfl (show decode (mcode 42) 13 = _ by decide +kernel) (fun s u K R I t h => s_sipush (n := (144 : Int)) (show decode (mcode 42) 14 = _ by decide +kernel) ⟨by decide, by decide⟩ (by decide) h) (show decode (mcode 42) 17 = _ by decide +kernel) (show decode (mcode 42) 19 = _ by decide +kernel) (show pool (mcls 42) 15 = _ by decide +kernel) (Or.inr ⟨by decide +kernel, by decide +kernel⟩) (Or.inl ⟨rfl, rfl⟩) (by decide) (by decide +kernel) rfl (fun Γ2 M2 k2 => ?_)
  refine mk_arr (τ := 13) (j := 6) (n := 144) (g := 20) k2 h2 rfl (show decode (mcode 42) 22 = _ by decide +kernel) (fun s u K R I t h => s_sipush (n := (144 : Int)) (show decode (mcode 42) 23 = _ by decide +kernel) ⟨by decide, by decide⟩ (by decide) h) (show decode (mcode 42) 26 = _ by decide +kernel) (show decode (mcode 42) 28 = _ by decide +kernel) (show pool (mcls 42) 18 = _ by decide +kernel) (Or.inr ⟨by decide +kernel, by decide +kernel⟩) (Or.inl ⟨rfl, rfl⟩) (by decide) (by decide +kernel) rfl (fun Γ3 M3 k3 => ?_)
  refine mk_arr (τ := 14) (j := 7) (n := 144) (g := 20) k3 h2 rfl (show decode (mcode 42) 31 = _ by decide +kernel) (fun s u K R I t h => s_sipush (n := (144 : Int)) (show decode (mcode 42) 32 = _ by decide +kernel) ⟨by decide, by decide⟩ (by decide) h) (show decode (mcode 42) 35 = _ by decide +kernel) (show decode (mcode 42) 37 = _ by decide +kernel) (show pool (mcls 42) 21 = _ by decide +kernel) (Or.inr ⟨by decide +kernel, by decide +kernel⟩) (Or.inl ⟨rfl, rfl⟩) (by decide) (by decide +kernel) rfl (fun Γ4 M4 k4 => ?_)
  refine mk_arr (τ := 15) (j := 8) (n := 144) (g := 20) k4 h2 rfl (show decode (mcode 42) 40 = _ by decide +kernel) (fun s u K R I t h => s_sipush (n := (144 : Int)) (show decode (mcode 42) 41 = _ by decide +kernel) ⟨by decide, by decide⟩ (by decide) h) (show decode (mcode 42) 44 = _ by decide +kernel) (show decode (mcode 42) 46 = _ by decide +kernel) (show pool (mcls 42) 24 = _ by decide +kernel) (Or.inr ⟨by decide +kernel, by decide +kernel⟩) (Or.inl ⟨rfl, rfl⟩) (by decide) (by decide +kernel) rfl (fun Γ5 M5 k5 => ?_)
  refine mk_arr (τ := 16) (j := 9) (n := 144) (g := 20) k5 h2 rfl (show decode (mcode 42) 49 = _ by decide +kernel) (fun s u K R I t h => s_sipush (n := (144 : Int)) (show decode (mcode 42) 50 = _ by decide +kernel) ⟨by decide, by decide⟩ (by decide) h) (show decode (mcode 42) 53 = _ by decide +kernel) (show decode (mcode 42) 55 = _ by decide +kernel) (show pool (mcls 42) 27 = _ by decide +kernel) (Or.inr ⟨by decide +kernel, by decide +kernel⟩) (Or.inl ⟨rfl, rfl⟩) (by decide) (by decide +kernel) rfl (fun Γ6 M6 k6 => ?_)
  obtain ⟨x, x1, x2, x3, -⟩ := k6.2.2.2.2.1 (6, 13, true) (by decide)
  have x2 : Γ6 x = 13 := x2
  have hT1 := k6.1
  obtain ⟨s1, u1, K1, R1, I1⟩ := M6
  refine s_aload_n (i := 0) (show decode (mcode 42) 58 = _ by decide +kernel) rfl (s_getR (idx := 18) (show decode (mcode 42) 59 = _ by decide +kernel) (show pool (mcls 42) 18 = _ by decide +kernel) k6.2.2.2.1 x1 (s_iconst (n := -1) (show decode (mcode 42) 62 = _ by decide +kernel) ⟨by decide, by decide⟩ ?_))
  refine s_sta2 (idx := 30) (y := 121) (show decode (mcode 42) 63 = _ by decide +kernel) (show pool (mcls 42) 30 = _ by decide +kernel) (show mstat 121 = _ by decide +kernel) (by decide) (k_k289a (0, 0, 0) d (fun i => cond (Nat.beq i 0) 0 (-1)) (fun _ => x) Γ6 _ [vr x, vi (-1)] [] rfl (by have : 2 ≤ d + 1 := hd; show kD _ ≤ d; exact Nat.le_trans (by decide) (Nat.le_of_succ_le_succ this)) hT1 ?_ ⟨⟨rfl, x2, by decide⟩, rfl, trivial⟩ (fun p hp => absurd hp List.not_mem_nil)) ?_
  · intro i
    match i with
    | 0 => exact ⟨by decide, by decide⟩
    | 1 => exact ⟨by decide, by decide⟩
    | i + 2 => exact ⟨(by decide : (-2147483648 : Int) ≤ -1), (by decide : (-1 : Int) ≤ 2147483647)⟩
  rintro r M2 ⟨Γ2, q1, q2, q3, q4, q5, rfl, q6⟩
  have hlt : a < s1 := k6.2.2.1
  have k9 := MK_go k6 s1 (by omega) k6.2.2.2.2.2.2.2.1.1 (HTy_un hT1 (Nat.le_refl _)) q1 (FRA_of q2) (fun b b1 _ => q3 b b1) (by decide +kernel) q4 q5
  exact s_vret (show decode (mcode 42) 66 = _ by decide +kernel) (show mret 42 = _ by decide +kernel) (MK_ret k9 (by decide +kernel))
theorem ct_48k : CT0 42 5 70 [(73, 0, 144)] 6 864 2 true := by
  intro d Γ M a hd hT h1 h2 h3 h4 h5
  cases d with
  | zero => exact absurd hd (by decide)
  | succ d =>
  refine Rm.of [vr a] (eq_true (show 1 ≤ mmaxl 42 by decide +kernel)) rfl ?_
  have k0 := MK_init (E := [(73, 0, 144)]) (C := 5) hT h1 h2 h3 h4 h5
  obtain ⟨s, u, K, R, I⟩ := M
  have h2 : a < s := h2
  refine s_aload_n (i := 0) (show decode (mcode 42) 0 = _ by decide +kernel) rfl (s_obj (idx := 3) (show decode (mcode 42) 1 = _ by decide +kernel) (show pool (mcls 42) 3 = _ by decide +kernel) (by decide) ?_)
  refine mk_arr (τ := 71) (j := 4) (n := 144) (g := 20) k0 h2 rfl (show decode (mcode 42) 4 = _ by decide +kernel) (fun s u K R I t h => s_sipush (n := (144 : Int)) (show decode (mcode 42) 5 = _ by decide +kernel) ⟨by decide, by decide⟩ (by decide) h) (show decode (mcode 42) 8 = _ by decide +kernel) (show decode (mcode 42) 10 = _ by decide +kernel) (show pool (mcls 42) 9 = _ by decide +kernel) (Or.inr ⟨by decide +kernel, by decide +kernel⟩) (Or.inl ⟨rfl, rfl⟩) (by decide) (by decide +kernel) rfl (fun Γ1 M1 k1 => ?_)
  refine mk_arr (τ := 72) (j := 5) (n := 144) (g := 20) k1 h2 rfl (show decode (mcode 42) 13 = _ by decide +kernel) (fun s u K R I t h => s_sipush (n := (144 : Int)) (show decode (mcode 42) 14 = _ by decide +kernel) ⟨by decide, by decide⟩ (by decide) h) (show decode (mcode 42) 17 = _ by decide +kernel) (show decode (mcode 42) 19 = _ by decide +kernel) (show pool (mcls 42) 15 = _ by decide +kernel) (Or.inr ⟨by decide +kernel, by decide +kernel⟩) (Or.inl ⟨rfl, rfl⟩) (by decide) (by decide +kernel) rfl (fun Γ2 M2 k2 => ?_)
  refine mk_arr (τ := 73) (j := 6) (n := 144) (g := 20) k2 h2 rfl (show decode (mcode 42) 22 = _ by decide +kernel) (fun s u K R I t h => s_sipush (n := (144 : Int)) (show decode (mcode 42) 23 = _ by decide +kernel) ⟨by decide, by decide⟩ (by decide) h) (show decode (mcode 42) 26 = _ by decide +kernel) (show decode (mcode 42) 28 = _ by decide +kernel) (show pool (mcls 42) 18 = _ by decide +kernel) (Or.inr ⟨by decide +kernel, by decide +kernel⟩) (Or.inl ⟨rfl, rfl⟩) (by decide) (by decide +kernel) rfl (fun Γ3 M3 k3 => ?_)
  refine mk_arr (τ := 74) (j := 7) (n := 144) (g := 20) k3 h2 rfl (show decode (mcode 42) 31 = _ by decide +kernel) (fun s u K R I t h => s_sipush (n := (144 : Int)) (show decode (mcode 42) 32 = _ by decide +kernel) ⟨by decide, by decide⟩ (by decide) h) (show decode (mcode 42) 35 = _ by decide +kernel) (show decode (mcode 42) 37 = _ by decide +kernel) (show pool (mcls 42) 21 = _ by decide +kernel) (Or.inr ⟨by decide +kernel, by decide +kernel⟩) (Or.inl ⟨rfl, rfl⟩) (by decide) (by decide +kernel) rfl (fun Γ4 M4 k4 => ?_)
  refine mk_arr (τ := 75) (j := 8) (n := 144) (g := 20) k4 h2 rfl (show decode (mcode 42) 40 = _ by decide +kernel) (fun s u K R I t h => s_sipush (n := (144 : Int)) (show decode (mcode 42) 41 = _ by decide +kernel) ⟨by decide, by decide⟩ (by decide) h) (show decode (mcode 42) 44 = _ by decide +kernel) (show decode (mcode 42) 46 = _ by decide +kernel) (show pool (mcls 42) 24 = _ by decide +kernel) (Or.inr ⟨by decide +kernel, by decide +kernel⟩) (Or.inl ⟨rfl, rfl⟩) (by decide) (by decide +kernel) rfl (fun Γ5 M5 k5 => ?_)
  refine mk_arr (τ := 76) (j := 9) (n := 144) (g := 20) k5 h2 rfl (show decode (mcode 42) 49 = _ by decide +kernel) (fun s u K R I t h => s_sipush (n := (144 : Int)) (show decode (mcode 42) 50 = _ by decide +kernel) ⟨by decide, by decide⟩ (by decide) h) (show decode (mcode 42) 53 = _ by decide +kernel) (show decode (mcode 42) 55 = _ by decide +kernel) (show pool (mcls 42) 27 = _ by decide +kernel) (Or.inr ⟨by decide +kernel, by decide +kernel⟩) (Or.inl ⟨rfl, rfl⟩) (by decide) (by decide +kernel) rfl (fun Γ6 M6 k6 => ?_)
  obtain ⟨x, x1, x2, x3, -⟩ := k6.2.2.2.2.1 (6, 73, true) (by decide)
  have x2 : Γ6 x = 73 := x2
  have hT1 := k6.1
  obtain ⟨s1, u1, K1, R1, I1⟩ := M6
  refine s_aload_n (i := 0) (show decode (mcode 42) 58 = _ by decide +kernel) rfl (s_getR (idx := 18) (show decode (mcode 42) 59 = _ by decide +kernel) (show pool (mcls 42) 18 = _ by decide +kernel) k6.2.2.2.1 x1 (s_iconst (n := -1) (show decode (mcode 42) 62 = _ by decide +kernel) ⟨by decide, by decide⟩ ?_))
  refine s_sta2 (idx := 30) (y := 121) (show decode (mcode 42) 63 = _ by decide +kernel) (show pool (mcls 42) 30 = _ by decide +kernel) (show mstat 121 = _ by decide +kernel) (by decide) (k_k289k (0, 0, 0) d (fun i => cond (Nat.beq i 0) 0 (-1)) (fun _ => x) Γ6 _ [vr x, vi (-1)] [] rfl (by have : 2 ≤ d + 1 := hd; show kD _ ≤ d; exact Nat.le_trans (by decide) (Nat.le_of_succ_le_succ this)) hT1 ?_ ⟨⟨rfl, x2, by decide⟩, rfl, trivial⟩ (fun p hp => absurd hp List.not_mem_nil)) ?_
  · intro i
    match i with
    | 0 => exact ⟨by decide, by decide⟩
    | 1 => exact ⟨by decide, by decide⟩
    | i + 2 => exact ⟨(by decide : (-2147483648 : Int) ≤ -1), (by decide : (-1 : Int) ≤ 2147483647)⟩
  rintro r M2 ⟨Γ2, q1, q2, q3, q4, q5, rfl, q6⟩
  have hlt : a < s1 := k6.2.2.1
  have k9 := MK_go k6 s1 (by omega) k6.2.2.2.2.2.2.2.1.1 (HTy_un hT1 (Nat.le_refl _)) q1 (FRA_of q2) (fun b b1 _ => q3 b b1) (by decide +kernel) q4 q5
  exact s_vret (show decode (mcode 42) 66 = _ by decide +kernel) (show mret 42 = _ by decide +kernel) (MK_ret k9 (by decide +kernel))
theorem ct_106t (d : Nat) (Γ : Nat → Nat) (M : MM) (a x : Nat) (hd : 3 ≤ d) (hT : HTy Yt Γ M) (h1 : Γ a = 0) (h2 : a < M.1) (h3 : M.2.2.1 a = (10, 0)) (h4 : ∀ j, M.2.2.2.1 a j = none) (h5 : ∀ j, M.2.2.2.2 a j = 0) (hx : Γ x = 1) : Rm d 85 [vr a, vr x] M (fun r M2 => CTQ 138 [(113, 0, 144)] 11 1409 false Γ M a r M2 ∧ M2.2.2.2.1 a 0 = some x) := by
  cases d with
  | zero => exact absurd hd (by decide)
  | succ d =>
  refine Rm.of [vr a, vr x] (eq_true (show 2 ≤ mmaxl 85 by decide +kernel)) rfl ?_
  have k0 := MK_init (E := [(113, 0, 144)]) (C := 10) hT h1 h2 h3 h4 h5
  obtain ⟨s, u, K, R, I⟩ := M
  have h2 : a < s := h2
  refine s_aload_n (i := 0) (show decode (mcode 85) 0 = _ by decide +kernel) rfl (s_obj (idx := 3) (show decode (mcode 85) 1 = _ by decide +kernel) (show pool (mcls 85) 3 = _ by decide +kernel) (by decide) ?_)
  refine s_aload_n (i := 0) (show decode (mcode 85) 4 = _ by decide +kernel) rfl (s_aload_n (i := 1) (show decode (mcode 85) 5 = _ by decide +kernel) rfl (s_putR (idx := 9) (c := 10) (j := 0) (show decode (mcode 85) 6 = _ by decide +kernel) (show pool (mcls 85) 9 = _ by decide +kernel) h3 (Or.inr ⟨by decide +kernel, by decide +kernel⟩) rfl ?_))
  have k1 := MK_put (j := 0) (z := false) k0 rfl hx (by decide) (fun h => absurd h (by decide))
  have w1 : PIN [(a, 0, x)] (fun _ => 0) Γ (s, u, K, up R a 0 (some x), I) := fun p hp => by
    cases List.mem_singleton.mp hp
    exact ⟨if_pos ⟨rfl, rfl⟩, h1, h2⟩
  refine mk_subP [(a, 0, x)] (ΓP := fun _ => 0) w1 (E2 := []) (τ := 6) (C2 := 4) (n2 := 5) (y := 34) (da2 := 3) (ds2 := 530) (dk := 1) (z := true) (j := 1) k1 h2 rfl (show decode (mcode 85) 9 = _ by decide +kernel) (show decode (mcode 85) 10 = _ by decide +kernel) (show decode (mcode 85) 13 = _ by decide +kernel) (show decode (mcode 85) 14 = _ by decide +kernel) (show decode (mcode 85) 17 = _ by decide +kernel) (show pool (mcls 85) 15 = _ by decide +kernel) (show pool (mcls 85) 17 = _ by decide +kernel) (show mstat 34 = _ by decide +kernel) (show ((mname 34).name == "<init>") = _ by decide +kernel) ct_40 (by have : 3 ≤ d + 1 := hd; exact Nat.le_trans (by decide) (Nat.le_of_succ_le_succ this)) (show pool (mcls 85) 18 = _ by decide +kernel) (Or.inr ⟨by decide +kernel, by decide +kernel⟩) (by decide +kernel) (by decide) rfl (fun p hp e he => by cases List.mem_singleton.mp hp; revert e; decide) (fun p hp => by cases List.mem_singleton.mp hp; show (0 : Nat) ≠ 1; decide) (fun Γ2 M2 w2 k2 => ?_)
  refine mk_subP [(a, 0, x)] (ΓP := fun _ => 0) w2 (E2 := [(113, 0, 144)]) (τ := 110) (C2 := 5) (n2 := 10) (y := 42) (da2 := 6) (ds2 := 864) (dk := 2) (z := true) (j := 2) k2 h2 rfl (show decode (mcode 85) 20 = _ by decide +kernel) (show decode (mcode 85) 21 = _ by decide +kernel) (show decode (mcode 85) 24 = _ by decide +kernel) (show decode (mcode 85) 25 = _ by decide +kernel) (show decode (mcode 85) 28 = _ by decide +kernel) (show pool (mcls 85) 22 = _ by decide +kernel) (show pool (mcls 85) 24 = _ by decide +kernel) (show mstat 42 = _ by decide +kernel) (show ((mname 42).name == "<init>") = _ by decide +kernel) ct_48t (by have : 3 ≤ d + 1 := hd; exact Nat.le_trans (by decide) (Nat.le_of_succ_le_succ this)) (show pool (mcls 85) 25 = _ by decide +kernel) (Or.inr ⟨by decide +kernel, by decide +kernel⟩) (by decide +kernel) (by decide) rfl (fun p hp e he => by cases List.mem_singleton.mp hp; revert e; decide) (fun p hp => by cases List.mem_singleton.mp hp; show (0 : Nat) ≠ 2; decide) (fun Γ3 M3 w3 k3 => ?_)
  exact s_vret (show decode (mcode 85) 31 = _ by decide +kernel) (show mret 85 = _ by decide +kernel) ⟨MK_ret k3 (by decide +kernel), (w3 _ List.mem_cons_self).1⟩
theorem ct_106 (d : Nat) (Γ : Nat → Nat) (M : MM) (a x : Nat) (hd : 3 ≤ d) (hT : HTy Yt Γ M) (h1 : Γ a = 0) (h2 : a < M.1) (h3 : M.2.2.1 a = (10, 0)) (h4 : ∀ j, M.2.2.2.1 a j = none) (h5 : ∀ j, M.2.2.2.2 a j = 0) (hx : Γ x = 1) : Rm d 85 [vr a, vr x] M (CTQ 38 [(13, 0, 144)] 11 1409 false Γ M a) := by
  cases d with
  | zero => exact absurd hd (by decide)
  | succ d =>
  refine Rm.of [vr a, vr x] (eq_true (show 2 ≤ mmaxl 85 by decide +kernel)) rfl ?_
  have k0 := MK_init (E := [(13, 0, 144)]) (C := 10) hT h1 h2 h3 h4 h5
  obtain ⟨s, u, K, R, I⟩ := M
  have h2 : a < s := h2
  refine s_aload_n (i := 0) (show decode (mcode 85) 0 = _ by decide +kernel) rfl (s_obj (idx := 3) (show decode (mcode 85) 1 = _ by decide +kernel) (show pool (mcls 85) 3 = _ by decide +kernel) (by decide) ?_)
  refine s_aload_n (i := 0) (show decode (mcode 85) 4 = _ by decide +kernel) rfl (s_aload_n (i := 1) (show decode (mcode 85) 5 = _ by decide +kernel) rfl (s_putR (idx := 9) (c := 10) (j := 0) (show decode (mcode 85) 6 = _ by decide +kernel) (show pool (mcls 85) 9 = _ by decide +kernel) h3 (Or.inr ⟨by decide +kernel, by decide +kernel⟩) rfl ?_))
  have k1 := MK_put (j := 0) (z := false) k0 rfl hx (by decide) (fun h => absurd h (by decide))
  refine mk_sub (E2 := []) (τ := 6) (C2 := 4) (n2 := 5) (y := 34) (da2 := 3) (ds2 := 530) (dk := 1) (z := true) (j := 1) k1 h2 rfl (show decode (mcode 85) 9 = _ by decide +kernel) (show decode (mcode 85) 10 = _ by decide +kernel) (show decode (mcode 85) 13 = _ by decide +kernel) (show decode (mcode 85) 14 = _ by decide +kernel) (show decode (mcode 85) 17 = _ by decide +kernel) (show pool (mcls 85) 15 = _ by decide +kernel) (show pool (mcls 85) 17 = _ by decide +kernel) (show mstat 34 = _ by decide +kernel) (show ((mname 34).name == "<init>") = _ by decide +kernel) ct_40 (by have : 3 ≤ d + 1 := hd; exact Nat.le_trans (by decide) (Nat.le_of_succ_le_succ this)) (show pool (mcls 85) 18 = _ by decide +kernel) (Or.inr ⟨by decide +kernel, by decide +kernel⟩) (by decide +kernel) (by decide) rfl (fun Γ2 M2 k2 => ?_)
  refine mk_sub (E2 := [(13, 0, 144)]) (τ := 10) (C2 := 5) (n2 := 10) (y := 42) (da2 := 6) (ds2 := 864) (dk := 2) (z := true) (j := 2) k2 h2 rfl (show decode (mcode 85) 20 = _ by decide +kernel) (show decode (mcode 85) 21 = _ by decide +kernel) (show decode (mcode 85) 24 = _ by decide +kernel) (show decode (mcode 85) 25 = _ by decide +kernel) (show decode (mcode 85) 28 = _ by decide +kernel) (show pool (mcls 85) 22 = _ by decide +kernel) (show pool (mcls 85) 24 = _ by decide +kernel) (show mstat 42 = _ by decide +kernel) (show ((mname 42).name == "<init>") = _ by decide +kernel) ct_48 (by have : 3 ≤ d + 1 := hd; exact Nat.le_trans (by decide) (Nat.le_of_succ_le_succ this)) (show pool (mcls 85) 25 = _ by decide +kernel) (Or.inr ⟨by decide +kernel, by decide +kernel⟩) (by decide +kernel) (by decide) rfl (fun Γ3 M3 k3 => ?_)
  exact s_vret (show decode (mcode 85) 31 = _ by decide +kernel) (show mret 85 = _ by decide +kernel) (MK_ret k3 (by decide +kernel))
theorem ct_106k (d : Nat) (Γ : Nat → Nat) (M : MM) (a x : Nat) (hd : 3 ≤ d) (hT : HTy Yt Γ M) (h1 : Γ a = 0) (h2 : a < M.1) (h3 : M.2.2.1 a = (10, 0)) (h4 : ∀ j, M.2.2.2.1 a j = none) (h5 : ∀ j, M.2.2.2.2 a j = 0) (hx : Γ x = 61) : Rm d 85 [vr a, vr x] M (CTQ 98 [(73, 0, 144)] 11 1409 false Γ M a) := by
  cases d with
  | zero => exact absurd hd (by decide)
  | succ d =>
  refine Rm.of [vr a, vr x] (eq_true (show 2 ≤ mmaxl 85 by decide +kernel)) rfl ?_
  have k0 := MK_init (E := [(73, 0, 144)]) (C := 10) hT h1 h2 h3 h4 h5
  obtain ⟨s, u, K, R, I⟩ := M
  have h2 : a < s := h2
  refine s_aload_n (i := 0) (show decode (mcode 85) 0 = _ by decide +kernel) rfl (s_obj (idx := 3) (show decode (mcode 85) 1 = _ by decide +kernel) (show pool (mcls 85) 3 = _ by decide +kernel) (by decide) ?_)
  refine s_aload_n (i := 0) (show decode (mcode 85) 4 = _ by decide +kernel) rfl (s_aload_n (i := 1) (show decode (mcode 85) 5 = _ by decide +kernel) rfl (s_putR (idx := 9) (c := 10) (j := 0) (show decode (mcode 85) 6 = _ by decide +kernel) (show pool (mcls 85) 9 = _ by decide +kernel) h3 (Or.inr ⟨by decide +kernel, by decide +kernel⟩) rfl ?_))
  have k1 := MK_put (j := 0) (z := false) k0 rfl hx (by decide) (fun h => absurd h (by decide))
  refine mk_sub (E2 := []) (τ := 66) (C2 := 4) (n2 := 5) (y := 34) (da2 := 3) (ds2 := 530) (dk := 1) (z := true) (j := 1) k1 h2 rfl (show decode (mcode 85) 9 = _ by decide +kernel) (show decode (mcode 85) 10 = _ by decide +kernel) (show decode (mcode 85) 13 = _ by decide +kernel) (show decode (mcode 85) 14 = _ by decide +kernel) (show decode (mcode 85) 17 = _ by decide +kernel) (show pool (mcls 85) 15 = _ by decide +kernel) (show pool (mcls 85) 17 = _ by decide +kernel) (show mstat 34 = _ by decide +kernel) (show ((mname 34).name == "<init>") = _ by decide +kernel) ct_40k (by have : 3 ≤ d + 1 := hd; exact Nat.le_trans (by decide) (Nat.le_of_succ_le_succ this)) (show pool (mcls 85) 18 = _ by decide +kernel) (Or.inr ⟨by decide +kernel, by decide +kernel⟩) (by decide +kernel) (by decide) rfl (fun Γ2 M2 k2 => ?_)
  refine mk_sub (E2 := [(73, 0, 144)]) (τ := 70) (C2 := 5) (n2 := 10) (y := 42) (da2 := 6) (ds2 := 864) (dk := 2) (z := true) (j := 2) k2 h2 rfl (show decode (mcode 85) 20 = _ by decide +kernel) (show decode (mcode 85) 21 = _ by decide +kernel) (show decode (mcode 85) 24 = _ by decide +kernel) (show decode (mcode 85) 25 = _ by decide +kernel) (show decode (mcode 85) 28 = _ by decide +kernel) (show pool (mcls 85) 22 = _ by decide +kernel) (show pool (mcls 85) 24 = _ by decide +kernel) (show mstat 42 = _ by decide +kernel) (show ((mname 42).name == "<init>") = _ by decide +kernel) ct_48k (by have : 3 ≤ d + 1 := hd; exact Nat.le_trans (by decide) (Nat.le_of_succ_le_succ this)) (show pool (mcls 85) 25 = _ by decide +kernel) (Or.inr ⟨by decide +kernel, by decide +kernel⟩) (by decide +kernel) (by decide) rfl (fun Γ3 M3 k3 => ?_)
  exact s_vret (show decode (mcode 85) 31 = _ by decide +kernel) (show mret 85 = _ by decide +kernel) (MK_ret k3 (by decide +kernel))
