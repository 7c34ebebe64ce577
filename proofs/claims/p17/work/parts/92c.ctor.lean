/-! MAKING: the constructors -/
theorem ct_0 : CT0 0 0 39 [] 1 12 1 true := by
  intro d Γ M a hd hT h1 h2 h3 h4 h5
  cases d with
  | zero => exact absurd hd (by decide)
  | succ d =>
  refine Rm.of [vr a] (eq_true (show 1 ≤ mmaxl 0 by decide +kernel)) rfl ?_
  have k0 := MK_init (E := []) (C := 0) hT h1 h2 h3 h4 h5
  obtain ⟨s, u, K, R, I⟩ := M
  have h2 : a < s := h2
  refine s_aload_n (i := 0) (show decode (mcode 0) 0 = _ by decide +kernel) rfl (s_obj (idx := 3) (show decode (mcode 0) 1 = _ by decide +kernel) (show pool (mcls 0) 3 = _ by decide +kernel) (by decide) ?_)
  refine mk_anew (τ := 55) (j := 2) (n := 12) k0 h2 rfl (show decode (mcode 0) 4 = _ by decide +kernel) (fun s u K R I t h => s_bipush (n := (12 : Int)) (show decode (mcode 0) 5 = _ by decide +kernel) ⟨by decide, by decide⟩ (by decide) h) (show decode (mcode 0) 7 = _ by decide +kernel) (show pool (mcls 0) 9 = _ by decide +kernel) (show decode (mcode 0) 10 = _ by decide +kernel) (show pool (mcls 0) 11 = _ by decide +kernel) (Or.inr ⟨by decide +kernel, by decide +kernel⟩) (by decide) (by decide +kernel) rfl (fun Γ1 M1 k1 => ?_)
  exact s_vret (show decode (mcode 0) 13 = _ by decide +kernel) (show mret 0 = _ by decide +kernel) (MK_ret k1 (by decide +kernel))
theorem ct_3 : CT0 3 1 35 [] 2 288 1 true := by
  intro d Γ M a hd hT h1 h2 h3 h4 h5
  cases d with
  | zero => exact absurd hd (by decide)
  | succ d =>
  refine Rm.of [vr a] (eq_true (show 1 ≤ mmaxl 3 by decide +kernel)) rfl ?_
  have k0 := MK_init (E := []) (C := 1) hT h1 h2 h3 h4 h5
  obtain ⟨s, u, K, R, I⟩ := M
  have h2 : a < s := h2
  refine s_aload_n (i := 0) (show decode (mcode 3) 0 = _ by decide +kernel) rfl (s_obj (idx := 3) (show decode (mcode 3) 1 = _ by decide +kernel) (show pool (mcls 3) 3 = _ by decide +kernel) (by decide) ?_)
  refine mk_arr (τ := 36) (j := 3) (n := 144) (g := 21) k0 h2 rfl (show decode (mcode 3) 4 = _ by decide +kernel) (fun s u K R I t h => s_sipush (n := (144 : Int)) (show decode (mcode 3) 5 = _ by decide +kernel) ⟨by decide, by decide⟩ (by decide) h) (show decode (mcode 3) 8 = _ by decide +kernel) (show decode (mcode 3) 10 = _ by decide +kernel) (show pool (mcls 3) 9 = _ by decide +kernel) (Or.inr ⟨by decide +kernel, by decide +kernel⟩) (Or.inr ⟨rfl, rfl⟩) (by decide) (by decide +kernel) rfl (fun Γ1 M1 k1 => ?_)
  refine mk_arr (τ := 37) (j := 4) (n := 144) (g := 20) k1 h2 rfl (show decode (mcode 3) 13 = _ by decide +kernel) (fun s u K R I t h => s_sipush (n := (144 : Int)) (show decode (mcode 3) 14 = _ by decide +kernel) ⟨by decide, by decide⟩ (by decide) h) (show decode (mcode 3) 17 = _ by decide +kernel) (show decode (mcode 3) 19 = _ by decide +kernel) (show pool (mcls 3) 15 = _ by decide +kernel) (Or.inr ⟨by decide +kernel, by decide +kernel⟩) (Or.inl ⟨rfl, rfl⟩) (by decide) (by decide +kernel) rfl (fun Γ2 M2 k2 => ?_)
  exact s_vret (show decode (mcode 3) 22 = _ by decide +kernel) (show mret 3 = _ by decide +kernel) (MK_ret k2 (by decide +kernel))
theorem ct_33 : CT0 33 3 26 [] 4 720 1 true := by
  intro d Γ M a hd hT h1 h2 h3 h4 h5
  cases d with
  | zero => exact absurd hd (by decide)
  | succ d =>
  refine Rm.of [vr a] (eq_true (show 1 ≤ mmaxl 33 by decide +kernel)) rfl ?_
  have k0 := MK_init (E := []) (C := 3) hT h1 h2 h3 h4 h5
  obtain ⟨s, u, K, R, I⟩ := M
  have h2 : a < s := h2
  refine s_aload_n (i := 0) (show decode (mcode 33) 0 = _ by decide +kernel) rfl (s_obj (idx := 3) (show decode (mcode 33) 1 = _ by decide +kernel) (show pool (mcls 33) 3 = _ by decide +kernel) (by decide) ?_)
  refine mk_arr (τ := 27) (j := 0) (n := 288) (g := 21) k0 h2 rfl (show decode (mcode 33) 4 = _ by decide +kernel) (fun s u K R I t h => s_sipush (n := (288 : Int)) (show decode (mcode 33) 5 = _ by decide +kernel) ⟨by decide, by decide⟩ (by decide) h) (show decode (mcode 33) 8 = _ by decide +kernel) (show decode (mcode 33) 10 = _ by decide +kernel) (show pool (mcls 33) 9 = _ by decide +kernel) (Or.inr ⟨by decide +kernel, by decide +kernel⟩) (Or.inr ⟨rfl, rfl⟩) (by decide) (by decide +kernel) rfl (fun Γ1 M1 k1 => ?_)
  refine mk_arr (τ := 28) (j := 1) (n := 144) (g := 20) k1 h2 rfl (show decode (mcode 33) 13 = _ by decide +kernel) (fun s u K R I t h => s_sipush (n := (144 : Int)) (show decode (mcode 33) 14 = _ by decide +kernel) ⟨by decide, by decide⟩ (by decide) h) (show decode (mcode 33) 17 = _ by decide +kernel) (show decode (mcode 33) 19 = _ by decide +kernel) (show pool (mcls 33) 15 = _ by decide +kernel) (Or.inr ⟨by decide +kernel, by decide +kernel⟩) (Or.inl ⟨rfl, rfl⟩) (by decide) (by decide +kernel) rfl (fun Γ2 M2 k2 => ?_)
  refine mk_arr (τ := 29) (j := 2) (n := 144) (g := 20) k2 h2 rfl (show decode (mcode 33) 22 = _ by decide +kernel) (fun s u K R I t h => s_sipush (n := (144 : Int)) (show decode (mcode 33) 23 = _ by decide +kernel) ⟨by decide, by decide⟩ (by decide) h) (show decode (mcode 33) 26 = _ by decide +kernel) (show decode (mcode 33) 28 = _ by decide +kernel) (show pool (mcls 33) 19 = _ by decide +kernel) (Or.inr ⟨by decide +kernel, by decide +kernel⟩) (Or.inl ⟨rfl, rfl⟩) (by decide) (by decide +kernel) rfl (fun Γ3 M3 k3 => ?_)
  refine mk_arr (τ := 30) (j := 3) (n := 144) (g := 20) k3 h2 rfl (show decode (mcode 33) 31 = _ by decide +kernel) (fun s u K R I t h => s_sipush (n := (144 : Int)) (show decode (mcode 33) 32 = _ by decide +kernel) ⟨by decide, by decide⟩ (by decide) h) (show decode (mcode 33) 35 = _ by decide +kernel) (show decode (mcode 33) 37 = _ by decide +kernel) (show pool (mcls 33) 22 = _ by decide +kernel) (Or.inr ⟨by decide +kernel, by decide +kernel⟩) (Or.inl ⟨rfl, rfl⟩) (by decide) (by decide +kernel) rfl (fun Γ4 M4 k4 => ?_)
  exact s_vret (show decode (mcode 33) 40 = _ by decide +kernel) (show mret 33 = _ by decide +kernel) (MK_ret k4 (by decide +kernel))
theorem ct_40 : CT0 40 4 6 [] 3 530 1 true := by
  intro d Γ M a hd hT h1 h2 h3 h4 h5
  cases d with
  | zero => exact absurd hd (by decide)
  | succ d =>
  refine Rm.of [vr a] (eq_true (show 1 ≤ mmaxl 40 by decide +kernel)) rfl ?_
  have k0 := MK_init (E := []) (C := 4) hT h1 h2 h3 h4 h5
  obtain ⟨s, u, K, R, I⟩ := M
  have h2 : a < s := h2
  refine s_aload_n (i := 0) (show decode (mcode 40) 0 = _ by decide +kernel) rfl (s_obj (idx := 3) (show decode (mcode 40) 1 = _ by decide +kernel) (show pool (mcls 40) 3 = _ by decide +kernel) (by decide) ?_)
  refine mk_arr (τ := 7) (j := 2) (n := 121) (g := 20) k0 h2 rfl (show decode (mcode 40) 4 = _ by decide +kernel) (fun s u K R I t h => s_bipush (n := (121 : Int)) (show decode (mcode 40) 5 = _ by decide +kernel) ⟨by decide, by decide⟩ (by decide) h) (show decode (mcode 40) 7 = _ by decide +kernel) (show decode (mcode 40) 9 = _ by decide +kernel) (show pool (mcls 40) 9 = _ by decide +kernel) (Or.inr ⟨by decide +kernel, by decide +kernel⟩) (Or.inl ⟨rfl, rfl⟩) (by decide) (by decide +kernel) rfl (fun Γ1 M1 k1 => ?_)
  refine mk_arr (τ := 8) (j := 3) (n := 121) (g := 20) k1 h2 rfl (show decode (mcode 40) 12 = _ by decide +kernel) (fun s u K R I t h => s_bipush (n := (121 : Int)) (show decode (mcode 40) 13 = _ by decide +kernel) ⟨by decide, by decide⟩ (by decide) h) (show decode (mcode 40) 15 = _ by decide +kernel) (show decode (mcode 40) 17 = _ by decide +kernel) (show pool (mcls 40) 15 = _ by decide +kernel) (Or.inr ⟨by decide +kernel, by decide +kernel⟩) (Or.inl ⟨rfl, rfl⟩) (by decide) (by decide +kernel) rfl (fun Γ2 M2 k2 => ?_)
  refine mk_arr (τ := 9) (j := 4) (n := 288) (g := 20) k2 h2 rfl (show decode (mcode 40) 20 = _ by decide +kernel) (fun s u K R I t h => s_sipush (n := (288 : Int)) (show decode (mcode 40) 21 = _ by decide +kernel) ⟨by decide, by decide⟩ (by decide) h) (show decode (mcode 40) 24 = _ by decide +kernel) (show decode (mcode 40) 26 = _ by decide +kernel) (show pool (mcls 40) 18 = _ by decide +kernel) (Or.inr ⟨by decide +kernel, by decide +kernel⟩) (Or.inl ⟨rfl, rfl⟩) (by decide) (by decide +kernel) rfl (fun Γ3 M3 k3 => ?_)
  exact s_vret (show decode (mcode 40) 29 = _ by decide +kernel) (show mret 40 = _ by decide +kernel) (MK_ret k3 (by decide +kernel))
theorem ct_40k : CT0 40 4 66 [] 3 530 1 true := by
  intro d Γ M a hd hT h1 h2 h3 h4 h5
  cases d with
  | zero => exact absurd hd (by decide)
  | succ d =>
  refine Rm.of [vr a] (eq_true (show 1 ≤ mmaxl 40 by decide +kernel)) rfl ?_
  have k0 := MK_init (E := []) (C := 4) hT h1 h2 h3 h4 h5
  obtain ⟨s, u, K, R, I⟩ := M
  have h2 : a < s := h2
  refine s_aload_n (i := 0) (show decode (mcode 40) 0 = _ by decide +kernel) rfl (s_obj (idx := 3) (show decode (mcode 40) 1 = _ by decide +kernel) (show pool (mcls 40) 3 = _ by decide +kernel) (by decide) ?_)
  refine mk_arr (τ := 67) (j := 2) (n := 121) (g := 20) k0 h2 rfl (show decode (mcode 40) 4 = _ by decide +kernel) (fun s u K R I t h => s_bipush (n := (121 : Int)) (show decode (mcode 40) 5 = _ by decide +kernel) ⟨by decide, by decide⟩ (by decide) h) (show decode (mcode 40) 7 = _ by decide +kernel) (show decode (mcode 40) 9 = _ by decide +kernel) (show pool (mcls 40) 9 = _ by decide +kernel) (Or.inr ⟨by decide +kernel, by decide +kernel⟩) (Or.inl ⟨rfl, rfl⟩) (by decide) (by decide +kernel) rfl (fun Γ1 M1 k1 => ?_)
  refine mk_arr (τ := 68) (j := 3) (n := 121) (g := 20) k1 h2 rfl (show decode (mcode 40) 12 = _ by decide +kernel) (fun s u K R I t h => s_bipush (n := (121 : Int)) (show decode (mcode 40) 13 = _ by decide +kernel) ⟨by decide, by decide⟩ (by decide) h) (show decode (mcode 40) 15 = _ by decide +kernel) (show decode (mcode 40) 17 = _ by decide +kernel) (show pool (mcls 40) 15 = _ by decide +kernel) (Or.inr ⟨by decide +kernel, by decide +kernel⟩) (Or.inl ⟨rfl, rfl⟩) (by decide) (by decide +kernel) rfl (fun Γ2 M2 k2 => ?_)
  refine mk_arr (τ := 69) (j := 4) (n := 288) (g := 20) k2 h2 rfl (show decode (mcode 40) 20 = _ by decide +kernel) (fun s u K R I t h => s_sipush (n := (288 : Int)) (show decode (mcode 40) 21 = _ by decide +kernel) ⟨by decide, by decide⟩ (by decide) h) (show decode (mcode 40) 24 = _ by decide +kernel) (show decode (mcode 40) 26 = _ by decide +kernel) (show pool (mcls 40) 18 = _ by decide +kernel) (Or.inr ⟨by decide +kernel, by decide +kernel⟩) (Or.inl ⟨rfl, rfl⟩) (by decide) (by decide +kernel) rfl (fun Γ3 M3 k3 => ?_)
  exact s_vret (show decode (mcode 40) 29 = _ by decide +kernel) (show mret 40 = _ by decide +kernel) (MK_ret k3 (by decide +kernel))
theorem ct_67 : CT0 67 6 17 [] 1 180 1 true := by
  intro d Γ M a hd hT h1 h2 h3 h4 h5
  cases d with
  | zero => exact absurd hd (by decide)
  | succ d =>
  refine Rm.of [vr a] (eq_true (show 1 ≤ mmaxl 67 by decide +kernel)) rfl ?_
  have k0 := MK_init (E := []) (C := 6) hT h1 h2 h3 h4 h5
  obtain ⟨s, u, K, R, I⟩ := M
  have h2 : a < s := h2
  refine s_aload_n (i := 0) (show decode (mcode 67) 0 = _ by decide +kernel) rfl (s_obj (idx := 3) (show decode (mcode 67) 1 = _ by decide +kernel) (show pool (mcls 67) 3 = _ by decide +kernel) (by decide) ?_)
  refine mk_arr (τ := 18) (j := 1) (n := 180) (g := 20) k0 h2 rfl (show decode (mcode 67) 4 = _ by decide +kernel) (fun s u K R I t h => s_sipush (n := (180 : Int)) (show decode (mcode 67) 5 = _ by decide +kernel) ⟨by decide, by decide⟩ (by decide) h) (show decode (mcode 67) 8 = _ by decide +kernel) (show decode (mcode 67) 10 = _ by decide +kernel) (show pool (mcls 67) 9 = _ by decide +kernel) (Or.inr ⟨by decide +kernel, by decide +kernel⟩) (Or.inl ⟨rfl, rfl⟩) (by decide) (by decide +kernel) rfl (fun Γ1 M1 k1 => ?_)
  exact s_vret (show decode (mcode 67) 13 = _ by decide +kernel) (show mret 67 = _ by decide +kernel) (MK_ret k1 (by decide +kernel))
theorem ct_67k : CT0 67 6 77 [] 1 180 1 true := by
  intro d Γ M a hd hT h1 h2 h3 h4 h5
  cases d with
  | zero => exact absurd hd (by decide)
  | succ d =>
  refine Rm.of [vr a] (eq_true (show 1 ≤ mmaxl 67 by decide +kernel)) rfl ?_
  have k0 := MK_init (E := []) (C := 6) hT h1 h2 h3 h4 h5
  obtain ⟨s, u, K, R, I⟩ := M
  have h2 : a < s := h2
  refine s_aload_n (i := 0) (show decode (mcode 67) 0 = _ by decide +kernel) rfl (s_obj (idx := 3) (show decode (mcode 67) 1 = _ by decide +kernel) (show pool (mcls 67) 3 = _ by decide +kernel) (by decide) ?_)
  refine mk_arr (τ := 78) (j := 1) (n := 180) (g := 20) k0 h2 rfl (show decode (mcode 67) 4 = _ by decide +kernel) (fun s u K R I t h => s_sipush (n := (180 : Int)) (show decode (mcode 67) 5 = _ by decide +kernel) ⟨by decide, by decide⟩ (by decide) h) (show decode (mcode 67) 8 = _ by decide +kernel) (show decode (mcode 67) 10 = _ by decide +kernel) (show pool (mcls 67) 9 = _ by decide +kernel) (Or.inr ⟨by decide +kernel, by decide +kernel⟩) (Or.inl ⟨rfl, rfl⟩) (by decide) (by decide +kernel) rfl (fun Γ1 M1 k1 => ?_)
  exact s_vret (show decode (mcode 67) 13 = _ by decide +kernel) (show mret 67 = _ by decide +kernel) (MK_ret k1 (by decide +kernel))
theorem ct_72 : CT0 72 7 21 [] 4 4459 1 true := by
  intro d Γ M a hd hT h1 h2 h3 h4 h5
  cases d with
  | zero => exact absurd hd (by decide)
  | succ d =>
  refine Rm.of [vr a] (eq_true (show 1 ≤ mmaxl 72 by decide +kernel)) rfl ?_
  have k0 := MK_init (E := []) (C := 7) hT h1 h2 h3 h4 h5
  obtain ⟨s, u, K, R, I⟩ := M
  have h2 : a < s := h2
  refine s_aload_n (i := 0) (show decode (mcode 72) 0 = _ by decide +kernel) rfl (s_obj (idx := 3) (show decode (mcode 72) 1 = _ by decide +kernel) (show pool (mcls 72) 3 = _ by decide +kernel) (by decide) ?_)
  refine mk_arr (τ := 22) (j := 1) (n := 121) (g := 20) k0 h2 rfl (show decode (mcode 72) 4 = _ by decide +kernel) (fun s u K R I t h => s_bipush (n := (121 : Int)) (show decode (mcode 72) 5 = _ by decide +kernel) ⟨by decide, by decide⟩ (by decide) h) (show decode (mcode 72) 7 = _ by decide +kernel) (show decode (mcode 72) 9 = _ by decide +kernel) (show pool (mcls 72) 9 = _ by decide +kernel) (Or.inr ⟨by decide +kernel, by decide +kernel⟩) (Or.inl ⟨rfl, rfl⟩) (by decide) (by decide +kernel) rfl (fun Γ1 M1 k1 => ?_)
  refine mk_arr (τ := 23) (j := 2) (n := 121) (g := 20) k1 h2 rfl (show decode (mcode 72) 12 = _ by decide +kernel) (fun s u K R I t h => s_bipush (n := (121 : Int)) (show decode (mcode 72) 13 = _ by decide +kernel) ⟨by decide, by decide⟩ (by decide) h) (show decode (mcode 72) 15 = _ by decide +kernel) (show decode (mcode 72) 17 = _ by decide +kernel) (show pool (mcls 72) 15 = _ by decide +kernel) (Or.inr ⟨by decide +kernel, by decide +kernel⟩) (Or.inl ⟨rfl, rfl⟩) (by decide) (by decide +kernel) rfl (fun Γ2 M2 k2 => ?_)
  refine mk_arr (τ := 24) (j := 3) (n := 121) (g := 20) k2 h2 rfl (show decode (mcode 72) 20 = _ by decide +kernel) (fun s u K R I t h => s_bipush (n := (121 : Int)) (show decode (mcode 72) 21 = _ by decide +kernel) ⟨by decide, by decide⟩ (by decide) h) (show decode (mcode 72) 23 = _ by decide +kernel) (show decode (mcode 72) 25 = _ by decide +kernel) (show pool (mcls 72) 18 = _ by decide +kernel) (Or.inr ⟨by decide +kernel, by decide +kernel⟩) (Or.inl ⟨rfl, rfl⟩) (by decide) (by decide +kernel) rfl (fun Γ3 M3 k3 => ?_)
  refine mk_arr (τ := 25) (j := 4) (n := 4096) (g := 20) k3 h2 rfl (show decode (mcode 72) 28 = _ by decide +kernel) (fun s u K R I t h => s_sipush (n := (4096 : Int)) (show decode (mcode 72) 29 = _ by decide +kernel) ⟨by decide, by decide⟩ (by decide) h) (show decode (mcode 72) 32 = _ by decide +kernel) (show decode (mcode 72) 34 = _ by decide +kernel) (show pool (mcls 72) 21 = _ by decide +kernel) (Or.inr ⟨by decide +kernel, by decide +kernel⟩) (Or.inl ⟨rfl, rfl⟩) (by decide) (by decide +kernel) rfl (fun Γ4 M4 k4 => ?_)
  exact s_vret (show decode (mcode 72) 37 = _ by decide +kernel) (show mret 72 = _ by decide +kernel) (MK_ret k4 (by decide +kernel))
theorem ct_85 : CT0 85 8 31 [] 3 720 1 true := by
  intro d Γ M a hd hT h1 h2 h3 h4 h5
  cases d with
  | zero => exact absurd hd (by decide)
  | succ d =>
  refine Rm.of [vr a] (eq_true (show 1 ≤ mmaxl 85 by decide +kernel)) rfl ?_
  have k0 := MK_init (E := []) (C := 8) hT h1 h2 h3 h4 h5
  obtain ⟨s, u, K, R, I⟩ := M
  have h2 : a < s := h2
  refine s_aload_n (i := 0) (show decode (mcode 85) 0 = _ by decide +kernel) rfl (s_obj (idx := 5) (show decode (mcode 85) 1 = _ by decide +kernel) (show pool (mcls 85) 5 = _ by decide +kernel) (by decide) ?_)
  refine mk_arr (τ := 32) (j := 3) (n := 288) (g := 20) k0 h2 rfl (show decode (mcode 85) 4 = _ by decide +kernel) (fun s u K R I t h => s_sipush (n := (288 : Int)) (show decode (mcode 85) 5 = _ by decide +kernel) ⟨by decide, by decide⟩ (by decide) h) (show decode (mcode 85) 8 = _ by decide +kernel) (show decode (mcode 85) 10 = _ by decide +kernel) (show pool (mcls 85) 11 = _ by decide +kernel) (Or.inr ⟨by decide +kernel, by decide +kernel⟩) (Or.inl ⟨rfl, rfl⟩) (by decide) (by decide +kernel) rfl (fun Γ1 M1 k1 => ?_)
  refine mk_arr (τ := 33) (j := 4) (n := 288) (g := 20) k1 h2 rfl (show decode (mcode 85) 13 = _ by decide +kernel) (fun s u K R I t h => s_sipush (n := (288 : Int)) (show decode (mcode 85) 14 = _ by decide +kernel) ⟨by decide, by decide⟩ (by decide) h) (show decode (mcode 85) 17 = _ by decide +kernel) (show decode (mcode 85) 19 = _ by decide +kernel) (show pool (mcls 85) 17 = _ by decide +kernel) (Or.inr ⟨by decide +kernel, by decide +kernel⟩) (Or.inl ⟨rfl, rfl⟩) (by decide) (by decide +kernel) rfl (fun Γ2 M2 k2 => ?_)
  refine mk_arr (τ := 34) (j := 5) (n := 144) (g := 20) k2 h2 rfl (show decode (mcode 85) 22 = _ by decide +kernel) (fun s u K R I t h => s_sipush (n := (144 : Int)) (show decode (mcode 85) 23 = _ by decide +kernel) ⟨by decide, by decide⟩ (by decide) h) (show decode (mcode 85) 26 = _ by decide +kernel) (show decode (mcode 85) 28 = _ by decide +kernel) (show pool (mcls 85) 20 = _ by decide +kernel) (Or.inr ⟨by decide +kernel, by decide +kernel⟩) (Or.inl ⟨rfl, rfl⟩) (by decide) (by decide +kernel) rfl (fun Γ3 M3 k3 => ?_)
  exact s_vret (show decode (mcode 85) 31 = _ by decide +kernel) (show mret 85 = _ by decide +kernel) (MK_ret k3 (by decide +kernel))
theorem ct_99 : CT0 99 9 19 [] 1 400 1 true := by
  intro d Γ M a hd hT h1 h2 h3 h4 h5
  cases d with
  | zero => exact absurd hd (by decide)
  | succ d =>
  refine Rm.of [vr a] (eq_true (show 1 ≤ mmaxl 99 by decide +kernel)) rfl ?_
  have k0 := MK_init (E := []) (C := 9) hT h1 h2 h3 h4 h5
  obtain ⟨s, u, K, R, I⟩ := M
  have h2 : a < s := h2
  refine s_aload_n (i := 0) (show decode (mcode 99) 0 = _ by decide +kernel) rfl (s_obj (idx := 3) (show decode (mcode 99) 1 = _ by decide +kernel) (show pool (mcls 99) 3 = _ by decide +kernel) (by decide) ?_)
  refine mk_arr (τ := 20) (j := 3) (n := 400) (g := 20) k0 h2 rfl (show decode (mcode 99) 4 = _ by decide +kernel) (fun s u K R I t h => s_sipush (n := (400 : Int)) (show decode (mcode 99) 5 = _ by decide +kernel) ⟨by decide, by decide⟩ (by decide) h) (show decode (mcode 99) 8 = _ by decide +kernel) (show decode (mcode 99) 10 = _ by decide +kernel) (show pool (mcls 99) 9 = _ by decide +kernel) (Or.inr ⟨by decide +kernel, by decide +kernel⟩) (Or.inl ⟨rfl, rfl⟩) (by decide) (by decide +kernel) rfl (fun Γ1 M1 k1 => ?_)
  exact s_vret (show decode (mcode 99) 13 = _ by decide +kernel) (show mret 99 = _ by decide +kernel) (MK_ret k1 (by decide +kernel))
set_option maxRecDepth 100000 in
theorem ct_7 : CT0 7 2 1 [(2, 0, 144), (3, 0, 144), (4, 0, 144), (5, 0, 288), (56, 0, 1), (56, 1, 2)] 4 720 3 false := by
  intro d Γ M a hd hT h1 h2 h3 h4 h5
  cases d with
  | zero => exact absurd hd (by decide)
  | succ d =>
  refine Rm.of [vr a] (eq_true (show 1 ≤ mmaxl 7 by decide +kernel)) rfl ?_
  have k0 := MK_init (E := [(2, 0, 144), (3, 0, 144), (4, 0, 144), (5, 0, 288), (56, 0, 1), (56, 1, 2)]) (C := 2) hT h1 h2 h3 h4 h5
  obtain ⟨s, u, K, R, I⟩ := M
  have h2 : a < s := h2
  refine s_aload_n (i := 0) (show decode (mcode 7) 0 = _ by decide +kernel) rfl (s_obj (idx := 3) (show decode (mcode 7) 1 = _ by decide +kernel) (show pool (mcls 7) 3 = _ by decide +kernel) (by decide) ?_)
  refine mk_arr (τ := 2) (j := 2) (n := 144) (g := 20) k0 h2 rfl (show decode (mcode 7) 4 = _ by decide +kernel) (fun s u K R I t h => s_sipush (n := (144 : Int)) (show decode (mcode 7) 5 = _ by decide +kernel) ⟨by decide, by decide⟩ (by decide) h) (show decode (mcode 7) 8 = _ by decide +kernel) (show decode (mcode 7) 10 = _ by decide +kernel) (show pool (mcls 7) 9 = _ by decide +kernel) (Or.inr ⟨by decide +kernel, by decide +kernel⟩) (Or.inl ⟨rfl, rfl⟩) (by decide) (by decide +kernel) rfl (fun Γ1 M1 k1 => ?_)
  refine mk_arr (τ := 3) (j := 3) (n := 144) (g := 20) k1 h2 rfl (show decode (mcode 7) 13 = _ by decide +kernel) (fun s u K R I t h => s_sipush (n := (144 : Int)) (show decode (mcode 7) 14 = _ by decide +kernel) ⟨by decide, by decide⟩ (by decide) h) (show decode (mcode 7) 17 = _ by decide +kernel) (show decode (mcode 7) 19 = _ by decide +kernel) (show pool (mcls 7) 15 = _ by decide +kernel) (Or.inr ⟨by decide +kernel, by decide +kernel⟩) (Or.inl ⟨rfl, rfl⟩) (by decide) (by decide +kernel) rfl (fun Γ2 M2 k2 => ?_)
  refine mk_arr (τ := 4) (j := 4) (n := 144) (g := 21) k2 h2 rfl (show decode (mcode 7) 22 = _ by decide +kernel) (fun s u K R I t h => s_sipush (n := (144 : Int)) (show decode (mcode 7) 23 = _ by decide +kernel) ⟨by decide, by decide⟩ (by decide) h) (show decode (mcode 7) 26 = _ by decide +kernel) (show decode (mcode 7) 28 = _ by decide +kernel) (show pool (mcls 7) 18 = _ by decide +kernel) (Or.inr ⟨by decide +kernel, by decide +kernel⟩) (Or.inr ⟨rfl, rfl⟩) (by decide) (by decide +kernel) rfl (fun Γ3 M3 k3 => ?_)
  refine mk_arr (τ := 5) (j := 5) (n := 288) (g := 21) k3 h2 rfl (show decode (mcode 7) 31 = _ by decide +kernel) (fun s u K R I t h => s_sipush (n := (288 : Int)) (show decode (mcode 7) 32 = _ by decide +kernel) ⟨by decide, by decide⟩ (by decide) h) (show decode (mcode 7) 35 = _ by decide +kernel) (show decode (mcode 7) 37 = _ by decide +kernel) (show pool (mcls 7) 22 = _ by decide +kernel) (Or.inr ⟨by decide +kernel, by decide +kernel⟩) (Or.inr ⟨rfl, rfl⟩) (by decide) (by decide +kernel) rfl (fun Γ4 M4 k4 => ?_)
  have hT1 := MK_seal k4 (τ := 56) (by decide +kernel)
  obtain ⟨s1, u1, K1, R1, I1⟩ := M4
  have ha1 : gup Γ4 a 56 a = 56 := gup_at
  refine s_aload_n (i := 0) (show decode (mcode 7) 40 = _ by decide +kernel) rfl (s_iconst (n := 4) (show decode (mcode 7) 41 = _ by decide +kernel) ⟨by decide, by decide⟩ (s_iconst (n := 4) (show decode (mcode 7) 42 = _ by decide +kernel) ⟨by decide, by decide⟩ ?_))
  refine s_inv2 (idx := 25) (y := 8) (c := 2) (show decode (mcode 7) 43 = _ by decide +kernel) (show pool (mcls 7) 25 = _ by decide +kernel) (show mcls 8 = _ by decide +kernel) k4.2.2.2.1 (show mstat 8 = _ by decide +kernel) (show ((mname 8).name == "<init>") = _ by decide +kernel) (by decide) (k_k8r (0, 0, 0) d (fun i => cond (Nat.beq i 0) 0 4) (fun _ => a) (gup Γ4 a 56) _ [vr a, vi 4, vi 4] [] rfl (by have : 3 ≤ d + 1 := hd; show kD _ ≤ d; exact Nat.le_trans (by decide) (Nat.le_of_succ_le_succ this)) hT1 ?_ ⟨⟨rfl, ha1, by decide⟩, rfl, rfl, trivial⟩ (fun p hp => absurd hp List.not_mem_nil)) ?_
  · intro i
    match i with
    | 0 => exact ⟨by decide, by decide⟩
    | 1 => exact ⟨by decide, by decide⟩
    | 2 => exact ⟨by decide, by decide⟩
    | i + 3 => exact ⟨(by decide : (-2147483648 : Int) ≤ 4), (by decide : (4 : Int) ≤ 2147483647)⟩
  rintro r M2 ⟨Γ2, q1, q2, q3, q4, q5, rfl, q6⟩
  have hlt : a < s1 := k4.2.2.1
  have hΓ2 : Γ2 a = 56 := (q3 a hlt).trans ha1
  have f0 := (fId_eq (0, 0, 0) 56 0 a 4 4 Γ2 M2 (by decide)).mp (q6 _ (List.mem_of_getElem? (i := 0) rfl))
  have f1 := (fId_eq (0, 0, 0) 56 1 a 4 4 Γ2 M2 (by decide)).mp (q6 _ (List.mem_of_getElem? (i := 1) rfl))
  have hT3 : HTy Yt (gup Γ2 a 1) M2 := HTy_re q1 hΓ2 (by decide) ⟨rfl, rfl, rfl⟩ (by decide +kernel) (fun r hr j j1 j2 => by
    have hr : r ∈ [(0, 1, 2, 12), (1, 2, 2, 12)] := hr
    simp only [List.mem_cons, List.not_mem_nil, or_false] at hr
    rcases hr with rfl | rfl
    · have j1 : 0 ≤ j := j1
      have j2 : j < 1 := j2
      rw [show j = 0 by omega]
      show 2 ≤ M2.2.2.2.2 a 0 ∧ M2.2.2.2.2 a 0 ≤ 12
      omega
    · have j1 : 1 ≤ j := j1
      have j2 : j < 2 := j2
      rw [show j = 1 by omega]
      show 2 ≤ M2.2.2.2.2 a 1 ∧ M2.2.2.2.2 a 1 ≤ 12
      omega)
  have g := k4.2.2.2.2.2.2.2
  refine s_vret (show decode (mcode 7) 46 = _ by decide +kernel) (show mret 7 = _ by decide +kernel) ⟨rfl, gup Γ2 a 1, hT3, gup_at, ?_, fun b b1 b2 => ?_, Nat.le_trans q4 g.2.2.1, Nat.le_trans q5 g.2.2.2, fun h => absurd h (by decide)⟩
  · refine ⟨Nat.le_trans g.1.1 q2.1, fun b b1 b2 => ?_⟩
    have hb : b < s1 := Nat.lt_of_lt_of_le b1 g.1.1
    obtain ⟨c1, c2⟩ := g.1.2 b b1 b2
    obtain ⟨e1, e2⟩ := q2.2 b hb
    refine ⟨e1.trans c1, fun j hj => ?_⟩
    have x1 := c2 j hj
    have hbΓ : gup Γ4 a 56 b = Γ b := (gup_ne b2).trans (g.2.1 b b1 b2)
    have x2 := e2 j (fun e he h3 h4 h5 => by
      rw [hbΓ] at h3 ⊢
      obtain ⟨f, f1, f2, f3, f4⟩ := efIn_ok (List.all_eq_true.mp (show efsIn (kEff t_k8r) [(2, 0, 144), (3, 0, 144), (4, 0, 144), (5, 0, 288), (56, 0, 1), (56, 1, 2)] = true by decide +kernel) e he)
      exact hj f f1 (h3.trans f2.symm) (Nat.le_trans f3 h4) (Nat.lt_of_lt_of_le h5 f4))
    exact ⟨x2.1.trans x1.1, x2.2.trans x1.2⟩
  · rw [gup_ne b2, q3 b (Nat.lt_of_lt_of_le b1 g.1.1), gup_ne b2]
    exact g.2.1 b b1 b2
set_option maxRecDepth 100000 in
theorem ct_7k : CT0 7 2 61 [(62, 0, 144), (63, 0, 144), (64, 0, 144), (65, 0, 288), (57, 0, 1), (57, 1, 2)] 4 720 3 false := by
  intro d Γ M a hd hT h1 h2 h3 h4 h5
  cases d with
  | zero => exact absurd hd (by decide)
  | succ d =>
  refine Rm.of [vr a] (eq_true (show 1 ≤ mmaxl 7 by decide +kernel)) rfl ?_
  have k0 := MK_init (E := [(62, 0, 144), (63, 0, 144), (64, 0, 144), (65, 0, 288), (57, 0, 1), (57, 1, 2)]) (C := 2) hT h1 h2 h3 h4 h5
  obtain ⟨s, u, K, R, I⟩ := M
  have h2 : a < s := h2
  refine s_aload_n (i := 0) (show decode (mcode 7) 0 = _ by decide +kernel) rfl (s_obj (idx := 3) (show decode (mcode 7) 1 = _ by decide +kernel) (show pool (mcls 7) 3 = _ by decide +kernel) (by decide) ?_)
  refine mk_arr (τ := 62) (j := 2) (n := 144) (g := 20) k0 h2 rfl (show decode (mcode 7) 4 = _ by decide +kernel) (fun s u K R I t h => s_sipush (n := (144 : Int)) (show decode (mcode 7) 5 = _ by decide +kernel) ⟨by decide, by decide⟩ (by decide) h) (show decode (mcode 7) 8 = _ by decide +kernel) (show decode (mcode 7) 10 = _ by decide +kernel) (show pool (mcls 7) 9 = _ by decide +kernel) (Or.inr ⟨by decide +kernel, by decide +kernel⟩) (Or.inl ⟨rfl, rfl⟩) (by decide) (by decide +kernel) rfl (fun Γ1 M1 k1 => ?_)
  refine mk_arr (τ := 63) (j := 3) (n := 144) (g := 20) k1 h2 rfl (show decode (mcode 7) 13 = _ by decide +kernel) (fun s u K R I t h => s_sipush (n := (144 : Int)) (show decode (mcode 7) 14 = _ by decide +kernel) ⟨by decide, by decide⟩ (by decide) h) (show decode (mcode 7) 17 = _ by decide +kernel) (show decode (mcode 7) 19 = _ by decide +kernel) (show pool (mcls 7) 15 = _ by decide +kernel) (Or.inr ⟨by decide +kernel, by decide +kernel⟩) (Or.inl ⟨rfl, rfl⟩) (by decide) (by decide +kernel) rfl (fun Γ2 M2 k2 => ?_)
  refine mk_arr (τ := 64) (j := 4) (n := 144) (g := 21) k2 h2 rfl (show decode (mcode 7) 22 = _ by decide +kernel) (fun s u K R I t h => s_sipush (n := (144 : Int)) (show decode (mcode 7) 23 = _ by decide +kernel) ⟨by decide, by decide⟩ (by decide) h) (show decode (mcode 7) 26 = _ by decide +kernel) (show decode (mcode 7) 28 = _ by decide +kernel) (show pool (mcls 7) 18 = _ by decide +kernel) (Or.inr ⟨by decide +kernel, by decide +kernel⟩) (Or.inr ⟨rfl, rfl⟩) (by decide) (by decide +kernel) rfl (fun Γ3 M3 k3 => ?_)
  refine mk_arr (τ := 65) (j := 5) (n := 288) (g := 21) k3 h2 rfl (show decode (mcode 7) 31 = _ by decide +kernel) (fun s u K R I t h => s_sipush (n := (288 : Int)) (show decode (mcode 7) 32 = _ by decide +kernel) ⟨by decide, by decide⟩ (by decide) h) (show decode (mcode 7) 35 = _ by decide +kernel) (show decode (mcode 7) 37 = _ by decide +kernel) (show pool (mcls 7) 22 = _ by decide +kernel) (Or.inr ⟨by decide +kernel, by decide +kernel⟩) (Or.inr ⟨rfl, rfl⟩) (by decide) (by decide +kernel) rfl (fun Γ4 M4 k4 => ?_)
  have hT1 := MK_seal k4 (τ := 57) (by decide +kernel)
  obtain ⟨s1, u1, K1, R1, I1⟩ := M4
  have ha1 : gup Γ4 a 57 a = 57 := gup_at
  refine s_aload_n (i := 0) (show decode (mcode 7) 40 = _ by decide +kernel) rfl (s_iconst (n := 4) (show decode (mcode 7) 41 = _ by decide +kernel) ⟨by decide, by decide⟩ (s_iconst (n := 4) (show decode (mcode 7) 42 = _ by decide +kernel) ⟨by decide, by decide⟩ ?_))
  refine s_inv2 (idx := 25) (y := 8) (c := 2) (show decode (mcode 7) 43 = _ by decide +kernel) (show pool (mcls 7) 25 = _ by decide +kernel) (show mcls 8 = _ by decide +kernel) k4.2.2.2.1 (show mstat 8 = _ by decide +kernel) (show ((mname 8).name == "<init>") = _ by decide +kernel) (by decide) (k_k8s (0, 0, 0) d (fun i => cond (Nat.beq i 0) 0 4) (fun _ => a) (gup Γ4 a 57) _ [vr a, vi 4, vi 4] [] rfl (by have : 3 ≤ d + 1 := hd; show kD _ ≤ d; exact Nat.le_trans (by decide) (Nat.le_of_succ_le_succ this)) hT1 ?_ ⟨⟨rfl, ha1, by decide⟩, rfl, rfl, trivial⟩ (fun p hp => absurd hp List.not_mem_nil)) ?_
  · intro i
    match i with
    | 0 => exact ⟨by decide, by decide⟩
    | 1 => exact ⟨by decide, by decide⟩
    | 2 => exact ⟨by decide, by decide⟩
    | i + 3 => exact ⟨(by decide : (-2147483648 : Int) ≤ 4), (by decide : (4 : Int) ≤ 2147483647)⟩
  rintro r M2 ⟨Γ2, q1, q2, q3, q4, q5, rfl, q6⟩
  have hlt : a < s1 := k4.2.2.1
  have hΓ2 : Γ2 a = 57 := (q3 a hlt).trans ha1
  have f0 := (fId_eq (0, 0, 0) 57 0 a 4 4 Γ2 M2 (by decide)).mp (q6 _ (List.mem_of_getElem? (i := 0) rfl))
  have f1 := (fId_eq (0, 0, 0) 57 1 a 4 4 Γ2 M2 (by decide)).mp (q6 _ (List.mem_of_getElem? (i := 1) rfl))
  have hT3 : HTy Yt (gup Γ2 a 61) M2 := HTy_re q1 hΓ2 (by decide) ⟨rfl, rfl, rfl⟩ (by decide +kernel) (fun r hr j j1 j2 => by
    have hr : r ∈ [(0, 1, 2, 12), (1, 2, 2, 12)] := hr
    simp only [List.mem_cons, List.not_mem_nil, or_false] at hr
    rcases hr with rfl | rfl
    · have j1 : 0 ≤ j := j1
      have j2 : j < 1 := j2
      rw [show j = 0 by omega]
      show 2 ≤ M2.2.2.2.2 a 0 ∧ M2.2.2.2.2 a 0 ≤ 12
      omega
    · have j1 : 1 ≤ j := j1
      have j2 : j < 2 := j2
      rw [show j = 1 by omega]
      show 2 ≤ M2.2.2.2.2 a 1 ∧ M2.2.2.2.2 a 1 ≤ 12
      omega)
  have g := k4.2.2.2.2.2.2.2
  refine s_vret (show decode (mcode 7) 46 = _ by decide +kernel) (show mret 7 = _ by decide +kernel) ⟨rfl, gup Γ2 a 61, hT3, gup_at, ?_, fun b b1 b2 => ?_, Nat.le_trans q4 g.2.2.1, Nat.le_trans q5 g.2.2.2, fun h => absurd h (by decide)⟩
  · refine ⟨Nat.le_trans g.1.1 q2.1, fun b b1 b2 => ?_⟩
    have hb : b < s1 := Nat.lt_of_lt_of_le b1 g.1.1
    obtain ⟨c1, c2⟩ := g.1.2 b b1 b2
    obtain ⟨e1, e2⟩ := q2.2 b hb
    refine ⟨e1.trans c1, fun j hj => ?_⟩
    have x1 := c2 j hj
    have hbΓ : gup Γ4 a 57 b = Γ b := (gup_ne b2).trans (g.2.1 b b1 b2)
    have x2 := e2 j (fun e he h3 h4 h5 => by
      rw [hbΓ] at h3 ⊢
      obtain ⟨f, f1, f2, f3, f4⟩ := efIn_ok (List.all_eq_true.mp (show efsIn (kEff t_k8s) [(62, 0, 144), (63, 0, 144), (64, 0, 144), (65, 0, 288), (57, 0, 1), (57, 1, 2)] = true by decide +kernel) e he)
      exact hj f f1 (h3.trans f2.symm) (Nat.le_trans f3 h4) (Nat.lt_of_lt_of_le h5 f4))
    exact ⟨x2.1.trans x1.1, x2.2.trans x1.2⟩
  · rw [gup_ne b2, q3 b (Nat.lt_of_lt_of_le b1 g.1.1), gup_ne b2]
    exact g.2.1 b b1 b2
theorem ct_48 : CT0 48 5 10 [(13, 0, 144)] 6 864 2 true := by
  intro d Γ M a hd hT h1 h2 h3 h4 h5
  cases d with
  | zero => exact absurd hd (by decide)
  | succ d =>
  refine Rm.of [vr a] (eq_true (show 1 ≤ mmaxl 48 by decide +kernel)) rfl ?_
  have k0 := MK_init (E := [(13, 0, 144)]) (C := 5) hT h1 h2 h3 h4 h5
  obtain ⟨s, u, K, R, I⟩ := M
  have h2 : a < s := h2
  refine s_aload_n (i := 0) (show decode (mcode 48) 0 = _ by decide +kernel) rfl (s_obj (idx := 3) (show decode (mcode 48) 1 = _ by decide +kernel) (show pool (mcls 48) 3 = _ by decide +kernel) (by decide) ?_)
  refine mk_arr (τ := 11) (j := 4) (n := 144) (g := 20) k0 h2 rfl (show decode (mcode 48) 4 = _ by decide +kernel) (fun s u K R I t h => s_sipush (n := (144 : Int)) (show decode (mcode 48) 5 = _ by decide +kernel) ⟨by decide, by decide⟩ (by decide) h) (show decode (mcode 48) 8 = _ by decide +kernel) (show decode (mcode 48) 10 = _ by decide +kernel) (show pool (mcls 48) 9 = _ by decide +kernel) (Or.inr ⟨by decide +kernel, by decide +kernel⟩) (Or.inl ⟨rfl, rfl⟩) (by decide) (by decide +kernel) rfl (fun Γ1 M1 k1 => ?_)
  refine mk_arr (τ := 12) (j := 5) (n := 144) (g := 20) k1 h2 rfl (show decode (mcode 48) 13 = _ by decide +kernel) (fun s u K R I t h => s_sipush (n := (144 : Int)) (show decode (mcode 48) 14 = _ by decide +kernel) ⟨by decide, by decide⟩ (by decide) h) (show decode (mcode 48) 17 = _ by decide +kernel) (show decode (mcode 48) 19 = _ by decide +kernel) (show pool (mcls 48) 15 = _ by decide +kernel) (Or.inr ⟨by decide +kernel, by decide +kernel⟩) (Or.inl ⟨rfl, rfl⟩) (by decide) (by decide +kernel) rfl (fun Γ2 M2 k2 => ?_)
  refine mk_arr (τ := 13) (j := 6) (n := 144) (g := 20) k2 h2 rfl (show decode (mcode 48) 22 = _ by decide +kernel) (fun s u K R I t h => s_sipush (n := (144 : Int)) (show decode (mcode 48) 23 = _ by decide +kernel) ⟨by decide, by decide⟩ (by decide) h) (show decode (mcode 48) 26 = _ by decide +kernel) (show decode (mcode 48) 28 = _ by decide +kernel) (show pool (mcls 48) 18 = _ by decide +kernel) (Or.inr ⟨by decide +kernel, by decide +kernel⟩) (Or.inl ⟨rfl, rfl⟩) (by decide) (by decide +kernel) rfl (fun Γ3 M3 k3 => ?_)
  refine mk_arr (τ := 14) (j := 7) (n := 144) (g := 20) k3 h2 rfl (show decode (mcode 48) 31 = _ by decide +kernel) (fun s u K R I t h => s_sipush (n := (144 : Int)) (show decode (mcode 48) 32 = _ by decide +kernel) ⟨by decide, by decide⟩ (by decide) h) (show decode (mcode 48) 35 = _ by decide +kernel) (show decode (mcode 48) 37 = _ by decide +kernel) (show pool (mcls 48) 21 = _ by decide +kernel) (Or.inr ⟨by decide +kernel, by decide +kernel⟩) (Or.inl ⟨rfl, rfl⟩) (by decide) (by decide +kernel) rfl (fun Γ4 M4 k4 => ?_)
  refine mk_arr (τ := 15) (j := 8) (n := 144) (g := 20) k4 h2 rfl (show decode (mcode 48) 40 = _ by decide +kernel) (fun s u K R I t h => s_sipush (n := (144 : Int)) (show decode (mcode 48) 41 = _ by decide +kernel) ⟨by decide, by decide⟩ (by decide) h) (show decode (mcode 48) 44 = _ by decide +kernel) (show decode (mcode 48) 46 = _ by decide +kernel) (show pool (mcls 48) 24 = _ by decide +kernel) (Or.inr ⟨by decide +kernel, by decide +kernel⟩) (Or.inl ⟨rfl, rfl⟩) (by decide) (by decide +kernel) rfl (fun Γ5 M5 k5 => ?_)
  refine mk_arr (τ := 16) (j := 9) (n := 144) (g := 20) k5 h2 rfl (show decode (mcode 48) 49 = _ by decide +kernel) (fun s u K R I t h => s_sipush (n := (144 : Int)) (show decode (mcode 48) 50 = _ by decide +kernel) ⟨by decide, by decide⟩ (by decide) h) (show decode (mcode 48) 53 = _ by decide +kernel) (show decode (mcode 48) 55 = _ by decide +kernel) (show pool (mcls 48) 27 = _ by decide +kernel) (Or.inr ⟨by decide +kernel, by decide +kernel⟩) (Or.inl ⟨rfl, rfl⟩) (by decide) (by decide +kernel) rfl (fun Γ6 M6 k6 => ?_)
  obtain ⟨x, x1, x2, x3, -⟩ := k6.2.2.2.2.1 (6, 13, true) (by decide)
  have x2 : Γ6 x = 13 := x2
  have hT1 := k6.1
  obtain ⟨s1, u1, K1, R1, I1⟩ := M6
  refine s_aload_n (i := 0) (show decode (mcode 48) 58 = _ by decide +kernel) rfl (s_getR (idx := 18) (show decode (mcode 48) 59 = _ by decide +kernel) (show pool (mcls 48) 18 = _ by decide +kernel) k6.2.2.2.1 x1 (s_iconst (n := -1) (show decode (mcode 48) 62 = _ by decide +kernel) ⟨by decide, by decide⟩ ?_))
  refine s_sta2 (idx := 30) (y := 289) (show decode (mcode 48) 63 = _ by decide +kernel) (show pool (mcls 48) 30 = _ by decide +kernel) (show mstat 289 = _ by decide +kernel) (by decide) (k_k289a (0, 0, 0) d (fun i => cond (Nat.beq i 0) 0 (-1)) (fun _ => x) Γ6 _ [vr x, vi (-1)] [] rfl (by have : 2 ≤ d + 1 := hd; show kD _ ≤ d; exact Nat.le_trans (by decide) (Nat.le_of_succ_le_succ this)) hT1 ?_ ⟨⟨rfl, x2, by decide⟩, rfl, trivial⟩ (fun p hp => absurd hp List.not_mem_nil)) ?_
  · intro i
    match i with
    | 0 => exact ⟨by decide, by decide⟩
    | 1 => exact ⟨by decide, by decide⟩
    | i + 2 => exact ⟨(by decide : (-2147483648 : Int) ≤ -1), (by decide : (-1 : Int) ≤ 2147483647)⟩
  rintro r M2 ⟨Γ2, q1, q2, q3, q4, q5, rfl, q6⟩
  have hlt : a < s1 := k6.2.2.1
  have k9 := MK_go k6 s1 (by omega) k6.2.2.2.2.2.2.2.1.1 (HTy_un hT1 (Nat.le_refl _)) q1 (FRA_of q2) (fun b b1 _ => q3 b b1) (by decide +kernel) q4 q5
  exact s_vret (show decode (mcode 48) 66 = _ by decide +kernel) (show mret 48 = _ by decide +kernel) (MK_ret k9 (by decide +kernel))
theorem ct_48k : CT0 48 5 70 [(73, 0, 144)] 6 864 2 true := by
  intro d Γ M a hd hT h1 h2 h3 h4 h5
  cases d with
  | zero => exact absurd hd (by decide)
  | succ d =>
  refine Rm.of [vr a] (eq_true (show 1 ≤ mmaxl 48 by decide +kernel)) rfl ?_
  have k0 := MK_init (E := [(73, 0, 144)]) (C := 5) hT h1 h2 h3 h4 h5
  obtain ⟨s, u, K, R, I⟩ := M
  have h2 : a < s := h2
  refine s_aload_n (i := 0) (show decode (mcode 48) 0 = _ by decide +kernel) rfl (s_obj (idx := 3) (show decode (mcode 48) 1 = _ by decide +kernel) (show pool (mcls 48) 3 = _ by decide +kernel) (by decide) ?_)
  refine mk_arr (τ := 71) (j := 4) (n := 144) (g := 20) k0 h2 rfl (show decode (mcode 48) 4 = _ by decide +kernel) (fun s u K R I t h => s_sipush (n := (144 : Int)) (show decode (mcode 48) 5 = _ by decide +kernel) ⟨by decide, by decide⟩ (by decide) h) (show decode (mcode 48) 8 = _ by decide +kernel) (show decode (mcode 48) 10 = _ by decide +kernel) (show pool (mcls 48) 9 = _ by decide +kernel) (Or.inr ⟨by decide +kernel, by decide +kernel⟩) (Or.inl ⟨rfl, rfl⟩) (by decide) (by decide +kernel) rfl (fun Γ1 M1 k1 => ?_)
  refine mk_arr (τ := 72) (j := 5) (n := 144) (g := 20) k1 h2 rfl (show decode (mcode 48) 13 = _ by decide +kernel) (fun s u K R I t h => s_sipush (n := (144 : Int)) (show decode (mcode 48) 14 = _ by decide +kernel) ⟨by decide, by decide⟩ (by decide) h) (show decode (mcode 48) 17 = _ by decide +kernel) (show decode (mcode 48) 19 = _ by decide +kernel) (show pool (mcls 48) 15 = _ by decide +kernel) (Or.inr ⟨by decide +kernel, by decide +kernel⟩) (Or.inl ⟨rfl, rfl⟩) (by decide) (by decide +kernel) rfl (fun Γ2 M2 k2 => ?_)
  refine mk_arr (τ := 73) (j := 6) (n := 144) (g := 20) k2 h2 rfl (show decode (mcode 48) 22 = _ by decide +kernel) (fun s u K R I t h => s_sipush (n := (144 : Int)) (show decode (mcode 48) 23 = _ by decide +kernel) ⟨by decide, by decide⟩ (by decide) h) (show decode (mcode 48) 26 = _ by decide +kernel) (show decode (mcode 48) 28 = _ by decide +kernel) (show pool (mcls 48) 18 = _ by decide +kernel) (Or.inr ⟨by decide +kernel, by decide +kernel⟩) (Or.inl ⟨rfl, rfl⟩) (by decide) (by decide +kernel) rfl (fun Γ3 M3 k3 => ?_)
  refine mk_arr (τ := 74) (j := 7) (n := 144) (g := 20) k3 h2 rfl (show decode (mcode 48) 31 = _ by decide +kernel) (fun s u K R I t h => s_sipush (n := (144 : Int)) (show decode (mcode 48) 32 = _ by decide +kernel) ⟨by decide, by decide⟩ (by decide) h) (show decode (mcode 48) 35 = _ by decide +kernel) (show decode (mcode 48) 37 = _ by decide +kernel) (show pool (mcls 48) 21 = _ by decide +kernel) (Or.inr ⟨by decide +kernel, by decide +kernel⟩) (Or.inl ⟨rfl, rfl⟩) (by decide) (by decide +kernel) rfl (fun Γ4 M4 k4 => ?_)
  refine mk_arr (τ := 75) (j := 8) (n := 144) (g := 20) k4 h2 rfl (show decode (mcode 48) 40 = _ by decide +kernel) (fun s u K R I t h => s_sipush (n := (144 : Int)) (show decode (mcode 48) 41 = _ by decide +kernel) ⟨by decide, by decide⟩ (by decide) h) (show decode (mcode 48) 44 = _ by decide +kernel) (show decode (mcode 48) 46 = _ by decide +kernel) (show pool (mcls 48) 24 = _ by decide +kernel) (Or.inr ⟨by decide +kernel, by decide +kernel⟩) (Or.inl ⟨rfl, rfl⟩) (by decide) (by decide +kernel) rfl (fun Γ5 M5 k5 => ?_)
  refine mk_arr (τ := 76) (j := 9) (n := 144) (g := 20) k5 h2 rfl (show decode (mcode 48) 49 = _ by decide +kernel) (fun s u K R I t h => s_sipush (n := (144 : Int)) (show decode (mcode 48) 50 = _ by decide +kernel) ⟨by decide, by decide⟩ (by decide) h) (show decode (mcode 48) 53 = _ by decide +kernel) (show decode (mcode 48) 55 = _ by decide +kernel) (show pool (mcls 48) 27 = _ by decide +kernel) (Or.inr ⟨by decide +kernel, by decide +kernel⟩) (Or.inl ⟨rfl, rfl⟩) (by decide) (by decide +kernel) rfl (fun Γ6 M6 k6 => ?_)
  obtain ⟨x, x1, x2, x3, -⟩ := k6.2.2.2.2.1 (6, 73, true) (by decide)
  have x2 : Γ6 x = 73 := x2
  have hT1 := k6.1
  obtain ⟨s1, u1, K1, R1, I1⟩ := M6
  refine s_aload_n (i := 0) (show decode (mcode 48) 58 = _ by decide +kernel) rfl (s_getR (idx := 18) (show decode (mcode 48) 59 = _ by decide +kernel) (show pool (mcls 48) 18 = _ by decide +kernel) k6.2.2.2.1 x1 (s_iconst (n := -1) (show decode (mcode 48) 62 = _ by decide +kernel) ⟨by decide, by decide⟩ ?_))
  refine s_sta2 (idx := 30) (y := 289) (show decode (mcode 48) 63 = _ by decide +kernel) (show pool (mcls 48) 30 = _ by decide +kernel) (show mstat 289 = _ by decide +kernel) (by decide) (k_k289k (0, 0, 0) d (fun i => cond (Nat.beq i 0) 0 (-1)) (fun _ => x) Γ6 _ [vr x, vi (-1)] [] rfl (by have : 2 ≤ d + 1 := hd; show kD _ ≤ d; exact Nat.le_trans (by decide) (Nat.le_of_succ_le_succ this)) hT1 ?_ ⟨⟨rfl, x2, by decide⟩, rfl, trivial⟩ (fun p hp => absurd hp List.not_mem_nil)) ?_
  · intro i
    match i with
    | 0 => exact ⟨by decide, by decide⟩
    | 1 => exact ⟨by decide, by decide⟩
    | i + 2 => exact ⟨(by decide : (-2147483648 : Int) ≤ -1), (by decide : (-1 : Int) ≤ 2147483647)⟩
  rintro r M2 ⟨Γ2, q1, q2, q3, q4, q5, rfl, q6⟩
  have hlt : a < s1 := k6.2.2.1
  have k9 := MK_go k6 s1 (by omega) k6.2.2.2.2.2.2.2.1.1 (HTy_un hT1 (Nat.le_refl _)) q1 (FRA_of q2) (fun b b1 _ => q3 b b1) (by decide +kernel) q4 q5
  exact s_vret (show decode (mcode 48) 66 = _ by decide +kernel) (show mret 48 = _ by decide +kernel) (MK_ret k9 (by decide +kernel))
theorem ct_106 (d : Nat) (Γ : Nat → Nat) (M : MM) (a x : Nat) (hd : 3 ≤ d) (hT : HTy Yt Γ M) (h1 : Γ a = 0) (h2 : a < M.1) (h3 : M.2.2.1 a = (10, 0)) (h4 : ∀ j, M.2.2.2.1 a j = none) (h5 : ∀ j, M.2.2.2.2 a j = 0) (hx : Γ x = 1) : Rm d 106 [vr a, vr x] M (CTQ 38 [(13, 0, 144)] 11 1409 false Γ M a) := by
  cases d with
  | zero => exact absurd hd (by decide)
  | succ d =>
  refine Rm.of [vr a, vr x] (eq_true (show 2 ≤ mmaxl 106 by decide +kernel)) rfl ?_
  have k0 := MK_init (E := [(13, 0, 144)]) (C := 10) hT h1 h2 h3 h4 h5
  obtain ⟨s, u, K, R, I⟩ := M
  have h2 : a < s := h2
  refine s_aload_n (i := 0) (show decode (mcode 106) 0 = _ by decide +kernel) rfl (s_obj (idx := 3) (show decode (mcode 106) 1 = _ by decide +kernel) (show pool (mcls 106) 3 = _ by decide +kernel) (by decide) ?_)
  refine s_aload_n (i := 0) (show decode (mcode 106) 4 = _ by decide +kernel) rfl (s_aload_n (i := 1) (show decode (mcode 106) 5 = _ by decide +kernel) rfl (s_putR (idx := 9) (c := 10) (j := 0) (show decode (mcode 106) 6 = _ by decide +kernel) (show pool (mcls 106) 9 = _ by decide +kernel) h3 (Or.inr ⟨by decide +kernel, by decide +kernel⟩) rfl ?_))
  have k1 := MK_put (j := 0) (z := false) k0 rfl hx (by decide) (fun h => absurd h (by decide))
  refine mk_sub (E2 := []) (τ := 6) (C2 := 4) (n2 := 5) (y := 40) (da2 := 3) (ds2 := 530) (dk := 1) (z := true) (j := 1) k1 h2 rfl (show decode (mcode 106) 9 = _ by decide +kernel) (show decode (mcode 106) 10 = _ by decide +kernel) (show decode (mcode 106) 13 = _ by decide +kernel) (show decode (mcode 106) 14 = _ by decide +kernel) (show decode (mcode 106) 17 = _ by decide +kernel) (show pool (mcls 106) 15 = _ by decide +kernel) (show pool (mcls 106) 17 = _ by decide +kernel) (show mstat 40 = _ by decide +kernel) (show ((mname 40).name == "<init>") = _ by decide +kernel) ct_40 (by have : 3 ≤ d + 1 := hd; exact Nat.le_trans (by decide) (Nat.le_of_succ_le_succ this)) (show pool (mcls 106) 18 = _ by decide +kernel) (Or.inr ⟨by decide +kernel, by decide +kernel⟩) (by decide +kernel) (by decide) rfl (fun Γ2 M2 k2 => ?_)
  refine mk_sub (E2 := [(13, 0, 144)]) (τ := 10) (C2 := 5) (n2 := 10) (y := 48) (da2 := 6) (ds2 := 864) (dk := 2) (z := true) (j := 2) k2 h2 rfl (show decode (mcode 106) 20 = _ by decide +kernel) (show decode (mcode 106) 21 = _ by decide +kernel) (show decode (mcode 106) 24 = _ by decide +kernel) (show decode (mcode 106) 25 = _ by decide +kernel) (show decode (mcode 106) 28 = _ by decide +kernel) (show pool (mcls 106) 22 = _ by decide +kernel) (show pool (mcls 106) 24 = _ by decide +kernel) (show mstat 48 = _ by decide +kernel) (show ((mname 48).name == "<init>") = _ by decide +kernel) ct_48 (by have : 3 ≤ d + 1 := hd; exact Nat.le_trans (by decide) (Nat.le_of_succ_le_succ this)) (show pool (mcls 106) 25 = _ by decide +kernel) (Or.inr ⟨by decide +kernel, by decide +kernel⟩) (by decide +kernel) (by decide) rfl (fun Γ3 M3 k3 => ?_)
  exact s_vret (show decode (mcode 106) 31 = _ by decide +kernel) (show mret 106 = _ by decide +kernel) (MK_ret k3 (by decide +kernel))
theorem ct_106k (d : Nat) (Γ : Nat → Nat) (M : MM) (a x : Nat) (hd : 3 ≤ d) (hT : HTy Yt Γ M) (h1 : Γ a = 0) (h2 : a < M.1) (h3 : M.2.2.1 a = (10, 0)) (h4 : ∀ j, M.2.2.2.1 a j = none) (h5 : ∀ j, M.2.2.2.2 a j = 0) (hx : Γ x = 61) : Rm d 106 [vr a, vr x] M (CTQ 98 [(73, 0, 144)] 11 1409 false Γ M a) := by
  cases d with
  | zero => exact absurd hd (by decide)
  | succ d =>
  refine Rm.of [vr a, vr x] (eq_true (show 2 ≤ mmaxl 106 by decide +kernel)) rfl ?_
  have k0 := MK_init (E := [(73, 0, 144)]) (C := 10) hT h1 h2 h3 h4 h5
  obtain ⟨s, u, K, R, I⟩ := M
  have h2 : a < s := h2
  refine s_aload_n (i := 0) (show decode (mcode 106) 0 = _ by decide +kernel) rfl (s_obj (idx := 3) (show decode (mcode 106) 1 = _ by decide +kernel) (show pool (mcls 106) 3 = _ by decide +kernel) (by decide) ?_)
  refine s_aload_n (i := 0) (show decode (mcode 106) 4 = _ by decide +kernel) rfl (s_aload_n (i := 1) (show decode (mcode 106) 5 = _ by decide +kernel) rfl (s_putR (idx := 9) (c := 10) (j := 0) (show decode (mcode 106) 6 = _ by decide +kernel) (show pool (mcls 106) 9 = _ by decide +kernel) h3 (Or.inr ⟨by decide +kernel, by decide +kernel⟩) rfl ?_))
  have k1 := MK_put (j := 0) (z := false) k0 rfl hx (by decide) (fun h => absurd h (by decide))
  refine mk_sub (E2 := []) (τ := 66) (C2 := 4) (n2 := 5) (y := 40) (da2 := 3) (ds2 := 530) (dk := 1) (z := true) (j := 1) k1 h2 rfl (show decode (mcode 106) 9 = _ by decide +kernel) (show decode (mcode 106) 10 = _ by decide +kernel) (show decode (mcode 106) 13 = _ by decide +kernel) (show decode (mcode 106) 14 = _ by decide +kernel) (show decode (mcode 106) 17 = _ by decide +kernel) (show pool (mcls 106) 15 = _ by decide +kernel) (show pool (mcls 106) 17 = _ by decide +kernel) (show mstat 40 = _ by decide +kernel) (show ((mname 40).name == "<init>") = _ by decide +kernel) ct_40k (by have : 3 ≤ d + 1 := hd; exact Nat.le_trans (by decide) (Nat.le_of_succ_le_succ this)) (show pool (mcls 106) 18 = _ by decide +kernel) (Or.inr ⟨by decide +kernel, by decide +kernel⟩) (by decide +kernel) (by decide) rfl (fun Γ2 M2 k2 => ?_)
  refine mk_sub (E2 := [(73, 0, 144)]) (τ := 70) (C2 := 5) (n2 := 10) (y := 48) (da2 := 6) (ds2 := 864) (dk := 2) (z := true) (j := 2) k2 h2 rfl (show decode (mcode 106) 20 = _ by decide +kernel) (show decode (mcode 106) 21 = _ by decide +kernel) (show decode (mcode 106) 24 = _ by decide +kernel) (show decode (mcode 106) 25 = _ by decide +kernel) (show decode (mcode 106) 28 = _ by decide +kernel) (show pool (mcls 106) 22 = _ by decide +kernel) (show pool (mcls 106) 24 = _ by decide +kernel) (show mstat 48 = _ by decide +kernel) (show ((mname 48).name == "<init>") = _ by decide +kernel) ct_48k (by have : 3 ≤ d + 1 := hd; exact Nat.le_trans (by decide) (Nat.le_of_succ_le_succ this)) (show pool (mcls 106) 25 = _ by decide +kernel) (Or.inr ⟨by decide +kernel, by decide +kernel⟩) (by decide +kernel) (by decide) rfl (fun Γ3 M3 k3 => ?_)
  exact s_vret (show decode (mcode 106) 31 = _ by decide +kernel) (show mret 106 = _ by decide +kernel) (MK_ret k3 (by decide +kernel))
