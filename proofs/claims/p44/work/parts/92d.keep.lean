/-! keeping an act -/
theorem HT_upR {Γ : Nat → Nat} {s u : Nat} {K : Nat → Nat × Nat} {R : Nat → Nat → Option Nat} {I : Nat → Nat → Int} {a j c : Nat} (hT : HTy Yt Γ (s, u, K, R, I)) (hc : ∀ r ∈ (Yt (Γ a)).2.2.2, r.1 ≤ j → j < r.2.1 → Γ c = r.2.2.1 ∧ r.2.2.1 ≠ 0) : HTy Yt Γ (s, u, K, up R a j (some c), I) := by
  intro b hb
  obtain ⟨t1, t2, t3, t4⟩ := hT b hb
  refine ⟨t1, t2, t3, fun r hr i h1 h2 => ?_⟩
  show (up R a j (some c) b i = none ∧ _) ∨ ∃ c2, up R a j (some c) b i = some c2 ∧ _
  by_cases he : b = a ∧ i = j
  · obtain ⟨rfl, rfl⟩ := he
    exact Or.inr ⟨c, if_pos ⟨rfl, rfl⟩, hc r hr h1 h2⟩
  · have e : up R a j (some c) b i = R b i := if_neg he
    rw [e]
    exact t4 r hr i h1 h2
theorem efs_cell {E E2 : List EF} (hE : efsIn E2 E = true) {x j : Nat} {P : Prop} (hj : ∀ e ∈ E, x = e.1 → e.2.1 ≤ j → j < e.2.2 → P) : ∀ e ∈ E2, x = e.1 → e.2.1 ≤ j → j < e.2.2 → P := by
  intro e he h3 h4 h5
  unfold efsIn at hE
  rw [List.all_eq_true] at hE
  obtain ⟨f, f1, f2, f3, f4⟩ := efIn_ok (hE e he)
  exact hj f f1 (h3.trans f2.symm) (Nat.le_trans f3 h4) (Nat.lt_of_lt_of_le h5 f4)
/-- a new whole -/
theorem mk_whole {Γ : Nat → Nat} {M : MM} {d k pc : Nat} {ls t : List MV} {Q : Option MV → MM → Prop} {i1 i2 i3 i4 τc τw : Nat} {E7 E6 E : List EF} (hT : HTy Yt Γ M) (h7 : CT0 3 2 τc E7 4 720 3 false) (h6 : ∀ (d : Nat) (Γ : Nat → Nat) (M : MM) (a x : Nat), 3 ≤ d → HTy Yt Γ M → Γ a = 0 → a < M.1 → M.2.2.1 a = (10, 0) → (∀ j, M.2.2.2.1 a j = none) → (∀ j, M.2.2.2.2 a j = 0) → Γ x = τc → Rm d 85 [vr a, vr x] M (CTQ τw E6 11 1409 false Γ M a)) (hE : (efsIn E7 E && efsIn E6 E) = true) (hd : 3 ≤ d) (hw : wds t ≤ 4)
    (d1 : decode (mcode k) pc = .ok (.new i1, 3)) (d2 : decode (mcode k) (pc + 3) = .ok (.dup, 1)) (d3 : decode (mcode k) (pc + 3 + 1) = .ok (.new i2, 3)) (d4 : decode (mcode k) (pc + 3 + 1 + 3) = .ok (.dup, 1)) (d5 : decode (mcode k) (pc + 3 + 1 + 3 + 1) = .ok (.invokespecial i3, 3)) (d6 : decode (mcode k) (pc + 3 + 1 + 3 + 1 + 3) = .ok (.invokespecial i4, 3))
    (p1 : pool (mcls k) i1 = some (5, 10, 3)) (p2 : pool (mcls k) i2 = some (5, 2, 6)) (p3 : pool (mcls k) i3 = some (4, 3, 0)) (p4 : pool (mcls k) i4 = some (4, 85, 1))
    (kk : ∀ Γ2 M2, HTy Yt Γ2 M2 → Γ2 M.1 = τw → FRM E Γ M M2 → GEX M.1 Γ Γ2 → M2.1 ≤ M.1 + 17 → M2.2.1 ≤ M.2.1 + 2138 → Wm d k (pc + 3 + 1 + 3 + 1 + 3 + 3) ls (vr M.1 :: t) M2 Q) : Wm d k pc ls t M Q := by
  obtain ⟨s, u, K, R, I⟩ := M
  obtain ⟨e7, e6⟩ := bb2 hE
  have n1 := HTy_new hT 10 0 3
  have n2 := HTy_new n1 2 0 6
  have hs : Γ s = 0 := HTy_un hT (Nat.le_refl _)
  have hs1 : Γ (s + 1) = 0 := HTy_un n1 (Nat.le_refl _)
  refine s_new d1 p1 (s_dup d2 rfl (s_new d3 p2 (s_dup d4 rfl (s_ini0 d5 p3 (show mstat 3 = _ by decide +kernel) (show ((mname 3).name == "<init>") = _ by decide +kernel) ?_ (h7 d Γ _ (s + 1) hd n2 hs1 (Nat.lt_succ_self _) (if_pos rfl) (fun _ => if_pos rfl) (fun _ => if_pos rfl)) ?_))))
  · show 1 + (1 + (1 + wds t)) ≤ 8
    omega
  rintro r M3 ⟨hr, Γ3, g1, g2, g3, g4, g5, g6, -⟩
  refine ⟨hr, ?_⟩
  have q := g3.2 s (by show s < s + 1 + 1; omega) (by omega)
  have c1 : M3.2.2.1 s = (10, 0) := q.1.trans ((if_neg (by omega) : upk (upk K s (10, 0)) (s + 1) (2, 0) s = upk K s (10, 0) s).trans (if_pos rfl))
  have c2 : ∀ j, M3.2.2.2.1 s j = none := fun j => (q.2 j (fun _ _ _ _ _ => hs)).2.trans ((if_neg (by omega) : upz (upz R s none) (s + 1) none s j = upz R s none s j).trans (if_pos rfl))
  have c3 : ∀ j, M3.2.2.2.2 s j = 0 := fun j => (q.2 j (fun _ _ _ _ _ => hs)).1.trans ((if_neg (by omega) : upz (upz I s 0) (s + 1) 0 s j = upz I s 0 s j).trans (if_pos rfl))
  have l3 : s + 1 + 1 ≤ M3.1 := g3.1
  have g5 : M3.1 ≤ s + 1 + 1 + 4 := g5
  have g6 : M3.2.1 ≤ u + 3 + 6 + 720 := g6
  have h3 := h6 d Γ3 M3 s (s + 1) hd g1 ((g4 s (by show s < s + 1 + 1; omega) (by omega)).trans hs) (by omega) c1 c2 c3 g2
  obtain ⟨s3, u3, K3, R3, I3⟩ := M3
  refine s_ini1 d6 p4 (show mstat 85 = _ by decide +kernel) (show ((mname 85).name == "<init>") = _ by decide +kernel) (by show 1 + wds t ≤ 8; omega) h3 ?_
  rintro r M4 ⟨hr, Γ4, f1, f2, f3, f4, f5, f6, -⟩
  have l3 : s + 1 + 1 ≤ s3 := l3
  have f5 : M4.1 ≤ s3 + 11 := f5
  have f6 : M4.2.1 ≤ u3 + 1409 := f6
  have g5 : s3 ≤ s + 1 + 1 + 4 := g5
  have g6 : u3 ≤ u + 3 + 6 + 720 := g6
  have l4 : s3 ≤ M4.1 := f3.1
  refine ⟨hr, kk Γ4 M4 f1 f2 ⟨by show s ≤ M4.1; omega, fun b hb => ?_⟩ (fun b hb => ?_) (by show M4.1 ≤ s + 17; omega) (by show M4.2.1 ≤ u + 2138; omega)⟩
  · have hb : b < s := hb
    have x1 := g3.2 b (by show b < s + 1 + 1; omega) (by omega)
    have x2 := f3.2 b (by show b < s3; omega) (by omega)
    have xΓ : Γ3 b = Γ b := g4 b (by show b < s + 1 + 1; omega) (by omega)
    refine ⟨x2.1.trans (x1.1.trans ((if_neg (by omega) : upk (upk K s (10, 0)) (s + 1) (2, 0) b = upk K s (10, 0) b).trans (if_neg (by omega)))), fun j hj => ?_⟩
    have y1 := x1.2 j (efs_cell e7 hj)
    have y2 := x2.2 j (fun e he h3 h4 h5 => by
      rw [xΓ] at h3 ⊢
      exact efs_cell e6 hj e he h3 h4 h5)
    exact ⟨y2.1.trans (y1.1.trans ((if_neg (by omega) : upz (upz I s 0) (s + 1) 0 b j = upz I s 0 b j).trans (if_neg (by omega)))), y2.2.trans (y1.2.trans ((if_neg (by omega) : upz (upz R s none) (s + 1) none b j = upz R s none b j).trans (if_neg (by omega))))⟩
  · have hb : b < s := hb
    exact (f4 b (by show b < s3; omega) (by omega)).trans (g4 b (by show b < s + 1 + 1; omega) (by omega))
theorem k_k1 (g : GG) : KOK Yt (PSt g) t_k1 := by
  intro d ρ α Γ M as gs hgn hd hT hB hA _
  cases List.length_eq_zero_iff.mp hgn
  rw [List.append_nil] at hA
  obtain ⟨m, t, rfl, h1, h2⟩ := ARs.cons (show ARs ρ α Γ [(2, 0, 39, 0), (2, 1, 38, 0)] as from hA)
  obtain ⟨m2, t2, rfl, h3, h4⟩ := ARs.cons h2
  cases h4.nil
  obtain ⟨rfl, g1, -⟩ := h1.ref rfl
  obtain ⟨rfl, g2, -⟩ := h3.ref rfl
  have g1 : Γ (α 0) = 39 := g1
  have g2 : Γ (α 1) = 38 := g2
  cases d with
  | zero => exact absurd hd (by decide)
  | succ d =>
    have hd : 7 ≤ d + 1 := hd
    have lt0 := (hT (α 0) (by rw [g1]; decide)).1
    have lt1 := (hT (α 1) (by rw [g2]; decide)).1
    have hK := (hT (α 0) (by rw [g1]; decide)).2
    rw [g1] at hK
    have hK := And.intro (KD_l hK.1 (by decide)) hK.2
    have b1 := hK.2.1 (1, 2, 0, 11) (by decide) 1 (Nat.le_refl _) (by decide)
    obtain ⟨sv, e1, e2⟩ := tyR hT g1 (by decide) (j := 2) (τ2 := 55) (by decide)
    have lts := (hT sv (by rw [e2]; decide)).1
    have hS := (hT sv (by rw [e2]; decide)).2
    rw [e2] at hS
    have hS := And.intro (KD_l hS.1 (by decide)) hS.2
    obtain ⟨s, u, K, R, I⟩ := M
    have b1 : 0 ≤ I (α 0) 1 ∧ I (α 0) 1 ≤ 11 := b1
    refine Rm.of [vr (α 0), vr (α 1)] (eq_true (show 2 ≤ mmaxl 1 by decide +kernel)) rfl ?_
    have rest : ∀ (Γ1 : Nat → Nat) (s0 u0 : Nat) (K0 : Nat → Nat × Nat) (R0 : Nat → Nat → Option Nat) (I0 : Nat → Nat → Int) (b : Nat), HTy Yt Γ1 (s0, u0, K0, R0, I0) → FRM (kEff t_k1) Γ (s, u, K, R, I) (s0, u0, K0, R0, I0) → GEX s Γ Γ1 → s0 ≤ s + 17 → u0 ≤ u + 2600 → R0 (α 0) 2 = some sv → R0 sv (I (α 0) 1).toNat = some b → Γ1 b = 98 → I0 (α 0) 1 = I (α 0) 1 → Wm d 1 35 [vr (α 0), vr (α 1)] [] (s0, u0, K0, R0, I0) (KPost Yt (PSt g) t_k1 ρ α Γ (s, u, K, R, I)) := by
      intro Γ1 s0 u0 K0 R0 I0 b q1 q2 q3 q4 q5 q6 q8 q9 q10
      have g1' : Γ1 (α 0) = 39 := (q3 _ lt0).trans g1
      have g2' : Γ1 (α 1) = 38 := (q3 _ lt1).trans g2
      have q7 : Γ1 sv = 55 := (q3 _ lts).trans e2
      have hK1 := (q1 (α 0) (by rw [g1']; decide)).2
      rw [g1'] at hK1
      have hK1 := And.intro (KD_l hK1.1 (by decide)) hK1.2
      have hS1 := (q1 sv (by rw [q7]; decide)).2
      rw [q7] at hS1
      have hS1 := And.intro (KD_l hS1.1 (by decide)) hS1.2
      have hB1 := (q1 b (by rw [q9]; decide)).2
      rw [q9] at hB1
      have hB1 := And.intro (KD_l hB1.1 (by decide)) hB1.2
      refine s_aload_n (i := 0) (show decode (mcode 1) 35 = _ by decide +kernel) rfl ?_
      refine s_getR (idx := 11) (c := 0) (j := 2) (show decode (mcode 1) 36 = _ by decide +kernel) (show pool (mcls 1) 11 = _ by decide +kernel) hK1.1 q6 ?_
      refine s_aload_n (i := 0) (show decode (mcode 1) 39 = _ by decide +kernel) rfl ?_
      refine s_getI (idx := 17) (c := 0) (j := 1) (show decode (mcode 1) 40 = _ by decide +kernel) (show pool (mcls 1) 17 = _ by decide +kernel) hK1.1 q10 ?_
      refine s_aald (x := some b) (show decode (mcode 1) 43 = _ by decide +kernel) hS1.1 b1.1 (by show _ < (12 : Int); omega) q8 ?_
      refine s_aload_n (i := 1) (show decode (mcode 1) 44 = _ by decide +kernel) rfl ?_
      refine s_inv1 (idx := 27) (y := 86) (a := b) (c := 10) (x1 := vr (α 1)) (show decode (mcode 1) 45 = _ by decide +kernel) (show pool (mcls 1) 27 = _ by decide +kernel) (by decide +kernel) hB1.1 (by decide +kernel) (by decide +kernel) (Nat.le_of_ble_eq_true rfl) (k_k107k g d ρ (fun i => if i = 0 then b else α 1) Γ1 (s0, u0, K0, R0, I0) [vr b, vr (α 1)] [] rfl (show 2 ≤ d by omega) q1 hB ⟨⟨rfl, q9, by decide⟩, ⟨rfl, g2', by decide⟩, trivial⟩ (fun p hp => absurd hp List.not_mem_nil)) ?_
      intro r M1 q
      obtain ⟨Γ2, r1, r2, r3, r4, r5, r6⟩ := q
      obtain ⟨rfl, -⟩ := (show r = none ∧ _ from r6)
      obtain ⟨g3, c1, -⟩ := cE q1 r2 r3 (lo := 0) (hi := 2) (fun e he => List.all_eq_true.mp (show (kEff t_k107k).all (fun e => efDis e (39, 0, 2)) = true by decide +kernel) e he) g1' (by decide)
      have hK2 := (r1 (α 0) (by rw [g3]; decide)).2
      rw [g3] at hK2
      have hK2 := And.intro (KD_l hK2.1 (by decide)) hK2.2
      have b2 := hK2.2.1 (1, 2, 0, 11) (by decide) 1 (Nat.le_refl _) (by decide)
      have b3 := hK2.2.1 (0, 1, 0, 12) (by decide) 0 (Nat.le_refl _) (by decide)
      obtain ⟨s1, u1, K1, R1, I1⟩ := M1
      have b2 : 0 ≤ I1 (α 0) 1 ∧ I1 (α 0) 1 ≤ 11 := b2
      have b3 : 0 ≤ I1 (α 0) 0 ∧ I1 (α 0) 0 ≤ 12 := b3
      have r4 : s1 ≤ s0 + 0 := r4
      have r5 : u1 ≤ u0 + 0 := r5
      show Wm d 1 48 [vr (α 0), vr (α 1)] [] (s1, u1, K1, R1, I1) _
      have hx : 0 ≤ (wI (I1 (α 0) 1 + 1)).tmod 12 ∧ (wI (I1 (α 0) 1 + 1)).tmod 12 ≤ 11 := by
        rw [wI_id (x := I1 (α 0) 1 + 1) (by unfold inI; omega), Int.tmod_eq_emod_of_nonneg (by omega)]
        omega
      have hy : 0 ≤ mnI 12 (wI (I1 (α 0) 0 + 1)) ∧ mnI 12 (wI (I1 (α 0) 0 + 1)) ≤ 12 := by
        rw [wI_id (x := I1 (α 0) 0 + 1) (by unfold inI; omega)]
        unfold mnI
        split <;> omega
      refine s_aload_n (i := 0) (show decode (mcode 1) 48 = _ by decide +kernel) rfl ?_
      refine s_aload_n (i := 0) (show decode (mcode 1) 49 = _ by decide +kernel) rfl ?_
      refine s_getI (idx := 17) (c := 0) (j := 1) (show decode (mcode 1) 50 = _ by decide +kernel) (show pool (mcls 1) 17 = _ by decide +kernel) hK2.1 rfl ?_
      refine s_iconst (n := 1) (show decode (mcode 1) 53 = _ by decide +kernel) ⟨by decide, by decide⟩ ?_
      refine s_iadd (show decode (mcode 1) 54 = _ by decide +kernel) ?_
      refine s_bipush (n := 12) (show decode (mcode 1) 55 = _ by decide +kernel) ⟨by decide, by decide⟩ (by decide) ?_
      refine s_irem (show decode (mcode 1) 57 = _ by decide +kernel) (by decide) ?_
      refine s_putI (idx := 17) (c := 0) (j := 1) (show decode (mcode 1) 58 = _ by decide +kernel) (show pool (mcls 1) 17 = _ by decide +kernel) hK2.1 (by decide +kernel) rfl ?_
      refine s_aload_n (i := 0) (show decode (mcode 1) 61 = _ by decide +kernel) rfl ?_
      refine s_bipush (n := 12) (show decode (mcode 1) 62 = _ by decide +kernel) ⟨by decide, by decide⟩ (by decide) ?_
      refine s_aload_n (i := 0) (show decode (mcode 1) 64 = _ by decide +kernel) rfl ?_
      refine s_getI (idx := 31) (c := 0) (j := 0) (x := I1 (α 0) 0) (show decode (mcode 1) 65 = _ by decide +kernel) (show pool (mcls 1) 31 = _ by decide +kernel) hK2.1 (if_neg (fun q => absurd q.2 (by decide))) ?_
      refine s_iconst (n := 1) (show decode (mcode 1) 68 = _ by decide +kernel) ⟨by decide, by decide⟩ ?_
      refine s_iadd (show decode (mcode 1) 69 = _ by decide +kernel) ?_
      refine s_min (show decode (mcode 1) 70 = _ by decide +kernel) (show pool (mcls 1) 34 = _ by decide +kernel) (Nat.le_of_ble_eq_true rfl) ?_
      refine s_putI (idx := 31) (c := 0) (j := 0) (show decode (mcode 1) 73 = _ by decide +kernel) (show pool (mcls 1) 31 = _ by decide +kernel) hK2.1 (by decide +kernel) rfl ?_
      generalize (wI (I1 (α 0) 1 + 1)).tmod 12 = x at hx ⊢
      generalize mnI 12 (wI (I1 (α 0) 0 + 1)) = y at hy ⊢
      have t1 : HTy Yt Γ2 (s1, u1, K1, R1, up I1 (α 0) 1 x) := HT_up (lo := 1) (hi := 2) (p := (0, 11)) r1 (by decide) (by decide) (by rw [g3]; decide) hx
      have t2 : HTy Yt Γ2 (s1, u1, K1, R1, up (up I1 (α 0) 1 x) (α 0) 0 y) := HT_up (lo := 0) (hi := 1) (p := (0, 12)) t1 (by decide) (by decide) (by rw [g3]; decide) hy
      have f0 : FRM (kEff t_k1) Γ1 (s0, u0, K0, R0, I0) (s1, u1, K1, R1, I1) := FRM_weak r2 (by decide +kernel)
      have f1 : FRM [(39, 1, 2)] Γ2 (s1, u1, K1, R1, I1) (s1, u1, K1, R1, up I1 (α 0) 1 x) := by
        have := FRM_up (Γ := Γ2) (s := s1) (u := u1) (K := K1) (R := R1) (I := I1) (a := α 0) (j := 1) (lo := 1) (hi := 2) (x := x) (by decide) (by decide) (by rw [g3]; decide)
        rw [g3] at this
        exact this
      have f2 : FRM [(39, 0, 1)] Γ2 (s1, u1, K1, R1, up I1 (α 0) 1 x) (s1, u1, K1, R1, up (up I1 (α 0) 1 x) (α 0) 0 y) := by
        have := FRM_up (Γ := Γ2) (s := s1) (u := u1) (K := K1) (R := R1) (I := up I1 (α 0) 1 x) (a := α 0) (j := 0) (lo := 0) (hi := 1) (x := y) (by decide) (by decide) (by rw [g3]; decide)
        rw [g3] at this
        exact this
      have l0 : s ≤ s0 := q2.1
      have q3' : GEX s Γ Γ2 := fun a ha => (r3 a (Nat.lt_of_lt_of_le ha l0)).trans (q3 a ha)
      refine s_vret (show decode (mcode 1) 76 = _ by decide +kernel) (show mret 1 = _ by decide +kernel) ⟨Γ2, t2, ((q2.trans q3 f0 (by decide +kernel)).trans q3' f1 (by decide +kernel)).trans q3' f2 (by decide +kernel), q3', (by show s1 ≤ s + 17; omega), (by show u1 ≤ u + 2600; omega), rfl, fun p hp => absurd hp List.not_mem_nil⟩
    refine s_aload_n (i := 0) (show decode (mcode 1) 0 = _ by decide +kernel) rfl ?_
    refine s_getR (idx := 11) (c := 0) (j := 2) (show decode (mcode 1) 1 = _ by decide +kernel) (show pool (mcls 1) 11 = _ by decide +kernel) hK.1 e1 ?_
    refine s_aload_n (i := 0) (show decode (mcode 1) 4 = _ by decide +kernel) rfl ?_
    refine s_getI (idx := 17) (c := 0) (j := 1) (show decode (mcode 1) 5 = _ by decide +kernel) (show pool (mcls 1) 17 = _ by decide +kernel) hK.1 rfl ?_
    refine s_aald (show decode (mcode 1) 8 = _ by decide +kernel) hS.1 b1.1 (by show _ < (12 : Int); omega) rfl ?_
    refine s_ifnonnull (off := 26) 35 (show decode (mcode 1) 9 = _ by decide +kernel) (by decide) (fun hn => ?_) (fun _ => ?_)
    · obtain ⟨b, hb, hb2⟩ : ∃ b, R sv (I (α 0) 1).toNat = some b ∧ Γ b = 98 := by
        rcases hS.2.2 (0, 12, 98, true) (by decide) (I (α 0) 1).toNat (Nat.zero_le _) (by show _ < 12; omega) with h | ⟨b, h5, h6, -⟩
        · exact absurd h.1 hn
        · exact ⟨b, h5, h6⟩
      exact rest Γ s u K R I b hT (FRM.refl _ _ _) (fun _ _ => rfl) (by omega) (by omega) e1 hb hb2 rfl
    · refine s_aload_n (i := 0) (show decode (mcode 1) 12 = _ by decide +kernel) rfl ?_
      refine s_getR (idx := 11) (c := 0) (j := 2) (show decode (mcode 1) 13 = _ by decide +kernel) (show pool (mcls 1) 11 = _ by decide +kernel) hK.1 e1 ?_
      refine s_aload_n (i := 0) (show decode (mcode 1) 16 = _ by decide +kernel) rfl ?_
      refine s_getI (idx := 17) (c := 0) (j := 1) (show decode (mcode 1) 17 = _ by decide +kernel) (show pool (mcls 1) 17 = _ by decide +kernel) hK.1 rfl ?_
      refine  mk_whole (E := [(62, 0, 144), (63, 0, 144), (64, 0, 144), (65, 0, 288), (57, 0, 1), (57, 1, 2), (73, 0, 144)]) hT ct_7k ct_106k (by decide +kernel) (by omega) (Nat.le_of_ble_eq_true rfl) (show decode (mcode 1) 20 = _ by decide +kernel) (show decode (mcode 1) 23 = _ by decide +kernel) (show decode (mcode 1) 24 = _ by decide +kernel) (show decode (mcode 1) 27 = _ by decide +kernel) (show decode (mcode 1) 28 = _ by decide +kernel) (show decode (mcode 1) 31 = _ by decide +kernel) (show pool (mcls 1) 9 = _ by decide +kernel) (show pool (mcls 1) 21 = _ by decide +kernel) (show pool (mcls 1) 23 = _ by decide +kernel) (show pool (mcls 1) 24 = _ by decide +kernel) ?_
      intro Γ2 M2 f1 f2 f3 f4 f5 f6
      obtain ⟨s2, u2, K2, R2, I2⟩ := M2
      have f5 : s2 ≤ s + 17 := f5
      have f6 : u2 ≤ u + 2138 := f6
      have f2 : Γ2 s = 98 := f2
      have hdis : ∀ q ∈ [(39, 0, 3), (55, 0, 12)], ∀ e ∈ [(62, 0, 144), (63, 0, 144), (64, 0, 144), (65, 0, 288), (57, 0, 1), (57, 1, 2), (73, 0, 144)], efDis e q = true := fun q hq e he => List.all_eq_true.mp (List.all_eq_true.mp (show ([(39, 0, 3), (55, 0, 12)] : List EF).all (fun q => ([(62, 0, 144), (63, 0, 144), (64, 0, 144), (65, 0, 288), (57, 0, 1), (57, 1, 2), (73, 0, 144)] : List EF).all fun e => efDis e q) = true by decide +kernel) q hq) e he
      obtain ⟨g3, c1, c2⟩ := cE hT f3 f4 (lo := 0) (hi := 3) (hdis _ List.mem_cons_self) g1 (by decide)
      have g4 : Γ2 sv = 55 := (f4 _ lts).trans e2
      have hS2 := (f1 sv (by rw [g4]; decide)).2
      rw [g4] at hS2
      have hS2 := And.intro (KD_l hS2.1 (by decide)) hS2.2
      have hW2 := (f1 s (by rw [f2]; decide)).2
      rw [f2] at hW2
      have hW2 := And.intro (KD_l hW2.1 (by decide)) hW2.2
      have c1 : I2 (α 0) 1 = I (α 0) 1 := c1 1 (by decide) (by decide)
      have c2 : R2 (α 0) 2 = R (α 0) 2 := c2 2 (by decide) (by decide)
      have hne : α 0 ≠ sv := fun h => by rw [h, g4] at g3; exact absurd g3 (by decide)
      have hu : HTy Yt Γ2 (s2, u2, K2, up R2 sv (I (α 0) 1).toNat (some s), I2) := HT_upR f1 (fun r hr _ _ => by
        rw [g4] at hr
        cases List.mem_singleton.mp (show r ∈ [(0, 12, 98, true)] from hr)
        exact ⟨f2, by decide⟩)
      have fu : FRM [(55, 0, 12)] Γ2 (s2, u2, K2, R2, I2) (s2, u2, K2, up R2 sv (I (α 0) 1).toNat (some s), I2) := by
        have := FRM_upR (Γ := Γ2) (s := s2) (u := u2) (K := K2) (R := R2) (I := I2) (a := sv) (j := (I (α 0) 1).toNat) (lo := 0) (hi := 12) (x := some s) (Nat.zero_le _) (by omega) (by rw [g4]; decide)
        rw [g4] at this
        exact this
      have fw : FRM (kEff t_k1) Γ (s, u, K, R, I) (s2, u2, K2, R2, I2) := FRM_weak f3 (by decide +kernel)
      exact s_aast (show decode (mcode 1) 34 = _ by decide +kernel) hS2.1 hW2.1 b1.1 (by show _ < (12 : Int); omega) rfl (rest Γ2 s2 u2 K2 (up R2 sv (I (α 0) 1).toNat (some s)) I2 s hu (fw.trans f4 fu (by decide +kernel)) f4 f5 (by omega) ((if_neg (fun q => hne q.1) : up R2 sv (I (α 0) 1).toNat (some s) (α 0) 2 = R2 (α 0) 2).trans (c2.trans e1)) (if_pos ⟨rfl, rfl⟩) f2 c1)
