/-! the law's run -/
def gA : Nat → Nat := fun a => cond (Nat.beq a 0) 139 0
theorem gA_ne {a : Nat} (h : a ≠ 0) : gA a = 0 := by
  unfold gA
  cases hb : Nat.beq a 0 with
  | true => exact absurd (beq_iff.mp hb) h
  | false => rfl
theorem gA_T (L : Nat) (xs : Nat → Int32) : HTy Yt gA (mM0 L xs) := by
  intro a ha
  by_cases h : a = 0
  · subst h
    refine ⟨Nat.lt_succ_self 0, Or.inl ⟨by decide, by decide⟩, fun r hr => ?_, fun r hr => ?_⟩
    · have hr : r ∈ (Yt 139).2.2.1 := hr
      rw [show (Yt 139).2.2.1 = [] by decide] at hr
      exact absurd hr List.not_mem_nil
    · have hr : r ∈ (Yt 139).2.2.2 := hr
      rw [show (Yt 139).2.2.2 = [] by decide] at hr
      exact absurd hr List.not_mem_nil
  · exact absurd (gA_ne h) ha
theorem mM0_in (L : Nat) (xs : Nat → Int32) (j : Nat) : -2147483648 ≤ (mM0 L xs).2.2.2.2 0 j ∧ (mM0 L xs).2.2.2.2 0 j ≤ 2147483647 := by
  show -2147483648 ≤ (if 0 = 0 ∧ j < L then (xs j).toInt else 0) ∧ (if 0 = 0 ∧ j < L then (xs j).toInt else 0) ≤ 2147483647
  split
  · exact ⟨(oi_in (xs j)).1, by have := (oi_in (xs j)).2; omega⟩
  · exact ⟨by decide, by decide⟩
theorem rk_at {K : Nat → Nat × Nat} {a : Nat} {q : Nat × Nat} : upk K a q a = q := if_pos rfl
theorem rk_ne {K : Nat → Nat × Nat} {a b : Nat} {q : Nat × Nat} (h : b ≠ a) : upk K a q b = K b := if_neg h
theorem rR_at {R : Nat → Nat → Option Nat} {a j : Nat} : upz R a none a j = none := if_pos rfl
theorem rI_at {I : Nat → Nat → Int} {a j : Nat} : upz I a 0 a j = 0 := if_pos rfl
theorem rI_ne {I : Nat → Nat → Int} {a b j : Nat} (h : b ≠ a) : upz I a 0 b j = I b j := if_neg h
theorem no139 : ∀ e ∈ ([(2, 0, 144), (3, 0, 144), (4, 0, 144), (5, 0, 288), (56, 0, 1), (56, 1, 2), (13, 0, 144), (113, 0, 144)] : List EF), 139 ≠ e.1 := by decide
theorem mM0_K (L : Nat) (xs : Nat → Int32) : (mM0 L xs).2.2.1 0 = (23, L) := rfl
theorem upI_at {ρ : Nat → Int} {n : Nat} {x : Int} : upI ρ n x n = x := if_pos rfl
def rhoA (n : Int) : Nat → Int := fun i => cond (Nat.beq i 2) n 0
def alA : Nat → Nat := fun i => cond (Nat.beq i 0) 0 1
def alB : Nat → Nat := fun i => cond (Nat.beq i 0) 1 0
set_option maxRecDepth 100000 in
theorem law_run : whole_run := by
  intro L xs hL
  refine ⟨1300, Nat.le_refl _, ?_⟩
  have hT0 := gA_T L xs
  have hI0 := mM0_in L xs
  have hK0 := mM0_K L xs
  generalize hM : mM0 L xs = M at hT0 hI0 hK0
  have hM1 : M.1 = 1 ∧ M.2.1 = 0 := by rw [← hM]; exact ⟨rfl, rfl⟩
  obtain ⟨s, u, K, R, I⟩ := M
  obtain ⟨hs, hu⟩ := hM1
  have hs : s = 1 := hs
  have hu : u = 0 := hu
  subst hs
  subst hu
  have hT1 := HTy_new hT0 11 0 14
  refine s_new (idx := 20) (c := 11) (n := 14) (show decode (mcode 131) 0 = _ by decide +kernel) (show pool (mcls 131) 20 = _ by decide +kernel) ?_
  refine s_dup (show decode (mcode 131) 3 = _ by decide +kernel) rfl ?_
  refine s_ini0 (idx := 49) (y := 96) (show decode (mcode 131) 4 = _ by decide +kernel) (show pool (mcls 131) 49 = _ by decide +kernel) (show mstat 96 = _ by decide +kernel) (show ((mname 96).name == "<init>") = _ by decide +kernel) (show (1 : Nat) ≤ 8 by decide) (ct_117 1300 gA _ 1 (by decide) hT1 rfl (Nat.lt_succ_self 1) (rk_at : upk K 1 (11, 0) 1 = (11, 0)) (fun j => (rR_at : upz R 1 none 1 j = none)) (fun j => (rI_at : upz I 1 0 1 j = 0))) ?_
  rintro r M1 ⟨hr, Γ2, kM, w, t, c, p1, p2, p3, p4⟩
  refine ⟨hr, ?_⟩
  have hT2 := MK_seal kM (τ := 54) (by decide +kernel)
  obtain ⟨-, k2, -, -, k5, -, -, k8, k9, k10, k11⟩ := kM
  obtain ⟨w', w1, w2, w3, -⟩ := k5 (0, 38, false) (by decide)
  obtain ⟨t', t1, t2, t3, -⟩ := k5 (1, 138, false) (by decide)
  obtain ⟨b, b1, b2, b3, b4⟩ := k5 (3, 17, true) (by decide)
  rw [p1] at w1
  cases w1
  rw [p2] at t1
  cases t1
  obtain ⟨e1, e2⟩ := k8.2 0 (Nat.succ_pos _) (by decide)
  have g0 : Γ2 0 = 139 := (k9 0 (Nat.succ_pos _) (by decide)).trans rfl
  have nw : w ≠ 1 := fun q => w3 (by rw [← w2, q]; exact k2)
  have nt : t ≠ 1 := fun q => t3 (by rw [← t2, q]; exact k2)
  have nb : b ≠ 1 := fun q => b3 (by rw [← b2, q]; exact k2)
  have g0' : gup Γ2 1 54 0 = 139 := (gup_ne (by decide)).trans g0
  have g1' : gup Γ2 1 54 1 = 54 := gup_at
  have f750 : PSt (0, 0, 0) 750 [vr 0] (gup Γ2 1 54) M1 := by
    refine ⟨g0', ⟨L, e1.trans ((rk_ne (by decide) : upk K 1 (11, 0) 0 = K 0).trans hK0), Nat.le_trans hL (by decide)⟩, fun j _ => ?_⟩
    have := (e2 j (fun e he q _ _ => absurd (show 139 = e.1 from q) (no139 e he))).1
    rw [this]
    show -2147483648 ≤ upz I 1 0 0 j ∧ upz I 1 0 0 j ≤ 2147483647
    rw [rI_ne (by decide)]
    exact hI0 j
  have f751 : PSt (0, 0, 0) 751 [vr 1] (gup Γ2 1 54) M1 := ⟨g1', w, t, c, ⟨p1, p2⟩, ⟨p3, p4⟩, (gup_ne nw).trans w2, (gup_ne nt).trans t2⟩
  have f992 : PSt (0, 0, 0) 992 [vr 1, vi 0, vi 0, vi 0, vi 0] (gup Γ2 1 54) M1 := by
    refine ⟨g1', pic1 hT2 g1' (by decide) (by decide), ?_⟩
    show vsv M1 1 ([(3, 17)], 0, 1) 0 ≤ 50000 * 0 + 200 * 0 + 200 * 0 + 200 * 0
    rw [(vs1 b1 (Nat.le_refl _) (by decide) : vsv M1 1 ([(3, 17)], 0, 1) 0 = M1.2.2.2.2 b 0), b4 rfl 0]
    decide
  generalize gup Γ2 1 54 = Γ3 at hT2 g0' g1' f750 f751 f992
  obtain ⟨s1, u1, K1, R1, I1⟩ := M1
  refine s_astore_n (i := 1) (ls2 := [vr 0, vr 1, vn, vn, vn, vn, vn, vn, vn, vn, vn, vn, vn, vn, vn]) (show decode (mcode 131) 7 = _ by decide +kernel) (by decide) rfl ?_
  refine s_aload_n (i := 1) (show decode (mcode 131) 8 = _ by decide +kernel) rfl (s_aload_n (i := 0) (show decode (mcode 131) 9 = _ by decide +kernel) rfl ?_)
  refine s_sta2 (idx := 50) (y := 125) (show decode (mcode 131) 10 = _ by decide +kernel) (show pool (mcls 131) 50 = _ by decide +kernel) (show mstat 125 = _ by decide +kernel) (show (0 : Nat) ≤ 8 by decide) (k_k1125 (0, 0, 0) 1300 (fun _ => 0) alB Γ3 (s1, u1, K1, R1, I1) [vr 1, vr 0] [] rfl (by decide) hT2 ?_ ⟨⟨rfl, g1', by decide⟩, ⟨rfl, g0', by decide⟩, trivial⟩ (fun p hp => by cases List.mem_singleton.mp hp; exact f750)) ?_
  · intro i
    match i with
    | 0 => exact ⟨by decide, by decide⟩
    | 1 => exact ⟨by decide, by decide⟩
    | i + 2 => exact ⟨(by decide : (-2147483648 : Int) ≤ 0), (by decide : (0 : Int) ≤ 2147483647)⟩
  rintro r M2 ⟨Γ4, q1, q2, q3, q4, q5, q6⟩
  obtain ⟨n, rfl, n1, n2, n3⟩ := q6
  have f733 : PSt (0, 0, 0) 733 [vr 1] Γ4 M2 := n3 _ (List.mem_of_getElem? (i := 0) rfl)
  have f734 : PSt (0, 0, 0) 734 [vr 1] Γ4 M2 := n3 _ (List.mem_of_getElem? (i := 1) rfl)
  have f740 : PSt (0, 0, 0) 740 [vr 1, vi n] Γ4 M2 := by
    have := n3 _ (List.mem_of_getElem? (i := 2) rfl)
    have e : PSt (0, 0, 0) 740 [vr 1, vi (upI (fun _ => 0) 2 n 2 + 0)] Γ4 M2 := this
    rw [upI_at, Int.add_zero] at e
    exact e
  have F750 := PSt_ok (0, 0, 0) 750 [vr 0] Γ3 Γ4 (s1, u1, K1, R1, I1) M2 _ rfl hT2 q1 q2 q3 (by decide) f750
  have F751 := PSt_ok (0, 0, 0) 751 [vr 1] Γ3 Γ4 (s1, u1, K1, R1, I1) M2 _ rfl hT2 q1 q2 q3 (by decide) f751
  have F992 := PSt_ok (0, 0, 0) 992 [vr 1, vi 0, vi 0, vi 0, vi 0] Γ3 Γ4 (s1, u1, K1, R1, I1) M2 _ rfl hT2 q1 q2 q3 (by decide) f992
  have h0 : Γ4 0 = 139 := F750.1
  have h1 : Γ4 1 = 54 := F751.1
  have n1 : 4 ≤ n := n1
  have n2 : n ≤ 81 := n2
  obtain ⟨s2, u2, K2, R2, I2⟩ := M2
  refine s_istore_n (i := 2) (ls2 := [vr 0, vr 1, vi n, vn, vn, vn, vn, vn, vn, vn, vn, vn, vn, vn, vn]) (show decode (mcode 131) 13 = _ by decide +kernel) (show (2 : Nat) < 15 by decide) rfl (s_iconst (n := 0) (show decode (mcode 131) 14 = _ by decide +kernel) ⟨by decide, by decide⟩ (s_istore_n (i := 3) (ls2 := [vr 0, vr 1, vi n, vi 0, vn, vn, vn, vn, vn, vn, vn, vn, vn, vn, vn]) (show decode (mcode 131) 15 = _ by decide +kernel) (show (3 : Nat) < 15 by decide) rfl ?_))
  have hh : (match (ops 131).drop 10 with | e :: _ => Nat.beq e.1 16 | [] => false) = true := by decide +kernel
  split at hh
  · rename_i e r hq
    have he : e.1 = 16 := beq_iff.mp hh
    have W := k_sg0 (0, 0, 0) 1300 (rhoA n) alA Γ4 (s2, u2, K2, R2, I2) [vr 0, vr 1, vi n, vi 0, vn, vn, vn, vn, vn, vn, vn, vn, vn, vn, vn] (by decide) q1 (fun i => ?_) ⟨⟨rfl, h0, by decide⟩, ⟨rfl, h1, by decide⟩, by show vi n = vi (n + 0); rw [Int.add_zero], rfl, trivial, trivial, trivial, trivial, trivial, trivial, trivial, trivial, trivial, trivial, trivial, trivial⟩ (fun p hp => ?_) e r hq
    · rw [he] at W
      refine W.imp fun r M3 q => ?_
      obtain ⟨Γ5, -, -, -, z4, z5, z6⟩ := q
      have z4 : M3.1 ≤ s2 + 646 := z4
      have z5 : M3.2.1 ≤ u2 + 98800 := z5
      have q4 : s2 ≤ s1 + 459 := q4
      have q5 : u2 ≤ u1 + 70200 := q5
      have k10 : s1 ≤ 1 + 1 + 52 := k10
      have k11 : u1 ≤ 0 + 14 + 10360 := k11
      refine ⟨?_, by omega, by omega⟩
      rcases (show (r = some (vi 1) ∧ _) ∨ (r = some (vi 0) ∧ CNDok _ _ _ _ _ (kF t_sg0)) from z6) with ⟨z, -⟩ | ⟨-, z⟩
      · exact z
      · have z : (1 : Int) ≤ rhoA n 2 ∧ rhoA n 2 ≤ 0 := z.1 _ List.mem_cons_self
        omega
    · match i with
      | 0 => exact ⟨(by decide : (0 : Int) ≤ 0), (by decide : (0 : Int) ≤ 0)⟩
      | 1 => exact ⟨(by decide : (0 : Int) ≤ 0), (by decide : (0 : Int) ≤ 0)⟩
      | 2 => exact ⟨n1, n2⟩
      | 3 => exact ⟨(by decide : (0 : Int) ≤ 0), (by decide : (0 : Int) ≤ 0)⟩
      | i + 4 => exact ⟨(by decide : (-2147483648 : Int) ≤ 0), (by decide : (0 : Int) ≤ 2147483647)⟩
    · simp only [t_sg0, kPre, List.mem_cons, List.not_mem_nil, or_false] at hp
      rcases hp with rfl | rfl | rfl | rfl | rfl | rfl
      · exact F750
      · exact f733
      · exact f734
      · exact F751
      · exact (by show PSt (0, 0, 0) 740 [vr 1, vi (n + 0)] Γ4 _; rw [Int.add_zero]; exact f740)
      · exact F992
  · cases hh
