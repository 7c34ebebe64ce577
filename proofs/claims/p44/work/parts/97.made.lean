/-! the making of the two programs -/
theorem ilv_up {il : List (Nat × Int)} {j i : Nat} {x : Int} : ilv ((j, x) :: il) i = if i = j then x else ilv il i := by
  unfold ilv
  rw [List.find?_cons]
  by_cases h : j = i
  · rw [show Nat.beq (j, x).1 i = true from beq_iff.mpr h, if_pos h.symm]
  · have e : Nat.beq (j, x).1 i = false := by
      cases hb : Nat.beq (j, x).1 i with
      | false => rfl
      | true => exact absurd (beq_iff.mp hb) h
    rw [e, if_neg (fun q => h q.symm)]
theorem MK_putI {Γ0 : Nat → Nat} {M0 : MM} {E : List EF} {a C da ds : Nat} {fs : List (Nat × Nat × Bool)} {il : List (Nat × Int)} {Γ : Nat → Nat} {s u : Nat} {K : Nat → Nat × Nat} {R : Nat → Nat → Option Nat} {I : Nat → Nat → Int} (h : MK Γ0 M0 E a C da ds fs il Γ (s, u, K, R, I)) {j : Nat} {x : Int} : MK Γ0 M0 E a C da ds fs ((j, x) :: il) Γ (s, u, K, R, up I a j x) := by
  obtain ⟨k1, k2, k3, k4, k5, k6, k7, ⟨k8, k9⟩, k10, k11, k12⟩ := h
  refine ⟨HTy_uI k1 k2, k2, k3, k4, fun q hq => ?_, k6, fun i => ?_, ⟨k8, fun b b1 b2 => ⟨(k9 b b1 b2).1, fun i hi => ⟨?_, ((k9 b b1 b2).2 i hi).2⟩⟩⟩, k10, k11, k12⟩
  · obtain ⟨b, b1, b2, b3, b4⟩ := k5 q hq
    refine ⟨b, b1, b2, b3, fun hz i => ?_⟩
    have hb : b ≠ a := fun e => b3 (by rw [← b2, e, k2])
    show up I a j x b i = 0
    rw [show up I a j x b i = I b i from if_neg (fun q => hb q.1)]
    exact b4 hz i
  · show up I a j x a i = _
    rw [ilv_up]
    unfold up
    by_cases h : i = j
    · rw [if_pos ⟨rfl, h⟩, if_pos h]
    · rw [if_neg (fun q => h q.2), if_neg h]
      exact k7 i
  · show up I a j x b i = _
    rw [show up I a j x b i = I b i from if_neg (fun q => b2 q.1)]
    exact ((k9 b b1 b2).2 i hi).1
def fsT : List (Nat × Nat × Bool) := [(0, 38, false), (1, 138, false), (2, 39, true), (3, 17, true), (4, 19, true), (5, 21, true), (6, 26, true), (7, 31, true), (8, 35, true)]
theorem ct_117 (d : Nat) (Γ : Nat → Nat) (M : MM) (a : Nat) (hd : 5 ≤ d) (hT : HTy Yt Γ M) (h1 : Γ a = 0) (h2 : a < M.1) (h3 : M.2.2.1 a = (11, 0)) (h4 : ∀ j, M.2.2.2.1 a j = none) (h5 : ∀ j, M.2.2.2.2 a j = 0) : Rm d 96 [vr a] M (fun r M2 => r = none ∧ ∃ Γ2, MK Γ M [(2, 0, 144), (3, 0, 144), (4, 0, 144), (5, 0, 288), (56, 0, 1), (56, 1, 2), (13, 0, 144), (113, 0, 144)] a 11 52 10360 fsT [(10, -1)] Γ2 M2 ∧ ∃ w t c, M2.2.2.2.1 a 0 = some w ∧ M2.2.2.2.1 a 1 = some t ∧ M2.2.2.2.1 w 0 = some c ∧ M2.2.2.2.1 t 0 = some c) := by
  cases d with
  | zero => exact absurd hd (by decide)
  | succ d =>
  refine Rm.of [vr a] (eq_true (show 1 ≤ mmaxl 96 by decide +kernel)) rfl ?_
  have k0 := MK_init (E := [(2, 0, 144), (3, 0, 144), (4, 0, 144), (5, 0, 288), (56, 0, 1), (56, 1, 2), (13, 0, 144), (113, 0, 144)]) (C := 11) hT h1 h2 h3 h4 h5
  obtain ⟨s, u, K, R, I⟩ := M
  have h2 : a < s := h2
  refine s_aload_n (i := 0) (show decode (mcode 96) 0 = _ by decide +kernel) rfl (s_obj (idx := 3) (show decode (mcode 96) 1 = _ by decide +kernel) (show pool (mcls 96) 3 = _ by decide +kernel) (by decide) ?_)
  refine s_aload_n (i := 0) (show decode (mcode 96) 4 = _ by decide +kernel) rfl ?_
  refine mk_whole (E := [(2, 0, 144), (3, 0, 144), (4, 0, 144), (5, 0, 288), (56, 0, 1), (56, 1, 2), (13, 0, 144)]) hT ct_7 ct_106 (by decide +kernel) (by omega) (Nat.le_of_ble_eq_true rfl) (show decode (mcode 96) 5 = _ by decide +kernel) (show decode (mcode 96) 8 = _ by decide +kernel) (show decode (mcode 96) 9 = _ by decide +kernel) (show decode (mcode 96) 12 = _ by decide +kernel) (show decode (mcode 96) 13 = _ by decide +kernel) (show decode (mcode 96) 16 = _ by decide +kernel) (show pool (mcls 96) 9 = _ by decide +kernel) (show pool (mcls 96) 11 = _ by decide +kernel) (show pool (mcls 96) 13 = _ by decide +kernel) (show pool (mcls 96) 14 = _ by decide +kernel) ?_
  intro Γ1 M1 f1 f2 f3 f4 f5 f6
  have g0 := MK_go k0 s (by omega) (Nat.le_refl _) (HTy_un hT (Nat.le_refl _)) f1 (FRA_of f3) (fun b b1 _ => f4 b b1) (by decide +kernel) f5 f6
  obtain ⟨s1, u1, K1, R1, I1⟩ := M1
  refine s_putR (idx := 17) (c := 11) (j := 0) (show decode (mcode 96) 19 = _ by decide +kernel) (show pool (mcls 96) 17 = _ by decide +kernel) g0.2.2.2.1 (Or.inr ⟨by decide +kernel, by decide +kernel⟩) rfl ?_
  have k1 := MK_put (j := 0) (z := false) g0 (by decide) f2 (by decide) (fun h => absurd h (by decide))
  refine s_aload_n (i := 0) (show decode (mcode 96) 22 = _ by decide +kernel) rfl ?_
  have hs1 : Γ1 s1 = 0 := HTy_un k1.1 (Nat.le_refl _)
  have l1 : s ≤ s1 := k1.2.2.2.2.2.2.2.1.1
  have la : a < s1 := k1.2.2.1
  obtain ⟨w, w1, w2, -, -⟩ := k1.2.2.2.2.1 (0, 38, false) (by decide)
  obtain ⟨ch, c1, c2⟩ := tyR k1.1 w2 (by decide) (j := 0) (τ2 := 1) (by decide)
  have hw := k1.1 w (by rw [w2]; decide)
  rw [w2] at hw
  have lw : w < s1 := hw.1
  have kw : K1 w = (10, 0) := KD_l hw.2.1 (by decide)
  have n2 := MK_new k1 h2 10 0 3
  refine s_new (show decode (mcode 96) 23 = _ by decide +kernel) (show pool (mcls 96) 9 = _ by decide +kernel) (s_dup (show decode (mcode 96) 26 = _ by decide +kernel) rfl (s_aload_n (i := 0) (show decode (mcode 96) 27 = _ by decide +kernel) rfl (s_getR (idx := 17) (c := 11) (j := 0) (b := w) (show decode (mcode 96) 28 = _ by decide +kernel) (show pool (mcls 96) 17 = _ by decide +kernel) n2.2.2.2.1 ((if_neg (by omega)).trans w1) (s_getR (idx := 21) (c := 10) (j := 0) (b := ch) (show decode (mcode 96) 31 = _ by decide +kernel) (show pool (mcls 96) 21 = _ by decide +kernel) ((if_neg (by omega)).trans kw) ((if_neg (by omega)).trans c1) (s_ini1 (show decode (mcode 96) 34 = _ by decide +kernel) (show pool (mcls 96) 14 = _ by decide +kernel) (show mstat 85 = _ by decide +kernel) (show ((mname 85).name == "<init>") = _ by decide +kernel) (Nat.le_of_ble_eq_true rfl) (ct_106t d Γ1 _ s1 ch (by omega) n2.1 hs1 (Nat.lt_succ_self _) (if_pos rfl) (fun _ => if_pos rfl) (fun _ => if_pos rfl) c2) ?_)))))
  rintro r M2 ⟨⟨hr, Γ2, e1, e2, e3, e4, e5, e6, -⟩, ex⟩
  refine ⟨hr, ?_⟩
  have ua := (e3.2 a (Nat.lt_succ_of_lt la) (by omega)).2 0 (fun _ _ _ _ _ => k1.2.1)
  have uw := (e3.2 w (Nat.lt_succ_of_lt lw) (by omega)).2 0 (fun e he q1 _ _ => by cases List.mem_singleton.mp he; rw [w2] at q1; exact absurd q1 (by decide))
  have v1 : M2.2.2.2.1 a 0 = some w := ua.2.trans ((if_neg (by omega)).trans w1)
  have v2 : M2.2.2.2.1 w 0 = some ch := uw.2.trans ((if_neg (by omega)).trans c1)
  have v3 : Γ2 w = 38 := (e4 w (Nat.lt_succ_of_lt lw) (by omega)).trans w2
  have v4 : Γ2 a = 0 := (e4 a (Nat.lt_succ_of_lt la) (by omega)).trans k1.2.1
  have v5 := e3.1
  have g2 := MK_go n2 s1 (by omega) l1 hs1 e1 e3 e4 (by decide +kernel) e5 e6
  obtain ⟨s2, u2, K2, R2, I2⟩ := M2
  refine s_putR (idx := 25) (c := 11) (j := 1) (show decode (mcode 96) 37 = _ by decide +kernel) (show pool (mcls 96) 25 = _ by decide +kernel) g2.2.2.2.1 (Or.inr ⟨by decide +kernel, by decide +kernel⟩) rfl ?_
  have q0 := MK_put (j := 1) (z := false) g2 (by decide) e2 (by decide) (fun h => absurd h (by decide))
  have v5 : s1 + 1 ≤ s2 := v5
  have v1 : R2 a 0 = some w := v1
  have v2 : R2 w 0 = some ch := v2
  have ex : R2 s1 0 = some ch := ex
  have r0 : PIN [(a, 0, w), (a, 1, s1), (w, 0, ch), (s1, 0, ch)] (fun b => cond (Nat.beq b a) 0 (cond (Nat.beq b w) 38 138)) Γ2 (s2, u2, K2, up R2 a 1 (some s1), I2) := by
    have na : Nat.beq a a = true := beq_iff.mpr rfl
    have nw : Nat.beq w a = false := by cases hb : Nat.beq w a with | false => rfl | true => exact absurd (beq_iff.mp hb) (fun q => by rw [q, k1.2.1] at w2; cases w2)
    have nw2 : Nat.beq w w = true := beq_iff.mpr rfl
    have ns : Nat.beq s1 a = false := by cases hb : Nat.beq s1 a with | false => rfl | true => exact absurd (beq_iff.mp hb) (by omega)
    have ns2 : Nat.beq s1 w = false := by cases hb : Nat.beq s1 w with | false => rfl | true => exact absurd (beq_iff.mp hb) (by omega)
    intro p hp
    simp only [List.mem_cons, List.not_mem_nil, or_false] at hp
    rcases hp with rfl | rfl | rfl | rfl
    · refine ⟨(if_neg (fun q => absurd q.2 (show (0 : Nat) ≠ 1 by decide)) : up R2 a 1 (some s1) a 0 = R2 a 0).trans v1, ?_, show a < s2 by omega⟩
      show Γ2 a = cond (Nat.beq a a) 0 (cond (Nat.beq a w) 38 138)
      rw [na, cond_true]
      exact v4
    · refine ⟨(if_pos ⟨rfl, rfl⟩ : up R2 a 1 (some s1) a 1 = some s1), ?_, show a < s2 by omega⟩
      show Γ2 a = cond (Nat.beq a a) 0 (cond (Nat.beq a w) 38 138)
      rw [na, cond_true]
      exact v4
    · refine ⟨(if_neg (fun q => absurd q.2 (show (0 : Nat) ≠ 1 by decide)) : up R2 a 1 (some s1) w 0 = R2 w 0).trans v2, ?_, show w < s2 by omega⟩
      show Γ2 w = cond (Nat.beq w a) 0 (cond (Nat.beq w w) 38 138)
      rw [nw, cond_false, nw2, cond_true]
      exact v3
    · refine ⟨(if_neg (fun q => absurd q.2 (show (0 : Nat) ≠ 1 by decide)) : up R2 a 1 (some s1) s1 0 = R2 s1 0).trans ex, ?_, show s1 < s2 by omega⟩
      show Γ2 s1 = cond (Nat.beq s1 a) 0 (cond (Nat.beq s1 w) 38 138)
      rw [ns, cond_false, ns2, cond_false]
      exact e2
  have hpe : ∀ (E2 : List EF), (E2.all fun e => not (Nat.beq e.1 0) && (not (Nat.beq e.1 38) && not (Nat.beq e.1 138))) = true → ∀ p ∈ [(a, 0, w), (a, 1, s1), (w, 0, ch), (s1, 0, ch)], ∀ e ∈ E2, (fun b => cond (Nat.beq b a) 0 (cond (Nat.beq b w) 38 138)) p.1 ≠ e.1 := by
    intro E2 h p _ e he q
    rw [List.all_eq_true] at h
    have h := h e he
    rw [Bool.and_eq_true, Bool.and_eq_true, Bool.not_eq_true', Bool.not_eq_true', Bool.not_eq_true'] at h
    have q : cond (Nat.beq p.1 a) 0 (cond (Nat.beq p.1 w) 38 138) = e.1 := q
    rw [← q] at h
    cases hb : Nat.beq p.1 a with
    | true => rw [hb, cond_true] at h; exact absurd h.1 (by decide)
    | false =>
      rw [hb, cond_false] at h
      cases hc : Nat.beq p.1 w with
      | true => rw [hc, cond_true] at h; exact absurd h.2.1 (by decide)
      | false => rw [hc, cond_false] at h; exact absurd h.2.2 (by decide)
  have hpj : ∀ j, 2 ≤ j → ∀ p ∈ [(a, 0, w), (a, 1, s1), (w, 0, ch), (s1, 0, ch)], p.2.1 ≠ j := by
    intro j hj p hp
    simp only [List.mem_cons, List.not_mem_nil, or_false] at hp
    rcases hp with rfl | rfl | rfl | rfl
    · show 0 ≠ j; omega
    · show 1 ≠ j; omega
    · show 0 ≠ j; omega
    · show 0 ≠ j; omega
  refine mk_subP _ r0 (E2 := []) (τ := 39) (C2 := 0) (n2 := 3) (y := 0) (da2 := 1) (ds2 := 12) (dk := 1) (z := true) (j := 2) q0 h2 rfl (show decode (mcode 96) 40 = _ by decide +kernel) (show decode (mcode 96) 41 = _ by decide +kernel) (show decode (mcode 96) 44 = _ by decide +kernel) (show decode (mcode 96) 45 = _ by decide +kernel) (show decode (mcode 96) 48 = _ by decide +kernel) (show pool (mcls 96) 28 = _ by decide +kernel) (show pool (mcls 96) 30 = _ by decide +kernel) (show mstat 0 = _ by decide +kernel) (show ((mname 0).name == "<init>") = _ by decide +kernel) ct_0 (by omega) (show pool (mcls 96) 31 = _ by decide +kernel) (Or.inr ⟨by decide +kernel, by decide +kernel⟩) (by decide +kernel) (by decide) rfl (hpe _ (by decide)) (hpj _ (by decide)) (fun Γ10 M10 r1 q1 => ?_)
  refine mk_subP _ r1 (E2 := []) (τ := 17) (C2 := 6) (n2 := 2) (y := 56) (da2 := 1) (ds2 := 180) (dk := 1) (z := true) (j := 3) q1 h2 rfl (show decode (mcode 96) 51 = _ by decide +kernel) (show decode (mcode 96) 52 = _ by decide +kernel) (show decode (mcode 96) 55 = _ by decide +kernel) (show decode (mcode 96) 56 = _ by decide +kernel) (show decode (mcode 96) 59 = _ by decide +kernel) (show pool (mcls 96) 35 = _ by decide +kernel) (show pool (mcls 96) 37 = _ by decide +kernel) (show mstat 56 = _ by decide +kernel) (show ((mname 56).name == "<init>") = _ by decide +kernel) ct_67 (by omega) (show pool (mcls 96) 38 = _ by decide +kernel) (Or.inr ⟨by decide +kernel, by decide +kernel⟩) (by decide +kernel) (by decide) rfl (hpe _ (by decide)) (hpj _ (by decide)) (fun Γ11 M11 r2 q2 => ?_)
  refine mk_subP _ r2 (E2 := []) (τ := 19) (C2 := 9) (n2 := 4) (y := 84) (da2 := 1) (ds2 := 400) (dk := 1) (z := true) (j := 4) q2 h2 rfl (show decode (mcode 96) 62 = _ by decide +kernel) (show decode (mcode 96) 63 = _ by decide +kernel) (show decode (mcode 96) 66 = _ by decide +kernel) (show decode (mcode 96) 67 = _ by decide +kernel) (show decode (mcode 96) 70 = _ by decide +kernel) (show pool (mcls 96) 42 = _ by decide +kernel) (show pool (mcls 96) 44 = _ by decide +kernel) (show mstat 84 = _ by decide +kernel) (show ((mname 84).name == "<init>") = _ by decide +kernel) ct_99 (by omega) (show pool (mcls 96) 45 = _ by decide +kernel) (Or.inr ⟨by decide +kernel, by decide +kernel⟩) (by decide +kernel) (by decide) rfl (hpe _ (by decide)) (hpj _ (by decide)) (fun Γ12 M12 r3 q3 => ?_)
  refine mk_subP _ r3 (E2 := []) (τ := 21) (C2 := 7) (n2 := 5) (y := 58) (da2 := 4) (ds2 := 4459) (dk := 1) (z := true) (j := 5) q3 h2 rfl (show decode (mcode 96) 73 = _ by decide +kernel) (show decode (mcode 96) 74 = _ by decide +kernel) (show decode (mcode 96) 77 = _ by decide +kernel) (show decode (mcode 96) 78 = _ by decide +kernel) (show decode (mcode 96) 81 = _ by decide +kernel) (show pool (mcls 96) 49 = _ by decide +kernel) (show pool (mcls 96) 51 = _ by decide +kernel) (show mstat 58 = _ by decide +kernel) (show ((mname 58).name == "<init>") = _ by decide +kernel) ct_72 (by omega) (show pool (mcls 96) 52 = _ by decide +kernel) (Or.inr ⟨by decide +kernel, by decide +kernel⟩) (by decide +kernel) (by decide) rfl (hpe _ (by decide)) (hpj _ (by decide)) (fun Γ13 M13 r4 q4 => ?_)
  refine mk_subP _ r4 (E2 := []) (τ := 26) (C2 := 3) (n2 := 5) (y := 27) (da2 := 4) (ds2 := 720) (dk := 1) (z := true) (j := 6) q4 h2 rfl (show decode (mcode 96) 84 = _ by decide +kernel) (show decode (mcode 96) 85 = _ by decide +kernel) (show decode (mcode 96) 88 = _ by decide +kernel) (show decode (mcode 96) 89 = _ by decide +kernel) (show decode (mcode 96) 92 = _ by decide +kernel) (show pool (mcls 96) 56 = _ by decide +kernel) (show pool (mcls 96) 58 = _ by decide +kernel) (show mstat 27 = _ by decide +kernel) (show ((mname 27).name == "<init>") = _ by decide +kernel) ct_33 (by omega) (show pool (mcls 96) 59 = _ by decide +kernel) (Or.inr ⟨by decide +kernel, by decide +kernel⟩) (by decide +kernel) (by decide) rfl (hpe _ (by decide)) (hpj _ (by decide)) (fun Γ14 M14 r5 q5 => ?_)
  refine mk_subP _ r5 (E2 := []) (τ := 31) (C2 := 8) (n2 := 6) (y := 71) (da2 := 3) (ds2 := 720) (dk := 1) (z := true) (j := 7) q5 h2 rfl (show decode (mcode 96) 95 = _ by decide +kernel) (show decode (mcode 96) 96 = _ by decide +kernel) (show decode (mcode 96) 99 = _ by decide +kernel) (show decode (mcode 96) 100 = _ by decide +kernel) (show decode (mcode 96) 103 = _ by decide +kernel) (show pool (mcls 96) 63 = _ by decide +kernel) (show pool (mcls 96) 65 = _ by decide +kernel) (show mstat 71 = _ by decide +kernel) (show ((mname 71).name == "<init>") = _ by decide +kernel) ct_85 (by omega) (show pool (mcls 96) 66 = _ by decide +kernel) (Or.inr ⟨by decide +kernel, by decide +kernel⟩) (by decide +kernel) (by decide) rfl (hpe _ (by decide)) (hpj _ (by decide)) (fun Γ15 M15 r6 q6 => ?_)
  refine mk_subP _ r6 (E2 := []) (τ := 35) (C2 := 1) (n2 := 6) (y := 2) (da2 := 2) (ds2 := 288) (dk := 1) (z := true) (j := 8) q6 h2 rfl (show decode (mcode 96) 106 = _ by decide +kernel) (show decode (mcode 96) 107 = _ by decide +kernel) (show decode (mcode 96) 110 = _ by decide +kernel) (show decode (mcode 96) 111 = _ by decide +kernel) (show decode (mcode 96) 114 = _ by decide +kernel) (show pool (mcls 96) 70 = _ by decide +kernel) (show pool (mcls 96) 72 = _ by decide +kernel) (show mstat 2 = _ by decide +kernel) (show ((mname 2).name == "<init>") = _ by decide +kernel) ct_3 (by omega) (show pool (mcls 96) 73 = _ by decide +kernel) (Or.inr ⟨by decide +kernel, by decide +kernel⟩) (by decide +kernel) (by decide) rfl (hpe _ (by decide)) (hpj _ (by decide)) (fun Γ16 M16 r7 q7 => ?_)
  obtain ⟨s9, u9, K9, R9, I9⟩ := M16
  refine s_aload_n (i := 0) (show decode (mcode 96) 117 = _ by decide +kernel) rfl (s_iconst (n := -1) (show decode (mcode 96) 118 = _ by decide +kernel) ⟨by decide, by decide⟩ (s_putI (idx := 77) (c := 11) (j := 10) (show decode (mcode 96) 119 = _ by decide +kernel) (show pool (mcls 96) 77 = _ by decide +kernel) q7.2.2.2.1 (by decide +kernel) rfl ?_))
  exact s_vret (show decode (mcode 96) 122 = _ by decide +kernel) (show mret 96 = _ by decide +kernel) ⟨rfl, Γ16, MK_putI q7, w, s1, ch, (r7 _ (List.mem_of_getElem? (i := 0) rfl)).1, (r7 _ (List.mem_of_getElem? (i := 1) rfl)).1, (r7 _ (List.mem_of_getElem? (i := 2) rfl)).1, (r7 _ (List.mem_of_getElem? (i := 3) rfl)).1⟩
def dT : Nat × Nat := (52, 10360)
