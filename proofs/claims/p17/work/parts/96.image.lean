/-! the image by hand -/
theorem P_58 {g : GG} {X : Nat} {n : Int} {Γ : Nat → Nat} {M : MM} (h : PSt g 58 [vr X, vi n] Γ M) : Γ X = 54 ∧ ∃ b, M.2.2.2.1 X 3 = some b ∧ Γ b = 17 ∧ M.2.2.2.2 b 0 ≤ (g.2.1 : Int) + n := h
theorem P_29 {g : GG} {X : Nat} {n : Int} {Γ : Nat → Nat} {M : MM} (h : PSt g 29 [vr X, vi n] Γ M) : Γ X = 54 ∧ ∀ b, M.2.2.2.1 X 12 = some b → Γ b = 77 ∧ M.2.2.2.2 b 0 ≤ (g.2.1 : Int) + n := h
theorem FR_58 {g : GG} {X : Nat} {n : Int} {Γ Γ2 : Nat → Nat} {M M2 : MM} {E : List EF} (h : PSt g 58 [vr X, vi n] Γ M) (hT : HTy Yt Γ M) (hT2 : HTy Yt Γ2 M2) (hF : FRM E Γ M M2) (hG : GEX M.1 Γ Γ2) (hE : ([(54, 3, 4), (17, 0, 1)] : List EF).all (fun q => E.all fun e => efDis e q) = true) : PSt g 58 [vr X, vi n] Γ2 M2 :=
  P58_fr g [vr X, vi n] Γ Γ2 M M2 E hT hT2 hF hG (fun q hq e he => List.all_eq_true.mp (List.all_eq_true.mp hE q hq) e he) h
theorem FR_29 {g : GG} {X : Nat} {n : Int} {Γ Γ2 : Nat → Nat} {M M2 : MM} {E : List EF} (h : PSt g 29 [vr X, vi n] Γ M) (hT : HTy Yt Γ M) (hT2 : HTy Yt Γ2 M2) (hF : FRM E Γ M M2) (hG : GEX M.1 Γ Γ2) (hE : ([(54, 12, 13), (77, 0, 1)] : List EF).all (fun q => E.all fun e => efDis e q) = true) : PSt g 29 [vr X, vi n] Γ2 M2 :=
  P29_fr g [vr X, vi n] Γ Γ2 M M2 E hT hT2 hF hG (fun q hq e he => List.all_eq_true.mp (List.all_eq_true.mp hE q hq) e he) h
theorem BO0 {C : BC} (h : C = [(0, 0), (0, 0)]) : BO (fun _ => 0) C := by
  subst h
  intro i
  match i with
  | 0 => exact ⟨by decide, by decide⟩
  | 1 => exact ⟨by decide, by decide⟩
  | i + 2 => exact ⟨(by decide : (-2147483648 : Int) ≤ 0), (by decide : (0 : Int) ≤ 2147483647)⟩
theorem ty54_11 {r : Nat × Nat × Nat × Bool} (hr : r ∈ (Yt 54).2.2.2) (j1 : r.1 ≤ 11) (j2 : 11 < r.2.1) {x : Nat} (hx : x = 98) : x = r.2.2.1 ∧ r.2.2.1 ≠ 0 := by
  have h := List.all_eq_true.mp (show (Yt 54).2.2.2.all (fun r => not (Nat.ble r.1 11) || (not (Nat.ble (11 + 1) r.2.1) || (Nat.beq r.2.2.1 98))) = true by decide +kernel) r hr
  rw [Bool.or_eq_true, Bool.or_eq_true, Bool.not_eq_true', Bool.not_eq_true'] at h
  rcases h with h | h | h
  · rw [ble_iff.mpr j1] at h
    cases h
  · rw [ble_iff.mpr j2] at h
    cases h
  · rw [beq_iff.mp h]
    exact ⟨hx, by decide⟩
theorem ty54_12 {r : Nat × Nat × Nat × Bool} (hr : r ∈ (Yt 54).2.2.2) (j1 : r.1 ≤ 12) (j2 : 12 < r.2.1) {x : Nat} (hx : x = 77) : x = r.2.2.1 ∧ r.2.2.1 ≠ 0 := by
  have h := List.all_eq_true.mp (show (Yt 54).2.2.2.all (fun r => not (Nat.ble r.1 12) || (not (Nat.ble (12 + 1) r.2.1) || (Nat.beq r.2.2.1 77))) = true by decide +kernel) r hr
  rw [Bool.or_eq_true, Bool.or_eq_true, Bool.not_eq_true', Bool.not_eq_true'] at h
  rcases h with h | h | h
  · rw [ble_iff.mpr j1] at h
    cases h
  · rw [ble_iff.mpr j2] at h
    cases h
  · rw [beq_iff.mp h]
    exact ⟨hx, by decide⟩
theorem BO_1 {ρ : Nat → Int} (h : BO ρ [(0, 0), (0, 1)]) : BO ρ [(0, 0)] := by
  intro i
  match i with
  | 0 => exact h 0
  | 1 =>
    have := h 1
    have h0 : (0 : Int) ≤ ρ 1 ∧ ρ 1 ≤ 1 := this
    exact ⟨Int.le_trans (by decide : (-2147483648 : Int) ≤ 0) h0.1, Int.le_trans h0.2 (by decide : (1 : Int) ≤ 2147483647)⟩
  | i + 2 => exact h (i + 2)
theorem two_facts {g : GG} {ρ : Nat → Int} {α Γ : Nat → Nat} {M : MM} (h1 : PSt g 58 [vr (α 0), vi 0] Γ M) (h2 : PSt g 29 [vr (α 0), vi 0] Γ M) : PFs (PSt g) ρ α Γ M [(58, [(2, 0, 54, 0), (0, 0, 0, 0)]), (29, [(2, 0, 54, 0), (0, 0, 0, 0)])] := by
  intro f hf
  rcases List.mem_cons.mp hf with rfl | hf
  · exact h1
  · cases List.mem_singleton.mp hf
    exact h2
def t_k163 : KT := ((163, 4, 19, 2600), [(2, 0, 54, 0)], [(0, 0)], [(58, [(2, 0, 54, 0), (0, 0, 0, 0)])], (0, 0, 0), [(54, 11, 12), (54, 12, 13), (54, 13, 14), (57, 0, 1), (57, 1, 2), (77, 0, 1), (78, 0, 180), (61, 0, 1), (61, 1, 2), (62, 0, 144), (63, 0, 144), (64, 0, 144), (65, 0, 288), (66, 0, 1), (66, 1, 2), (67, 0, 121), (68, 0, 121), (69, 0, 288), (70, 0, 1), (70, 1, 2), (70, 2, 3), (70, 3, 4), (71, 0, 144), (72, 0, 144), (73, 0, 144), (74, 0, 144), (75, 0, 144), (76, 0, 144)], [(29, [(2, 0, 54, 0), (0, 0, 0, 0)])], ([], []), ([], []))
def t_k157 : KT := ((157, 5, 19, 2600), [(2, 0, 54, 0), (1, 1, 0, 0)], [(0, 0), (0, 1)], [(58, [(2, 0, 54, 0), (0, 0, 0, 0)]), (29, [(2, 0, 54, 0), (0, 0, 0, 0)])], (2, 0, 1), [(54, 9, 10), (54, 11, 12), (54, 12, 13), (54, 13, 14), (57, 0, 1), (57, 1, 2), (77, 0, 1), (78, 0, 180), (17, 0, 1), (18, 0, 180), (39, 0, 1), (61, 0, 1), (61, 1, 2), (62, 0, 144), (63, 0, 144), (64, 0, 144), (65, 0, 288), (66, 0, 1), (66, 1, 2), (67, 0, 121), (68, 0, 121), (69, 0, 288), (70, 0, 1), (70, 1, 2), (70, 2, 3), (70, 3, 4), (71, 0, 144), (72, 0, 144), (73, 0, 144), (74, 0, 144), (75, 0, 144), (76, 0, 144), (1, 0, 1), (1, 1, 2), (2, 0, 144), (3, 0, 144), (4, 0, 144), (5, 0, 288), (6, 0, 1), (6, 1, 2), (7, 0, 121), (8, 0, 121), (9, 0, 288), (10, 0, 1), (10, 1, 2), (10, 2, 3), (10, 3, 4), (11, 0, 144), (12, 0, 144), (13, 0, 144), (14, 0, 144), (15, 0, 144), (16, 0, 144)], [], ([], [(58, [(2, 0, 54, 0), (0, 0, 0, 0)]), (29, [(2, 0, 54, 0), (0, 0, 0, 0)])]), ([], [(58, [(2, 0, 54, 0), (0, 0, 0, 0)]), (29, [(2, 0, 54, 0), (0, 0, 0, 0)])]))
theorem k_k163 (g : GG) : KOK Yt (PSt g) t_k163 := by
  intro d ρ α Γ M as gs hgn hd hT hB hA hP
  cases List.length_eq_zero_iff.mp hgn
  rw [List.append_nil] at hA
  obtain ⟨m, t, rfl, h1, h2⟩ := ARs.cons (show ARs ρ α Γ [(2, 0, 54, 0)] as from hA)
  cases h2.nil
  obtain ⟨rfl, g1, -⟩ := h1.ref rfl
  have g1 : Γ (α 0) = 54 := g1
  have hp : PSt g 58 [vr (α 0), vi 0] Γ M := hP _ (List.mem_of_getElem? (i := 0) rfl)
  cases d with
  | zero => exact absurd hd (by decide)
  | succ d =>
    have hd : 4 ≤ d + 1 := hd
    have lt0 := (hT (α 0) (by rw [g1]; decide)).1
    have hK := (hT (α 0) (by rw [g1]; decide)).2
    rw [g1] at hK
    obtain ⟨s, u, K, R, I⟩ := M
    refine Rm.of [vr (α 0)] (eq_true (show 1 ≤ mmaxl 163 by decide +kernel)) rfl ?_
    have last : ∀ (Γ1 : Nat → Nat) (s0 u0 : Nat) (K0 : Nat → Nat × Nat) (R0 : Nat → Nat → Option Nat) (I0 : Nat → Nat → Int) (w b : Nat), HTy Yt Γ1 (s0, u0, K0, R0, I0) → FRM (kEff t_k163) Γ (s, u, K, R, I) (s0, u0, K0, R0, I0) → GEX s Γ Γ1 → s0 ≤ s + 19 → u0 ≤ u + 2600 → R0 (α 0) 11 = some w → Γ1 w = 98 → R0 (α 0) 12 = some b → Γ1 b = 77 → Wm d 163 43 [vr (α 0)] [] (s0, u0, K0, R0, I0) (KPost Yt (PSt g) t_k163 ρ α Γ (s, u, K, R, I)) := by
      intro Γ1 s0 u0 K0 R0 I0 w b q1 q2 q3 q4 q5 q6 q7 q8 q9
      have l0 : s ≤ s0 := q2.1
      have g1' : Γ1 (α 0) = 54 := (q3 _ lt0).trans g1
      have hK1 := (q1 (α 0) (by rw [g1']; decide)).2
      rw [g1'] at hK1
      have hW1 := (q1 w (by rw [q7]; decide)).2
      rw [q7] at hW1
      have ltb := (q1 b (by rw [q9]; decide)).1
      have hp1 := FR_58 hp hT q1 q2 q3 (by decide +kernel)
      obtain ⟨nw, n1, n2⟩ := tyR q1 g1' (by decide) (j := 0) (τ2 := 38) (by decide)
      refine s_aload_n (i := 0) (show decode (mcode 163) 43 = _ by decide +kernel) rfl ?_
      refine s_getR (idx := 405) (c := 11) (j := 11) (show decode (mcode 163) 44 = _ by decide +kernel) (show pool (mcls 163) 405 = _ by decide +kernel) hK1.1 q6 ?_
      refine s_aload_n (i := 0) (show decode (mcode 163) 47 = _ by decide +kernel) rfl ?_
      refine s_getR (idx := 17) (c := 11) (j := 0) (show decode (mcode 163) 48 = _ by decide +kernel) (show pool (mcls 163) 17 = _ by decide +kernel) hK1.1 n1 ?_
      refine s_inv1 (idx := 411) (y := 107) (a := w) (c := 10) (x1 := vr nw) (show decode (mcode 163) 51 = _ by decide +kernel) (show pool (mcls 163) 411 = _ by decide +kernel) (by decide +kernel) hW1.1 (by decide +kernel) (by decide +kernel) (Nat.le_of_ble_eq_true rfl) (k_k107k g d (fun _ => 0) (fun i => if i = 0 then w else nw) Γ1 (s0, u0, K0, R0, I0) [vr w, vr nw] [] rfl (show 2 ≤ d by omega) q1 (BO0 rfl) ⟨⟨rfl, q7, by decide⟩, ⟨rfl, n2, by decide⟩, trivial⟩ (fun p hp => absurd hp List.not_mem_nil)) ?_
      intro r M1 q
      obtain ⟨Γ2, r1, r2, r3, r4, r5, r6⟩ := q
      obtain ⟨rfl, -⟩ := (show r = none ∧ _ from r6)
      obtain ⟨g3, -, c1⟩ := cE q1 r2 r3 (lo := 0) (hi := 14) (fun e he => List.all_eq_true.mp (show (kEff t_k107k).all (fun e => efDis e (54, 0, 14)) = true by decide +kernel) e he) g1' (by decide)
      have hK2 := (r1 (α 0) (by rw [g3]; decide)).2
      rw [g3] at hK2
      have gb2 : Γ2 b = 77 := (r3 b ltb).trans q9
      have ltb2 := (r1 b (by rw [gb2]; decide)).1
      have hBk := (r1 b (by rw [gb2]; decide)).2
      rw [gb2] at hBk
      have hp2 := FR_58 hp1 q1 r1 r2 r3 (by decide +kernel)
      obtain ⟨-, lg, e1, e2, e3⟩ := P_58 hp2
      obtain ⟨s1, u1, K1, R1, I1⟩ := M1
      have r4 : s1 ≤ s0 + 0 := r4
      have r5 : u1 ≤ u0 + 0 := r5
      have c1 : R1 (α 0) 12 = R0 (α 0) 12 := c1 12 (by decide) (by decide)
      have l1 : s0 ≤ s1 := r2.1
      show Wm d 163 54 [vr (α 0)] [] (s1, u1, K1, R1, I1) _
      refine s_aload_n (i := 0) (show decode (mcode 163) 54 = _ by decide +kernel) rfl ?_
      refine s_getR (idx := 408) (c := 11) (j := 12) (show decode (mcode 163) 55 = _ by decide +kernel) (show pool (mcls 163) 408 = _ by decide +kernel) hK2.1 (c1.trans q8) ?_
      refine s_aload_n (i := 0) (show decode (mcode 163) 58 = _ by decide +kernel) rfl ?_
      refine s_getR (idx := 38) (c := 11) (j := 3) (show decode (mcode 163) 59 = _ by decide +kernel) (show pool (mcls 163) 38 = _ by decide +kernel) hK2.1 e1 ?_
      refine s_inv1 (idx := 413) (y := 68) (a := b) (c := 6) (x1 := vr lg) (show decode (mcode 163) 62 = _ by decide +kernel) (show pool (mcls 163) 413 = _ by decide +kernel) (by decide +kernel) hBk.1 (by decide +kernel) (by decide +kernel) (Nat.le_of_ble_eq_true rfl) (k_k68k g d (fun _ => 0) (fun i => if i = 0 then b else lg) Γ2 (s1, u1, K1, R1, I1) [vr b, vr lg] [] rfl (show 1 ≤ d by omega) r1 (BO0 rfl) ⟨⟨rfl, gb2, by decide⟩, ⟨rfl, e2, by decide⟩, trivial⟩ (fun p hp => by cases List.mem_singleton.mp hp; exact ⟨Or.inl e2, e3⟩)) ?_
      intro r M2 q
      obtain ⟨Γ3, v1, v2, v3, v4, v5, v6⟩ := q
      obtain ⟨rfl, v6⟩ : r = none ∧ PFs (PSt g) (fun _ => 0) (fun i => if i = 0 then b else lg) Γ3 M2 (kPost t_k68k) := v6
      obtain ⟨-, v6⟩ : (Γ3 b = 17 ∨ Γ3 b = 77) ∧ M2.2.2.2.2 b 0 ≤ (g.2.1 : Int) + 0 := v6 _ (List.mem_of_getElem? (i := 0) rfl)
      obtain ⟨g4, -, d1⟩ := cE r1 v2 v3 (lo := 0) (hi := 14) (fun e he => List.all_eq_true.mp (show (kEff t_k68k).all (fun e => efDis e (54, 0, 14)) = true by decide +kernel) e he) g3 (by decide)
      have hK3 := (v1 (α 0) (by rw [g4]; decide)).2
      rw [g4] at hK3
      have gb3 : Γ3 b = 77 := (v3 b ltb2).trans gb2
      obtain ⟨s2, u2, K2, R2, I2⟩ := M2
      have v4 : s2 ≤ s1 + 0 := v4
      have v5 : u2 ≤ u1 + 0 := v5
      have d1 : R2 (α 0) 12 = R1 (α 0) 12 := d1 12 (by decide) (by decide)
      have hne : b ≠ α 0 := fun h => by rw [h, g4] at gb3; exact absurd gb3 (by decide)
      show Wm d 163 65 [vr (α 0)] [] (s2, u2, K2, R2, I2) _
      refine s_aload_n (i := 0) (show decode (mcode 163) 65 = _ by decide +kernel) rfl ?_
      refine s_aload_n (i := 0) (show decode (mcode 163) 66 = _ by decide +kernel) rfl ?_
      refine s_getI (idx := 140) (c := 11) (j := 9) (show decode (mcode 163) 67 = _ by decide +kernel) (show pool (mcls 163) 140 = _ by decide +kernel) hK3.1 rfl ?_
      refine s_putI (idx := 416) (c := 11) (j := 13) (show decode (mcode 163) 70 = _ by decide +kernel) (show pool (mcls 163) 416 = _ by decide +kernel) hK3.1 (by decide +kernel) rfl ?_
      have hx := hK3.2.1 (9, 10, -2147483648, 2147483647) (by decide) 9 (Nat.le_refl _) (by decide)
      have hx : -2147483648 ≤ I2 (α 0) 9 ∧ I2 (α 0) 9 ≤ 2147483647 := hx
      generalize I2 (α 0) 9 = x at hx ⊢
      have t1 : HTy Yt Γ3 (s2, u2, K2, R2, up I2 (α 0) 13 x) := HT_up (lo := 13) (hi := 14) (p := (-2147483648, 2147483647)) v1 (by decide) (by decide) (by rw [g4]; decide) hx
      have f1 : FRM [(54, 13, 14)] Γ3 (s2, u2, K2, R2, I2) (s2, u2, K2, R2, up I2 (α 0) 13 x) := by
        have := FRM_up (Γ := Γ3) (s := s2) (u := u2) (K := K2) (R := R2) (I := I2) (a := α 0) (j := 13) (lo := 13) (hi := 14) (x := x) (by decide) (by decide) (by rw [g4]; decide)
        rw [g4] at this
        exact this
      have q3' : GEX s Γ Γ2 := fun a ha => (r3 a (Nat.lt_of_lt_of_le ha l0)).trans (q3 a ha)
      have q3'' : GEX s Γ Γ3 := fun a ha => (v3 a (Nat.lt_of_lt_of_le ha (Nat.le_trans l0 l1))).trans (q3' a ha)
      refine s_vret (show decode (mcode 163) 73 = _ by decide +kernel) (show mret 163 = _ by decide +kernel) ⟨Γ3, t1, ((q2.trans q3 r2 (by decide +kernel)).trans q3' v2 (by decide +kernel)).trans q3'' f1 (by decide +kernel), q3'', (by show s2 ≤ s + 19; omega), (by show u2 ≤ u + 2600; omega), rfl, fun p hp => ?_⟩
      cases List.mem_singleton.mp hp
      show Γ3 (α 0) = 54 ∧ ∀ b2, R2 (α 0) 12 = some b2 → Γ3 b2 = 77 ∧ up I2 (α 0) 13 x b2 0 ≤ (g.2.1 : Int) + 0
      refine ⟨g4, fun b2 hb2 => ?_⟩
      rw [d1, c1, q8] at hb2
      cases hb2
      exact ⟨gb3, by rw [show up I2 (α 0) 13 x b 0 = I2 b 0 from if_neg (fun q => hne q.1)]; exact v6⟩
    have mid : ∀ (Γ1 : Nat → Nat) (s0 u0 : Nat) (K0 : Nat → Nat × Nat) (R0 : Nat → Nat → Option Nat) (I0 : Nat → Nat → Int) (w : Nat), HTy Yt Γ1 (s0, u0, K0, R0, I0) → FRM (kEff t_k163) Γ (s, u, K, R, I) (s0, u0, K0, R0, I0) → GEX s Γ Γ1 → s0 ≤ s + 17 → u0 ≤ u + 2138 → R0 (α 0) 11 = some w → Γ1 w = 98 → Wm d 163 25 [vr (α 0)] [] (s0, u0, K0, R0, I0) (KPost Yt (PSt g) t_k163 ρ α Γ (s, u, K, R, I)) := by
      intro Γ1 s0 u0 K0 R0 I0 w q1 q2 q3 q4 q5 q6 q7
      have l0 : s ≤ s0 := q2.1
      have g1' : Γ1 (α 0) = 54 := (q3 _ lt0).trans g1
      have lt1 := (q1 (α 0) (by rw [g1']; decide)).1
      have ltw := (q1 w (by rw [q7]; decide)).1
      have hK1 := (q1 (α 0) (by rw [g1']; decide)).2
      rw [g1'] at hK1
      refine s_aload_n (i := 0) (show decode (mcode 163) 25 = _ by decide +kernel) rfl ?_
      refine s_getQ (idx := 408) (c := 11) (j := 12) (show decode (mcode 163) 26 = _ by decide +kernel) (show pool (mcls 163) 408 = _ by decide +kernel) hK1.1 rfl ?_
      refine s_ifnonnull (off := 14) 43 (show decode (mcode 163) 29 = _ by decide +kernel) (by decide) (fun hn => ?_) (fun _ => ?_)
      · obtain ⟨b, hb, hb2⟩ : ∃ b, R0 (α 0) 12 = some b ∧ Γ1 b = 77 := by
          rcases hK1.2.2 (12, 13, 77, true) (by decide) 12 (Nat.le_refl _) (by decide) with h | ⟨b, h5, h6, -⟩
          · exact absurd h.1 hn
          · exact ⟨b, h5, h6⟩
        exact last Γ1 s0 u0 K0 R0 I0 w b q1 q2 q3 (by omega) (by omega) q6 q7 hb hb2
      · refine s_aload_n (i := 0) (show decode (mcode 163) 32 = _ by decide +kernel) rfl ?_
        have hs0 : Γ1 s0 = 0 := HTy_un q1 (Nat.le_refl _)
        refine s_new (n := 2) (c := 6) (show decode (mcode 163) 33 = _ by decide +kernel) (show pool (mcls 163) 35 = _ by decide +kernel) (s_dup (show decode (mcode 163) 36 = _ by decide +kernel) rfl (s_ini0 (show decode (mcode 163) 37 = _ by decide +kernel) (show pool (mcls 163) 37 = _ by decide +kernel) (show mstat 67 = _ by decide +kernel) (show ((mname 67).name == "<init>") = _ by decide +kernel) (Nat.le_of_ble_eq_true rfl) (ct_67k d Γ1 _ s0 (by omega) (HTy_new q1 6 0 2) hs0 (Nat.lt_succ_self _) (if_pos rfl) (fun _ => if_pos rfl) (fun _ => if_pos rfl)) ?_))
        rintro r M2 ⟨hr, Γ2, f1, f2, f3, f4, f5, f6, -⟩
        refine ⟨hr, ?_⟩
        obtain ⟨s2, u2, K2, R2, I2⟩ := M2
        have l2 : s0 + 1 ≤ s2 := f3.1
        have f5 : s2 ≤ s0 + 1 + 1 := f5
        have f6 : u2 ≤ u0 + 2 + 180 := f6
        have lt1 : α 0 < s0 := lt1
        have ltw : w < s0 := ltw
        have hG2 : GEX s0 Γ1 Γ2 := fun b hb => f4 b (by show b < s0 + 1; omega) (by omega)
        have hF2 : FRM [] Γ1 (s0, u0, K0, R0, I0) (s2, u2, K2, R2, I2) := by
          refine ⟨by show s0 ≤ s2; omega, fun b hb => ?_⟩
          have hb : b < s0 := hb
          have x := f3.2 b (by show b < s0 + 1; omega) (by omega)
          refine ⟨x.1.trans (if_neg (by omega)), fun j hj => ?_⟩
          have y := x.2 j (fun e he => absurd he List.not_mem_nil)
          exact ⟨y.1.trans (if_neg (by omega)), y.2.trans (if_neg (by omega))⟩
        obtain ⟨g5, -, c2⟩ := cE q1 hF2 hG2 (lo := 0) (hi := 14) (fun e he => absurd he List.not_mem_nil) g1' (by decide)
        have hK2 := (f1 (α 0) (by rw [g5]; decide)).2
        rw [g5] at hK2
        have c2 : R2 (α 0) 11 = R0 (α 0) 11 := c2 11 (by decide) (by decide)
        have hu : HTy Yt Γ2 (s2, u2, K2, up R2 (α 0) 12 (some s0), I2) := HT_upR f1 (fun r hr j1 j2 => by
          rw [g5] at hr
          exact ty54_12 hr j1 j2 f2)
        have fu : FRM [(54, 12, 13)] Γ2 (s2, u2, K2, R2, I2) (s2, u2, K2, up R2 (α 0) 12 (some s0), I2) := by
          have := FRM_upR (Γ := Γ2) (s := s2) (u := u2) (K := K2) (R := R2) (I := I2) (a := α 0) (j := 12) (lo := 12) (hi := 13) (x := some s0) (by decide) (by decide) (by rw [g5]; decide)
          rw [g5] at this
          exact this
        have q3' : GEX s Γ Γ2 := fun a ha => (hG2 a (Nat.lt_of_lt_of_le ha l0)).trans (q3 a ha)
        exact s_putR (idx := 408) (c := 11) (j := 12) (show decode (mcode 163) 40 = _ by decide +kernel) (show pool (mcls 163) 408 = _ by decide +kernel) hK2.1 (Or.inl (by decide +kernel)) rfl (last Γ2 s2 u2 K2 (up R2 (α 0) 12 (some s0)) I2 w s0 hu ((q2.trans q3 hF2 (by decide +kernel)).trans q3' fu (by decide +kernel)) q3' (by omega) (by omega) ((if_neg (fun q => absurd q.2 (by decide)) : up R2 (α 0) 12 (some s0) (α 0) 11 = R2 (α 0) 11).trans (c2.trans q6)) ((hG2 w ltw).trans q7) (if_pos ⟨rfl, rfl⟩) f2)
    refine s_aload_n (i := 0) (show decode (mcode 163) 0 = _ by decide +kernel) rfl ?_
    refine s_getQ (idx := 405) (c := 11) (j := 11) (show decode (mcode 163) 1 = _ by decide +kernel) (show pool (mcls 163) 405 = _ by decide +kernel) hK.1 rfl ?_
    refine s_ifnonnull (off := 21) 25 (show decode (mcode 163) 4 = _ by decide +kernel) (by decide) (fun hn => ?_) (fun _ => ?_)
    · obtain ⟨b, hb, hb2⟩ : ∃ b, R (α 0) 11 = some b ∧ Γ b = 98 := by
        rcases hK.2.2 (11, 12, 98, true) (by decide) 11 (Nat.le_refl _) (by decide) with h | ⟨b, h5, h6, -⟩
        · exact absurd h.1 hn
        · exact ⟨b, h5, h6⟩
      exact mid Γ s u K R I b hT (FRM.refl _ _ _) (fun _ _ => rfl) (by omega) (by omega) hb hb2
    · refine s_aload_n (i := 0) (show decode (mcode 163) 7 = _ by decide +kernel) rfl ?_
      refine mk_whole (E := [(62, 0, 144), (63, 0, 144), (64, 0, 144), (65, 0, 288), (57, 0, 1), (57, 1, 2), (73, 0, 144)]) hT ct_7k ct_106k (by decide +kernel) (by omega) (Nat.le_of_ble_eq_true rfl) (show decode (mcode 163) 8 = _ by decide +kernel) (show decode (mcode 163) 11 = _ by decide +kernel) (show decode (mcode 163) 12 = _ by decide +kernel) (show decode (mcode 163) 15 = _ by decide +kernel) (show decode (mcode 163) 16 = _ by decide +kernel) (show decode (mcode 163) 19 = _ by decide +kernel) (show pool (mcls 163) 9 = _ by decide +kernel) (show pool (mcls 163) 11 = _ by decide +kernel) (show pool (mcls 163) 13 = _ by decide +kernel) (show pool (mcls 163) 14 = _ by decide +kernel) ?_
      intro Γ2 M2 f1 f2 f3 f4 f5 f6
      obtain ⟨s2, u2, K2, R2, I2⟩ := M2
      have f5 : s2 ≤ s + 17 := f5
      have f6 : u2 ≤ u + 2138 := f6
      have f2 : Γ2 s = 98 := f2
      have g5 : Γ2 (α 0) = 54 := (f4 _ lt0).trans g1
      have hK2 := (f1 (α 0) (by rw [g5]; decide)).2
      rw [g5] at hK2
      have hu : HTy Yt Γ2 (s2, u2, K2, up R2 (α 0) 11 (some s), I2) := HT_upR f1 (fun r hr j1 j2 => by
        rw [g5] at hr
        exact ty54_11 hr j1 j2 f2)
      have fu : FRM [(54, 11, 12)] Γ2 (s2, u2, K2, R2, I2) (s2, u2, K2, up R2 (α 0) 11 (some s), I2) := by
        have := FRM_upR (Γ := Γ2) (s := s2) (u := u2) (K := K2) (R := R2) (I := I2) (a := α 0) (j := 11) (lo := 11) (hi := 12) (x := some s) (by decide) (by decide) (by rw [g5]; decide)
        rw [g5] at this
        exact this
      have fw : FRM (kEff t_k163) Γ (s, u, K, R, I) (s2, u2, K2, R2, I2) := FRM_weak f3 (by decide +kernel)
      exact s_putR (idx := 405) (c := 11) (j := 11) (show decode (mcode 163) 22 = _ by decide +kernel) (show pool (mcls 163) 405 = _ by decide +kernel) hK2.1 (Or.inl (by decide +kernel)) rfl (mid Γ2 s2 u2 K2 (up R2 (α 0) 11 (some s)) I2 s hu (fw.trans f4 fu (by decide +kernel)) f4 f5 f6 (if_pos ⟨rfl, rfl⟩) f2)
theorem k_k157 (g : GG) : KOK Yt (PSt g) t_k157 := by
  intro d ρ α Γ M as gs hgn hd hT hB hA hP
  cases List.length_eq_zero_iff.mp hgn
  rw [List.append_nil] at hA
  obtain ⟨m, t, rfl, h1, h2⟩ := ARs.cons (show ARs ρ α Γ [(2, 0, 54, 0), (1, 1, 0, 0)] as from hA)
  obtain ⟨m2, t2, rfl, h3, h4⟩ := ARs.cons h2
  cases h4.nil
  obtain ⟨rfl, g1, -⟩ := h1.ref rfl
  cases h3.int rfl
  have g1 : Γ (α 0) = 54 := g1
  have hp : PSt g 58 [vr (α 0), vi 0] Γ M := hP _ (List.mem_of_getElem? (i := 0) rfl)
  have hp9 : PSt g 29 [vr (α 0), vi 0] Γ M := hP _ (List.mem_of_getElem? (i := 1) rfl)
  cases d with
  | zero => exact absurd hd (by decide)
  | succ d =>
    have hd : 5 ≤ d + 1 := hd
    have lt0 := (hT (α 0) (by rw [g1]; decide)).1
    have hK := (hT (α 0) (by rw [g1]; decide)).2
    rw [g1] at hK
    obtain ⟨s, u, K, R, I⟩ := M
    refine Rm.of [vr (α 0), vi (ρ 1 + 0)] (eq_true (show 2 ≤ mmaxl 157 by decide +kernel)) rfl ?_
    generalize ρ 1 + 0 = z
    refine s_iload_n (i := 1) (show decode (mcode 157) 0 = _ by decide +kernel) rfl ?_
    refine s_if_eq (off := 9) 10 (show decode (mcode 157) 1 = _ by decide +kernel) (by decide) (fun _ => ?_) (fun _ => ?_)
    · have hno : Wm d 157 24 [vr (α 0), vi z] [] (s, u, K, R, I) (KPost Yt (PSt g) t_k157 ρ α Γ (s, u, K, R, I)) := by
        refine s_iconst (n := 0) (show decode (mcode 157) 24 = _ by decide +kernel) ⟨by decide, by decide⟩ (s_zret (show decode (mcode 157) 25 = _ by decide +kernel) (show mret 157 = _ by decide +kernel) (Or.inl rfl) ?_)
        exact ⟨Γ, hT, FRM.refl _ _ _, fun _ _ => rfl, Nat.le_add_right _ _, Nat.le_add_right _ _, Or.inr ⟨rfl, fun p hp => absurd hp List.not_mem_nil, two_facts hp hp9⟩⟩
      refine s_aload_n (i := 0) (show decode (mcode 157) 10 = _ by decide +kernel) rfl ?_
      refine s_getQ (idx := 405) (c := 11) (j := 11) (show decode (mcode 157) 11 = _ by decide +kernel) (show pool (mcls 157) 405 = _ by decide +kernel) hK.1 rfl ?_
      refine s_ifnull (off := 10) 24 (show decode (mcode 157) 14 = _ by decide +kernel) (by decide) (fun _ => hno) (fun hn => ?_)
      refine s_aload_n (i := 0) (show decode (mcode 157) 17 = _ by decide +kernel) rfl ?_
      refine s_getQ (idx := 408) (c := 11) (j := 12) (show decode (mcode 157) 18 = _ by decide +kernel) (show pool (mcls 157) 408 = _ by decide +kernel) hK.1 rfl ?_
      refine s_ifnonnull (off := 5) 26 (show decode (mcode 157) 21 = _ by decide +kernel) (by decide) (fun hn2 => ?_) (fun _ => hno)
      obtain ⟨w, hw, hw2⟩ : ∃ b, R (α 0) 11 = some b ∧ Γ b = 98 := by
        rcases hK.2.2 (11, 12, 98, true) (by decide) 11 (Nat.le_refl _) (by decide) with h | ⟨b, h5, h6, -⟩
        · exact absurd h.1 hn
        · exact ⟨b, h5, h6⟩
      obtain ⟨b, hb, hb2⟩ : ∃ b, R (α 0) 12 = some b ∧ Γ b = 77 := by
        rcases hK.2.2 (12, 13, 77, true) (by decide) 12 (Nat.le_refl _) (by decide) with h | ⟨b, h5, h6, -⟩
        · exact absurd h.1 hn2
        · exact ⟨b, h5, h6⟩
      have ltb := (hT b (by rw [hb2]; decide)).1
      obtain ⟨nw, n1, n2⟩ := tyR hT g1 (by decide) (j := 0) (τ2 := 38) (by decide)
      have hN := (hT nw (by rw [n2]; decide)).2
      rw [n2] at hN
      refine s_aload_n (i := 0) (show decode (mcode 157) 26 = _ by decide +kernel) rfl ?_
      refine s_getR (idx := 17) (c := 11) (j := 0) (show decode (mcode 157) 27 = _ by decide +kernel) (show pool (mcls 157) 17 = _ by decide +kernel) hK.1 n1 ?_
      refine s_aload_n (i := 0) (show decode (mcode 157) 30 = _ by decide +kernel) rfl ?_
      refine s_getR (idx := 405) (c := 11) (j := 11) (show decode (mcode 157) 31 = _ by decide +kernel) (show pool (mcls 157) 405 = _ by decide +kernel) hK.1 hw ?_
      refine s_inv1 (idx := 411) (y := 107) (a := nw) (c := 10) (x1 := vr w) (show decode (mcode 157) 34 = _ by decide +kernel) (show pool (mcls 157) 411 = _ by decide +kernel) (by decide +kernel) hN.1 (by decide +kernel) (by decide +kernel) (Nat.le_of_ble_eq_true rfl) (k_k107b g d (fun _ => 0) (fun i => if i = 0 then nw else w) Γ (s, u, K, R, I) [vr nw, vr w] [] rfl (show 2 ≤ d by omega) hT (BO0 rfl) ⟨⟨rfl, n2, by decide⟩, ⟨rfl, hw2, by decide⟩, trivial⟩ (fun p hp => absurd hp List.not_mem_nil)) ?_
      intro r M1 q
      obtain ⟨Γ2, r1, r2, r3, r4, r5, r6⟩ := q
      obtain ⟨rfl, -⟩ := (show r = none ∧ _ from r6)
      obtain ⟨g3, -, c1⟩ := cE hT r2 r3 (lo := 0) (hi := 14) (fun e he => List.all_eq_true.mp (show (kEff t_k107b).all (fun e => efDis e (54, 0, 14)) = true by decide +kernel) e he) g1 (by decide)
      have hK2 := (r1 (α 0) (by rw [g3]; decide)).2
      rw [g3] at hK2
      have gb2 : Γ2 b = 77 := (r3 b ltb).trans hb2
      have hp2 := FR_58 hp hT r1 r2 r3 (by decide +kernel)
      have hp92 := FR_29 hp9 hT r1 r2 r3 (by decide +kernel)
      obtain ⟨lg, e1, e2⟩ := tyR r1 g3 (by decide) (j := 3) (τ2 := 17) (by decide)
      have ltl := (r1 lg (by rw [e2]; decide)).1
      have hL := (r1 lg (by rw [e2]; decide)).2
      rw [e2] at hL
      have c1 : M1.2.2.2.1 (α 0) 12 = some b := (c1 12 (by decide) (by decide)).trans hb
      have e3 := ((P_29 hp92).2 b c1).2
      have lt1 := (r1 (α 0) (by rw [g3]; decide)).1
      obtain ⟨s1, u1, K1, R1, I1⟩ := M1
      have r4 : s1 ≤ s + 0 := r4
      have r5 : u1 ≤ u + 0 := r5
      have l1 : s ≤ s1 := r2.1
      show Wm d 157 37 [vr (α 0), vi z] [] (s1, u1, K1, R1, I1) _
      refine s_aload_n (i := 0) (show decode (mcode 157) 37 = _ by decide +kernel) rfl ?_
      refine s_getR (idx := 38) (c := 11) (j := 3) (show decode (mcode 157) 38 = _ by decide +kernel) (show pool (mcls 157) 38 = _ by decide +kernel) hK2.1 e1 ?_
      refine s_aload_n (i := 0) (show decode (mcode 157) 41 = _ by decide +kernel) rfl ?_
      refine s_getR (idx := 408) (c := 11) (j := 12) (show decode (mcode 157) 42 = _ by decide +kernel) (show pool (mcls 157) 408 = _ by decide +kernel) hK2.1 c1 ?_
      refine s_inv1 (idx := 413) (y := 68) (a := lg) (c := 6) (x1 := vr b) (show decode (mcode 157) 45 = _ by decide +kernel) (show pool (mcls 157) 413 = _ by decide +kernel) (by decide +kernel) hL.1 (by decide +kernel) (by decide +kernel) (Nat.le_of_ble_eq_true rfl) (k_k68b g d (fun _ => 0) (fun i => if i = 0 then lg else b) Γ2 (s1, u1, K1, R1, I1) [vr lg, vr b] [] rfl (show 1 ≤ d by omega) r1 (BO0 rfl) ⟨⟨rfl, e2, by decide⟩, ⟨rfl, gb2, by decide⟩, trivial⟩ (fun p hp => by cases List.mem_singleton.mp hp; exact ⟨Or.inr gb2, e3⟩)) ?_
      intro r M2 q
      obtain ⟨Γ3, v1, v2, v3, v4, v5, v6⟩ := q
      obtain ⟨rfl, v6⟩ : r = none ∧ PFs (PSt g) (fun _ => 0) (fun i => if i = 0 then lg else b) Γ3 M2 (kPost t_k68b) := v6
      obtain ⟨-, v6⟩ : (Γ3 lg = 17 ∨ Γ3 lg = 77) ∧ M2.2.2.2.2 lg 0 ≤ (g.2.1 : Int) + 0 := v6 _ (List.mem_of_getElem? (i := 0) rfl)
      obtain ⟨g4, -, d1⟩ := cE r1 v2 v3 (lo := 0) (hi := 14) (fun e he => List.all_eq_true.mp (show (kEff t_k68b).all (fun e => efDis e (54, 0, 14)) = true by decide +kernel) e he) g3 (by decide)
      have hK3 := (v1 (α 0) (by rw [g4]; decide)).2
      rw [g4] at hK3
      have hp93 := FR_29 hp92 r1 v1 v2 v3 (by decide +kernel)
      obtain ⟨ac, a1, a2⟩ := tyR v1 g4 (by decide) (j := 2) (τ2 := 39) (by decide)
      have hAc := (v1 ac (by rw [a2]; decide)).2
      rw [a2] at hAc
      have gl3 : Γ3 lg = 17 := (v3 lg ltl).trans e2
      obtain ⟨s2, u2, K2, R2, I2⟩ := M2
      have v4 : s2 ≤ s1 + 0 := v4
      have v5 : u2 ≤ u1 + 0 := v5
      have d1 : R2 (α 0) 3 = some lg := (d1 3 (by decide) (by decide)).trans e1
      have v6 : I2 lg 0 ≤ (g.2.1 : Int) + 0 := v6
      have hne : lg ≠ α 0 := fun h => by rw [h, g4] at gl3; exact absurd gl3 (by decide)
      have hne2 : lg ≠ ac := fun h => by rw [h, a2] at gl3; exact absurd gl3 (by decide)
      show Wm d 157 48 [vr (α 0), vi z] [] (s2, u2, K2, R2, I2) _
      refine s_aload_n (i := 0) (show decode (mcode 157) 48 = _ by decide +kernel) rfl ?_
      refine s_aload_n (i := 0) (show decode (mcode 157) 49 = _ by decide +kernel) rfl ?_
      refine s_getI (idx := 416) (c := 11) (j := 13) (show decode (mcode 157) 50 = _ by decide +kernel) (show pool (mcls 157) 416 = _ by decide +kernel) hK3.1 rfl ?_
      refine s_putI (idx := 140) (c := 11) (j := 9) (show decode (mcode 157) 53 = _ by decide +kernel) (show pool (mcls 157) 140 = _ by decide +kernel) hK3.1 (by decide +kernel) rfl ?_
      refine s_aload_n (i := 0) (show decode (mcode 157) 56 = _ by decide +kernel) rfl ?_
      refine s_getR (idx := 31) (c := 11) (j := 2) (show decode (mcode 157) 57 = _ by decide +kernel) (show pool (mcls 157) 31 = _ by decide +kernel) hK3.1 a1 ?_
      refine s_iconst (n := 0) (show decode (mcode 157) 60 = _ by decide +kernel) ⟨by decide, by decide⟩ ?_
      refine s_putI (idx := 395) (c := 0) (j := 0) (show decode (mcode 157) 61 = _ by decide +kernel) (show pool (mcls 157) 395 = _ by decide +kernel) hAc.1 (by decide +kernel) rfl ?_
      refine s_iconst (n := 1) (show decode (mcode 157) 64 = _ by decide +kernel) ⟨by decide, by decide⟩ (s_zret (show decode (mcode 157) 65 = _ by decide +kernel) (show mret 157 = _ by decide +kernel) (Or.inr rfl) ?_)
      have hx := hK3.2.1 (13, 14, -2147483648, 2147483647) (by decide) 13 (Nat.le_refl _) (by decide)
      have hx : -2147483648 ≤ I2 (α 0) 13 ∧ I2 (α 0) 13 ≤ 2147483647 := hx
      generalize I2 (α 0) 13 = x at hx ⊢
      have t1 : HTy Yt Γ3 (s2, u2, K2, R2, up I2 (α 0) 9 x) := HT_up (lo := 9) (hi := 10) (p := (-2147483648, 2147483647)) v1 (by decide) (by decide) (by rw [g4]; decide) hx
      have t2 : HTy Yt Γ3 (s2, u2, K2, R2, up (up I2 (α 0) 9 x) ac 0 0) := HT_up (lo := 0) (hi := 1) (p := (0, 12)) t1 (by decide) (by decide) (by rw [a2]; decide) ⟨by decide, by decide⟩
      have f1 : FRM [(54, 9, 10)] Γ3 (s2, u2, K2, R2, I2) (s2, u2, K2, R2, up I2 (α 0) 9 x) := by
        have := FRM_up (Γ := Γ3) (s := s2) (u := u2) (K := K2) (R := R2) (I := I2) (a := α 0) (j := 9) (lo := 9) (hi := 10) (x := x) (by decide) (by decide) (by rw [g4]; decide)
        rw [g4] at this
        exact this
      have f2 : FRM [(39, 0, 1)] Γ3 (s2, u2, K2, R2, up I2 (α 0) 9 x) (s2, u2, K2, R2, up (up I2 (α 0) 9 x) ac 0 0) := by
        have := FRM_up (Γ := Γ3) (s := s2) (u := u2) (K := K2) (R := R2) (I := up I2 (α 0) 9 x) (a := ac) (j := 0) (lo := 0) (hi := 1) (x := 0) (by decide) (by decide) (by rw [a2]; decide)
        rw [a2] at this
        exact this
      have q3' : GEX s Γ Γ3 := fun a ha => (v3 a (Nat.lt_of_lt_of_le ha l1)).trans (r3 a ha)
      have w1 : FRM (kEff t_k157) Γ (s, u, K, R, I) (s1, u1, K1, R1, I1) := FRM_weak r2 (by decide +kernel)
      have w2 := (((w1.trans r3 v2 (by decide +kernel)).trans q3' f1 (by decide +kernel)).trans q3' f2 (by decide +kernel))
      have f12 : FRM [(54, 9, 10), (39, 0, 1)] Γ3 (s2, u2, K2, R2, I2) (s2, u2, K2, R2, up (up I2 (α 0) 9 x) ac 0 0) := FRM.trans (FRM_weak f1 (by decide)) (fun _ _ => rfl) f2 (by decide +kernel)
      have w9 := FR_29 hp93 v1 t2 f12 (fun _ _ => rfl) (by decide +kernel)
      refine ⟨Γ3, t2, w2, q3', (by show s2 ≤ s + 19; omega), (by show u2 ≤ u + 2600; omega), Or.inl ⟨rfl, fun p hp => absurd hp List.not_mem_nil, two_facts ?_ w9⟩⟩
      show Γ3 (α 0) = 54 ∧ ∃ b, R2 (α 0) 3 = some b ∧ Γ3 b = 17 ∧ up (up I2 (α 0) 9 x) ac 0 0 b 0 ≤ (g.2.1 : Int) + 0
      exact ⟨g4, lg, d1, gl3, by rw [show up (up I2 (α 0) 9 x) ac 0 0 lg 0 = up I2 (α 0) 9 x lg 0 from if_neg (fun q => hne2 q.1), show up I2 (α 0) 9 x lg 0 = I2 lg 0 from if_neg (fun q => hne q.1)]; exact v6⟩
    · refine s_aload_n (i := 0) (show decode (mcode 157) 4 = _ by decide +kernel) rfl ?_
      refine s_inv0 (idx := 402) (y := 163) (a := α 0) (c := 11) (show decode (mcode 157) 5 = _ by decide +kernel) (show pool (mcls 157) 402 = _ by decide +kernel) (by decide +kernel) hK.1 (by decide +kernel) (by decide +kernel) (Nat.le_of_ble_eq_true rfl) (k_k163 g d ρ α Γ (s, u, K, R, I) [vr (α 0)] [] rfl (show 4 ≤ d by omega) hT (BO_1 hB) ⟨⟨rfl, g1, by decide⟩, trivial⟩ (fun p hp2 => by cases List.mem_singleton.mp hp2; exact hp)) ?_
      intro r M1 q
      obtain ⟨Γ2, r1, r2, r3, r4, r5, r6⟩ := q
      obtain ⟨rfl, r6⟩ : r = none ∧ PFs (PSt g) ρ α Γ2 M1 (kPost t_k163) := r6
      have r6 : PSt g 29 [vr (α 0), vi 0] Γ2 M1 := r6 _ (List.mem_of_getElem? (i := 0) rfl)
      have hp2 := FR_58 hp hT r1 r2 r3 (by decide +kernel)
      obtain ⟨s1, u1, K1, R1, I1⟩ := M1
      show Wm d 157 8 [vr (α 0), vi z] [] (s1, u1, K1, R1, I1) _
      refine s_iconst (n := 1) (show decode (mcode 157) 8 = _ by decide +kernel) ⟨by decide, by decide⟩ (s_zret (show decode (mcode 157) 9 = _ by decide +kernel) (show mret 157 = _ by decide +kernel) (Or.inr rfl) ?_)
      exact ⟨Γ2, r1, FRM_weak r2 (by decide +kernel), r3, r4, r5, Or.inl ⟨rfl, fun p hp => absurd hp List.not_mem_nil, two_facts hp2 r6⟩⟩
