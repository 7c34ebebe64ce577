/-! the class: contracts behind keep -/
def t_k2 : KT := ((2, 4, 0, 0), [(2, 0, 39, 0), (2, 1, 38, 0)], [(0, 0), (0, 0)], [], (2, 0, 1), [(1, 0, 1), (1, 1, 2), (2, 0, 144), (3, 0, 144), (4, 0, 144), (5, 0, 288), (6, 0, 1), (6, 1, 2), (7, 0, 121), (8, 0, 121), (9, 0, 288), (10, 0, 1), (10, 1, 2), (10, 2, 3), (10, 3, 4), (11, 0, 144), (12, 0, 144), (13, 0, 144), (14, 0, 144), (15, 0, 144), (16, 0, 144), (39, 0, 1), (39, 1, 2)], [], ([], []), ([], []))
theorem k_k2 (g : GG) : KOK Yt (PSt g) t_k2 := by
  intro d ρ α Γ M as gs hgn hd hT hB hA _
  cases List.length_eq_zero_iff.mp hgn
  rw [List.append_nil] at hA
  obtain ⟨m, t, rfl, h1, h2⟩ := ARs.cons (show ARs ρ α Γ [(2, 0, 39, 0), (2, 1, 38, 0)] as from hA)
  obtain ⟨m2, t2, rfl, h3, h4⟩ := ARs.cons h2
  cases h4.nil
  obtain ⟨rfl, g1, -⟩ := h1.ref rfl
  obtain ⟨rfl, g2, -⟩ := h3.ref rfl
  have g1 : Γ (α 0) = 39 := g1
  have g2 : Γ (α 1) = 38 := g2
  cases d with
  | zero => exact absurd hd (by decide)
  | succ d =>
    have hd : 4 ≤ d + 1 := hd
    have hlt := (hT (α 0) (by rw [g1]; decide)).1
    have hK := (hT (α 0) (by rw [g1]; decide)).2
    rw [g1] at hK
    have b1 := hK.2.1 (1, 2, 0, 11) (by decide) 1 (Nat.le_refl _) (by decide)
    have b0 := hK.2.1 (0, 1, 0, 12) (by decide) 0 (Nat.le_refl _) (by decide)
    have hW := (hT (α 1) (by rw [g2]; decide)).2
    rw [g2] at hW
    obtain ⟨sv, e1, e2⟩ := tyR hT g1 (by decide) (j := 2) (τ2 := 55) (by decide)
    have hS := (hT sv (by rw [e2]; decide)).2
    rw [e2] at hS
    obtain ⟨s0, u0, K, R, I⟩ := M
    have b1 : 0 ≤ I (α 0) 1 ∧ I (α 0) 1 ≤ 11 := b1
    have b0 : 0 ≤ I (α 0) 0 ∧ I (α 0) 0 ≤ 12 := b0
    have hx : 0 ≤ (wI (wI (I (α 0) 1 + 12) - 1)).tmod 12 ∧ (wI (wI (I (α 0) 1 + 12) - 1)).tmod 12 ≤ 11 := by
      rw [wI_id (x := I (α 0) 1 + 12) (by unfold inI; omega), wI_id (by unfold inI; omega), Int.tmod_eq_emod_of_nonneg (by omega)]
      omega
    refine Rm.of [vr (α 0), vr (α 1), vn] (eq_true (show 2 ≤ mmaxl 2 by decide +kernel)) rfl ?_
    refine s_aload_n (i := 0) (show decode (mcode 2) 0 = _ by decide +kernel) rfl ?_
    refine s_getI (idx := 17) (c := 0) (j := 1) (show decode (mcode 2) 1 = _ by decide +kernel) (show pool (mcls 2) 17 = _ by decide +kernel) hK.1 rfl ?_
    refine s_bipush (n := 12) (show decode (mcode 2) 4 = _ by decide +kernel) ⟨by decide, by decide⟩ (by decide) ?_
    refine s_iadd (show decode (mcode 2) 6 = _ by decide +kernel) ?_
    refine s_iconst (n := 1) (show decode (mcode 2) 7 = _ by decide +kernel) ⟨by decide, by decide⟩ ?_
    refine s_isub (show decode (mcode 2) 8 = _ by decide +kernel) ?_
    refine s_bipush (n := 12) (show decode (mcode 2) 9 = _ by decide +kernel) ⟨by decide, by decide⟩ (by decide) ?_
    refine s_irem (show decode (mcode 2) 11 = _ by decide +kernel) (by decide) ?_
    generalize (wI (wI (I (α 0) 1 + 12) - 1)).tmod 12 = x at hx ⊢
    refine s_istore_n (i := 2) (ls2 := [vr (α 0), vr (α 1), vi x]) (show decode (mcode 2) 12 = _ by decide +kernel) (show 2 < 3 by decide) rfl ?_
    refine s_aload_n (i := 0) (show decode (mcode 2) 13 = _ by decide +kernel) rfl ?_
    refine s_getI (idx := 31) (c := 0) (j := 0) (show decode (mcode 2) 14 = _ by decide +kernel) (show pool (mcls 2) 31 = _ by decide +kernel) hK.1 rfl ?_
    have hno : ∀ M9 : MM, M9 = (s0, u0, K, R, I) → Wm d 2 29 [vr (α 0), vr (α 1), vi x] [] M9 (KPost Yt (PSt g) t_k2 ρ α Γ (s0, u0, K, R, I)) := by
      intro M9 h9
      subst h9
      refine s_iconst (n := 0) (show decode (mcode 2) 29 = _ by decide +kernel) ⟨by decide, by decide⟩ (s_zret (show decode (mcode 2) 30 = _ by decide +kernel) (show mret 2 = _ by decide +kernel) (Or.inl rfl) ?_)
      exact ⟨Γ, hT, FRM.refl _ _ _, fun _ _ => rfl, Nat.le_refl _, Nat.le_refl _, Or.inr ⟨rfl, ⟨fun p hp => absurd hp List.not_mem_nil, fun p hp => absurd hp List.not_mem_nil⟩⟩⟩
    refine s_if_eq (off := 12) 29 (show decode (mcode 2) 17 = _ by decide +kernel) (by decide) (fun _ => hno _ rfl) (fun hc => ?_)
    refine s_aload_n (i := 0) (show decode (mcode 2) 20 = _ by decide +kernel) rfl ?_
    refine s_getR (idx := 11) (c := 0) (j := 2) (show decode (mcode 2) 21 = _ by decide +kernel) (show pool (mcls 2) 11 = _ by decide +kernel) hK.1 e1 ?_
    refine s_iload_n (i := 2) (show decode (mcode 2) 24 = _ by decide +kernel) rfl ?_
    refine s_aald (show decode (mcode 2) 25 = _ by decide +kernel) hS.1 hx.1 (by show x < (12 : Int); omega) rfl ?_
    refine s_ifnonnull (off := 5) 31 (show decode (mcode 2) 26 = _ by decide +kernel) (by decide) (fun hn => ?_) (fun _ => hno _ rfl)
    obtain ⟨b, hb, hb2⟩ : ∃ b, R sv x.toNat = some b ∧ Γ b = 98 := by
      rcases hS.2.2 (0, 12, 98, true) (by decide) x.toNat (Nat.zero_le _) (by show x.toNat < 12; omega) with h | ⟨b, h5, h6, -⟩
      · exact absurd h.1 hn
      · exact ⟨b, h5, h6⟩
    refine s_aload_n (i := 1) (show decode (mcode 2) 31 = _ by decide +kernel) rfl ?_
    refine s_aload_n (i := 0) (show decode (mcode 2) 32 = _ by decide +kernel) rfl ?_
    refine s_getR (idx := 11) (c := 0) (j := 2) (show decode (mcode 2) 33 = _ by decide +kernel) (show pool (mcls 2) 11 = _ by decide +kernel) hK.1 e1 ?_
    refine s_iload_n (i := 2) (show decode (mcode 2) 36 = _ by decide +kernel) rfl ?_
    refine s_aald (x := some b) (show decode (mcode 2) 37 = _ by decide +kernel) hS.1 hx.1 (by show x < (12 : Int); omega) hb ?_
    refine s_inv1 (idx := 27) (y := 107) (a := α 1) (c := 10) (x1 := vr b) (show decode (mcode 2) 38 = _ by decide +kernel) (show pool (mcls 2) 27 = _ by decide +kernel) (by decide +kernel) hW.1 (by decide +kernel) (by decide +kernel) (by decide) (k_k107b g d ρ (fun i => if i = 0 then α 1 else b) Γ (s0, u0, K, R, I) [vr (α 1), vr b] [] rfl (show 2 ≤ d by omega) hT hB ⟨⟨rfl, g2, by decide⟩, ⟨rfl, hb2, by decide⟩, trivial⟩ (fun p hp => absurd hp List.not_mem_nil)) ?_
    intro r M1 q
    obtain ⟨Γ2, q1, q2, q3, q4, q5, q6⟩ := q
    obtain ⟨rfl, -⟩ := (show r = none ∧ _ from q6)
    obtain ⟨g3, c1, -⟩ := cE hT q2 q3 (lo := 0) (hi := 2) (fun e he => List.all_eq_true.mp (show (kEff t_k107b).all (fun e => efDis e (39, 0, 2)) = true by decide +kernel) e he) g1 (by decide)
    have c1 := c1 0 (Nat.le_refl _) (by decide)
    have hK2 := (q1 (α 0) (by rw [g3]; decide)).2
    rw [g3] at hK2
    obtain ⟨s1, u1, K1, R1, I1⟩ := M1
    have c1 : I1 (α 0) 0 = I (α 0) 0 := c1
    show Wm d 2 41 [vr (α 0), vr (α 1), vi x] [] (s1, u1, K1, R1, I1) _
    refine s_aload_n (i := 0) (show decode (mcode 2) 41 = _ by decide +kernel) rfl ?_
    refine s_iload_n (i := 2) (show decode (mcode 2) 42 = _ by decide +kernel) rfl ?_
    refine s_putI (idx := 17) (c := 0) (j := 1) (show decode (mcode 2) 43 = _ by decide +kernel) (show pool (mcls 2) 17 = _ by decide +kernel) hK2.1 (by decide +kernel) rfl ?_
    refine s_aload_n (i := 0) (show decode (mcode 2) 46 = _ by decide +kernel) rfl ?_
    refine s_dup (show decode (mcode 2) 47 = _ by decide +kernel) rfl ?_
    refine s_getI (idx := 31) (c := 0) (j := 0) (x := I1 (α 0) 0) (show decode (mcode 2) 48 = _ by decide +kernel) (show pool (mcls 2) 31 = _ by decide +kernel) hK2.1 (if_neg (fun q => absurd q.2 (by decide))) ?_
    refine s_iconst (n := 1) (show decode (mcode 2) 51 = _ by decide +kernel) ⟨by decide, by decide⟩ ?_
    refine s_isub (show decode (mcode 2) 52 = _ by decide +kernel) ?_
    refine s_putI (idx := 31) (c := 0) (j := 0) (show decode (mcode 2) 53 = _ by decide +kernel) (show pool (mcls 2) 31 = _ by decide +kernel) hK2.1 (by decide +kernel) rfl ?_
    refine s_iconst (n := 1) (show decode (mcode 2) 56 = _ by decide +kernel) ⟨by decide, by decide⟩ (s_zret (show decode (mcode 2) 57 = _ by decide +kernel) (show mret 2 = _ by decide +kernel) (Or.inr rfl) ?_)
    have hw : wI (I1 (α 0) 0 - 1) = I1 (α 0) 0 - 1 := wI_id (by unfold inI; omega)
    have t1 : HTy Yt Γ2 (s1, u1, K1, R1, up I1 (α 0) 1 x) := HT_up (lo := 1) (hi := 2) (p := (0, 11)) q1 (by decide) (by decide) (by rw [g3]; decide) hx
    have t2 : HTy Yt Γ2 (s1, u1, K1, R1, up (up I1 (α 0) 1 x) (α 0) 0 (wI (I1 (α 0) 0 - 1))) := HT_up (lo := 0) (hi := 1) (p := (0, 11)) t1 (by decide) (by decide) (by rw [g3]; decide) (by rw [hw]; show 0 ≤ _ ∧ _ ≤ (11 : Int); omega)
    have f0 : FRM (kEff t_k2) Γ (s0, u0, K, R, I) (s1, u1, K1, R1, I1) := FRM_weak q2 (by decide +kernel)
    have f1 : FRM [(39, 1, 2)] Γ2 (s1, u1, K1, R1, I1) (s1, u1, K1, R1, up I1 (α 0) 1 x) := by
      have := FRM_up (Γ := Γ2) (s := s1) (u := u1) (K := K1) (R := R1) (I := I1) (a := α 0) (j := 1) (lo := 1) (hi := 2) (x := x) (by decide) (by decide) (by rw [g3]; decide)
      rw [g3] at this
      exact this
    have f2 : FRM [(39, 0, 1)] Γ2 (s1, u1, K1, R1, up I1 (α 0) 1 x) (s1, u1, K1, R1, up (up I1 (α 0) 1 x) (α 0) 0 (wI (I1 (α 0) 0 - 1))) := by
      have := FRM_up (Γ := Γ2) (s := s1) (u := u1) (K := K1) (R := R1) (I := up I1 (α 0) 1 x) (a := α 0) (j := 0) (lo := 0) (hi := 1) (x := wI (I1 (α 0) 0 - 1)) (by decide) (by decide) (by rw [g3]; decide)
      rw [g3] at this
      exact this
    exact ⟨Γ2, t2, (f0.trans q3 f1 (by decide +kernel)).trans q3 f2 (by decide +kernel), q3, q4, q5, Or.inl ⟨rfl, ⟨fun p hp => absurd hp List.not_mem_nil, fun p hp => absurd hp List.not_mem_nil⟩⟩⟩
def t_k118 : KT := ((118, 8, 17, 2600), [(2, 0, 54, 0), (1, 1, 0, 0), (1, 2, 0, 0)], [(0, 0), (-2147483648, 2147483647), (-2147483648, 2147483647)], [], (2, 0, 1), [(1, 0, 1), (1, 1, 2), (2, 0, 144), (3, 0, 144), (4, 0, 144), (5, 0, 288), (6, 0, 1), (6, 1, 2), (9, 0, 288), (10, 0, 1), (10, 1, 2), (10, 2, 3), (10, 3, 4), (13, 0, 144), (39, 0, 1), (39, 1, 2), (55, 0, 12), (57, 0, 1), (57, 1, 2), (61, 0, 1), (61, 1, 2), (62, 0, 144), (63, 0, 144), (64, 0, 144), (65, 0, 288), (66, 0, 1), (66, 1, 2), (67, 0, 121), (68, 0, 121), (69, 0, 288), (70, 0, 1), (70, 1, 2), (70, 2, 3), (70, 3, 4), (71, 0, 144), (72, 0, 144), (73, 0, 144), (74, 0, 144), (75, 0, 144), (76, 0, 144)], [], ([(1, 2, 12), (2, 2, 12)], []), ([], [(441, [(1, 1, 0, 0), (1, 2, 0, 0), (0, 0, 0, 2), (0, 0, 0, 12)])]))
def c_k118 : List CUT := []
def a_k118 : List (Nat × KT) := [(1, t_k159), (4, t_k159), (12, t_k1), (17, t_k108)]
def l_k118 : LNL := [(6, [(t_soa, [[1], [2]]), (t_sob, [[1], [2]])])]
theorem k_k118 (g : GG) : KOK Yt (PSt g) t_k118 := verK_ok (PSt_ok g) (PSt_ax g) (dk := 7) (AN := anOf a_k118) (anOf_ok ⟨k_k159 g, ⟨k_k159 g, ⟨k_k1 g, ⟨k_k108 g, trivial⟩⟩⟩⟩) (LN := lnOf l_k118) (lnOf_ok ⟨⟨l_soa g, ⟨l_sob g, trivial⟩⟩, trivial⟩) (cuts := c_k118) (f := 3000) (by decide +kernel)
def t_k119 : KT := ((119, 8, 17, 2600), [(2, 0, 54, 0), (1, 1, 0, 0), (1, 2, 0, 0)], [(0, 0), (-2147483648, 2147483647), (-2147483648, 2147483647)], [], (1, -1000, 127), [(2, 0, 144), (10, 0, 1), (10, 1, 2), (10, 2, 3), (10, 3, 4), (13, 0, 144), (39, 0, 1), (39, 1, 2), (55, 0, 12), (57, 0, 1), (57, 1, 2), (61, 0, 1), (61, 1, 2), (62, 0, 144), (63, 0, 144), (64, 0, 144), (65, 0, 288), (66, 0, 1), (66, 1, 2), (67, 0, 121), (68, 0, 121), (69, 0, 288), (70, 0, 1), (70, 1, 2), (70, 2, 3), (70, 3, 4), (71, 0, 144), (72, 0, 144), (73, 0, 144), (74, 0, 144), (75, 0, 144), (76, 0, 144)], [], ([], []), ([], []))
def c_k119 : List CUT := []
def a_k119 : List (Nat × KT) := [(4, t_k13), (12, t_k1), (19, t_k19), (24, t_k49)]
def l_k119 : LNL := []
theorem k_k119 (g : GG) : KOK Yt (PSt g) t_k119 := verK_ok (PSt_ok g) (PSt_ax g) (dk := 7) (AN := anOf a_k119) (anOf_ok ⟨k_k13 g, ⟨k_k1 g, ⟨k_k19 g, ⟨k_k49 g, trivial⟩⟩⟩⟩) (LN := lnOf l_k119) (lnOf_ok trivial) (cuts := c_k119) (f := 3000) (by decide +kernel)
def t_k120 : KT := ((120, 8, 17, 2600), [(2, 0, 54, 0), (1, 1, 0, 0), (1, 2, 0, 0)], [(0, 0), (-2147483648, 2147483647), (0, 1)], [], (2, 0, 1), [(4, 0, 144), (10, 0, 1), (10, 1, 2), (10, 2, 3), (10, 3, 4), (13, 0, 144), (39, 0, 1), (39, 1, 2), (55, 0, 12), (57, 0, 1), (57, 1, 2), (61, 0, 1), (61, 1, 2), (62, 0, 144), (63, 0, 144), (64, 0, 144), (65, 0, 288), (66, 0, 1), (66, 1, 2), (67, 0, 121), (68, 0, 121), (69, 0, 288), (70, 0, 1), (70, 1, 2), (70, 2, 3), (70, 3, 4), (71, 0, 144), (72, 0, 144), (73, 0, 144), (74, 0, 144), (75, 0, 144), (76, 0, 144)], [], ([(1, 0, 143)], []), ([], []))
def c_k120 : List CUT := []
def a_k120 : List (Nat × KT) := [(4, t_k13), (20, t_k1), (31, t_k49)]
def l_k120 : LNL := []
theorem k_k120 (g : GG) : KOK Yt (PSt g) t_k120 := verK_ok (PSt_ok g) (PSt_ax g) (dk := 7) (AN := anOf a_k120) (anOf_ok ⟨k_k13 g, ⟨k_k1 g, ⟨k_k49 g, trivial⟩⟩⟩) (LN := lnOf l_k120) (lnOf_ok trivial) (cuts := c_k120) (f := 3000) (by decide +kernel)
def t_k121 : KT := ((121, 8, 17, 2600), [(2, 0, 54, 0), (1, 1, 0, 0), (1, 2, 0, 0)], [(0, 0), (-2147483648, 2147483647), (-2147483648, 2147483647)], [], (2, 0, 1), [(3, 0, 144), (39, 0, 1), (39, 1, 2), (55, 0, 12), (57, 0, 1), (57, 1, 2), (61, 0, 1), (61, 1, 2), (62, 0, 144), (63, 0, 144), (64, 0, 144), (65, 0, 288), (66, 0, 1), (66, 1, 2), (67, 0, 121), (68, 0, 121), (69, 0, 288), (70, 0, 1), (70, 1, 2), (70, 2, 3), (70, 3, 4), (71, 0, 144), (72, 0, 144), (73, 0, 144), (74, 0, 144), (75, 0, 144), (76, 0, 144)], [], ([(1, 0, 143), (2, 0, 99)], []), ([], []))
def c_k121 : List CUT := []
def a_k121 : List (Nat × KT) := [(4, t_k13), (17, t_k1)]
def l_k121 : LNL := []
theorem k_k121 (g : GG) : KOK Yt (PSt g) t_k121 := verK_ok (PSt_ok g) (PSt_ax g) (dk := 7) (AN := anOf a_k121) (anOf_ok ⟨k_k13 g, ⟨k_k1 g, trivial⟩⟩) (LN := lnOf l_k121) (lnOf_ok trivial) (cuts := c_k121) (f := 3000) (by decide +kernel)
def t_k161 : KT := ((161, 4, 0, 0), [(2, 0, 54, 0), (1, 1, 0, 0), (1, 2, 0, 0)], [(0, 0), (0, 2), (0, 143)], [(79, [(2, 0, 54, 0), (1, 2, 0, 0)])], (1, 0, 99), [], [], ([], []), ([], []))
def c_k161 : List CUT := []
def a_k161 : List (Nat × KT) := [(20, t_k30), (30, t_k74)]
def l_k161 : LNL := [(20, [(t_tb79, [[0], [0, 0], [0, 0, 0], [2]])])]
theorem k_k161 (g : GG) : KOK Yt (PSt g) t_k161 := verK_ok (PSt_ok g) (PSt_ax g) (dk := 3) (AN := anOf a_k161) (anOf_ok ⟨k_k30 g, ⟨k_k74 g, trivial⟩⟩) (LN := lnOf l_k161) (lnOf_ok ⟨⟨l_tb79 g, trivial⟩, trivial⟩) (cuts := c_k161) (f := 3000) (by decide +kernel)
def t_k160 : KT := ((160, 1, 0, 0), [(2, 0, 54, 0), (1, 1, 0, 0)], [(0, 0), (0, 144)], [], (1, 0, 143), [(54, 9, 10)], [], ([], []), ([], []))
def c_k160 : List CUT := []
def a_k160 : List (Nat × KT) := []
def l_k160 : LNL := []
theorem k_k160 (g : GG) : KOK Yt (PSt g) t_k160 := verK_ok (PSt_ok g) (PSt_ax g) (dk := 0) (AN := anOf a_k160) (anOf_ok trivial) (LN := lnOf l_k160) (lnOf_ok trivial) (cuts := c_k160) (f := 3000) (by decide +kernel)
def t_k122 : KT := ((122, 8, 17, 2600), [(2, 0, 54, 0), (1, 1, 0, 0)], [(0, 0), (-2147483648, 2147483647)], [], (1, -2147483648, 2147483647), [(3, 0, 144), (21, 0, 1), (22, 0, 121), (23, 0, 121), (24, 0, 121), (39, 0, 1), (39, 1, 2), (55, 0, 12), (57, 0, 1), (57, 1, 2), (61, 0, 1), (61, 1, 2), (62, 0, 144), (63, 0, 144), (64, 0, 144), (65, 0, 288), (66, 0, 1), (66, 1, 2), (67, 0, 121), (68, 0, 121), (69, 0, 288), (70, 0, 1), (70, 1, 2), (70, 2, 3), (70, 3, 4), (71, 0, 144), (72, 0, 144), (73, 0, 144), (74, 0, 144), (75, 0, 144), (76, 0, 144)], [], ([], []), ([], []))
def c_k122 : List CUT := [(25, [0, 1, 2, 3], [(2, 0, 54, 0), (1, 1, 0, 0), (1, 2, 0, 0), (1, 3, 0, 0)], [(0, 0), (0, 2), (-2147483648, 2147483647), (0, 144)], [(2, 0, 54, 0), (1, 1, 0, 0), (1, 2, 0, 0), (1, 3, 0, 0)], [(0, [(2, 0, 54, 0), (1, 1, 0, 0)])], (17, 2600), [(0, 0, 1), (1, 3, 144)])]
def a_k122 : List (Nat × KT) := [(11, t_k1), (20, t_k73), (29, t_k10), (39, t_k161)]
def l_k122 : LNL := [(39, [(t_ta79, [[0], [0, 0], [0, 0, 0], [3]])])]
theorem k_k122 (g : GG) : KOK Yt (PSt g) t_k122 := verK_ok (PSt_ok g) (PSt_ax g) (dk := 7) (AN := anOf a_k122) (anOf_ok ⟨k_k1 g, ⟨k_k73 g, ⟨k_k10 g, ⟨k_k161 g, trivial⟩⟩⟩⟩) (LN := lnOf l_k122) (lnOf_ok ⟨⟨l_ta79 g, trivial⟩, trivial⟩) (cuts := c_k122) (f := 3000) (by decide +kernel)
def t_k123 : KT := ((123, 8, 17, 2600), [(2, 0, 54, 0), (1, 1, 0, 0), (1, 2, 0, 0)], [(0, 0), (-2147483648, 2147483647), (-2147483648, 2147483647)], [], (2, 0, 1), [(2, 0, 144), (10, 0, 1), (10, 1, 2), (10, 2, 3), (10, 3, 4), (13, 0, 144), (39, 0, 1), (39, 1, 2), (55, 0, 12), (57, 0, 1), (57, 1, 2), (61, 0, 1), (61, 1, 2), (62, 0, 144), (63, 0, 144), (64, 0, 144), (65, 0, 288), (66, 0, 1), (66, 1, 2), (67, 0, 121), (68, 0, 121), (69, 0, 288), (70, 0, 1), (70, 1, 2), (70, 2, 3), (70, 3, 4), (71, 0, 144), (72, 0, 144), (73, 0, 144), (74, 0, 144), (75, 0, 144), (76, 0, 144)], [], ([(1, -999, 999), (2, -999, 999)], []), ([], [(441, [(1, 1, 0, 0), (1, 2, 0, 0), (0, 0, 0, -999), (0, 0, 0, 999)])]))
def c_k123 : List CUT := [(25, [0, 1, 2, 3, 4], [(2, 0, 54, 0), (1, 1, 0, 0), (1, 2, 0, 0), (2, 3, 1, 0), (1, 4, 0, 0)], [(0, 0), (-999, 999), (-999, 999), (0, 0), (0, 144)], [(2, 0, 54, 0), (1, 1, 0, 0), (1, 2, 0, 0), (2, 3, 1, 0), (1, 4, 0, 0)], [(0, [(2, 0, 54, 0), (1, 1, 0, 0), (1, 2, 0, 0)])], (17, 2600), [(0, 0, 1), (1, 4, 144)])]
def a_k123 : List (Nat × KT) := [(18, t_k1), (27, t_k10), (39, t_k11p), (45, t_k12), (48, t_k19), (55, t_k49)]
def l_k123 : LNL := [(12, [(t_srl, [[1]]), (t_srh, [[1]]), (t_srl, [[2]]), (t_srh, [[2]]), (t_sra, [[1], [2]]), (t_srb, [[1], [2]])])]
theorem k_k123 (g : GG) : KOK Yt (PSt g) t_k123 := verK_ok (PSt_ok g) (PSt_ax g) (dk := 7) (AN := anOf a_k123) (anOf_ok ⟨k_k1 g, ⟨k_k10 g, ⟨k_k11p g, ⟨k_k12 g, ⟨k_k19 g, ⟨k_k49 g, trivial⟩⟩⟩⟩⟩⟩) (LN := lnOf l_k123) (lnOf_ok ⟨⟨l_srl g, ⟨l_srh g, ⟨l_srl g, ⟨l_srh g, ⟨l_sra g, ⟨l_srb g, trivial⟩⟩⟩⟩⟩⟩, trivial⟩) (cuts := c_k123) (f := 3000) (by decide +kernel)
def t_k124 : KT := ((124, 8, 17, 2600), [(2, 0, 54, 0), (1, 1, 0, 0)], [(0, 0), (-2147483648, 2147483647)], [], (2, 0, 1), [(2, 0, 144), (10, 0, 1), (10, 1, 2), (10, 2, 3), (10, 3, 4), (13, 0, 144), (39, 0, 1), (39, 1, 2), (54, 9, 10), (55, 0, 12), (57, 0, 1), (57, 1, 2), (61, 0, 1), (61, 1, 2), (62, 0, 144), (63, 0, 144), (64, 0, 144), (65, 0, 288), (66, 0, 1), (66, 1, 2), (67, 0, 121), (68, 0, 121), (69, 0, 288), (70, 0, 1), (70, 1, 2), (70, 2, 3), (70, 3, 4), (71, 0, 144), (72, 0, 144), (73, 0, 144), (74, 0, 144), (75, 0, 144), (76, 0, 144)], [], ([(1, 1, 60)], []), ([], [(440, [(1, 1, 0, 0), (0, 0, 0, 1), (0, 0, 0, 60)])]))
def c_k124 : List CUT := [(15, [0, 1, 2], [(2, 0, 54, 0), (1, 1, 0, 0), (1, 2, 0, 0)], [(0, 0), (1, 60), (0, 60)], [(2, 0, 54, 0), (1, 1, 0, 0), (1, 2, 0, 0), (7, 0, 0, 0), (7, 0, 0, 0)], [(0, [(2, 0, 54, 0), (1, 1, 0, 0)])], (17, 2600), [(0, 0, 1), (1, 2, 60)])]
def a_k124 : List (Nat × KT) := [(12, t_k1), (22, t_k10), (23, t_k160), (27, t_k160), (44, t_k19), (51, t_k49)]
def l_k124 : LNL := [(6, [(t_snl, [[1]]), (t_snh, [[1]])])]
theorem k_k124 (g : GG) : KOK Yt (PSt g) t_k124 := verK_ok (PSt_ok g) (PSt_ax g) (dk := 7) (AN := anOf a_k124) (anOf_ok ⟨k_k1 g, ⟨k_k10 g, ⟨k_k160 g, ⟨k_k160 g, ⟨k_k19 g, ⟨k_k49 g, trivial⟩⟩⟩⟩⟩⟩) (LN := lnOf l_k124) (lnOf_ok ⟨⟨l_snl g, ⟨l_snh g, trivial⟩⟩, trivial⟩) (cuts := c_k124) (f := 3000) (by decide +kernel)
def t_k125 : KT := ((125, 1, 0, 0), [(2, 0, 54, 0), (1, 1, 0, 0)], [(0, 0), (-2147483648, 2147483647)], [], (1, -2147483648, 2147483647), [(54, 9, 10)], [], ([], []), ([], []))
def c_k125 : List CUT := []
def a_k125 : List (Nat × KT) := []
def l_k125 : LNL := []
theorem k_k125 (g : GG) : KOK Yt (PSt g) t_k125 := verK_ok (PSt_ok g) (PSt_ax g) (dk := 0) (AN := anOf a_k125) (anOf_ok trivial) (LN := lnOf l_k125) (lnOf_ok trivial) (cuts := c_k125) (f := 3000) (by decide +kernel)
def t_k126 : KT := ((126, 19, 17, 2600), [(2, 0, 54, 0), (1, 1, 0, 0)], [(0, 0), (-2147483648, 2147483647)], [(58, [(2, 0, 54, 0), (0, 0, 0, 0)]), (78, [(0, 0, 0, 0)])], (1, -2147483648, 2147483647), [(6, 0, 1), (6, 1, 2), (7, 0, 121), (8, 0, 121), (9, 0, 288), (10, 0, 1), (10, 1, 2), (10, 2, 3), (10, 3, 4), (13, 0, 144), (17, 0, 1), (18, 0, 180), (21, 0, 1), (22, 0, 121), (23, 0, 121), (24, 0, 121), (25, 0, 4096), (39, 0, 1), (39, 1, 2), (55, 0, 12), (57, 0, 1), (57, 1, 2), (61, 0, 1), (61, 1, 2), (62, 0, 144), (63, 0, 144), (64, 0, 144), (65, 0, 288), (66, 0, 1), (66, 1, 2), (67, 0, 121), (68, 0, 121), (69, 0, 288), (70, 0, 1), (70, 1, 2), (70, 2, 3), (70, 3, 4), (71, 0, 144), (72, 0, 144), (73, 0, 144), (74, 0, 144), (75, 0, 144), (76, 0, 144)], [(58, [(2, 0, 54, 0), (0, 0, 0, 150)])], ([], []), ([], []))
def c_k126 : List CUT := []
def a_k126 : List (Nat × KT) := [(6, t_k75), (14, t_k1), (21, t_k76), (30, t_k77), (34, t_k49), (45, t_k69)]
def l_k126 : LNL := [(8, [(t_w58, [[0], [100581]])]), (45, [(t_ta58, [[0], [0, 3], [100581]])]), (46, [(t_tb58, [[0], [0, 3], [100771]]), (t_w58, [[0], [100581]])])]
theorem k_k126 (g : GG) : KOK Yt (PSt g) t_k126 := verK_ok (PSt_ok g) (PSt_ax g) (dk := 18) (AN := anOf a_k126) (anOf_ok ⟨k_k75 g, ⟨k_k1 g, ⟨k_k76 g, ⟨k_k77 g, ⟨k_k49 g, ⟨k_k69 g, trivial⟩⟩⟩⟩⟩⟩) (LN := lnOf l_k126) (lnOf_ok ⟨⟨l_w58 g, trivial⟩, ⟨⟨l_ta58 g, trivial⟩, ⟨⟨l_tb58 g, ⟨l_w58 g, trivial⟩⟩, trivial⟩⟩⟩) (cuts := c_k126) (f := 3000) (by decide +kernel)
def t_k127 : KT := ((127, 8, 17, 2600), [(2, 0, 54, 0), (1, 1, 0, 0), (1, 2, 0, 0)], [(0, 0), (-2147483648, 2147483647), (0, 1)], [], (2, 0, 1), [(5, 0, 288), (10, 0, 1), (10, 1, 2), (10, 2, 3), (10, 3, 4), (13, 0, 144), (39, 0, 1), (39, 1, 2), (55, 0, 12), (57, 0, 1), (57, 1, 2), (61, 0, 1), (61, 1, 2), (62, 0, 144), (63, 0, 144), (64, 0, 144), (65, 0, 288), (66, 0, 1), (66, 1, 2), (67, 0, 121), (68, 0, 121), (69, 0, 288), (70, 0, 1), (70, 1, 2), (70, 2, 3), (70, 3, 4), (71, 0, 144), (72, 0, 144), (73, 0, 144), (74, 0, 144), (75, 0, 144), (76, 0, 144)], [], ([(1, 0, 287)], []), ([], []))
def c_k127 : List CUT := []
def a_k127 : List (Nat × KT) := [(4, t_k14), (20, t_k1), (31, t_k49)]
def l_k127 : LNL := []
theorem k_k127 (g : GG) : KOK Yt (PSt g) t_k127 := verK_ok (PSt_ok g) (PSt_ax g) (dk := 7) (AN := anOf a_k127) (anOf_ok ⟨k_k14 g, ⟨k_k1 g, ⟨k_k49 g, trivial⟩⟩⟩) (LN := lnOf l_k127) (lnOf_ok trivial) (cuts := c_k127) (f := 3000) (by decide +kernel)
def t_k128 : KT := ((128, 4, 0, 0), [(2, 0, 54, 0)], [(0, 0)], [], (1, -2147483648, 2147483647), [(10, 0, 1), (10, 1, 2), (10, 2, 3), (10, 3, 4), (13, 0, 144)], [], ([], []), ([], []))
def c_k128 : List CUT := []
def a_k128 : List (Nat × KT) := [(6, t_k51)]
def l_k128 : LNL := []
theorem k_k128 (g : GG) : KOK Yt (PSt g) t_k128 := verK_ok (PSt_ok g) (PSt_ax g) (dk := 3) (AN := anOf a_k128) (anOf_ok ⟨k_k51 g, trivial⟩) (LN := lnOf l_k128) (lnOf_ok trivial) (cuts := c_k128) (f := 3000) (by decide +kernel)
def t_k129g : KT := ((129, 6, 0, 0), [(2, 0, 54, 0), (1, 1, 0, 0)], [(0, 0), (-2147483648, 2147483647)], [(58, [(2, 0, 54, 0), (0, 0, 0, 0)]), (78, [(0, 0, 0, 0)]), (57, [(2, 0, 54, 0), (0, 0, 0, 0)])], (1, -1, 144), [(10, 0, 1), (10, 2, 3), (10, 3, 4), (11, 0, 144), (12, 0, 144), (13, 0, 144), (14, 0, 144), (15, 0, 144), (16, 0, 144), (17, 0, 1), (18, 0, 180), (26, 4, 5), (27, 0, 288), (28, 0, 144), (29, 0, 144), (30, 0, 144)], [(58, [(2, 0, 54, 0), (0, 0, 0, 150)])], ([], []), ([], []))
def c_k129g : List CUT := [(25, [0, 1, 2], [(2, 0, 54, 0), (1, 1, 0, 0), (1, 2, 0, 0)], [(0, 0), (1, 144), (0, 144)], [(2, 0, 54, 0), (1, 1, 0, 0), (1, 2, 0, 0), (7, 0, 0, 0)], [(0, [(2, 0, 54, 0), (1, 1, 0, 0)]), (56, [(2, 0, 54, 0)]), (57, [(2, 0, 54, 0), (0, 0, 0, 0)]), (58, [(2, 0, 54, 0), (1, 2, 0, 0)]), (78, [(0, 0, 0, 0)])], (0, 0), [(0, 0, 1), (1, 2, 144)])]
def a_k129g : List (Nat × KT) := [(17, t_k34), (22, t_k35), (46, t_k52), (64, t_k69), (80, t_k114), (81, t_k69)]
def l_k129g : LNL := [(11, [(t_w58, [[0], [100581]])]), (22, [(t_ta57_0, [[0], [0, 0]])]), (23, [(t_tb56, [[0], [0, 6]])]), (46, [(t_ta57_0, [[0], [0, 0]]), (t_w50, [[0, 0], [0, 0, 0]]), (t_ta56, [[0], [0, 6]])]), (47, [(t_tb56, [[0], [0, 6]])]), (64, [(t_ta58, [[0], [0, 3], [100581]])]), (65, [(t_tb58, [[0], [0, 3], [100771]]), (t_up58, [[0], [2]])]), (81, [(t_ta58, [[0], [0, 3], [100581]])]), (82, [(t_tb58, [[0], [0, 3], [100771]])]), (83, [(t_w58, [[0], [100581]])])]
theorem k_k129g (g : GG) : KOK Yt (PSt g) t_k129g := verK_ok (PSt_ok g) (PSt_ax g) (dk := 5) (AN := anOf a_k129g) (anOf_ok ⟨k_k34 g, ⟨k_k35 g, ⟨k_k52 g, ⟨k_k69 g, ⟨k_k114 g, ⟨k_k69 g, trivial⟩⟩⟩⟩⟩⟩) (LN := lnOf l_k129g) (lnOf_ok ⟨⟨l_w58 g, trivial⟩, ⟨⟨l_ta57_0 g, trivial⟩, ⟨⟨l_tb56 g, trivial⟩, ⟨⟨l_ta57_0 g, ⟨l_w50 g, ⟨l_ta56 g, trivial⟩⟩⟩, ⟨⟨l_tb56 g, trivial⟩, ⟨⟨l_ta58 g, trivial⟩, ⟨⟨l_tb58 g, ⟨l_up58 g, trivial⟩⟩, ⟨⟨l_ta58 g, trivial⟩, ⟨⟨l_tb58 g, trivial⟩, ⟨⟨l_w58 g, trivial⟩, trivial⟩⟩⟩⟩⟩⟩⟩⟩⟩⟩) (cuts := c_k129g) (f := 3000) (by decide +kernel)
def t_k129 : KT := ((129, 6, 0, 0), [(2, 0, 54, 0), (1, 1, 0, 0)], [(0, 0), (-2147483648, 2147483647)], [(58, [(2, 0, 54, 0), (0, 0, 0, 0)]), (78, [(0, 0, 0, 0)])], (1, -1, 144), [(10, 0, 1), (10, 2, 3), (10, 3, 4), (11, 0, 144), (12, 0, 144), (13, 0, 144), (14, 0, 144), (15, 0, 144), (16, 0, 144), (17, 0, 1), (18, 0, 180), (26, 4, 5), (27, 0, 288), (28, 0, 144), (29, 0, 144), (30, 0, 144)], [(58, [(2, 0, 54, 0), (0, 0, 0, 150)])], ([], []), ([], []))
theorem k_k129 (g : GG) : KOK Yt (PSt g) t_k129 := gclose (t1 := t_k129g) (57, [(2, 0, 54, 0), (0, 0, 0, 0)]) rfl (by decide +kernel) rfl (fun _ _ _ _ _ _ _ hT hA => px57 0 (Or.inl rfl) hT hA rfl) k_k129g g
def t_k130 : KT := ((130, 8, 17, 2600), [(2, 0, 54, 0), (1, 1, 0, 0), (1, 2, 0, 0)], [(0, 0), (-2147483648, 2147483647), (-2147483648, 2147483647)], [(58, [(2, 0, 54, 0), (0, 0, 0, 0)]), (78, [(0, 0, 0, 0)])], (2, 0, 1), [(11, 0, 144), (16, 0, 144), (17, 0, 1), (18, 0, 180), (39, 0, 1), (39, 1, 2), (55, 0, 12), (57, 0, 1), (57, 1, 2), (61, 0, 1), (61, 1, 2), (62, 0, 144), (63, 0, 144), (64, 0, 144), (65, 0, 288), (66, 0, 1), (66, 1, 2), (67, 0, 121), (68, 0, 121), (69, 0, 288), (70, 0, 1), (70, 1, 2), (70, 2, 3), (70, 3, 4), (71, 0, 144), (72, 0, 144), (73, 0, 144), (74, 0, 144), (75, 0, 144), (76, 0, 144)], [], ([(1, 0, 143)], [(58, [(2, 0, 54, 0), (0, 0, 0, 150)])]), ([], [(58, [(2, 0, 54, 0), (0, 0, 0, 150)])]))
def c_k130 : List CUT := []
def a_k130 : List (Nat × KT) := [(4, t_k57), (14, t_k60), (22, t_k1), (31, t_k61), (37, t_k69)]
def l_k130 : LNL := [(16, [(t_w58, [[0], [100581]])]), (37, [(t_ta58, [[0], [0, 3], [100581]])]), (38, [(t_tb58, [[0], [0, 3], [100771]]), (t_w58, [[0], [100581]])])]
theorem k_k130 (g : GG) : KOK Yt (PSt g) t_k130 := verK_ok (PSt_ok g) (PSt_ax g) (dk := 7) (AN := anOf a_k130) (anOf_ok ⟨k_k57 g, ⟨k_k60 g, ⟨k_k1 g, ⟨k_k61 g, ⟨k_k69 g, trivial⟩⟩⟩⟩⟩) (LN := lnOf l_k130) (lnOf_ok ⟨⟨l_w58 g, trivial⟩, ⟨⟨l_ta58 g, trivial⟩, ⟨⟨l_tb58 g, ⟨l_w58 g, trivial⟩⟩, trivial⟩⟩⟩) (cuts := c_k130) (f := 3000) (by decide +kernel)
def t_k131 : KT := ((131, 8, 17, 2600), [(2, 0, 54, 0)], [(0, 0)], [(58, [(2, 0, 54, 0), (0, 0, 0, 0)]), (78, [(0, 0, 0, 0)])], (1, -2147483648, 2147483647), [(10, 0, 1), (10, 1, 2), (10, 2, 3), (10, 3, 4), (11, 0, 144), (12, 0, 144), (13, 0, 144), (14, 0, 144), (15, 0, 144), (16, 0, 144), (17, 0, 1), (18, 0, 180), (31, 0, 1), (31, 1, 2), (31, 2, 3), (32, 0, 288), (33, 0, 288), (34, 0, 144), (39, 0, 1), (39, 1, 2), (55, 0, 12), (57, 0, 1), (57, 1, 2), (61, 0, 1), (61, 1, 2), (62, 0, 144), (63, 0, 144), (64, 0, 144), (65, 0, 288), (66, 0, 1), (66, 1, 2), (67, 0, 121), (68, 0, 121), (69, 0, 288), (70, 0, 1), (70, 1, 2), (70, 2, 3), (70, 3, 4), (71, 0, 144), (72, 0, 144), (73, 0, 144), (74, 0, 144), (75, 0, 144), (76, 0, 144)], [(58, [(2, 0, 54, 0), (0, 0, 0, 150)])], ([], []), ([], []))
def c_k131 : List CUT := []
def a_k131 : List (Nat × KT) := [(6, t_k50), (15, t_k95), (26, t_k1), (33, t_k50), (42, t_k69)]
def l_k131 : LNL := [(20, [(t_w58, [[0], [100581]])]), (42, [(t_ta58, [[0], [0, 3], [100581]])]), (43, [(t_tb58, [[0], [0, 3], [100771]]), (t_w58, [[0], [100581]])])]
theorem k_k131 (g : GG) : KOK Yt (PSt g) t_k131 := verK_ok (PSt_ok g) (PSt_ax g) (dk := 7) (AN := anOf a_k131) (anOf_ok ⟨k_k50 g, ⟨k_k95 g, ⟨k_k1 g, ⟨k_k50 g, ⟨k_k69 g, trivial⟩⟩⟩⟩⟩) (LN := lnOf l_k131) (lnOf_ok ⟨⟨l_w58 g, trivial⟩, ⟨⟨l_ta58 g, trivial⟩, ⟨⟨l_tb58 g, ⟨l_w58 g, trivial⟩⟩, trivial⟩⟩⟩) (cuts := c_k131) (f := 3000) (by decide +kernel)
def t_k132 : KT := ((132, 2, 0, 0), [(2, 0, 54, 0), (1, 1, 0, 0), (1, 2, 0, 0), (1, 3, 0, 0), (1, 4, 0, 0), (1, 5, 0, 0), (1, 6, 1, 0)], [(0, 0), (-2147483648, 2147483647), (-2147483648, 2147483647), (-2147483648, 2147483647), (-2147483648, 2147483647), (-2147483648, 2147483647), (0, 400)], [(474, [(2, 0, 54, 0), (1, 6, 0, 0)]), (472, [(1, 1, 0, 0), (1, 6, 0, 0)]), (472, [(1, 2, 0, 0), (1, 6, 0, 4)]), (472, [(1, 3, 0, 0), (1, 6, 0, 8)]), (472, [(1, 4, 0, 0), (1, 6, 0, 12)]), (472, [(1, 5, 0, 0), (1, 6, 0, 16)])], (1, -1, 400), [(19, 0, 1), (20, 0, 400)], [(477, [(1, 7, 0, 0), (1, 6, 0, 0)]), (478, [(2, 0, 54, 0), (1, 6, 0, 0)])], ([], []), ([], []))
def c_k132 : List CUT := []
def a_k132 : List (Nat × KT) := [(12, t_k100), (16, t_k100), (20, t_k100), (24, t_k100), (28, t_k100)]
def l_k132 : LNL := [(3, [(t_wfd0, [[0], [0, 4], [500], [104741]])]), (8, [(t_wfd1, [[0], [104760], [104761]])]), (12, [(t_wfd2, [[0], [0, 4], [104760], [104761]])]), (32, [(t_wfd3, [[0], [0, 4], [500], [104761]])])]
theorem k_k132 (g : GG) : KOK Yt (PSt g) t_k132 := verK_ok (PSt_ok g) (PSt_ax g) (dk := 1) (AN := anOf a_k132) (anOf_ok ⟨k_k100 g, ⟨k_k100 g, ⟨k_k100 g, ⟨k_k100 g, ⟨k_k100 g, trivial⟩⟩⟩⟩⟩) (LN := lnOf l_k132) (lnOf_ok ⟨⟨l_wfd0 g, trivial⟩, ⟨⟨l_wfd1 g, trivial⟩, ⟨⟨l_wfd2 g, trivial⟩, ⟨⟨l_wfd3 g, trivial⟩, trivial⟩⟩⟩⟩) (cuts := c_k132) (f := 3000) (by decide +kernel)
def t_k133 : KT := ((133, 1, 0, 0), [(2, 0, 54, 0), (1, 1, 0, 0), (1, 2, 1, 0)], [(0, 0), (-2147483648, 2147483647), (0, 400)], [(474, [(2, 0, 54, 0), (1, 2, 0, 0)])], (2, 0, 1), [(19, 0, 1)], [], ([(1, 0, 400)], [(482, [(1, 1, 0, 0), (1, 2, 0, 0)]), (474, [(2, 0, 54, 0), (1, 1, 0, 0)])]), ([], [(483, [(1, 1, 0, 0), (1, 2, 0, 0)]), (474, [(2, 0, 54, 0), (1, 2, 0, 0)])]))
def c_k133 : List CUT := []
def a_k133 : List (Nat × KT) := []
def l_k133 : LNL := [(6, [(t_wfd0, [[0], [0, 4], [500], [104741]])]), (8, [(t_wen0, [[1], [104741]]), (t_wen1, [[1], [104760], [104761]])]), (12, [(t_wen2, [[0], [0, 4], [1], [104760], [104761]])]), (13, [(t_wen3, [[0], [0, 4], [1]])])]
theorem k_k133 (g : GG) : KOK Yt (PSt g) t_k133 := verK_ok (PSt_ok g) (PSt_ax g) (dk := 0) (AN := anOf a_k133) (anOf_ok trivial) (LN := lnOf l_k133) (lnOf_ok ⟨⟨l_wfd0 g, trivial⟩, ⟨⟨l_wen0 g, ⟨l_wen1 g, trivial⟩⟩, ⟨⟨l_wen2 g, trivial⟩, ⟨⟨l_wen3 g, trivial⟩, trivial⟩⟩⟩⟩) (cuts := c_k133) (f := 3000) (by decide +kernel)
def t_k134 : KT := ((134, 8, 17, 2600), [(2, 0, 54, 0)], [(0, 0)], [(496, [(2, 0, 54, 0)])], (1, -1, 144), [(1, 0, 1), (1, 1, 2), (2, 0, 144), (3, 0, 144), (4, 0, 144), (5, 0, 288), (6, 0, 1), (6, 1, 2), (9, 0, 288), (10, 0, 1), (10, 1, 2), (10, 2, 3), (10, 3, 4), (13, 0, 144), (19, 0, 1), (19, 1, 2), (19, 2, 3), (39, 0, 1), (39, 1, 2), (54, 10, 11), (55, 0, 12), (57, 0, 1), (57, 1, 2), (61, 0, 1), (61, 1, 2), (62, 0, 144), (63, 0, 144), (64, 0, 144), (65, 0, 288), (66, 0, 1), (66, 1, 2), (67, 0, 121), (68, 0, 121), (69, 0, 288), (70, 0, 1), (70, 1, 2), (70, 2, 3), (70, 3, 4), (71, 0, 144), (72, 0, 144), (73, 0, 144), (74, 0, 144), (75, 0, 144), (76, 0, 144)], [(474, [(2, 0, 54, 0), (0, 0, 0, 0)]), (484, [(2, 0, 54, 0)]), (486, [(1, 1, 0, 0)])], ([], []), ([], []))
def c_k134 : List CUT := []
def a_k134 : List (Nat × KT) := [(3, t_k101), (13, t_k1), (22, t_k108), (28, t_k105), (40, t_k10)]
def l_k134 : LNL := [(3, [(t_utt0, [[0], [0, 4]])]), (5, [(t_utt1, [[0], [0, 10]])]), (9, [(t_tf5, [[0, 4], [0, 10]])]), (22, [(t_utt2, [[0, 4], [501], [500], [0, 10]])]), (33, [(t_wtx0, [[0], [0, 4]])]), (41, [(t_utt3, [[0, 0], [0, 0, 0], [500], [104880], [104881]])]), (43, [(t_utt4, [[0, 10]])])]
theorem k_k134 (g : GG) : KOK Yt (PSt g) t_k134 := verK_ok (PSt_ok g) (PSt_ax g) (dk := 7) (AN := anOf a_k134) (anOf_ok ⟨k_k101 g, ⟨k_k1 g, ⟨k_k108 g, ⟨k_k105 g, ⟨k_k10 g, trivial⟩⟩⟩⟩⟩) (LN := lnOf l_k134) (lnOf_ok ⟨⟨l_utt0 g, trivial⟩, ⟨⟨l_utt1 g, trivial⟩, ⟨⟨l_tf5 g, trivial⟩, ⟨⟨l_utt2 g, trivial⟩, ⟨⟨l_wtx0 g, trivial⟩, ⟨⟨l_utt3 g, trivial⟩, ⟨⟨l_utt4 g, trivial⟩, trivial⟩⟩⟩⟩⟩⟩⟩) (cuts := c_k134) (f := 3000) (by decide +kernel)
def t_k135 : KT := ((135, 1, 0, 0), [(2, 0, 54, 0), (1, 1, 1, 0)], [(0, 0), (-1, 400)], [(4466, [(2, 0, 54, 0), (1, 1, 0, 0), (1, 1, 0, 0)])], (1, -1, 400), [], [(476, [(1, 2, 0, 0), (1, 1, 0, 0)])], ([], []), ([], []))
def c_k135 : List CUT := []
def a_k135 : List (Nat × KT) := []
def l_k135 : LNL := [(2, [(t_ufl1, [[0], [500], [144661]])])]
theorem k_k135 (g : GG) : KOK Yt (PSt g) t_k135 := verK_ok (PSt_ok g) (PSt_ax g) (dk := 0) (AN := anOf a_k135) (anOf_ok trivial) (LN := lnOf l_k135) (lnOf_ok ⟨⟨l_ufl1 g, trivial⟩, trivial⟩) (cuts := c_k135) (f := 3000) (by decide +kernel)
def t_k136 : KT := ((136, 3, 0, 0), [(2, 0, 54, 0), (1, 1, 0, 0), (1, 2, 0, 0)], [(0, 0), (-2147483648, 2147483647), (-2147483648, 2147483647)], [], (1, -2147483648, 2147483647), [], [], ([], []), ([], []))
def c_k136 : List CUT := []
def a_k136 : List (Nat × KT) := [(4, t_k13), (12, t_k56), (69, t_k59)]
def l_k136 : LNL := []
theorem k_k136 (g : GG) : KOK Yt (PSt g) t_k136 := verK_ok (PSt_ok g) (PSt_ax g) (dk := 2) (AN := anOf a_k136) (anOf_ok ⟨k_k13 g, ⟨k_k56 g, ⟨k_k59 g, trivial⟩⟩⟩) (LN := lnOf l_k136) (lnOf_ok trivial) (cuts := c_k136) (f := 3000) (by decide +kernel)
def t_k137 : KT := ((137, 3, 0, 0), [(2, 0, 54, 0), (1, 1, 0, 0)], [(0, 0), (-2147483648, 2147483647)], [], (1, -2147483648, 2147483647), [], [], ([], []), ([], []))
def c_k137 : List CUT := []
def a_k137 : List (Nat × KT) := [(4, t_k13), (10, t_k56)]
def l_k137 : LNL := []
theorem k_k137 (g : GG) : KOK Yt (PSt g) t_k137 := verK_ok (PSt_ok g) (PSt_ax g) (dk := 2) (AN := anOf a_k137) (anOf_ok ⟨k_k13 g, ⟨k_k56 g, trivial⟩⟩) (LN := lnOf l_k137) (lnOf_ok trivial) (cuts := c_k137) (f := 3000) (by decide +kernel)
def t_k138 : KT := ((138, 5, 0, 0), [(2, 0, 54, 0), (1, 1, 0, 0), (1, 2, 0, 0)], [(0, 0), (-2147483648, 2147483647), (-2147483648, 2147483647)], [], (1, -2147483648, 2147483647), [], [], ([], []), ([], []))
def c_k138 : List CUT := []
def a_k138 : List (Nat × KT) := [(6, t_k14), (14, t_k21), (18, t_k18), (43, t_k111), (52, t_k112), (62, t_k16), (68, t_k17)]
def l_k138 : LNL := [(43, [(t_w3, [[0, 0], [3], [1]])]), (52, [(t_w3, [[0, 0], [3], [1]])])]
theorem k_k138 (g : GG) : KOK Yt (PSt g) t_k138 := verK_ok (PSt_ok g) (PSt_ax g) (dk := 4) (AN := anOf a_k138) (anOf_ok ⟨k_k14 g, ⟨k_k21 g, ⟨k_k18 g, ⟨k_k111 g, ⟨k_k112 g, ⟨k_k16 g, ⟨k_k17 g, trivial⟩⟩⟩⟩⟩⟩⟩) (LN := lnOf l_k138) (lnOf_ok ⟨⟨l_w3 g, trivial⟩, ⟨⟨l_w3 g, trivial⟩, trivial⟩⟩) (cuts := c_k138) (f := 3000) (by decide +kernel)
def t_k139 : KT := ((139, 4, 0, 0), [(2, 0, 54, 0), (1, 1, 0, 0)], [(0, 0), (-2147483648, 2147483647)], [], (1, -1000, 1), [], [], ([], []), ([], []))
def c_k139 : List CUT := []
def a_k139 : List (Nat × KT) := [(4, t_k15), (10, t_k25)]
def l_k139 : LNL := []
theorem k_k139 (g : GG) : KOK Yt (PSt g) t_k139 := verK_ok (PSt_ok g) (PSt_ax g) (dk := 3) (AN := anOf a_k139) (anOf_ok ⟨k_k15 g, ⟨k_k25 g, trivial⟩⟩) (LN := lnOf l_k139) (lnOf_ok trivial) (cuts := c_k139) (f := 3000) (by decide +kernel)
def t_k140 : KT := ((140, 5, 0, 0), [(2, 0, 54, 0), (1, 1, 0, 0)], [(0, 0), (-2147483648, 2147483647)], [], (1, -1, 143), [(21, 0, 1), (22, 0, 121), (23, 0, 121), (24, 0, 121)], [], ([], []), ([], []))
def c_k140 : List CUT := []
def a_k140 : List (Nat × KT) := [(5, t_k73)]
def l_k140 : LNL := []
theorem k_k140 (g : GG) : KOK Yt (PSt g) t_k140 := verK_ok (PSt_ok g) (PSt_ax g) (dk := 4) (AN := anOf a_k140) (anOf_ok ⟨k_k73 g, trivial⟩) (LN := lnOf l_k140) (lnOf_ok trivial) (cuts := c_k140) (f := 3000) (by decide +kernel)
def t_k141 : KT := ((141, 4, 0, 0), [(2, 0, 54, 0), (1, 1, 0, 0), (1, 2, 0, 0)], [(0, 0), (-2147483648, 2147483647), (-2147483648, 2147483647)], [], (1, -70, 82), [], [], ([], []), ([], []))
def c_k141 : List CUT := []
def a_k141 : List (Nat × KT) := [(4, t_k15), (15, t_k28), (21, t_k15), (28, t_k27)]
def l_k141 : LNL := []
theorem k_k141 (g : GG) : KOK Yt (PSt g) t_k141 := verK_ok (PSt_ok g) (PSt_ax g) (dk := 3) (AN := anOf a_k141) (anOf_ok ⟨k_k15 g, ⟨k_k28 g, ⟨k_k15 g, ⟨k_k27 g, trivial⟩⟩⟩⟩) (LN := lnOf l_k141) (lnOf_ok trivial) (cuts := c_k141) (f := 3000) (by decide +kernel)
def t_k142 : KT := ((142, 4, 0, 0), [(2, 0, 54, 0), (1, 1, 0, 0), (1, 2, 0, 0)], [(0, 0), (-2147483648, 2147483647), (-2147483648, 2147483647)], [], (1, -1000, 143), [], [], ([], []), ([], []))
def c_k142 : List CUT := []
def a_k142 : List (Nat × KT) := [(41, t_k29)]
def l_k142 : LNL := []
theorem k_k142 (g : GG) : KOK Yt (PSt g) t_k142 := verK_ok (PSt_ok g) (PSt_ax g) (dk := 3) (AN := anOf a_k142) (anOf_ok ⟨k_k29 g, trivial⟩) (LN := lnOf l_k142) (lnOf_ok trivial) (cuts := c_k142) (f := 3000) (by decide +kernel)
def t_k143 : KT := ((143, 4, 0, 0), [(2, 0, 54, 0), (1, 1, 0, 0), (1, 2, 0, 0), (1, 3, 0, 0), (1, 4, 0, 0)], [(0, 0), (-2147483648, 2147483647), (-2147483648, 2147483647), (-2147483648, 2147483647), (-2147483648, 2147483647)], [], (1, -8421504, 8421504), [], [], ([], []), ([], []))
def c_k143 : List CUT := []
def a_k143 : List (Nat × KT) := [(31, t_k31), (40, t_k32)]
def l_k143 : LNL := []
theorem k_k143 (g : GG) : KOK Yt (PSt g) t_k143 := verK_ok (PSt_ok g) (PSt_ax g) (dk := 3) (AN := anOf a_k143) (anOf_ok ⟨k_k31 g, ⟨k_k32 g, trivial⟩⟩) (LN := lnOf l_k143) (lnOf_ok trivial) (cuts := c_k143) (f := 3000) (by decide +kernel)
def t_k144 : KT := ((144, 4, 0, 0), [(2, 0, 54, 0), (1, 1, 0, 0), (1, 2, 0, 0)], [(0, 0), (-2147483648, 2147483647), (-2147483648, 2147483647)], [], (1, -2147483648, 2147483647), [], [], ([], []), ([], []))
def c_k144 : List CUT := []
def a_k144 : List (Nat × KT) := [(4, t_k57), (24, t_k58), (36, t_k116)]
def l_k144 : LNL := []
theorem k_k144 (g : GG) : KOK Yt (PSt g) t_k144 := verK_ok (PSt_ok g) (PSt_ax g) (dk := 3) (AN := anOf a_k144) (anOf_ok ⟨k_k57 g, ⟨k_k58 g, ⟨k_k116 g, trivial⟩⟩⟩) (LN := lnOf l_k144) (lnOf_ok trivial) (cuts := c_k144) (f := 3000) (by decide +kernel)
def t_k145 : KT := ((145, 6, 0, 0), [(2, 0, 54, 0), (1, 1, 0, 0), (1, 2, 0, 0), (1, 3, 0, 0)], [(0, 0), (-2147483648, 2147483647), (-2147483648, 2147483647), (-2147483648, 2147483647)], [], (1, -2147483648, 2147483647), [(31, 0, 1), (31, 1, 2), (31, 2, 3), (32, 0, 288), (33, 0, 288)], [], ([], []), ([], []))
def c_k145 : List CUT := []
def a_k145 : List (Nat × KT) := [(4, t_k57), (10, t_k57), (25, t_k86), (30, t_k91)]
def l_k145 : LNL := []
theorem k_k145 (g : GG) : KOK Yt (PSt g) t_k145 := verK_ok (PSt_ok g) (PSt_ax g) (dk := 5) (AN := anOf a_k145) (anOf_ok ⟨k_k57 g, ⟨k_k57 g, ⟨k_k86 g, ⟨k_k91 g, trivial⟩⟩⟩⟩) (LN := lnOf l_k145) (lnOf_ok trivial) (cuts := c_k145) (f := 3000) (by decide +kernel)
def t_k146 : KT := ((146, 2, 0, 0), [(2, 0, 54, 0), (1, 1, 0, 0)], [(0, 0), (-2147483648, 2147483647)], [], (3, 0, 0), [], [], ([], []), ([], []))
def c_k146 : List CUT := [(12, [0, 1, 4], [(2, 0, 54, 0), (1, 1, 0, 0), (1, 2, 0, 0)], [(0, 0), (0, 143), (0, 144)], [(2, 0, 54, 0), (1, 1, 0, 0), (4, 0, 0, 0), (7, 0, 0, 0), (1, 2, 0, 0)], [(0, [(2, 0, 54, 0), (1, 1, 0, 0)])], (0, 0), [(0, 0, 1), (1, 4, 144)])]
def a_k146 : List (Nat × KT) := [(4, t_k57), (16, t_k10)]
def l_k146 : LNL := []
theorem k_k146 (g : GG) : KOK Yt (PSt g) t_k146 := verK_ok (PSt_ok g) (PSt_ax g) (dk := 1) (AN := anOf a_k146) (anOf_ok ⟨k_k57 g, ⟨k_k10 g, trivial⟩⟩) (LN := lnOf l_k146) (lnOf_ok trivial) (cuts := c_k146) (f := 3000) (by decide +kernel)
def t_k147 : KT := ((147, 3, 0, 0), [(2, 0, 54, 0), (1, 1, 0, 0), (4, 0, 0, 0)], [(0, 0), (-2147483648, 2147483647), (0, 0)], [], (3, 0, 0), [], [], ([], []), ([], []))
def c_k147 : List CUT := []
def a_k147 : List (Nat × KT) := [(13, t_k62)]
def l_k147 : LNL := []
theorem k_k147 (g : GG) : KOK Yt (PSt g) t_k147 := verE_ok (PSt_ok g) (PSt_ax g) (dk := 2) (AN := anOf a_k147) (anOf_ok ⟨k_k62 g, trivial⟩) (LN := lnOf l_k147) (lnOf_ok trivial) (EP := powE t_k147 21) (powE_ok (pc := 41) (i1 := 356) (i2 := 348) (by decide +kernel) rfl ⟨⟨by decide +kernel, by decide +kernel, by decide +kernel, by decide +kernel, by decide +kernel, by decide +kernel, by decide +kernel, by decide +kernel, by decide +kernel⟩, ⟨by decide +kernel, by decide +kernel, by decide +kernel, by decide +kernel, by decide +kernel, by decide +kernel, by decide +kernel⟩, by decide +kernel, by decide +kernel, by decide +kernel⟩) (cuts := c_k147) (f := 3000) (by decide +kernel)
def t_k148 : KT := ((148, 3, 0, 0), [(2, 0, 54, 0), (1, 1, 0, 0)], [(0, 0), (-2147483648, 2147483647)], [], (1, -2147483648, 2147483647), [], [], ([], []), ([], []))
def c_k148 : List CUT := []
def a_k148 : List (Nat × KT) := [(6, t_k63), (14, t_k64)]
def l_k148 : LNL := []
theorem k_k148 (g : GG) : KOK Yt (PSt g) t_k148 := verK_ok (PSt_ok g) (PSt_ax g) (dk := 2) (AN := anOf a_k148) (anOf_ok ⟨k_k63 g, ⟨k_k64 g, trivial⟩⟩) (LN := lnOf l_k148) (lnOf_ok trivial) (cuts := c_k148) (f := 3000) (by decide +kernel)
def t_k149 : KT := ((149, 2, 0, 0), [(2, 0, 54, 0), (1, 1, 0, 0), (1, 2, 0, 0)], [(0, 0), (-2147483648, 2147483647), (-2147483648, 2147483647)], [], (1, -2147483648, 2147483647), [], [], ([], []), ([], []))
def c_k149 : List CUT := [(4, [0, 1, 2, 3, 4], [(2, 0, 54, 0), (1, 1, 0, 0), (1, 2, 0, 0), (1, 3, 0, 0), (1, 4, 0, 0)], [(0, 0), (-2147483648, 2147483647), (-2147483648, 2147483647), (-2147483648, 2147483647), (0, 144)], [(2, 0, 54, 0), (1, 1, 0, 0), (1, 2, 0, 0), (1, 3, 0, 0), (1, 4, 0, 0)], [(0, [(2, 0, 54, 0), (1, 1, 0, 0), (1, 2, 0, 0)])], (0, 0), [(0, 0, 1), (1, 4, 144)])]
def a_k149 : List (Nat × KT) := [(8, t_k10), (14, t_k56)]
def l_k149 : LNL := []
theorem k_k149 (g : GG) : KOK Yt (PSt g) t_k149 := verK_ok (PSt_ok g) (PSt_ax g) (dk := 1) (AN := anOf a_k149) (anOf_ok ⟨k_k10 g, ⟨k_k56 g, trivial⟩⟩) (LN := lnOf l_k149) (lnOf_ok trivial) (cuts := c_k149) (f := 3000) (by decide +kernel)
def t_k5 : KT := ((5, 3, 0, 0), [(2, 0, 35, 0), (2, 1, 1, 0), (1, 2, 0, 0)], [(0, 0), (0, 0), (0, 143)], [(2, [(2, 1, 1, 0), (1, 2, 0, 0)])], (1, 0, 144), [(35, 5, 6), (36, 0, 144), (37, 0, 144)], [], ([], []), ([], []))
theorem k_k5 (g : GG) : KOK Yt (PSt g) t_k5 := gclose (t1 := t_k5g) (50, [(2, 1, 1, 0)]) rfl (by decide +kernel) rfl (fun _ _ _ _ _ _ _ hT hA => px50 1 hT hA (j := 1) rfl) k_k5g g
def t_k4 : KT := ((4, 4, 0, 0), [(2, 0, 35, 0), (2, 1, 1, 0), (2, 2, 10, 0), (1, 3, 0, 0)], [(0, 0), (0, 0), (0, 0), (-2147483648, 2147483647)], [], (0, 0, 0), [(35, 0, 1), (35, 1, 2), (35, 2, 3), (35, 5, 6), (36, 0, 144), (37, 0, 144)], [], ([], []), ([], []))
def c_k4 : List CUT := [(11, [0, 1, 2, 3, 4, 1000, 1001, 1002], [(2, 0, 35, 0), (2, 1, 1, 0), (2, 2, 10, 0), (1, 3, 0, 0), (1, 4, 0, 0), (1, 5, 0, 0), (1, 6, 0, 0), (1, 7, 0, 0)], [(0, 0), (0, 0), (0, 0), (-2147483648, 2147483647), (0, 144), (0, 0), (0, 0), (-1, -1)], [(2, 0, 35, 0), (2, 1, 1, 0), (2, 2, 10, 0), (1, 3, 0, 0), (1, 4, 0, 0), (7, 0, 0, 0)], [(0, [(2, 0, 35, 0), (2, 1, 1, 0), (2, 2, 10, 0), (1, 3, 0, 0)])], (0, 0), [(0, 0, 2), (1, 4, 144)]), (36, [0, 1, 2, 3, 4, 1000, 1001, 1002], [(2, 0, 35, 0), (2, 1, 1, 0), (2, 2, 10, 0), (1, 3, 0, 0), (1, 4, 0, 0), (1, 5, 0, 0), (1, 6, 0, 0), (1, 7, 0, 0)], [(0, 0), (0, 0), (0, 0), (-2147483648, 2147483647), (0, 144), (-2147483648, 2147483647), (0, 144), (-1, 143)], [(2, 0, 35, 0), (2, 1, 1, 0), (2, 2, 10, 0), (1, 3, 0, 0), (1, 4, 0, 0), (7, 0, 0, 0)], [(0, [(2, 0, 35, 0), (2, 1, 1, 0), (2, 2, 10, 0), (1, 3, 0, 0)])], (0, 0), [(0, 0, 1), (1, 4, 144)])]
def a_k4 : List (Nat × KT) := [(13, t_k10), (20, t_k56), (38, t_k10), (48, t_k5)]
def l_k4 : LNL := []
theorem k_k4 (g : GG) : KOK Yt (PSt g) t_k4 := verK_ok (PSt_ok g) (PSt_ax g) (dk := 3) (AN := anOf a_k4) (anOf_ok ⟨k_k10 g, ⟨k_k56 g, ⟨k_k10 g, ⟨k_k5 g, trivial⟩⟩⟩⟩) (LN := lnOf l_k4) (lnOf_ok trivial) (cuts := c_k4) (f := 3000) (by decide +kernel)
def t_k150 : KT := ((150, 5, 0, 0), [(2, 0, 54, 0), (1, 1, 0, 0), (1, 2, 0, 0)], [(0, 0), (-2147483648, 2147483647), (-2147483648, 2147483647)], [], (1, -2147483648, 2147483647), [(35, 0, 1), (35, 1, 2), (35, 2, 3), (35, 5, 6), (36, 0, 144), (37, 0, 144)], [], ([], []), ([], []))
def c_k150 : List CUT := []
def a_k150 : List (Nat × KT) := [(16, t_k4)]
def l_k150 : LNL := []
theorem k_k150 (g : GG) : KOK Yt (PSt g) t_k150 := verK_ok (PSt_ok g) (PSt_ax g) (dk := 4) (AN := anOf a_k150) (anOf_ok ⟨k_k4 g, trivial⟩) (LN := lnOf l_k150) (lnOf_ok trivial) (cuts := c_k150) (f := 3000) (by decide +kernel)
def t_k151 : KT := ((151, 4, 0, 0), [(2, 0, 54, 0), (1, 1, 0, 0)], [(0, 0), (-2147483648, 2147483647)], [], (1, -2147483648, 2147483647), [], [], ([], []), ([], []))
def c_k151 : List CUT := [(4, [0, 1, 2, 3], [(2, 0, 54, 0), (1, 1, 0, 0), (1, 2, 0, 0), (1, 3, 0, 0)], [(0, 0), (-2147483648, 2147483647), (-2147483648, 2147483647), (0, 144)], [(2, 0, 54, 0), (1, 1, 0, 0), (1, 2, 0, 0), (1, 3, 0, 0)], [(0, [(2, 0, 54, 0), (1, 1, 0, 0)])], (0, 0), [(0, 0, 1), (1, 3, 144)])]
def a_k151 : List (Nat × KT) := [(8, t_k10), (17, t_k65)]
def l_k151 : LNL := []
theorem k_k151 (g : GG) : KOK Yt (PSt g) t_k151 := verK_ok (PSt_ok g) (PSt_ax g) (dk := 3) (AN := anOf a_k151) (anOf_ok ⟨k_k10 g, ⟨k_k65 g, trivial⟩⟩) (LN := lnOf l_k151) (lnOf_ok trivial) (cuts := c_k151) (f := 3000) (by decide +kernel)
def t_k152 : KT := ((152, 3, 0, 0), [(2, 0, 54, 0), (1, 1, 0, 0), (1, 2, 0, 0)], [(0, 0), (-2147483648, 2147483647), (-2147483648, 2147483647)], [], (1, -1, 143), [], [], ([], []), ([], []))
def c_k152 : List CUT := [(21, [0, 1, 2, 3, 4], [(2, 0, 54, 0), (1, 1, 0, 0), (1, 2, 0, 0), (1, 3, 0, 0), (1, 4, 0, 0)], [(0, 0), (0, 143), (0, 144), (-1, 143), (0, 144)], [(2, 0, 54, 0), (1, 1, 0, 0), (1, 2, 0, 0), (1, 3, 0, 0), (1, 4, 0, 0)], [(0, [(2, 0, 54, 0), (1, 1, 0, 0), (1, 2, 0, 0)])], (0, 0), [(0, 0, 1), (1, 4, 144)])]
def a_k152 : List (Nat × KT) := [(4, t_k13), (13, t_k59)]
def l_k152 : LNL := []
theorem k_k152 (g : GG) : KOK Yt (PSt g) t_k152 := verK_ok (PSt_ok g) (PSt_ax g) (dk := 2) (AN := anOf a_k152) (anOf_ok ⟨k_k13 g, ⟨k_k59 g, trivial⟩⟩) (LN := lnOf l_k152) (lnOf_ok trivial) (cuts := c_k152) (f := 3000) (by decide +kernel)
def t_k162g : KT := ((162, 5, 0, 0), [(2, 0, 54, 0)], [(0, 0)], [(57, [(2, 0, 54, 0), (0, 0, 0, 1)])], (0, 0, 0), [(10, 0, 1), (10, 1, 2), (10, 2, 3), (10, 3, 4), (11, 0, 144), (12, 0, 144), (13, 0, 144), (14, 0, 144), (15, 0, 144), (16, 0, 144), (26, 4, 5), (28, 0, 144), (29, 0, 144), (30, 0, 144)], [], ([], []), ([], []))
def c_k162g : List CUT := [(14, [0, 1], [(2, 0, 54, 0), (1, 1, 0, 0)], [(0, 0), (0, 144)], [(2, 0, 54, 0), (1, 1, 0, 0)], [(0, [(2, 0, 54, 0)]), (56, [(2, 0, 54, 0)]), (57, [(2, 0, 54, 0), (0, 0, 0, 1)])], (0, 0), [(0, 0, 1), (1, 1, 144)])]
def a_k162g : List (Nat × KT) := [(6, t_k51), (11, t_k35), (30, t_k52)]
def l_k162g : LNL := [(11, [(t_ta57_1, [[0], [0, 1]])]), (12, [(t_tb56, [[0], [0, 6]])]), (30, [(t_ta57_1, [[0], [0, 1]]), (t_w50, [[0, 1], [0, 1, 0]]), (t_ta56, [[0], [0, 6]])]), (31, [(t_tb56, [[0], [0, 6]])])]
theorem k_k162g (g : GG) : KOK Yt (PSt g) t_k162g := verK_ok (PSt_ok g) (PSt_ax g) (dk := 4) (AN := anOf a_k162g) (anOf_ok ⟨k_k51 g, ⟨k_k35 g, ⟨k_k52 g, trivial⟩⟩⟩) (LN := lnOf l_k162g) (lnOf_ok ⟨⟨l_ta57_1 g, trivial⟩, ⟨⟨l_tb56 g, trivial⟩, ⟨⟨l_ta57_1 g, ⟨l_w50 g, ⟨l_ta56 g, trivial⟩⟩⟩, ⟨⟨l_tb56 g, trivial⟩, trivial⟩⟩⟩⟩) (cuts := c_k162g) (f := 3000) (by decide +kernel)
def t_k162 : KT := ((162, 5, 0, 0), [(2, 0, 54, 0)], [(0, 0)], [], (0, 0, 0), [(10, 0, 1), (10, 1, 2), (10, 2, 3), (10, 3, 4), (11, 0, 144), (12, 0, 144), (13, 0, 144), (14, 0, 144), (15, 0, 144), (16, 0, 144), (26, 4, 5), (28, 0, 144), (29, 0, 144), (30, 0, 144)], [], ([], []), ([], []))
theorem k_k162 (g : GG) : KOK Yt (PSt g) t_k162 := gclose (t1 := t_k162g) (57, [(2, 0, 54, 0), (0, 0, 0, 1)]) rfl (by decide +kernel) rfl (fun _ _ _ _ _ _ _ hT hA => px57 1 (Or.inr rfl) hT hA rfl) k_k162g g
def t_k153 : KT := ((153, 19, 0, 0), [(2, 0, 54, 0), (1, 1, 0, 0), (1, 2, 0, 0)], [(0, 0), (-2147483648, 2147483647), (-2147483648, 2147483647)], [], (1, -2147483648, 2147483647), [(6, 0, 1), (6, 1, 2), (7, 0, 121), (8, 0, 121), (9, 0, 288), (10, 0, 1), (10, 1, 2), (10, 2, 3), (10, 3, 4), (11, 0, 144), (12, 0, 144), (13, 0, 144), (14, 0, 144), (15, 0, 144), (16, 0, 144), (21, 0, 1), (22, 0, 121), (23, 0, 121), (24, 0, 121), (25, 0, 4096), (26, 4, 5), (27, 0, 288), (28, 0, 144), (29, 0, 144), (30, 0, 144)], [], ([], []), ([], []))
def c_k153 : List CUT := []
def a_k153 : List (Nat × KT) := [(11, t_k75), (21, t_k76), (30, t_k77), (43, t_k34), (45, t_k162), (55, t_k114), (59, t_k115), (70, t_k66)]
def l_k153 : LNL := []
theorem k_k153 (g : GG) : KOK Yt (PSt g) t_k153 := verK_ok (PSt_ok g) (PSt_ax g) (dk := 18) (AN := anOf a_k153) (anOf_ok ⟨k_k75 g, ⟨k_k76 g, ⟨k_k77 g, ⟨k_k34 g, ⟨k_k162 g, ⟨k_k114 g, ⟨k_k115 g, ⟨k_k66 g, trivial⟩⟩⟩⟩⟩⟩⟩⟩) (LN := lnOf l_k153) (lnOf_ok trivial) (cuts := c_k153) (f := 3000) (by decide +kernel)
def t_k154 : KT := ((154, 6, 0, 0), [(2, 0, 54, 0), (1, 1, 0, 0)], [(0, 0), (-2147483648, 2147483647)], [], (1, -1, 144), [(10, 0, 1), (10, 1, 2), (10, 2, 3), (10, 3, 4), (11, 0, 144), (12, 0, 144), (13, 0, 144), (14, 0, 144), (15, 0, 144), (16, 0, 144), (26, 4, 5), (27, 0, 288), (28, 0, 144), (29, 0, 144), (30, 0, 144)], [], ([], []), ([], []))
def c_k154 : List CUT := []
def a_k154 : List (Nat × KT) := [(4, t_k14), (12, t_k34), (20, t_k162)]
def l_k154 : LNL := []
theorem k_k154 (g : GG) : KOK Yt (PSt g) t_k154 := verK_ok (PSt_ok g) (PSt_ax g) (dk := 5) (AN := anOf a_k154) (anOf_ok ⟨k_k14 g, ⟨k_k34 g, ⟨k_k162 g, trivial⟩⟩⟩) (LN := lnOf l_k154) (lnOf_ok trivial) (cuts := c_k154) (f := 3000) (by decide +kernel)
def t_k155 : KT := ((155, 5, 0, 0), [(2, 0, 54, 0)], [(0, 0)], [(58, [(2, 0, 54, 0), (0, 0, 0, 0)]), (78, [(0, 0, 0, 0)])], (1, -1, 12), [(1, 0, 1), (1, 1, 2), (2, 0, 144), (3, 0, 144), (4, 0, 144), (5, 0, 288), (6, 0, 1), (6, 1, 2), (7, 0, 121), (8, 0, 121), (9, 0, 288), (10, 0, 1), (10, 1, 2), (10, 2, 3), (10, 3, 4), (11, 0, 144), (12, 0, 144), (13, 0, 144), (14, 0, 144), (15, 0, 144), (16, 0, 144), (17, 0, 1), (18, 0, 180), (39, 0, 1), (39, 1, 2)], [(58, [(2, 0, 54, 0), (0, 0, 0, 150)])], ([], []), ([], []))
def c_k155 : List CUT := []
def a_k155 : List (Nat × KT) := [(4, t_k2), (15, t_k69)]
def l_k155 : LNL := [(6, [(t_w58, [[0], [100581]])]), (15, [(t_ta58, [[0], [0, 3], [100581]])]), (16, [(t_tb58, [[0], [0, 3], [100771]]), (t_w58, [[0], [100581]])])]
theorem k_k155 (g : GG) : KOK Yt (PSt g) t_k155 := verK_ok (PSt_ok g) (PSt_ax g) (dk := 4) (AN := anOf a_k155) (anOf_ok ⟨k_k2 g, ⟨k_k69 g, trivial⟩⟩) (LN := lnOf l_k155) (lnOf_ok ⟨⟨l_w58 g, trivial⟩, ⟨⟨l_ta58 g, trivial⟩, ⟨⟨l_tb58 g, ⟨l_w58 g, trivial⟩⟩, trivial⟩⟩⟩) (cuts := c_k155) (f := 3000) (by decide +kernel)
def t_k156 : KT := ((156, 2, 0, 0), [(2, 0, 54, 0), (1, 1, 0, 0), (1, 2, 0, 0)], [(0, 0), (-2147483648, 2147483647), (-2147483648, 2147483647)], [], (1, -2147483648, 2147483647), [], [], ([], []), ([], []))
def c_k156 : List CUT := []
def a_k156 : List (Nat × KT) := [(3, t_k70), (16, t_k71)]
def l_k156 : LNL := []
theorem k_k156 (g : GG) : KOK Yt (PSt g) t_k156 := verK_ok (PSt_ok g) (PSt_ax g) (dk := 1) (AN := anOf a_k156) (anOf_ok ⟨k_k70 g, ⟨k_k71 g, trivial⟩⟩) (LN := lnOf l_k156) (lnOf_ok trivial) (cuts := c_k156) (f := 3000) (by decide +kernel)
def t_k158 : KT := ((158, 6, 0, 0), [(2, 0, 54, 0), (1, 1, 0, 0)], [(0, 0), (-2147483648, 2147483647)], [], (1, -2147483648, 2147483647), [(21, 0, 1), (22, 0, 121), (23, 0, 121), (24, 0, 121)], [], ([], []), ([], []))
def c_k158 : List CUT := []
def a_k158 : List (Nat × KT) := [(15, t_k24), (19, t_k140), (24, t_k26), (28, t_k110), (51, t_k114), (55, t_k115)]
def l_k158 : LNL := []
theorem k_k158 (g : GG) : KOK Yt (PSt g) t_k158 := verK_ok (PSt_ok g) (PSt_ax g) (dk := 5) (AN := anOf a_k158) (anOf_ok ⟨k_k24 g, ⟨k_k140 g, ⟨k_k26 g, ⟨k_k110 g, ⟨k_k114 g, ⟨k_k115 g, trivial⟩⟩⟩⟩⟩⟩) (LN := lnOf l_k158) (lnOf_ok trivial) (cuts := c_k158) (f := 3000) (by decide +kernel)
