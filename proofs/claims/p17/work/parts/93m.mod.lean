/-! the reference: contracts that bounds alone bear -/
def t_k166 : KT := ((166, 1, 0, 0), [(2, 0, 40, 0)], [(0, 0)], [], (1, 2, 12), [], [(93, [(2, 0, 40, 0), (1, 1, 0, 0)])], ([], []), ([], []))
def c_k166 : List CUT := []
def a_k166 : List (Nat × KT) := []
def l_k166 : LNL := [(6, [(t_mrow, [[0], [0, 1], [500]])])]
theorem k_k166 (g : GG) : KOK Yt (PSt g) t_k166 := verK_ok (PSt_ok g) (PSt_ax g) (dk := 0) (AN := anOf a_k166) (anOf_ok trivial) (LN := lnOf l_k166) (lnOf_ok ⟨⟨l_mrow g, trivial⟩, trivial⟩) (cuts := c_k166) (f := 3000) (by decide +kernel)
def t_k167 : KT := ((167, 1, 0, 0), [(2, 0, 40, 0)], [(0, 0)], [], (1, 2, 12), [], [(8, [(2, 0, 40, 0), (1, 1, 0, 0)])], ([], []), ([], []))
def c_k167 : List CUT := []
def a_k167 : List (Nat × KT) := []
def l_k167 : LNL := [(6, [(t_mcol, [[0], [0, 1], [500]])])]
theorem k_k167 (g : GG) : KOK Yt (PSt g) t_k167 := verK_ok (PSt_ok g) (PSt_ax g) (dk := 0) (AN := anOf a_k167) (anOf_ok trivial) (LN := lnOf l_k167) (lnOf_ok ⟨⟨l_mcol g, trivial⟩, trivial⟩) (cuts := c_k167) (f := 3000) (by decide +kernel)
def t_k168 : KT := ((168, 2, 0, 0), [(2, 0, 40, 0)], [(0, 0)], [], (1, 4, 144), [], [(94, [(2, 0, 40, 0), (1, 1, 0, 0)])], ([], []), ([], []))
def c_k168 : List CUT := []
def a_k168 : List (Nat × KT) := [(1, t_k166), (3, t_k167)]
def l_k168 : LNL := [(5, [(t_mman, [[0], [100931], [100081], [500]])])]
theorem k_k168 (g : GG) : KOK Yt (PSt g) t_k168 := verK_ok (PSt_ok g) (PSt_ax g) (dk := 1) (AN := anOf a_k168) (anOf_ok ⟨k_k166 g, ⟨k_k167 g, trivial⟩⟩) (LN := lnOf l_k168) (lnOf_ok ⟨⟨l_mman g, trivial⟩, trivial⟩) (cuts := c_k168) (f := 3000) (by decide +kernel)
def t_k169 : KT := ((169, 3, 0, 0), [(2, 0, 40, 0), (1, 1, 0, 0)], [(0, 0), (-2147483648, 2147483647)], [], (2, 0, 1), [], [], ([(1, 0, 143)], [(95, [(2, 0, 40, 0), (1, 1, 0, 0)])]), ([], [(162, [(2, 0, 40, 0), (1, 1, 0, 0)])]))
def c_k169 : List CUT := []
def a_k169 : List (Nat × KT) := [(4, t_k168)]
def l_k169 : LNL := [(6, [(t_mpx, [[0], [1], [100941]])]), (9, [(t_px0, [[0], [1]]), (t_px1, [[0], [1], [100941]])])]
theorem k_k169 (g : GG) : KOK Yt (PSt g) t_k169 := verK_ok (PSt_ok g) (PSt_ax g) (dk := 2) (AN := anOf a_k169) (anOf_ok ⟨k_k168 g, trivial⟩) (LN := lnOf l_k169) (lnOf_ok ⟨⟨l_mpx g, trivial⟩, ⟨⟨l_px0 g, ⟨l_px1 g, trivial⟩⟩, trivial⟩⟩) (cuts := c_k169) (f := 3000) (by decide +kernel)
def t_k170p : KT := ((170, 1, 0, 0), [(2, 0, 40, 0), (1, 1, 0, 0)], [(0, 0), (0, 143)], [], (1, -127, 127), [], [(125, [(2, 0, 40, 0), (1, 1, 0, 0), (1, 2, 0, 0)])], ([], []), ([], []))
def c_k170p : List CUT := []
def a_k170p : List (Nat × KT) := []
def l_k170p : LNL := [(6, [(t_ph0, [[0], [0, 1], [1], [500]])])]
theorem k_k170p (g : GG) : KOK Yt (PSt g) t_k170p := verK_ok (PSt_ok g) (PSt_ax g) (dk := 0) (AN := anOf a_k170p) (anOf_ok trivial) (LN := lnOf l_k170p) (lnOf_ok ⟨⟨l_ph0 g, trivial⟩, trivial⟩) (cuts := c_k170p) (f := 3000) (by decide +kernel)
def t_k170 : KT := ((170, 1, 0, 0), [(2, 0, 40, 0), (1, 1, 0, 0)], [(0, 0), (-10, 200)], [], (1, -2147483648, 2147483647), [], [], ([], []), ([], []))
def c_k170 : List CUT := []
def a_k170 : List (Nat × KT) := []
def l_k170 : LNL := []
theorem k_k170 (g : GG) : KOK Yt (PSt g) t_k170 := verK_ok (PSt_ok g) (PSt_ax g) (dk := 0) (AN := anOf a_k170) (anOf_ok trivial) (LN := lnOf l_k170) (lnOf_ok trivial) (cuts := c_k170) (f := 3000) (by decide +kernel)
def t_k171 : KT := ((171, 1, 0, 0), [(2, 0, 40, 0), (1, 1, 0, 0)], [(0, 0), (-13, 156)], [], (1, -2147483648, 2147483647), [], [], ([], []), ([], []))
def c_k171 : List CUT := []
def a_k171 : List (Nat × KT) := []
def l_k171 : LNL := []
theorem k_k171 (g : GG) : KOK Yt (PSt g) t_k171 := verK_ok (PSt_ok g) (PSt_ax g) (dk := 0) (AN := anOf a_k171) (anOf_ok trivial) (LN := lnOf l_k171) (lnOf_ok trivial) (cuts := c_k171) (f := 3000) (by decide +kernel)
def t_k172p : KT := ((172, 1, 0, 0), [(2, 0, 40, 0), (1, 1, 0, 0)], [(0, 0), (0, 143)], [], (2, 0, 1), [], [], ([], [(122, [(2, 0, 40, 0), (1, 1, 0, 0)])]), ([], [(123, [(2, 0, 40, 0), (1, 1, 0, 0)])]))
def c_k172p : List CUT := []
def a_k172p : List (Nat × KT) := []
def l_k172p : LNL := [(6, [(t_hv, [[0], [0, 1], [1], [500]])]), (11, [(t_hvT, [[0], [1], [101582]]), (t_hvF, [[0], [1], [101582]])])]
theorem k_k172p (g : GG) : KOK Yt (PSt g) t_k172p := verK_ok (PSt_ok g) (PSt_ax g) (dk := 0) (AN := anOf a_k172p) (anOf_ok trivial) (LN := lnOf l_k172p) (lnOf_ok ⟨⟨l_hv g, trivial⟩, ⟨⟨l_hvT g, ⟨l_hvF g, trivial⟩⟩, trivial⟩⟩) (cuts := c_k172p) (f := 3000) (by decide +kernel)
def t_k172 : KT := ((172, 1, 0, 0), [(2, 0, 40, 0), (1, 1, 0, 0)], [(0, 0), (-13, 156)], [], (2, 0, 1), [], [], ([], []), ([], []))
def c_k172 : List CUT := []
def a_k172 : List (Nat × KT) := []
def l_k172 : LNL := []
theorem k_k172 (g : GG) : KOK Yt (PSt g) t_k172 := verK_ok (PSt_ok g) (PSt_ax g) (dk := 0) (AN := anOf a_k172) (anOf_ok trivial) (LN := lnOf l_k172) (lnOf_ok trivial) (cuts := c_k172) (f := 3000) (by decide +kernel)
def t_k173p : KT := ((173, 1, 0, 0), [(2, 0, 40, 0), (1, 1, 0, 0)], [(0, 0), (0, 143)], [], (2, 0, 1), [], [], ([], [(104, [(2, 0, 40, 0), (1, 1, 0, 0)])]), ([], [(103, [(2, 0, 40, 0), (1, 1, 0, 0)])]))
def c_k173p : List CUT := []
def a_k173p : List (Nat × KT) := []
def l_k173p : LNL := [(6, [(t_mv, [[0], [0, 1], [1], [500]])]), (10, [(t_mvT, [[0], [1], [101602]]), (t_mvF, [[0], [1], [101602]])])]
theorem k_k173p (g : GG) : KOK Yt (PSt g) t_k173p := verK_ok (PSt_ok g) (PSt_ax g) (dk := 0) (AN := anOf a_k173p) (anOf_ok trivial) (LN := lnOf l_k173p) (lnOf_ok ⟨⟨l_mv g, trivial⟩, ⟨⟨l_mvT g, ⟨l_mvF g, trivial⟩⟩, trivial⟩⟩) (cuts := c_k173p) (f := 3000) (by decide +kernel)
def t_k173 : KT := ((173, 1, 0, 0), [(2, 0, 40, 0), (1, 1, 0, 0)], [(0, 0), (-13, 156)], [], (2, 0, 1), [], [], ([], []), ([], []))
def c_k173 : List CUT := []
def a_k173 : List (Nat × KT) := []
def l_k173 : LNL := []
theorem k_k173 (g : GG) : KOK Yt (PSt g) t_k173 := verK_ok (PSt_ok g) (PSt_ax g) (dk := 0) (AN := anOf a_k173) (anOf_ok trivial) (LN := lnOf l_k173) (lnOf_ok trivial) (cuts := c_k173) (f := 3000) (by decide +kernel)
def t_k174 : KT := ((174, 2, 0, 0), [(2, 0, 40, 0), (1, 1, 0, 0)], [(0, 0), (0, 155)], [], (1, 0, 77), [], [(9, [(2, 0, 40, 0), (1, 1, 0, 0), (1, 2, 0, 0)])], ([], []), ([], []))
def c_k174 : List CUT := []
def a_k174 : List (Nat × KT) := [(2, t_k167)]
def l_k174 : LNL := [(4, [(t_mrw, [[0], [1], [100081], [500]])])]
theorem k_k174 (g : GG) : KOK Yt (PSt g) t_k174 := verK_ok (PSt_ok g) (PSt_ax g) (dk := 1) (AN := anOf a_k174) (anOf_ok ⟨k_k167 g, trivial⟩) (LN := lnOf l_k174) (lnOf_ok ⟨⟨l_mrw g, trivial⟩, trivial⟩) (cuts := c_k174) (f := 3000) (by decide +kernel)
def t_k175 : KT := ((175, 2, 0, 0), [(2, 0, 40, 0), (1, 1, 0, 0)], [(0, 0), (0, 155)], [], (1, 0, 11), [], [(96, [(2, 0, 40, 0), (1, 1, 0, 0), (1, 2, 0, 0)])], ([], []), ([], []))
def c_k175 : List CUT := []
def a_k175 : List (Nat × KT) := [(2, t_k167)]
def l_k175 : LNL := [(4, [(t_mcl, [[0], [1], [100081], [500]])])]
theorem k_k175 (g : GG) : KOK Yt (PSt g) t_k175 := verK_ok (PSt_ok g) (PSt_ax g) (dk := 1) (AN := anOf a_k175) (anOf_ok ⟨k_k167 g, trivial⟩) (LN := lnOf l_k175) (lnOf_ok ⟨⟨l_mcl g, trivial⟩, trivial⟩) (cuts := c_k175) (f := 3000) (by decide +kernel)
def t_k176s : KT := ((176, 1, 0, 0), [(2, 0, 40, 0), (1, 1, 0, 0)], [(0, 0), (-127, 127)], [], (1, 0, 127), [], [(163, [(2, 0, 40, 0), (1, 1, 0, 0), (1, 2, 0, 0)])], ([], []), ([], []))
theorem k_k176s (g : GG) : KOK Yt (PSt g) t_k176s := by
  intro d ρ α Γ M as gs hgn hd hT hB hA _
  cases List.length_eq_zero_iff.mp hgn
  rw [List.append_nil] at hA
  obtain ⟨m, t, rfl, h1, h2⟩ := ARs.cons (show ARs ρ α Γ [(2, 0, 40, 0), (1, 1, 0, 0)] as from hA)
  obtain ⟨m2, t2, rfl, h3, h4⟩ := ARs.cons h2
  cases h4.nil
  obtain ⟨rfl, g1, g2⟩ := h1.ref rfl
  have g1 : Γ (α 0) = 40 := g1
  have h3 : m2 = vi (ρ 1 + 0) := h3
  rw [Int.add_zero] at h3
  subst h3
  have b : -127 ≤ ρ 1 ∧ ρ 1 ≤ 127 := hB 1
  cases d with
  | zero => exact absurd hd (by decide)
  | succ d =>
    have fin : ∀ x : Int, x = abN (ρ 1) → KPost Yt (PSt g) t_k176s ρ α Γ M (some (vi x)) M := by
      intro x hx
      have hb : 0 ≤ x ∧ x ≤ 127 := by
        rw [hx]
        unfold abN
        split <;> omega
      refine ⟨Γ, hT, FRM.refl _ _ _, fun _ _ => rfl, Nat.le_refl _, Nat.le_refl _, x, rfl, hb.1, hb.2, fun p hp => ?_⟩
      cases List.mem_singleton.mp hp
      refine ⟨g1, tyO_nil, ?_⟩
      show x + 0 = abN (ρ 1 + 0)
      rw [Int.add_zero, Int.add_zero]
      exact hx
    refine Rm.of [vr (α 0), vi (ρ 1)] (eq_true (show 2 ≤ mmaxl 176 by decide +kernel)) rfl ?_
    obtain ⟨s0, u0, K, R, I⟩ := M
    refine s_iload_n (i := 1) (show decode (mcode 176) 0 = _ by decide +kernel) rfl ?_
    refine s_if_ge (off := 8) 9 (show decode (mcode 176) 1 = _ by decide +kernel) (by decide) (fun hx => ?_) (fun hx => ?_)
    · refine s_iload_n (i := 1) (show decode (mcode 176) 9 = _ by decide +kernel) rfl ?_
      refine s_iret (show decode (mcode 176) 10 = _ by decide +kernel) (show mret 176 = _ by decide +kernel) (fin _ ?_)
      unfold abN
      rw [if_pos hx]
    · refine s_iload_n (i := 1) (show decode (mcode 176) 4 = _ by decide +kernel) rfl ?_
      refine s_ineg (show decode (mcode 176) 5 = _ by decide +kernel) ?_
      refine s_goto (off := 4) 10 (show decode (mcode 176) 6 = _ by decide +kernel) (by decide) ?_
      refine s_iret (show decode (mcode 176) 10 = _ by decide +kernel) (show mret 176 = _ by decide +kernel) (fin _ ?_)
      unfold abN
      rw [if_neg (by omega), wI_id (by unfold inI; omega)]
def t_k176 : KT := ((176, 1, 0, 0), [(2, 0, 40, 0), (1, 1, 0, 0)], [(0, 0), (-2147483648, 2147483647)], [], (1, -2147483648, 2147483647), [], [], ([], []), ([], []))
def c_k176 : List CUT := []
def a_k176 : List (Nat × KT) := []
def l_k176 : LNL := []
theorem k_k176 (g : GG) : KOK Yt (PSt g) t_k176 := verK_ok (PSt_ok g) (PSt_ax g) (dk := 0) (AN := anOf a_k176) (anOf_ok trivial) (LN := lnOf l_k176) (lnOf_ok trivial) (cuts := c_k176) (f := 3000) (by decide +kernel)
def t_k177 : KT := ((177, 1, 0, 0), [(2, 0, 40, 0), (4, 0, 0, 0)], [(0, 0), (0, 0)], [], (1, -127, 127), [], [], ([], []), ([], []))
theorem k_k177 (g : GG) : KOK Yt (PSt g) t_k177 := by
  intro d ρ α Γ M as gs hgn hd hT hB hA _
  cases List.length_eq_zero_iff.mp hgn
  rw [List.append_nil] at hA
  obtain ⟨m, t, rfl, h1, h2⟩ := ARs.cons (show ARs ρ α Γ [(2, 0, 40, 0), (4, 0, 0, 0)] as from hA)
  obtain ⟨m2, t2, rfl, h3, h4⟩ := ARs.cons h2
  cases h4.nil
  obtain ⟨rfl, g1, g2⟩ := h1.ref rfl
  obtain ⟨x, rfl, -⟩ := h3.lng rfl
  cases d with
  | zero => exact absurd hd (by decide)
  | succ d =>
    refine (wrM_ok d (α 0) x M).imp fun r M1 q => ?_
    obtain ⟨rfl, rfl⟩ := q
    exact ⟨Γ, hT, FRM.refl _ _ _, fun _ _ => rfl, Nat.le_refl _, Nat.le_refl _, _, rfl, (wr_bd x).1, (wr_bd x).2, fun p hp => absurd hp List.not_mem_nil⟩
def t_k178p : KT := ((178, 2, 0, 0), [(2, 0, 40, 0), (1, 1, 0, 0), (1, 2, 0, 0)], [(0, 0), (0, 143), (0, 143)], [], (1, -127, 127), [], [(124, [(2, 0, 40, 0), (1, 1, 0, 0), (1, 2, 0, 0), (1, 3, 0, 0)])], ([], []), ([], []))
theorem k_k178p (g : GG) : KOK Yt (PSt g) t_k178p := by
  intro d ρ α Γ M as gs hgn hd hT hB hA _
  cases List.length_eq_zero_iff.mp hgn
  rw [List.append_nil] at hA
  obtain ⟨m, t, rfl, h1, h2⟩ := ARs.cons (show ARs ρ α Γ [(2, 0, 40, 0), (1, 1, 0, 0), (1, 2, 0, 0)] as from hA)
  obtain ⟨m2, t2, rfl, h3, h4⟩ := ARs.cons h2
  obtain ⟨m3, t3, rfl, h5, h6⟩ := ARs.cons h4
  cases h6.nil
  obtain ⟨rfl, g1, g2⟩ := h1.ref rfl
  have g1 : Γ (α 0) = 40 := g1
  have h3 : m2 = vi (ρ 1 + 0) := h3
  have h5 : m3 = vi (ρ 2 + 0) := h5
  rw [Int.add_zero] at h3 h5
  subst h3
  subst h5
  have b1 : 0 ≤ ρ 1 ∧ ρ 1 ≤ 143 := hB 1
  have b2 : 0 ≤ ρ 2 ∧ ρ 2 ≤ 143 := hB 2
  match d, hd with
  | d + 2, hd =>
    have hK := (hT (α 0) (by rw [g1]; decide)).2
    rw [g1] at hK
    have hK : M.2.2.1 (α 0) = (12, 0) := hK.1
    obtain ⟨n, n1, n2⟩ := tyR hT g1 (by decide) (j := 1) (τ2 := 41) (by decide)
    have hN := (hT n (by rw [n2]; decide)).2
    rw [n2] at hN
    have hN : M.2.2.1 n = (20, 2314) := hN.1
    obtain ⟨s0, u0, K, R, I⟩ := M
    have hK : K (α 0) = (12, 0) := hK
    have hN : K n = (20, 2314) := hN
    have n1 : R (α 0) 1 = some n := n1
    have key : ∀ x : Int, 0 ≤ x → x ≤ 143 → Rm (d + 1) 170 [vr (α 0), vi x] (s0, u0, K, R, I) (fun r M1 => r = some (vi (I n (10 + x.toNat))) ∧ M1 = (s0, u0, K, R, I)) := by
      intro x x1 x2
      refine Rm.of [vr (α 0), vi x] (eq_true (show 2 ≤ mmaxl 170 by decide +kernel)) rfl ?_
      refine s_aload_n (i := 0) (show decode (mcode 170) 0 = _ by decide +kernel) rfl ?_
      refine s_getR (idx := 7) (c := 12) (j := 1) (show decode (mcode 170) 1 = _ by decide +kernel) (show pool (mcls 170) 7 = _ by decide +kernel) hK n1 ?_
      refine s_bipush (n := 10) (show decode (mcode 170) 4 = _ by decide +kernel) ⟨by decide, by decide⟩ (by decide) ?_
      refine s_iload_n (i := 1) (show decode (mcode 170) 6 = _ by decide +kernel) rfl ?_
      refine s_iadd (show decode (mcode 170) 7 = _ by decide +kernel) ?_
      rw [wI_id (x := 10 + x) (by unfold inI; omega)]
      refine s_iald (x := I n (10 + x.toNat)) (show decode (mcode 170) 8 = _ by decide +kernel) hN (by omega) (by omega) (by rw [show (10 + x).toNat = 10 + x.toNat by omega]) ?_
      refine s_iret (show decode (mcode 170) 9 = _ by decide +kernel) (show mret 170 = _ by decide +kernel) ?_
      exact ⟨rfl, rfl⟩
    refine Rm.of [vr (α 0), vi (ρ 1), vi (ρ 2)] (eq_true (show 3 ≤ mmaxl 178 by decide +kernel)) rfl ?_
    refine s_aload_n (i := 0) (show decode (mcode 178) 0 = _ by decide +kernel) rfl ?_
    refine s_aload_n (i := 0) (show decode (mcode 178) 1 = _ by decide +kernel) rfl ?_
    refine s_iload_n (i := 2) (show decode (mcode 178) 2 = _ by decide +kernel) rfl ?_
    refine s_inv1 (idx := 72) (y := 170) (c := 12) (show decode (mcode 178) 3 = _ by decide +kernel) (show pool (mcls 178) 72 = _ by decide +kernel) (show mcls 170 = _ by decide +kernel) hK (show mstat 170 = _ by decide +kernel) (show ((mname 170).name == "<init>") = _ by decide +kernel) (show (1 : Nat) ≤ 8 by decide) (key (ρ 2) b2.1 b2.2) ?_
    rintro _ _ ⟨rfl, rfl⟩
    refine s_aload_n (i := 0) (show decode (mcode 178) 6 = _ by decide +kernel) rfl ?_
    refine s_iload_n (i := 1) (show decode (mcode 178) 7 = _ by decide +kernel) rfl ?_
    refine s_inv1 (idx := 72) (y := 170) (c := 12) (show decode (mcode 178) 8 = _ by decide +kernel) (show pool (mcls 178) 72 = _ by decide +kernel) (show mcls 170 = _ by decide +kernel) hK (show mstat 170 = _ by decide +kernel) (show ((mname 170).name == "<init>") = _ by decide +kernel) (show (2 : Nat) ≤ 8 by decide) (key (ρ 1) b1.1 b1.2) ?_
    rintro _ _ ⟨rfl, rfl⟩
    refine s_isub (show decode (mcode 178) 11 = _ by decide +kernel) ?_
    refine s_i2l (show decode (mcode 178) 12 = _ by decide +kernel) ?_
    refine s_inv1 (idx := 76) (y := 177) (c := 12) (show decode (mcode 178) 13 = _ by decide +kernel) (show pool (mcls 178) 76 = _ by decide +kernel) (show mcls 177 = _ by decide +kernel) hK (show mstat 177 = _ by decide +kernel) (show ((mname 177).name == "<init>") = _ by decide +kernel) (by decide) (wrM_ok d (α 0) (wI (I n (10 + (ρ 2).toNat) - I n (10 + (ρ 1).toNat))) (s0, u0, K, R, I)) ?_
    rintro _ _ ⟨rfl, rfl⟩
    refine s_iret (show decode (mcode 178) 16 = _ by decide +kernel) (show mret 178 = _ by decide +kernel) ?_
    refine ⟨Γ, hT, FRM.refl _ _ _, fun _ _ => rfl, Nat.le_refl _, Nat.le_refl _, _, rfl, (wr_bd _).1, (wr_bd _).2, fun p hp => ?_⟩
    cases List.mem_singleton.mp hp
    refine ⟨g1, tyO_of hT g1 (by decide) (by decide), ?_⟩
    show wr (wI (I n (10 + (ρ 2).toNat) - I n (10 + (ρ 1).toNat))) + 0 = stpR (clp [(10, 154)] (I (fl (s0, u0, K, R, I) (α 0) 1))) (ρ 1 + 0) (ρ 2 + 0)
    rw [Int.add_zero, Int.add_zero, Int.add_zero, stpP (by omega) (by omega), fl_eq (M := (s0, u0, K, R, I)) n1]
    rfl
def t_k178 : KT := ((178, 2, 0, 0), [(2, 0, 40, 0), (1, 1, 0, 0), (1, 2, 0, 0)], [(0, 0), (-10, 200), (-10, 200)], [], (1, -127, 127), [], [], ([], []), ([], []))
def c_k178 : List CUT := []
def a_k178 : List (Nat × KT) := [(3, t_k170), (6, t_k170), (9, t_k177)]
def l_k178 : LNL := []
theorem k_k178 (g : GG) : KOK Yt (PSt g) t_k178 := verK_ok (PSt_ok g) (PSt_ax g) (dk := 1) (AN := anOf a_k178) (anOf_ok ⟨k_k170 g, ⟨k_k170 g, ⟨k_k177 g, trivial⟩⟩⟩) (LN := lnOf l_k178) (lnOf_ok trivial) (cuts := c_k178) (f := 3000) (by decide +kernel)
def t_k179 : KT := ((179, 3, 0, 0), [(2, 0, 40, 0), (1, 1, 0, 0)], [(0, 0), (-2147483648, 2147483647)], [], (2, 0, 1), [], [], ([(1, 0, 287)], [(97, [(2, 0, 40, 0), (1, 1, 0, 0)])]), ([], []))
def c_k179 : List CUT := []
def a_k179 : List (Nat × KT) := [(5, t_k168), (18, t_k175), (20, t_k167), (32, t_k174), (34, t_k166)]
def l_k179 : LNL := [(24, [(t_medh, [[0], [1], [100262], [100962], [100081], [100941], [100252], [100272]])]), (38, [(t_medv, [[0], [1], [100262], [100092], [100931], [100941], [100252], [100272]])])]
theorem k_k179 (g : GG) : KOK Yt (PSt g) t_k179 := verK_ok (PSt_ok g) (PSt_ax g) (dk := 2) (AN := anOf a_k179) (anOf_ok ⟨k_k168 g, ⟨k_k175 g, ⟨k_k167 g, ⟨k_k174 g, ⟨k_k166 g, trivial⟩⟩⟩⟩⟩) (LN := lnOf l_k179) (lnOf_ok ⟨⟨l_medh g, trivial⟩, ⟨⟨l_medv g, trivial⟩, trivial⟩⟩) (cuts := c_k179) (f := 3000) (by decide +kernel)
def t_k180 : KT := ((180, 1, 0, 0), [(2, 0, 40, 0), (1, 1, 0, 0)], [(0, 0), (0, 287)], [], (1, 0, 143), [], [(422, [(2, 0, 40, 0), (1, 1, 0, 0), (1, 2, 0, 0)])], ([], []), ([], []))
def c_k180 : List CUT := []
def a_k180 : List (Nat × KT) := []
def l_k180 : LNL := [(3, [(t_les, [[0], [1], [500]])])]
theorem k_k180 (g : GG) : KOK Yt (PSt g) t_k180 := verK_ok (PSt_ok g) (PSt_ax g) (dk := 0) (AN := anOf a_k180) (anOf_ok trivial) (LN := lnOf l_k180) (lnOf_ok ⟨⟨l_les g, trivial⟩, trivial⟩) (cuts := c_k180) (f := 3000) (by decide +kernel)
def t_k181e : KT := ((181, 2, 0, 0), [(2, 0, 40, 0), (1, 1, 0, 0)], [(0, 0), (0, 287)], [(97, [(2, 0, 40, 0), (1, 1, 0, 0)])], (1, 1, 143), [], [(423, [(2, 0, 40, 0), (1, 1, 0, 0), (1, 2, 0, 0)])], ([], []), ([], []))
def c_k181e : List CUT := []
def a_k181e : List (Nat × KT) := [(14, t_k167)]
def l_k181e : LNL := [(7, [(t_mg0, [[0], [1], [500], [100272]])]), (16, [(t_mg1, [[0], [1], [100262], [100272], [100081], [500]]), (t_gr0, [[0], [1], [100262], [100272]]), (t_gr1, [[0], [1], [100262], [100272], [100081], [500]])])]
theorem k_k181e (g : GG) : KOK Yt (PSt g) t_k181e := verK_ok (PSt_ok g) (PSt_ax g) (dk := 1) (AN := anOf a_k181e) (anOf_ok ⟨k_k167 g, trivial⟩) (LN := lnOf l_k181e) (lnOf_ok ⟨⟨l_mg0 g, trivial⟩, ⟨⟨l_mg1 g, ⟨l_gr0 g, ⟨l_gr1 g, trivial⟩⟩⟩, trivial⟩⟩) (cuts := c_k181e) (f := 3000) (by decide +kernel)
def t_k181 : KT := ((181, 2, 0, 0), [(2, 0, 40, 0), (1, 1, 0, 0)], [(0, 0), (0, 287)], [], (1, 1, 155), [], [], ([], []), ([], []))
def c_k181 : List CUT := []
def a_k181 : List (Nat × KT) := [(14, t_k167)]
def l_k181 : LNL := []
theorem k_k181 (g : GG) : KOK Yt (PSt g) t_k181 := verK_ok (PSt_ok g) (PSt_ax g) (dk := 1) (AN := anOf a_k181) (anOf_ok ⟨k_k167 g, trivial⟩) (LN := lnOf l_k181) (lnOf_ok trivial) (cuts := c_k181) (f := 3000) (by decide +kernel)
def t_k182 : KT := ((182, 3, 0, 0), [(2, 0, 40, 0), (1, 1, 0, 0)], [(0, 0), (0, 287)], [], (2, 0, 1), [], [], ([], []), ([], []))
def c_k182 : List CUT := []
def a_k182 : List (Nat × KT) := [(3, t_k180), (4, t_k172p), (9, t_k181), (10, t_k172)]
def l_k182 : LNL := []
theorem k_k182 (g : GG) : KOK Yt (PSt g) t_k182 := verK_ok (PSt_ok g) (PSt_ax g) (dk := 2) (AN := anOf a_k182) (anOf_ok ⟨k_k180 g, ⟨k_k172p g, ⟨k_k181 g, ⟨k_k172 g, trivial⟩⟩⟩⟩) (LN := lnOf l_k182) (lnOf_ok trivial) (cuts := c_k182) (f := 3000) (by decide +kernel)
def t_k183 : KT := ((183, 1, 0, 0), [(2, 0, 40, 0), (1, 1, 0, 0)], [(0, 0), (0, 287)], [], (2, 0, 1), [], [], ([], []), ([], []))
def c_k183 : List CUT := []
def a_k183 : List (Nat × KT) := []
def l_k183 : LNL := []
theorem k_k183 (g : GG) : KOK Yt (PSt g) t_k183 := verK_ok (PSt_ok g) (PSt_ax g) (dk := 0) (AN := anOf a_k183) (anOf_ok trivial) (LN := lnOf l_k183) (lnOf_ok trivial) (cuts := c_k183) (f := 3000) (by decide +kernel)
def t_k184 : KT := ((184, 3, 0, 0), [(2, 0, 40, 0), (1, 1, 0, 0)], [(0, 0), (0, 287)], [], (1, -2147483648, 2147483647), [], [], ([], []), ([], []))
def c_k184 : List CUT := []
def a_k184 : List (Nat × KT) := [(3, t_k180), (4, t_k171), (9, t_k181), (10, t_k171)]
def l_k184 : LNL := []
theorem k_k184 (g : GG) : KOK Yt (PSt g) t_k184 := verK_ok (PSt_ok g) (PSt_ax g) (dk := 2) (AN := anOf a_k184) (anOf_ok ⟨k_k180 g, ⟨k_k171 g, ⟨k_k181 g, ⟨k_k171 g, trivial⟩⟩⟩⟩) (LN := lnOf l_k184) (lnOf_ok trivial) (cuts := c_k184) (f := 3000) (by decide +kernel)
def t_k185 : KT := ((185, 1, 0, 0), [(2, 0, 40, 0), (1, 1, 0, 0), (1, 2, 0, 0), (1, 3, 0, 0), (1, 4, 1, 0)], [(0, 0), (-2147483648, 2147483647), (-2147483648, 2147483647), (-2147483648, 2147483647), (0, 1000)], [(77, [(2, 0, 40, 0), (1, 4, 0, 0), (0, 0, 0, 0)]), (78, [(0, 0, 0, 0)])], (0, 0, 0), [(40, 5, 6), (42, 0, 180)], [(77, [(2, 0, 40, 0), (1, 4, 0, 1), (0, 0, 0, 0)])], ([], []), ([], []))
def c_k185 : List CUT := []
def a_k185 : List (Nat × KT) := []
def l_k185 : LNL := [(3, [(t_ml0, [[0], [100771], [0, 5]])]), (32, [(t_ml1, [[0], [100591], [0, 5]])])]
theorem k_k185 (g : GG) : KOK Yt (PSt g) t_k185 := verK_ok (PSt_ok g) (PSt_ax g) (dk := 0) (AN := anOf a_k185) (anOf_ok trivial) (LN := lnOf l_k185) (lnOf_ok ⟨⟨l_ml0 g, trivial⟩, ⟨⟨l_ml1 g, trivial⟩, trivial⟩⟩) (cuts := c_k185) (f := 3000) (by decide +kernel)
def t_k187 : KT := ((187, 1, 0, 0), [(2, 0, 40, 0)], [(0, 0)], [], (0, 0, 0), [(41, 2, 5), (41, 442, 1018), (41, 2026, 2314)], [(100, [(2, 0, 40, 0)]), (101, [(2, 0, 40, 0)]), (102, [(2, 0, 40, 0)]), (132, [(2, 0, 40, 0)])], ([], []), ([], []))
def c_k187 : List CUT := [(2, [0, 1], [(2, 0, 40, 0), (1, 1, 0, 0)], [(0, 0), (0, 144)], [(2, 0, 40, 0), (1, 1, 0, 0)], [(0, [(2, 0, 40, 0)]), (106, [(2, 0, 40, 0), (1, 1, 0, 0)])], (0, 0), [(0, 0, 1), (1, 1, 144)])]
def a_k187 : List (Nat × KT) := []
def l_k187 : LNL := [(1, [(t_z0, [[0], [500]])]), (11, [(t_z1, [[0], [0, 1], [1]])]), (12, [(t_z2, [[0], [0, 1], [1]])]), (64, [(t_z3, [[0], [0, 1], [1]])])]
theorem k_k187 (g : GG) : KOK Yt (PSt g) t_k187 := verK_ok (PSt_ok g) (PSt_ax g) (dk := 0) (AN := anOf a_k187) (anOf_ok trivial) (LN := lnOf l_k187) (lnOf_ok ⟨⟨l_z0 g, trivial⟩, ⟨⟨l_z1 g, trivial⟩, ⟨⟨l_z2 g, trivial⟩, ⟨⟨l_z3 g, trivial⟩, trivial⟩⟩⟩⟩) (cuts := c_k187) (f := 3000) (by decide +kernel)
def t_k186 : KT := ((186, 1, 0, 0), [(2, 0, 40, 0)], [(0, 0)], [(100, [(2, 0, 40, 0)]), (101, [(2, 0, 40, 0)]), (107, [(2, 0, 40, 0)])], (0, 0, 0), [(40, 7, 8), (43, 0, 27768)], [(107, [(2, 0, 40, 0)])], ([], []), ([], []))
def c_k186 : List CUT := [(6, [0, 1, 1007], [(2, 0, 40, 0), (1, 1, 0, 0), (1, 2, 0, 0)], [(0, 0), (0, 25454), (12, 12)], [(2, 0, 40, 0), (1, 1, 0, 0)], [(0, [(2, 0, 40, 0)]), (100, [(2, 0, 40, 0)]), (101, [(2, 0, 40, 0)]), (115, [(2, 0, 40, 0), (1, 1, 0, 0)])], (0, 0), [(0, 0, 2), (1, 1, 25454)]), (26, [0, 1, 1007], [(2, 0, 40, 0), (1, 1, 0, 0), (1, 2, 0, 0)], [(0, 0), (0, 2314), (0, 11)], [(2, 0, 40, 0), (1, 1, 0, 0)], [(0, [(2, 0, 40, 0)]), (100, [(2, 0, 40, 0)]), (101, [(2, 0, 40, 0)]), (116, [(2, 0, 40, 0), (1, 1, 0, 0)])], (0, 0), [(0, 0, 1), (1, 1, 2314)])]
def a_k186 : List (Nat × KT) := []
def l_k186 : LNL := [(5, [(t_ka0, [[0], [500]])]), (18, [(t_ka1, [[0], [0, 6], [1], [500]])]), (19, [(t_ka2, [[0], [0, 6], [1], [102063]])]), (21, [(t_ka3, [[0], [1]])]), (25, [(t_ka4, [[0], [500]])]), (41, [(t_acto, [[0, 7], [100252], [1], [501], [500]]), (t_ka5, [[0], [0, 6], [0, 1], [0, 7], [1], [100252], [501], [500]])]), (42, [(t_ka6, [[0], [0, 6], [1], [102071], [102074]])]), (44, [(t_ka7, [[0], [1]])])]
theorem k_k186 (g : GG) : KOK Yt (PSt g) t_k186 := verK_ok (PSt_ok g) (PSt_ax g) (dk := 0) (AN := anOf a_k186) (anOf_ok trivial) (LN := lnOf l_k186) (lnOf_ok ⟨⟨l_ka0 g, trivial⟩, ⟨⟨l_ka1 g, trivial⟩, ⟨⟨l_ka2 g, trivial⟩, ⟨⟨l_ka3 g, trivial⟩, ⟨⟨l_ka4 g, trivial⟩, ⟨⟨l_acto g, ⟨l_ka5 g, trivial⟩⟩, ⟨⟨l_ka6 g, trivial⟩, ⟨⟨l_ka7 g, trivial⟩, trivial⟩⟩⟩⟩⟩⟩⟩⟩) (cuts := c_k186) (f := 3000) (by decide +kernel)
def t_k188 : KT := ((188, 2, 0, 0), [(2, 0, 40, 0)], [(0, 0)], [(100, [(2, 0, 40, 0)]), (101, [(2, 0, 40, 0)]), (107, [(2, 0, 40, 0)])], (0, 0, 0), [(40, 7, 8), (41, 2, 5), (41, 442, 1018), (41, 2026, 2314), (43, 0, 27768)], [(100, [(2, 0, 40, 0)]), (101, [(2, 0, 40, 0)]), (107, [(2, 0, 40, 0)]), (102, [(2, 0, 40, 0)])], ([], []), ([], []))
def c_k188 : List CUT := []
def a_k188 : List (Nat × KT) := [(1, t_k186), (3, t_k187)]
def l_k188 : LNL := []
theorem k_k188 (g : GG) : KOK Yt (PSt g) t_k188 := verK_ok (PSt_ok g) (PSt_ax g) (dk := 1) (AN := anOf a_k188) (anOf_ok ⟨k_k186 g, ⟨k_k187 g, trivial⟩⟩) (LN := lnOf l_k188) (lnOf_ok trivial) (cuts := c_k188) (f := 3000) (by decide +kernel)
def t_k189 : KT := ((189, 2, 0, 0), [(2, 0, 40, 0)], [(0, 0)], [(77, [(2, 0, 40, 0), (0, 0, 0, 0), (0, 0, 0, 0)]), (78, [(0, 0, 0, 0)]), (100, [(2, 0, 40, 0)]), (101, [(2, 0, 40, 0)]), (107, [(2, 0, 40, 0)])], (1, -1, 11), [(40, 0, 1), (40, 5, 6), (40, 7, 8), (41, 0, 2314), (42, 0, 180)], [(77, [(2, 0, 40, 0), (0, 0, 0, 150), (0, 0, 0, 0)]), (100, [(2, 0, 40, 0)]), (101, [(2, 0, 40, 0)]), (107, [(2, 0, 40, 0)])], ([], []), ([], []))
def c_k189 : List CUT := [(16, [0, 1, 1000, 1007], [(2, 0, 40, 0), (1, 1, 0, 0), (1, 2, 0, 0), (1, 3, 0, 0)], [(0, 0), (0, 2314), (0, 0), (0, 11)], [(2, 0, 40, 0), (1, 1, 0, 0)], [(0, [(2, 0, 40, 0)]), (77, [(2, 0, 40, 0), (0, 0, 0, 0), (0, 0, 0, 0)]), (78, [(0, 0, 0, 0)]), (107, [(2, 0, 40, 0)]), (114, [(2, 0, 40, 0), (1, 1, 0, 0)])], (0, 0), [(0, 0, 1), (1, 1, 2314)])]
def a_k189 : List (Nat × KT) := [(39, t_k185)]
def l_k189 : LNL := [(7, [(t_mw77, [[0], [100771]])]), (15, [(t_un0, [[0], [500]])]), (30, [(t_acfr0, [[0, 7], [100252], [1], [500]])]), (31, [(t_acfr, [[0, 7], [100252], [1], [100232], [500]]), (t_un1, [[0], [0, 6], [0, 1], [0, 7], [1], [100252], [100232], [500]])]), (32, [(t_un2, [[0], [0, 1], [1], [102053]])]), (34, [(t_un3, [[0], [1], [0, 7]])]), (42, [(t_mw77, [[0], [100771]])])]
theorem k_k189 (g : GG) : KOK Yt (PSt g) t_k189 := verK_ok (PSt_ok g) (PSt_ax g) (dk := 1) (AN := anOf a_k189) (anOf_ok ⟨k_k185 g, trivial⟩) (LN := lnOf l_k189) (lnOf_ok ⟨⟨l_mw77 g, trivial⟩, ⟨⟨l_un0 g, trivial⟩, ⟨⟨l_acfr0 g, trivial⟩, ⟨⟨l_acfr g, ⟨l_un1 g, trivial⟩⟩, ⟨⟨l_un2 g, trivial⟩, ⟨⟨l_un3 g, trivial⟩, ⟨⟨l_mw77 g, trivial⟩, trivial⟩⟩⟩⟩⟩⟩⟩) (cuts := c_k189) (f := 3000) (by decide +kernel)
def t_k190 : KT := ((190, 1, 0, 0), [(2, 0, 40, 0), (1, 1, 0, 0), (1, 2, 0, 0)], [(0, 0), (2, 12), (2, 12)], [], (0, 0, 0), [(41, 0, 2314)], [(100, [(2, 0, 40, 0)]), (101, [(2, 0, 40, 0)]), (102, [(2, 0, 40, 0)]), (93, [(2, 0, 40, 0), (1, 1, 0, 0)]), (8, [(2, 0, 40, 0), (1, 2, 0, 0)])], ([], []), ([], []))
def c_k190 : List CUT := [(2, [0, 1, 2, 3], [(2, 0, 40, 0), (1, 1, 0, 0), (1, 2, 0, 0), (1, 3, 0, 0)], [(0, 0), (2, 12), (2, 12), (0, 2314)], [(2, 0, 40, 0), (1, 1, 0, 0), (1, 2, 0, 0), (1, 3, 0, 0)], [(0, [(2, 0, 40, 0), (1, 1, 0, 0), (1, 2, 0, 0)]), (161, [(2, 0, 40, 0), (1, 3, 0, 0)])], (0, 0), [(0, 0, 1), (1, 3, 2314)])]
def a_k190 : List (Nat × KT) := []
def l_k190 : LNL := [(1, [(t_sz0, [[0], [500]])]), (9, [(t_sz1, [[0], [0, 1], [3]])]), (10, [(t_sz2, [[0], [0, 1], [3]])]), (12, [(t_sz3, [[0], [3]])]), (26, [(t_nf01, [[0]]), (t_mrow, [[0], [0, 1], [1]]), (t_mcol, [[0], [0, 1], [2]])])]
theorem k_k190 (g : GG) : KOK Yt (PSt g) t_k190 := verK_ok (PSt_ok g) (PSt_ax g) (dk := 0) (AN := anOf a_k190) (anOf_ok trivial) (LN := lnOf l_k190) (lnOf_ok ⟨⟨l_sz0 g, trivial⟩, ⟨⟨l_sz1 g, trivial⟩, ⟨⟨l_sz2 g, trivial⟩, ⟨⟨l_sz3 g, trivial⟩, ⟨⟨l_nf01 g, ⟨l_mrow g, ⟨l_mcol g, trivial⟩⟩⟩, trivial⟩⟩⟩⟩⟩) (cuts := c_k190) (f := 3000) (by decide +kernel)
def t_k195 : KT := ((195, 3, 0, 0), [(2, 0, 40, 0), (1, 1, 0, 0), (1, 2, 0, 0)], [(0, 0), (0, 143), (0, 3)], [(95, [(2, 0, 40, 0), (1, 1, 0, 0)])], (1, -1, 143), [], [(20, [(2, 0, 40, 0), (1, 1, 0, 0), (1, 2, 0, 0), (1, 3, 0, 0)])], ([], []), ([], []))
def c_k195 : List CUT := []
def a_k195 : List (Nat × KT) := [(4, t_k175), (6, t_k167), (21, t_k174), (23, t_k166), (29, t_k167), (39, t_k175), (49, t_k174), (53, t_k167)]
def l_k195 : LNL := [(13, [(t_nb0, [[0], [1], [2], [100962], [100081]])]), (14, [(t_nbn, [[0], [1], [2]])]), (31, [(t_nb1, [[0], [1], [2], [100092], [100931], [100081], [500]])]), (32, [(t_nbn, [[0], [1], [2]])]), (44, [(t_nb2, [[0], [1], [2], [100962]])]), (45, [(t_nbn, [[0], [1], [2]])]), (55, [(t_nb3, [[0], [1], [2], [100092], [100081], [500]])]), (56, [(t_nbn, [[0], [1], [2]])])]
theorem k_k195 (g : GG) : KOK Yt (PSt g) t_k195 := verK_ok (PSt_ok g) (PSt_ax g) (dk := 2) (AN := anOf a_k195) (anOf_ok ⟨k_k175 g, ⟨k_k167 g, ⟨k_k174 g, ⟨k_k166 g, ⟨k_k167 g, ⟨k_k175 g, ⟨k_k174 g, ⟨k_k167 g, trivial⟩⟩⟩⟩⟩⟩⟩⟩) (LN := lnOf l_k195) (lnOf_ok ⟨⟨l_nb0 g, trivial⟩, ⟨⟨l_nbn g, trivial⟩, ⟨⟨l_nb1 g, trivial⟩, ⟨⟨l_nbn g, trivial⟩, ⟨⟨l_nb2 g, trivial⟩, ⟨⟨l_nbn g, trivial⟩, ⟨⟨l_nb3 g, trivial⟩, ⟨⟨l_nbn g, trivial⟩, trivial⟩⟩⟩⟩⟩⟩⟩⟩) (cuts := c_k195) (f := 3000) (by decide +kernel)
def t_k196 : KT := ((196, 2, 0, 0), [(2, 0, 40, 0), (1, 1, 0, 0), (1, 2, 0, 0)], [(0, 0), (0, 143), (0, 3)], [(28, [(2, 0, 40, 0), (1, 1, 0, 0), (1, 2, 0, 0)])], (1, 0, 287), [], [], ([], []), ([], []))
def c_k196 : List CUT := []
def a_k196 : List (Nat × KT) := [(27, t_k167)]
def l_k196 : LNL := [(18, [(t_et2, [[0], [1], [2]])]), (29, [(t_et3, [[0], [1], [2], [100081], [500]])])]
theorem k_k196 (g : GG) : KOK Yt (PSt g) t_k196 := verK_ok (PSt_ok g) (PSt_ax g) (dk := 1) (AN := anOf a_k196) (anOf_ok ⟨k_k167 g, trivial⟩) (LN := lnOf l_k196) (lnOf_ok ⟨⟨l_et2 g, trivial⟩, ⟨⟨l_et3 g, trivial⟩, trivial⟩⟩) (cuts := c_k196) (f := 3000) (by decide +kernel)
def t_k197 : KT := ((197, 4, 0, 0), [(2, 0, 40, 0), (1, 1, 0, 0)], [(0, 0), (0, 143)], [(95, [(2, 0, 40, 0), (1, 1, 0, 0)])], (1, -409, 99), [], [], ([], []), ([], []))
def c_k197 : List CUT := [(6, [0, 1, 2, 3, 4], [(2, 0, 40, 0), (1, 1, 0, 0), (1, 2, 0, 0), (1, 3, 0, 0), (1, 4, 0, 0)], [(0, 0), (0, 143), (0, 11), (0, 2313), (0, 4)], [(2, 0, 40, 0), (1, 1, 0, 0), (1, 2, 0, 0), (1, 3, 0, 0), (1, 4, 0, 0), (7, 0, 0, 0)], [(0, [(2, 0, 40, 0), (1, 1, 0, 0)]), (6, [(1, 2, 0, 0), (1, 4, 0, 0)]), (19, [(1, 3, 0, 0), (1, 2, 0, 0)]), (95, [(2, 0, 40, 0), (1, 1, 0, 0)])], (0, 0), [(0, 0, 1), (1, 4, 4)])]
def a_k197 : List (Nat × KT) := [(12, t_k195), (19, t_k172p), (31, t_k178p), (32, t_k176s)]
def l_k197 : LNL := [(5, [(t_le0, [[2], [500]]), (t_gs0, [[3], [2]])]), (6, [(t_leb4, [[2], [4]]), (t_gsb, [[3], [2]])]), (34, [(t_gs2, [[3], [100231], [500], [2]])]), (36, [(t_le1, [[2], [4]]), (t_le2, [[2], [4]])])]
theorem k_k197 (g : GG) : KOK Yt (PSt g) t_k197 := verK_ok (PSt_ok g) (PSt_ax g) (dk := 3) (AN := anOf a_k197) (anOf_ok ⟨k_k195 g, ⟨k_k172p g, ⟨k_k178p g, ⟨k_k176s g, trivial⟩⟩⟩⟩) (LN := lnOf l_k197) (lnOf_ok ⟨⟨l_le0 g, ⟨l_gs0 g, trivial⟩⟩, ⟨⟨l_leb4 g, ⟨l_gsb g, trivial⟩⟩, ⟨⟨l_gs2 g, trivial⟩, ⟨⟨l_le1 g, ⟨l_le2 g, trivial⟩⟩, trivial⟩⟩⟩⟩) (cuts := c_k197) (f := 3000) (by decide +kernel)
def t_k198 : KT := ((198, 3, 0, 0), [(2, 0, 40, 0), (1, 1, 0, 0), (1, 2, 0, 0)], [(0, 0), (0, 143), (0, 143)], [], (1, 0, 254), [], [(151, [(2, 0, 40, 0), (1, 1, 0, 0), (1, 2, 0, 0), (1, 3, 0, 0)])], ([], []), ([], []))
def c_k198 : List CUT := []
def a_k198 : List (Nat × KT) := [(3, t_k174), (6, t_k174), (8, t_k176s), (12, t_k175), (15, t_k175), (17, t_k176s)]
def l_k198 : LNL := [(9, [(t_fo1, [[0], [1], [2], [100240], [100241], [100242], [500]])]), (19, [(t_fo2, [[0], [1], [2], [101893], [100240], [100241], [100242], [100231], [500]])])]
theorem k_k198 (g : GG) : KOK Yt (PSt g) t_k198 := verK_ok (PSt_ok g) (PSt_ax g) (dk := 2) (AN := anOf a_k198) (anOf_ok ⟨k_k174 g, ⟨k_k174 g, ⟨k_k176s g, ⟨k_k175 g, ⟨k_k175 g, ⟨k_k176s g, trivial⟩⟩⟩⟩⟩⟩) (LN := lnOf l_k198) (lnOf_ok ⟨⟨l_fo1 g, trivial⟩, ⟨⟨l_fo2 g, trivial⟩, trivial⟩⟩) (cuts := c_k198) (f := 3000) (by decide +kernel)
def t_k205 : KT := ((205, 4, 0, 0), [(2, 0, 40, 0), (1, 1, 0, 0)], [(0, 0), (-2147483648, 2147483647)], [], (2, 0, 1), [], [], ([(1, 0, 143)], [(98, [(2, 0, 40, 0), (1, 1, 0, 0)])]), ([], [(121, [(2, 0, 40, 0), (1, 1, 0, 0)])]))
def c_k205 : List CUT := []
def a_k205 : List (Nat × KT) := [(2, t_k169), (6, t_k174), (8, t_k166), (14, t_k175), (16, t_k167)]
def l_k205 : LNL := [(23, [(t_rgT, [[0], [1], [100092], [100931], [100962], [100081]]), (t_rg1r, [[0], [1]]), (t_rg2r, [[0], [1], [100092], [100931]]), (t_rg3r, [[0], [1], [100962], [100081]])])]
theorem k_k205 (g : GG) : KOK Yt (PSt g) t_k205 := verK_ok (PSt_ok g) (PSt_ax g) (dk := 3) (AN := anOf a_k205) (anOf_ok ⟨k_k169 g, ⟨k_k174 g, ⟨k_k166 g, ⟨k_k175 g, ⟨k_k167 g, trivial⟩⟩⟩⟩⟩) (LN := lnOf l_k205) (lnOf_ok ⟨⟨l_rgT g, ⟨l_rg1r g, ⟨l_rg2r g, ⟨l_rg3r g, trivial⟩⟩⟩⟩, trivial⟩) (cuts := c_k205) (f := 3000) (by decide +kernel)
def t_k206 : KT := ((206, 5, 0, 0), [(2, 0, 40, 0), (1, 1, 0, 0)], [(0, 0), (0, 155)], [], (1, -1, 1), [], [(120, [(2, 0, 40, 0), (1, 1, 0, 0), (1, 2, 0, 0)])], ([], []), ([], []))
def c_k206 : List CUT := []
def a_k206 : List (Nat × KT) := [(2, t_k205), (12, t_k167), (17, t_k172p), (21, t_k172p), (25, t_k172p), (31, t_k172p), (38, t_k178p), (44, t_k178p), (51, t_k178p), (56, t_k178p)]
def l_k206 : LNL := [(5, [(t_cg0, [[0], [1]])]), (6, [(t_cg1, [[0], [1]])]), (14, [(t_cg2, [[0], [1], [100081], [500]])]), (34, [(t_cgH0, [[0], [1]]), (t_cgH1, [[0], [1]]), (t_cgH2, [[0], [1], [3]]), (t_cgH3, [[0], [1], [3]])]), (46, [(t_cgA, [[0], [1], [3], [100230], [100231], [100232]])]), (53, [(t_cgB, [[0], [1], [3], [100230], [100231], [100232]])]), (58, [(t_cgC, [[0], [1], [3], [100230], [100231], [100232]])]), (60, [(t_cgD, [[0], [1], [3], [104123], [500]])])]
theorem k_k206 (g : GG) : KOK Yt (PSt g) t_k206 := verK_ok (PSt_ok g) (PSt_ax g) (dk := 4) (AN := anOf a_k206) (anOf_ok ⟨k_k205 g, ⟨k_k167 g, ⟨k_k172p g, ⟨k_k172p g, ⟨k_k172p g, ⟨k_k172p g, ⟨k_k178p g, ⟨k_k178p g, ⟨k_k178p g, ⟨k_k178p g, trivial⟩⟩⟩⟩⟩⟩⟩⟩⟩⟩) (LN := lnOf l_k206) (lnOf_ok ⟨⟨l_cg0 g, trivial⟩, ⟨⟨l_cg1 g, trivial⟩, ⟨⟨l_cg2 g, trivial⟩, ⟨⟨l_cgH0 g, ⟨l_cgH1 g, ⟨l_cgH2 g, ⟨l_cgH3 g, trivial⟩⟩⟩⟩, ⟨⟨l_cgA g, trivial⟩, ⟨⟨l_cgB g, trivial⟩, ⟨⟨l_cgC g, trivial⟩, ⟨⟨l_cgD g, trivial⟩, trivial⟩⟩⟩⟩⟩⟩⟩⟩) (cuts := c_k206) (f := 3000) (by decide +kernel)
def t_k199 : KT := ((199, 6, 0, 0), [(2, 0, 40, 0), (1, 1, 0, 0)], [(0, 0), (0, 143)], [], (1, 0, 2286), [], [], ([], []), ([], []))
def c_k199 : List CUT := [(4, [0, 1, 2, 3], [(2, 0, 40, 0), (1, 1, 0, 0), (1, 2, 0, 0), (1, 3, 0, 0)], [(0, 0), (0, 143), (0, 2286), (0, 144)], [(2, 0, 40, 0), (1, 1, 0, 0), (1, 2, 0, 0), (1, 3, 0, 0)], [(0, [(2, 0, 40, 0), (1, 1, 0, 0)])], (0, 0), [(0, 0, 1), (1, 3, 144)])]
def a_k199 : List (Nat × KT) := [(6, t_k168), (10, t_k206), (16, t_k198), (24, t_k198)]
def l_k199 : LNL := []
theorem k_k199 (g : GG) : KOK Yt (PSt g) t_k199 := verK_ok (PSt_ok g) (PSt_ax g) (dk := 5) (AN := anOf a_k199) (anOf_ok ⟨k_k168 g, ⟨k_k206 g, ⟨k_k198 g, ⟨k_k198 g, trivial⟩⟩⟩⟩) (LN := lnOf l_k199) (lnOf_ok trivial) (cuts := c_k199) (f := 3000) (by decide +kernel)
def t_k165_0 : KT := ((165, 1, 0, 0), [(2, 0, 40, 0), (1, 1, 0, 0), (1, 2, 0, 0), (1, 3, 0, 0)], [(0, 0), (-2147483648, 2147483647), (0, 0), (2, 2)], [], (2, 0, 1), [], [], ([(1, 0, 2)], []), ([], []))
def c_k165_0 : List CUT := []
def a_k165_0 : List (Nat × KT) := []
def l_k165_0 : LNL := []
theorem k_k165_0 (g : GG) : KOK Yt (PSt g) t_k165_0 := verK_ok (PSt_ok g) (PSt_ax g) (dk := 0) (AN := anOf a_k165_0) (anOf_ok trivial) (LN := lnOf l_k165_0) (lnOf_ok trivial) (cuts := c_k165_0) (f := 3000) (by decide +kernel)
def t_k200 : KT := ((200, 7, 0, 0), [(2, 0, 40, 0), (1, 1, 0, 0)], [(0, 0), (-2147483648, 2147483647)], [(100, [(2, 0, 40, 0)]), (101, [(2, 0, 40, 0)]), (107, [(2, 0, 40, 0)])], (1, -2147483648, 2147483647), [(40, 0, 1), (40, 7, 8), (41, 154, 298), (43, 0, 27768)], [(100, [(2, 0, 40, 0)]), (101, [(2, 0, 40, 0)]), (107, [(2, 0, 40, 0)])], ([], []), ([], []))
def c_k200 : List CUT := [(17, [0, 1, 2, 3, 1000], [(2, 0, 40, 0), (1, 1, 0, 0), (1, 2, 0, 0), (1, 3, 0, 0), (1, 4, 0, 0)], [(0, 0), (0, 2), (-2147483648, 2147483647), (0, 144), (0, 0)], [(2, 0, 40, 0), (1, 1, 0, 0), (1, 2, 0, 0), (1, 3, 0, 0), (7, 0, 0, 0)], [(0, [(2, 0, 40, 0), (1, 1, 0, 0)]), (100, [(2, 0, 40, 0)]), (101, [(2, 0, 40, 0)]), (107, [(2, 0, 40, 0)])], (0, 0), [(0, 0, 1), (1, 3, 144)])]
def a_k200 : List (Nat × KT) := [(7, t_k165_0), (12, t_k186), (19, t_k168), (27, t_k172p), (36, t_k197), (40, t_k199)]
def l_k200 : LNL := [(34, [(t_mpx, [[0], [3], [100941]])])]
theorem k_k200 (g : GG) : KOK Yt (PSt g) t_k200 := verK_ok (PSt_ok g) (PSt_ax g) (dk := 6) (AN := anOf a_k200) (anOf_ok ⟨k_k165_0 g, ⟨k_k186 g, ⟨k_k168 g, ⟨k_k172p g, ⟨k_k197 g, ⟨k_k199 g, trivial⟩⟩⟩⟩⟩⟩) (LN := lnOf l_k200) (lnOf_ok ⟨⟨l_mpx g, trivial⟩, trivial⟩) (cuts := c_k200) (f := 3000) (by decide +kernel)
def t_k165sr : KT := ((165, 1, 0, 0), [(2, 0, 40, 0), (1, 1, 0, 0), (1, 2, 0, 0), (1, 3, 0, 0)], [(0, 0), (-2147483648, 2147483647), (-999, -999), (999, 999)], [], (2, 0, 1), [], [], ([(1, -999, 999)], []), ([], [(440, [(1, 1, 0, 0), (0, 0, 0, -999), (0, 0, 0, 999)])]))
def c_k165sr : List CUT := []
def a_k165sr : List (Nat × KT) := []
def l_k165sr : LNL := [(8, [(t_srl, [[1]]), (t_srh, [[1]])])]
theorem k_k165sr (g : GG) : KOK Yt (PSt g) t_k165sr := verK_ok (PSt_ok g) (PSt_ax g) (dk := 0) (AN := anOf a_k165sr) (anOf_ok trivial) (LN := lnOf l_k165sr) (lnOf_ok ⟨⟨l_srl g, ⟨l_srh g, trivial⟩⟩, trivial⟩) (cuts := c_k165sr) (f := 3000) (by decide +kernel)
def t_k201 : KT := ((201, 3, 0, 0), [(2, 0, 40, 0), (1, 1, 0, 0), (1, 2, 0, 0)], [(0, 0), (-2147483648, 2147483647), (-2147483648, 2147483647)], [(100, [(2, 0, 40, 0)]), (101, [(2, 0, 40, 0)]), (107, [(2, 0, 40, 0)])], (2, 0, 1), [(40, 0, 1), (40, 7, 8), (41, 2, 5), (41, 10, 154), (41, 442, 1018), (41, 2026, 2314), (43, 0, 27768)], [], ([(1, -999, 999), (2, -999, 999)], [(100, [(2, 0, 40, 0)]), (101, [(2, 0, 40, 0)]), (107, [(2, 0, 40, 0)])]), ([], [(441, [(1, 1, 0, 0), (1, 2, 0, 0), (0, 0, 0, -999), (0, 0, 0, 999)]), (100, [(2, 0, 40, 0)]), (101, [(2, 0, 40, 0)]), (107, [(2, 0, 40, 0)])]))
def c_k201 : List CUT := [(21, [0, 1, 2, 3, 1000], [(2, 0, 40, 0), (1, 1, 0, 0), (1, 2, 0, 0), (1, 3, 0, 0), (1, 4, 0, 0)], [(0, 0), (-999, 999), (-999, 999), (0, 144), (0, 0)], [(2, 0, 40, 0), (1, 1, 0, 0), (1, 2, 0, 0), (1, 3, 0, 0)], [(0, [(2, 0, 40, 0), (1, 1, 0, 0), (1, 2, 0, 0)]), (100, [(2, 0, 40, 0)]), (101, [(2, 0, 40, 0)]), (107, [(2, 0, 40, 0)])], (0, 0), [(0, 0, 1), (1, 3, 144)])]
def a_k201 : List (Nat × KT) := [(7, t_k165sr), (13, t_k165sr), (18, t_k188), (23, t_k168), (33, t_k170p), (37, t_k174), (43, t_k175), (47, t_k177)]
def l_k201 : LNL := [(15, [(t_sra, [[1], [2]]), (t_srb, [[1], [2]])])]
theorem k_k201 (g : GG) : KOK Yt (PSt g) t_k201 := verK_ok (PSt_ok g) (PSt_ax g) (dk := 2) (AN := anOf a_k201) (anOf_ok ⟨k_k165sr g, ⟨k_k165sr g, ⟨k_k188 g, ⟨k_k168 g, ⟨k_k170p g, ⟨k_k174 g, ⟨k_k175 g, ⟨k_k177 g, trivial⟩⟩⟩⟩⟩⟩⟩⟩) (LN := lnOf l_k201) (lnOf_ok ⟨⟨l_sra g, ⟨l_srb g, trivial⟩⟩, trivial⟩) (cuts := c_k201) (f := 3000) (by decide +kernel)
def t_k202 : KT := ((202, 1, 0, 0), [(2, 0, 40, 0), (1, 1, 0, 0)], [(0, 0), (1, 144)], [], (1, 0, 143), [(40, 3, 4)], [], ([], []), ([], []))
def c_k202 : List CUT := []
def a_k202 : List (Nat × KT) := []
def l_k202 : LNL := []
theorem k_k202 (g : GG) : KOK Yt (PSt g) t_k202 := verK_ok (PSt_ok g) (PSt_ax g) (dk := 0) (AN := anOf a_k202) (anOf_ok trivial) (LN := lnOf l_k202) (lnOf_ok trivial) (cuts := c_k202) (f := 3000) (by decide +kernel)
def t_k165sn : KT := ((165, 1, 0, 0), [(2, 0, 40, 0), (1, 1, 0, 0), (1, 2, 0, 0), (1, 3, 0, 0)], [(0, 0), (-2147483648, 2147483647), (1, 1), (60, 60)], [], (2, 0, 1), [], [], ([(1, 1, 60)], []), ([], [(440, [(1, 1, 0, 0), (0, 0, 0, 1), (0, 0, 0, 60)])]))
def c_k165sn : List CUT := []
def a_k165sn : List (Nat × KT) := []
def l_k165sn : LNL := [(8, [(t_snl, [[1]]), (t_snh, [[1]])])]
theorem k_k165sn (g : GG) : KOK Yt (PSt g) t_k165sn := verK_ok (PSt_ok g) (PSt_ax g) (dk := 0) (AN := anOf a_k165sn) (anOf_ok trivial) (LN := lnOf l_k165sn) (lnOf_ok ⟨⟨l_snl g, ⟨l_snh g, trivial⟩⟩, trivial⟩) (cuts := c_k165sn) (f := 3000) (by decide +kernel)
def t_k203 : KT := ((203, 3, 0, 0), [(2, 0, 40, 0), (1, 1, 0, 0)], [(0, 0), (-2147483648, 2147483647)], [(100, [(2, 0, 40, 0)]), (101, [(2, 0, 40, 0)]), (107, [(2, 0, 40, 0)])], (2, 0, 1), [(40, 0, 1), (40, 3, 4), (40, 7, 8), (41, 2, 5), (41, 10, 154), (41, 442, 1018), (41, 2026, 2314), (43, 0, 27768)], [], ([(1, 1, 60)], [(100, [(2, 0, 40, 0)]), (101, [(2, 0, 40, 0)]), (107, [(2, 0, 40, 0)])]), ([], [(440, [(1, 1, 0, 0), (0, 0, 0, 1), (0, 0, 0, 60)]), (100, [(2, 0, 40, 0)]), (101, [(2, 0, 40, 0)]), (107, [(2, 0, 40, 0)])]))
def c_k203 : List CUT := [(15, [0, 1, 2, 1000], [(2, 0, 40, 0), (1, 1, 0, 0), (1, 2, 0, 0), (1, 3, 0, 0)], [(0, 0), (1, 60), (0, 60), (0, 0)], [(2, 0, 40, 0), (1, 1, 0, 0), (1, 2, 0, 0), (7, 0, 0, 0)], [(0, [(2, 0, 40, 0), (1, 1, 0, 0)]), (100, [(2, 0, 40, 0)]), (101, [(2, 0, 40, 0)]), (107, [(2, 0, 40, 0)])], (0, 0), [(0, 0, 1), (1, 2, 60)])]
def a_k203 : List (Nat × KT) := [(7, t_k165sn), (12, t_k188), (20, t_k168), (21, t_k202), (31, t_k170p), (34, t_k202), (39, t_k177)]
def l_k203 : LNL := []
theorem k_k203 (g : GG) : KOK Yt (PSt g) t_k203 := verK_ok (PSt_ok g) (PSt_ax g) (dk := 2) (AN := anOf a_k203) (anOf_ok ⟨k_k165sn g, ⟨k_k188 g, ⟨k_k168 g, ⟨k_k202 g, ⟨k_k170p g, ⟨k_k202 g, ⟨k_k177 g, trivial⟩⟩⟩⟩⟩⟩⟩) (LN := lnOf l_k203) (lnOf_ok trivial) (cuts := c_k203) (f := 3000) (by decide +kernel)
def t_k204 : KT := ((204, 1, 0, 0), [(2, 0, 40, 0), (1, 1, 0, 0)], [(0, 0), (-2147483648, 2147483647)], [], (1, -2147483648, 2147483647), [(40, 0, 1), (40, 3, 4)], [], ([], []), ([], []))
def c_k204 : List CUT := []
def a_k204 : List (Nat × KT) := []
def l_k204 : LNL := []
theorem k_k204 (g : GG) : KOK Yt (PSt g) t_k204 := verK_ok (PSt_ok g) (PSt_ax g) (dk := 0) (AN := anOf a_k204) (anOf_ok trivial) (LN := lnOf l_k204) (lnOf_ok trivial) (cuts := c_k204) (f := 3000) (by decide +kernel)
def t_k207 : KT := ((207, 3, 0, 0), [(2, 0, 40, 0), (1, 1, 0, 0), (1, 2, 0, 0)], [(0, 0), (0, 143), (0, 3)], [], (1, -76, 78), [], [(164, [(2, 0, 40, 0), (1, 1, 0, 0), (1, 2, 0, 0), (1, 3, 0, 0)])], ([], []), ([], []))
def c_k207 : List CUT := []
def a_k207 : List (Nat × KT) := [(4, t_k174), (12, t_k166), (17, t_k174), (25, t_k175), (30, t_k167), (35, t_k175)]
def l_k207 : LNL := [(7, [(t_ts0, [[0], [1], [2], [100092]])]), (19, [(t_ts1, [[0], [1], [2], [100241], [100931], [500]])]), (37, [(t_ts2, [[0], [1], [2], [100962]]), (t_ts3, [[0], [1], [2], [100241], [100081], [500]])])]
theorem k_k207 (g : GG) : KOK Yt (PSt g) t_k207 := verK_ok (PSt_ok g) (PSt_ax g) (dk := 2) (AN := anOf a_k207) (anOf_ok ⟨k_k174 g, ⟨k_k166 g, ⟨k_k174 g, ⟨k_k175 g, ⟨k_k167 g, ⟨k_k175 g, trivial⟩⟩⟩⟩⟩⟩) (LN := lnOf l_k207) (lnOf_ok ⟨⟨l_ts0 g, trivial⟩, ⟨⟨l_ts1 g, trivial⟩, ⟨⟨l_ts2 g, ⟨l_ts3 g, trivial⟩⟩, trivial⟩⟩⟩) (cuts := c_k207) (f := 3000) (by decide +kernel)
def t_k208 : KT := ((208, 4, 0, 0), [(2, 0, 40, 0), (1, 1, 0, 0)], [(0, 0), (0, 143)], [], (1, 0, 3), [], [(165, [(2, 0, 40, 0), (1, 1, 0, 0), (1, 2, 0, 0), (0, 0, 0, 4)])], ([], []), ([], []))
def c_k208 : List CUT := [(4, [0, 1, 2, 3], [(2, 0, 40, 0), (1, 1, 0, 0), (1, 2, 0, 0), (1, 3, 0, 0)], [(0, 0), (0, 143), (0, 3), (1, 4)], [(2, 0, 40, 0), (1, 1, 0, 0), (1, 2, 0, 0), (1, 3, 0, 0)], [(0, [(2, 0, 40, 0), (1, 1, 0, 0)]), (165, [(2, 0, 40, 0), (1, 1, 0, 0), (1, 2, 0, 0), (1, 3, 0, 0)])], (0, 0), [(0, 0, 1), (1, 3, 4)])]
def a_k208 : List (Nat × KT) := [(10, t_k207), (14, t_k207)]
def l_k208 : LNL := [(3, [(t_ns0, [[0], [1], [2], [500]])]), (16, [(t_ns1, [[0], [1], [2], [3], [100210], [100211]])]), (18, [(t_ns2, [[0], [1], [2], [3], [100061], [100060]])]), (21, [(t_ns3, [[0], [1], [2], [3]])])]
theorem k_k208 (g : GG) : KOK Yt (PSt g) t_k208 := verK_ok (PSt_ok g) (PSt_ax g) (dk := 3) (AN := anOf a_k208) (anOf_ok ⟨k_k207 g, ⟨k_k207 g, trivial⟩⟩) (LN := lnOf l_k208) (lnOf_ok ⟨⟨l_ns0 g, trivial⟩, ⟨⟨l_ns1 g, trivial⟩, ⟨⟨l_ns2 g, trivial⟩, ⟨⟨l_ns3 g, trivial⟩, trivial⟩⟩⟩⟩) (cuts := c_k208) (f := 3000) (by decide +kernel)
def t_k209 : KT := ((209, 5, 0, 0), [(2, 0, 40, 0), (1, 1, 0, 0)], [(0, 0), (0, 143)], [], (1, -76, 78), [], [(150, [(2, 0, 40, 0), (1, 1, 0, 0), (1, 2, 0, 0)])], ([], []), ([], []))
def c_k209 : List CUT := []
def a_k209 : List (Nat × KT) := [(4, t_k208), (5, t_k207)]
def l_k209 : LNL := [(6, [(t_fb0, [[0], [1], [101642], [500]])])]
theorem k_k209 (g : GG) : KOK Yt (PSt g) t_k209 := verK_ok (PSt_ok g) (PSt_ax g) (dk := 4) (AN := anOf a_k209) (anOf_ok ⟨k_k208 g, ⟨k_k207 g, trivial⟩⟩) (LN := lnOf l_k209) (lnOf_ok ⟨⟨l_fb0 g, trivial⟩, trivial⟩) (cuts := c_k209) (f := 3000) (by decide +kernel)
def t_k210 : KT := ((210, 6, 0, 0), [(2, 0, 40, 0)], [(0, 0)], [], (0, 0, 0), [(40, 9, 10), (44, 0, 144)], [(91, [(2, 0, 40, 0)]), (129, [(2, 0, 40, 0)])], ([], []), ([], []))
def c_k210 : List CUT := [(5, [0, 1, 1009], [(2, 0, 40, 0), (1, 1, 0, 0), (1, 2, 0, 0)], [(0, 0), (0, 144), (0, 144)], [(2, 0, 40, 0), (1, 1, 0, 0)], [(0, [(2, 0, 40, 0)]), (6, [(1, 2, 0, 0), (1, 1, 0, 0)]), (91, [(2, 0, 40, 0)]), (126, [(2, 0, 40, 0), (1, 1, 0, 0), (1, 2, 0, 0)])], (0, 0), [(0, 0, 1), (1, 1, 144)])]
def a_k210 : List (Nat × KT) := [(7, t_k168), (11, t_k206)]
def l_k210 : LNL := [(4, [(t_le0, [[0, 9], [500]]), (t_tn0, [[0], [0, 9]]), (t_lt1, [[0], [500], [0, 9]])]), (9, [(t_mpx, [[0], [1], [100941]])]), (14, [(t_lebr, [[0, 9], [1]])]), (19, [(t_tn1, [[0], [0, 8], [0, 9]])]), (20, [(t_tn2, [[0], [0, 8], [0, 9], [1]])]), (26, [(t_tn3, [[0], [0, 8], [0, 9]]), (t_lt2, [[0], [1], [0, 9], [101202]]), (t_lt3, [[0], [1], [0, 9], [101202]])]), (27, [(t_le1, [[0, 9], [1]]), (t_le2, [[0, 9], [1]])]), (28, [(t_lt4, [[0], [1], [0, 9], [100941]])])]
theorem k_k210 (g : GG) : KOK Yt (PSt g) t_k210 := verK_ok (PSt_ok g) (PSt_ax g) (dk := 5) (AN := anOf a_k210) (anOf_ok ⟨k_k168 g, ⟨k_k206 g, trivial⟩⟩) (LN := lnOf l_k210) (lnOf_ok ⟨⟨l_le0 g, ⟨l_tn0 g, ⟨l_lt1 g, trivial⟩⟩⟩, ⟨⟨l_mpx g, trivial⟩, ⟨⟨l_lebr g, trivial⟩, ⟨⟨l_tn1 g, trivial⟩, ⟨⟨l_tn2 g, trivial⟩, ⟨⟨l_tn3 g, ⟨l_lt2 g, ⟨l_lt3 g, trivial⟩⟩⟩, ⟨⟨l_le1 g, ⟨l_le2 g, trivial⟩⟩, ⟨⟨l_lt4 g, trivial⟩, trivial⟩⟩⟩⟩⟩⟩⟩⟩) (cuts := c_k210) (f := 3000) (by decide +kernel)
def t_k211 : KT := ((211, 6, 0, 0), [(2, 0, 40, 0), (1, 1, 0, 0), (1, 2, 0, 0)], [(0, 0), (0, 143), (0, 143)], [], (2, 0, 1), [], [], ([], [(152, [(2, 0, 40, 0), (1, 1, 0, 0), (1, 2, 0, 0)])]), ([], [(153, [(2, 0, 40, 0), (1, 1, 0, 0), (1, 2, 0, 0)])]))
def c_k211 : List CUT := []
def a_k211 : List (Nat × KT) := [(5, t_k206), (11, t_k206)]
def l_k211 : LNL := [(6, [(t_au1, [[0], [0, 8], [1], [101201], [500]])]), (12, [(t_au1, [[0], [0, 8], [2], [101201], [500]])]), (17, [(t_auT, [[0], [1], [2], [100230], [100231], [100232]]), (t_auF, [[0], [1], [2], [100230], [100231], [100232]])])]
theorem k_k211 (g : GG) : KOK Yt (PSt g) t_k211 := verK_ok (PSt_ok g) (PSt_ax g) (dk := 5) (AN := anOf a_k211) (anOf_ok ⟨k_k206 g, ⟨k_k206 g, trivial⟩⟩) (LN := lnOf l_k211) (lnOf_ok ⟨⟨l_au1 g, trivial⟩, ⟨⟨l_au1 g, trivial⟩, ⟨⟨l_auT g, ⟨l_auF g, trivial⟩⟩, trivial⟩⟩⟩) (cuts := c_k211) (f := 3000) (by decide +kernel)
def t_k212 : KT := ((212, 7, 0, 0), [(2, 0, 40, 0)], [(0, 0)], [(3569, [(2, 0, 40, 0), (0, 0, 0, 0), (0, 0, 0, 12)])], (0, 0, 0), [(46, 0, 4096)], [(171, [(2, 0, 40, 0)])], ([], []), ([], []))
def c_k212 : List CUT := [(7, [0, 1], [(2, 0, 40, 0), (1, 1, 0, 0)], [(0, 0), (1, 4096)], [(2, 0, 40, 0), (1, 1, 0, 0), (7, 0, 0, 0), (7, 0, 0, 0), (7, 0, 0, 0), (7, 0, 0, 0)], [(0, [(2, 0, 40, 0)]), (154, [(2, 0, 40, 0), (1, 1, 0, 0)]), (3569, [(2, 0, 40, 0), (0, 0, 0, 0), (0, 0, 0, 12)])], (0, 0), [(0, 0, 1), (1, 1, 4096), (0, 0, 99), (0, 0, 0)]), (15, [0, 1, 2, 1009], [(2, 0, 40, 0), (1, 1, 0, 0), (1, 2, 0, 0), (1, 3, 0, 0)], [(0, 0), (1, 4095), (0, 11), (0, 12)], [(2, 0, 40, 0), (1, 1, 0, 0), (1, 2, 0, 0), (7, 0, 0, 0), (7, 0, 0, 0), (7, 0, 0, 0)], [(0, [(2, 0, 40, 0)]), (154, [(2, 0, 40, 0), (1, 1, 0, 0)]), (169, [(2, 0, 40, 0), (1, 1, 0, 0), (1, 2, 0, 0)]), (3569, [(2, 0, 40, 0), (0, 0, 0, 0), (0, 0, 0, 12)])], (0, 0), [(0, 0, 1), (1, 1, 4096), (0, 0, 2), (1, 2, 11)]), (53, [0, 1, 2, 3, 4, 1009], [(2, 0, 40, 0), (1, 1, 0, 0), (1, 2, 0, 0), (1, 3, 0, 0), (1, 4, 0, 0), (1, 5, 0, 0)], [(0, 0), (1, 4095), (0, 11), (0, 4095), (1, 12), (0, 12)], [(2, 0, 40, 0), (1, 1, 0, 0), (1, 2, 0, 0), (1, 3, 0, 0), (1, 4, 0, 0), (7, 0, 0, 0)], [(0, [(2, 0, 40, 0)]), (170, [(2, 0, 40, 0), (1, 1, 0, 0), (1, 2, 0, 0)]), (166, [(2, 0, 40, 0), (1, 1, 0, 0), (1, 2, 0, 0)]), (169, [(2, 0, 40, 0), (1, 1, 0, 0), (1, 2, 0, 0)]), (168, [(2, 0, 40, 0), (1, 1, 0, 0), (1, 2, 0, 0), (1, 3, 0, 0)]), (21, [(1, 2, 0, 0), (1, 4, 0, 0)]), (3569, [(2, 0, 40, 0), (0, 0, 0, 0), (0, 0, 0, 12)])], (0, 0), [(0, 0, 1), (1, 1, 4096), (0, 0, 1), (1, 4, 12)])]
def a_k212 : List (Nat × KT) := [(42, t_k209), (66, t_k211), (78, t_k198)]
def l_k212 : LNL := [(6, [(t_ll0, [[0], [500]])]), (14, [(t_lb0, [[0], [1], [500]])]), (21, [(t_bs0, [[0], [1], [2], [100812], [100822]])]), (24, [(t_lb1, [[0], [1], [2]])]), (26, [(t_bs1, [[0], [1], [2], [100812], [100822]])]), (33, [(t_ws0, [[0], [1], [2], [100802], [100832], [500]])]), (48, [(t_ll1, [[0], [0, 8], [0, 11], [1], [2], [3], [101501], [101502], [100231], [500]])]), (49, [(t_ll2, [[0], [0, 11], [1], [2], [102144]])]), (52, [(t_lt0, [[2]])]), (57, [(t_ll5, [[0], [4], [0, 9]])]), (63, [(t_bs1, [[0], [3], [4], [100812], [100822]])]), (79, [(t_ll3, [[0], [0, 8], [1], [2], [3], [4], [101511], [101512], [500]])]), (88, [(t_ws0, [[0], [3], [4], [100802], [100832], [500]])]), (101, [(t_ll4, [[0], [0, 11], [1], [2], [3], [4], [104134], [101683], [100231], [500]])]), (102, [(t_ll2, [[0], [0, 11], [1], [2], [102144]]), (t_lti, [[2], [4]])]), (104, [(t_ll6, [[0], [1], [2]])]), (106, [(t_ll7, [[0], [1], [100802], [0, 9]])])]
theorem k_k212 (g : GG) : KOK Yt (PSt g) t_k212 := verK_ok (PSt_ok g) (PSt_ax g) (dk := 6) (AN := anOf a_k212) (anOf_ok ⟨k_k209 g, ⟨k_k211 g, ⟨k_k198 g, trivial⟩⟩⟩) (LN := lnOf l_k212) (lnOf_ok ⟨⟨l_ll0 g, trivial⟩, ⟨⟨l_lb0 g, trivial⟩, ⟨⟨l_bs0 g, trivial⟩, ⟨⟨l_lb1 g, trivial⟩, ⟨⟨l_bs1 g, trivial⟩, ⟨⟨l_ws0 g, trivial⟩, ⟨⟨l_ll1 g, trivial⟩, ⟨⟨l_ll2 g, trivial⟩, ⟨⟨l_lt0 g, trivial⟩, ⟨⟨l_ll5 g, trivial⟩, ⟨⟨l_bs1 g, trivial⟩, ⟨⟨l_ll3 g, trivial⟩, ⟨⟨l_ws0 g, trivial⟩, ⟨⟨l_ll4 g, trivial⟩, ⟨⟨l_ll2 g, ⟨l_lti g, trivial⟩⟩, ⟨⟨l_ll6 g, trivial⟩, ⟨⟨l_ll7 g, trivial⟩, trivial⟩⟩⟩⟩⟩⟩⟩⟩⟩⟩⟩⟩⟩⟩⟩⟩⟩) (cuts := c_k212) (f := 3000) (by decide +kernel)
def t_k213 : KT := ((213, 8, 0, 0), [(2, 0, 40, 0)], [(0, 0)], [(3569, [(2, 0, 40, 0), (0, 0, 0, 0), (0, 0, 0, 12)])], (0, 0, 0), [(45, 0, 144), (46, 0, 4096)], [(176, [(2, 0, 40, 0)])], ([], []), ([], []))
def c_k213 : List CUT := [(11, [0, 1, 2, 1009], [(2, 0, 40, 0), (1, 1, 0, 0), (1, 2, 0, 0), (1, 3, 0, 0)], [(0, 0), (0, 4095), (0, 12), (0, 12)], [(2, 0, 40, 0), (1, 1, 0, 0), (1, 2, 0, 0), (7, 0, 0, 0), (7, 0, 0, 0)], [(0, [(2, 0, 40, 0)]), (171, [(2, 0, 40, 0)]), (172, [(2, 0, 40, 0), (1, 1, 0, 0)]), (169, [(2, 0, 40, 0), (1, 1, 0, 0), (1, 2, 0, 0)]), (418, [(2, 0, 40, 0), (1, 1, 0, 0)]), (3569, [(2, 0, 40, 0), (0, 0, 0, 0), (0, 0, 0, 12)])], (0, 0), [(0, 0, 1), (1, 2, 12), (0, 0, 99), (0, 0, 0)]), (52, [0, 1, 2, 3, 4, 1009], [(2, 0, 40, 0), (1, 1, 0, 0), (1, 2, 0, 0), (1, 3, 0, 0), (1, 4, 0, 0), (1, 5, 0, 0)], [(0, 0), (0, 4095), (0, 11), (0, 4095), (1, 12), (1, 12)], [(2, 0, 40, 0), (1, 1, 0, 0), (1, 2, 0, 0), (1, 3, 0, 0), (1, 4, 0, 0)], [(0, [(2, 0, 40, 0)]), (171, [(2, 0, 40, 0)]), (172, [(2, 0, 40, 0), (1, 1, 0, 0)]), (169, [(2, 0, 40, 0), (1, 1, 0, 0), (1, 2, 0, 0)]), (418, [(2, 0, 40, 0), (1, 1, 0, 0)]), (166, [(2, 0, 40, 0), (1, 1, 0, 0), (1, 2, 0, 0)]), (168, [(2, 0, 40, 0), (1, 1, 0, 0), (1, 2, 0, 0), (1, 3, 0, 0)]), (173, [(2, 0, 40, 0), (1, 1, 0, 0), (1, 2, 0, 0), (1, 4, 0, 0)]), (414, [(2, 0, 40, 0), (1, 2, 0, 0)]), (3569, [(2, 0, 40, 0), (0, 0, 0, 0), (0, 0, 0, 12)])], (0, 0), [(0, 0, 1), (1, 2, 12), (0, 0, 1), (1, 4, 12)])]
def a_k213 : List (Nat × KT) := [(1, t_k212), (37, t_k209), (61, t_k211), (72, t_k198)]
def l_k213 : LNL := [(10, [(t_jl0, [[0], [0, 9], [100802], [500]])]), (15, [(t_ll5, [[0], [2], [0, 9]])]), (21, [(t_bs0, [[0], [1], [2], [100812], [100822]])]), (22, [(t_bs1, [[0], [1], [2], [100812], [100822]])]), (29, [(t_ws0, [[0], [1], [2], [100802], [100832], [500]])]), (43, [(t_jl1, [[0], [0, 8], [0, 11], [1], [2], [3], [101501], [101502], [100231], [500]])]), (51, [(t_jl2, [[0], [0, 11], [1], [2], [104153], [100991]])]), (52, [(t_jl3, [[0], [1], [2], [4], [0, 9]]), (t_jl9, [[0], [1], [2], [4]])]), (73, [(t_jl6, [[0], [0, 8], [2], [4], [101511], [101512], [500]])]), (82, [(t_ws0, [[0], [3], [4], [100802], [100832], [500]])]), (84, [(t_jl7, [[0], [0, 11], [1], [2], [4], [3], [104163], [101683], [100231], [500]])]), (89, [(t_bs0, [[0], [3], [4], [100812], [100822]]), (t_jl4, [[0], [1], [2], [4], [3]]), (t_jl5, [[0], [1], [2], [4]]), (t_jl8, [[0], [0, 11], [1], [2], [4], [100990], [100991]])]), (98, [(t_jp1, [[0], [0, 10], [1], [2], [4]])]), (99, [(t_jp2, [[0], [0, 10], [1], [2], [4]])]), (103, [(t_jp3, [[0], [0, 10], [1], [2], [4]])]), (104, [(t_jp4, [[0], [0, 10], [1], [2], [4]])]), (111, [(t_ws0, [[0], [3], [4], [100802], [100832], [500]]), (t_jp5, [[0], [1], [2], [4], [3], [500]])]), (112, [(t_jp6, [[0], [1], [2]])]), (114, [(t_jp7, [[0], [1], [2], [0, 9]])])]
theorem k_k213 (g : GG) : KOK Yt (PSt g) t_k213 := verK_ok (PSt_ok g) (PSt_ax g) (dk := 7) (AN := anOf a_k213) (anOf_ok ⟨k_k212 g, ⟨k_k209 g, ⟨k_k211 g, ⟨k_k198 g, trivial⟩⟩⟩⟩) (LN := lnOf l_k213) (lnOf_ok ⟨⟨l_jl0 g, trivial⟩, ⟨⟨l_ll5 g, trivial⟩, ⟨⟨l_bs0 g, trivial⟩, ⟨⟨l_bs1 g, trivial⟩, ⟨⟨l_ws0 g, trivial⟩, ⟨⟨l_jl1 g, trivial⟩, ⟨⟨l_jl2 g, trivial⟩, ⟨⟨l_jl3 g, ⟨l_jl9 g, trivial⟩⟩, ⟨⟨l_jl6 g, trivial⟩, ⟨⟨l_ws0 g, trivial⟩, ⟨⟨l_jl7 g, trivial⟩, ⟨⟨l_bs0 g, ⟨l_jl4 g, ⟨l_jl5 g, ⟨l_jl8 g, trivial⟩⟩⟩⟩, ⟨⟨l_jp1 g, trivial⟩, ⟨⟨l_jp2 g, trivial⟩, ⟨⟨l_jp3 g, trivial⟩, ⟨⟨l_jp4 g, trivial⟩, ⟨⟨l_ws0 g, ⟨l_jp5 g, trivial⟩⟩, ⟨⟨l_jp6 g, trivial⟩, ⟨⟨l_jp7 g, trivial⟩, trivial⟩⟩⟩⟩⟩⟩⟩⟩⟩⟩⟩⟩⟩⟩⟩⟩⟩⟩⟩) (cuts := c_k213) (f := 3000) (by decide +kernel)
def t_k214 : KT := ((214, 7, 0, 0), [(2, 0, 40, 0)], [(0, 0)], [], (0, 0, 0), [(45, 0, 144)], [(176, [(2, 0, 40, 0)])], ([], []), ([], []))
def c_k214 : List CUT := [(2, [0, 1], [(2, 0, 40, 0), (1, 1, 0, 0)], [(0, 0), (0, 144)], [(2, 0, 40, 0), (1, 1, 0, 0), (7, 0, 0, 0), (7, 0, 0, 0), (7, 0, 0, 0), (7, 0, 0, 0), (7, 0, 0, 0)], [(0, [(2, 0, 40, 0)]), (177, [(2, 0, 40, 0), (1, 1, 0, 0)])], (0, 0), [(0, 0, 2), (1, 1, 144), (0, 0, 99), (0, 0, 0), (0, 0, 0), (0, 0, 0)]), (16, [0, 1, 1009], [(2, 0, 40, 0), (1, 1, 0, 0), (1, 2, 0, 0)], [(0, 0), (0, 144), (0, 144)], [(2, 0, 40, 0), (1, 1, 0, 0), (7, 0, 0, 0), (7, 0, 0, 0), (7, 0, 0, 0), (7, 0, 0, 0), (7, 0, 0, 0)], [(0, [(2, 0, 40, 0)]), (178, [(2, 0, 40, 0), (1, 1, 0, 0)])], (0, 0), [(0, 0, 1), (2, 1, 0), (0, 0, 99), (0, 0, 0), (0, 0, 0), (0, 0, 0)]), (26, [0, 1, 2, 3, 4, 5, 1009], [(2, 0, 40, 0), (1, 1, 0, 0), (1, 2, 0, 0), (1, 3, 0, 0), (1, 4, 0, 0), (1, 5, 0, 0), (1, 6, 0, 0)], [(0, 0), (1, 144), (-1, 143), (-1, 143), (-127, 1000000), (0, 144), (0, 144)], [(2, 0, 40, 0), (1, 1, 0, 0), (1, 2, 0, 0), (1, 3, 0, 0), (1, 4, 0, 0), (1, 5, 0, 0), (7, 0, 0, 0)], [(0, [(2, 0, 40, 0)]), (178, [(2, 0, 40, 0), (1, 1, 0, 0)]), (179, [(2, 0, 40, 0), (1, 5, 0, 0), (1, 2, 0, 0), (1, 3, 0, 0), (1, 4, 0, 0)])], (0, 0), [(0, 0, 1), (2, 1, 0), (0, 0, 1), (1, 5, 144), (0, 0, 99), (0, 0, 0)]), (60, [0, 1, 2, 3, 4, 5, 6, 1009], [(2, 0, 40, 0), (1, 1, 0, 0), (1, 2, 0, 0), (1, 3, 0, 0), (1, 4, 0, 0), (1, 5, 0, 0), (1, 6, 0, 0), (1, 7, 0, 0)], [(0, 0), (1, 144), (-1, 143), (-1, 143), (-127, 286), (0, 143), (1, 144), (1, 144)], [(2, 0, 40, 0), (1, 1, 0, 0), (1, 2, 0, 0), (1, 3, 0, 0), (1, 4, 0, 0), (1, 5, 0, 0), (1, 6, 0, 0)], [(0, [(2, 0, 40, 0)]), (178, [(2, 0, 40, 0), (1, 1, 0, 0)]), (179, [(2, 0, 40, 0), (1, 5, 0, 1), (1, 2, 0, 0), (1, 3, 0, 0), (1, 4, 0, 0)]), (180, [(2, 0, 40, 0), (1, 5, 0, 0)])], (0, 0), [(0, 0, 1), (2, 1, 0), (0, 0, 1), (1, 5, 144), (0, 0, 1), (1, 6, 144)])]
def a_k214 : List (Nat × KT) := [(42, t_k209), (50, t_k209), (73, t_k211), (84, t_k198), (97, t_k198)]
def l_k214 : LNL := [(1, [(t_jn0, [[0], [500]])]), (10, [(t_jn1, [[0], [0, 10], [1]])]), (11, [(t_jn2, [[0], [0, 10], [1]])]), (15, [(t_jn3, [[0], [1], [0, 9]])]), (25, [(t_jn4, [[0], [2], [3], [4], [500]])]), (34, [(t_jn5, [[0], [0, 10], [5], [500]])]), (37, [(t_jn6, [[0], [5], [101812], [0, 9]])]), (55, [(t_jn8, [[0], [5], [4]])]), (59, [(t_jn9, [[0], [5], [2], [3], [4]])]), (68, [(t_jn5, [[0], [0, 10], [6], [500]])]), (102, [(t_jnA, [[0], [5], [6], [4], [101812], [0, 9]])]), (105, [(t_jn7, [[0], [5], [2], [3], [4], [101812]])]), (107, [(t_jnB, [[0], [5], [2], [3], [4], [1], [0, 9]])]), (111, [(t_jnC, [[0], [0, 10], [5], [2], [3], [4], [1]])]), (112, [(t_jnD, [[0], [0, 10], [2], [3], [1]])]), (115, [(t_jnP, [[0], [0, 10], [2], [3]])]), (116, [(t_jnE, [[0], [0, 10], [2], [3], [1]])]), (117, [(t_jnF, [[0], [0, 10], [2], [3], [1]])]), (125, [(t_jnG, [[0], [2], [3], [1]]), (t_jnH, [[0], [2], [3], [1]])]), (127, [(t_jnI, [[0], [1]])])]
theorem k_k214 (g : GG) : KOK Yt (PSt g) t_k214 := verK_ok (PSt_ok g) (PSt_ax g) (dk := 6) (AN := anOf a_k214) (anOf_ok ⟨k_k209 g, ⟨k_k209 g, ⟨k_k211 g, ⟨k_k198 g, ⟨k_k198 g, trivial⟩⟩⟩⟩⟩) (LN := lnOf l_k214) (lnOf_ok ⟨⟨l_jn0 g, trivial⟩, ⟨⟨l_jn1 g, trivial⟩, ⟨⟨l_jn2 g, trivial⟩, ⟨⟨l_jn3 g, trivial⟩, ⟨⟨l_jn4 g, trivial⟩, ⟨⟨l_jn5 g, trivial⟩, ⟨⟨l_jn6 g, trivial⟩, ⟨⟨l_jn8 g, trivial⟩, ⟨⟨l_jn9 g, trivial⟩, ⟨⟨l_jn5 g, trivial⟩, ⟨⟨l_jnA g, trivial⟩, ⟨⟨l_jn7 g, trivial⟩, ⟨⟨l_jnB g, trivial⟩, ⟨⟨l_jnC g, trivial⟩, ⟨⟨l_jnD g, trivial⟩, ⟨⟨l_jnP g, trivial⟩, ⟨⟨l_jnE g, trivial⟩, ⟨⟨l_jnF g, trivial⟩, ⟨⟨l_jnG g, ⟨l_jnH g, trivial⟩⟩, ⟨⟨l_jnI g, trivial⟩, trivial⟩⟩⟩⟩⟩⟩⟩⟩⟩⟩⟩⟩⟩⟩⟩⟩⟩⟩⟩⟩) (cuts := c_k214) (f := 3000) (by decide +kernel)
def t_k215 : KT := ((215, 1, 0, 0), [(2, 0, 40, 0), (1, 1, 0, 0)], [(0, 0), (0, 287)], [], (0, 0, 0), [(41, 1018, 1306)], [], ([], []), ([], []))
def c_k215 : List CUT := []
def a_k215 : List (Nat × KT) := []
def l_k215 : LNL := []
theorem k_k215 (g : GG) : KOK Yt (PSt g) t_k215 := verK_ok (PSt_ok g) (PSt_ax g) (dk := 0) (AN := anOf a_k215) (anOf_ok trivial) (LN := lnOf l_k215) (lnOf_ok trivial) (cuts := c_k215) (f := 3000) (by decide +kernel)
def t_k216 : KT := ((216, 3, 0, 0), [(2, 0, 40, 0), (1, 1, 0, 0), (1, 2, 0, 0)], [(0, 0), (0, 143), (0, 3)], [(95, [(2, 0, 40, 0), (1, 1, 0, 0)])], (0, 0, 0), [(41, 1018, 1306)], [], ([], []), ([], []))
def c_k216 : List CUT := [(15, [0, 1, 2, 3, 4, 5, 6], [(2, 0, 40, 0), (1, 1, 0, 0), (1, 2, 0, 0), (1, 3, 0, 0), (1, 4, 0, 0), (1, 5, 0, 0), (1, 6, 0, 0)], [(0, 0), (0, 143), (0, 0), (0, 77), (0, 11), (2, 12), (-1, 77)], [(2, 0, 40, 0), (1, 1, 0, 0), (1, 2, 0, 0), (1, 3, 0, 0), (1, 4, 0, 0), (1, 5, 0, 0), (1, 6, 0, 0)], [(0, [(2, 0, 40, 0), (1, 1, 0, 0), (1, 2, 0, 0)]), (8, [(2, 0, 40, 0), (1, 5, 0, 0)]), (21, [(1, 4, 0, 0), (1, 5, 0, 0)]), (76, [(2, 0, 40, 0), (1, 3, 0, 0)]), (76, [(2, 0, 40, 0), (1, 6, 0, 0)])], (0, 0), [(0, 0, 4), (2, 6, -1)]), (35, [0, 1, 2, 3, 4, 5, 6], [(2, 0, 40, 0), (1, 1, 0, 0), (1, 2, 0, 0), (1, 3, 0, 0), (1, 4, 0, 0), (1, 5, 0, 0), (1, 6, 0, 0)], [(0, 0), (0, 143), (1, 1), (0, 77), (0, 11), (2, 12), (1, 78)], [(2, 0, 40, 0), (1, 1, 0, 0), (1, 2, 0, 0), (1, 3, 0, 0), (1, 4, 0, 0), (1, 5, 0, 0), (1, 6, 0, 0)], [(0, [(2, 0, 40, 0), (1, 1, 0, 0), (1, 2, 0, 0)]), (8, [(2, 0, 40, 0), (1, 5, 0, 0)]), (21, [(1, 4, 0, 0), (1, 5, 0, 0)]), (76, [(2, 0, 40, 0), (1, 3, 0, 0)])], (0, 0), [(0, 0, 3), (1, 6, 78)]), (55, [0, 1, 2, 3, 4, 5, 6], [(2, 0, 40, 0), (1, 1, 0, 0), (1, 2, 0, 0), (1, 3, 0, 0), (1, 4, 0, 0), (1, 5, 0, 0), (1, 6, 0, 0)], [(0, 0), (0, 143), (2, 2), (0, 77), (0, 11), (2, 12), (-1, 11)], [(2, 0, 40, 0), (1, 1, 0, 0), (1, 2, 0, 0), (1, 3, 0, 0), (1, 4, 0, 0), (1, 5, 0, 0), (1, 6, 0, 0)], [(0, [(2, 0, 40, 0), (1, 1, 0, 0), (1, 2, 0, 0)]), (8, [(2, 0, 40, 0), (1, 5, 0, 0)]), (21, [(1, 4, 0, 0), (1, 5, 0, 0)]), (76, [(2, 0, 40, 0), (1, 3, 0, 0)]), (21, [(1, 6, 0, 0), (1, 5, 0, 0)])], (0, 0), [(0, 0, 2), (2, 6, -1)]), (77, [0, 1, 2, 3, 4, 5, 6], [(2, 0, 40, 0), (1, 1, 0, 0), (1, 2, 0, 0), (1, 3, 0, 0), (1, 4, 0, 0), (1, 5, 0, 0), (1, 6, 0, 0)], [(0, 0), (0, 143), (3, 3), (0, 77), (0, 11), (2, 12), (1, 12)], [(2, 0, 40, 0), (1, 1, 0, 0), (1, 2, 0, 0), (1, 3, 0, 0), (1, 4, 0, 0), (1, 5, 0, 0), (1, 6, 0, 0)], [(0, [(2, 0, 40, 0), (1, 1, 0, 0), (1, 2, 0, 0)]), (8, [(2, 0, 40, 0), (1, 5, 0, 0)]), (21, [(1, 4, 0, 0), (1, 5, 0, 0)]), (76, [(2, 0, 40, 0), (1, 3, 0, 0)])], (0, 0), [(0, 0, 1), (1, 6, 12)])]
def a_k216 : List (Nat × KT) := [(2, t_k174), (6, t_k175), (9, t_k167), (25, t_k215), (37, t_k166), (47, t_k215), (67, t_k215), (90, t_k215)]
def l_k216 : LNL := [(11, [(t_r76, [[0], [1], [3]]), (t_c21, [[0], [1], [4], [5]])]), (24, [(t_rc, [[0], [5], [6], [4], [100252], [500]])]), (27, [(t_r76d, [[0], [6]])]), (39, [(t_r76k, [[0], [6], [100931]])]), (46, [(t_rc, [[0], [5], [6], [4], [100252], [500]])]), (64, [(t_rc, [[0], [5], [3], [6], [100252], [500]])]), (69, [(t_ltd, [[6], [5]])]), (87, [(t_rc, [[0], [5], [3], [6], [100252], [500]])])]
theorem k_k216 (g : GG) : KOK Yt (PSt g) t_k216 := verK_ok (PSt_ok g) (PSt_ax g) (dk := 2) (AN := anOf a_k216) (anOf_ok ⟨k_k174 g, ⟨k_k175 g, ⟨k_k167 g, ⟨k_k215 g, ⟨k_k166 g, ⟨k_k215 g, ⟨k_k215 g, ⟨k_k215 g, trivial⟩⟩⟩⟩⟩⟩⟩⟩) (LN := lnOf l_k216) (lnOf_ok ⟨⟨l_r76 g, ⟨l_c21 g, trivial⟩⟩, ⟨⟨l_rc g, trivial⟩, ⟨⟨l_r76d g, trivial⟩, ⟨⟨l_r76k g, trivial⟩, ⟨⟨l_rc g, trivial⟩, ⟨⟨l_rc g, trivial⟩, ⟨⟨l_ltd g, trivial⟩, ⟨⟨l_rc g, trivial⟩, trivial⟩⟩⟩⟩⟩⟩⟩⟩) (cuts := c_k216) (f := 3000) (by decide +kernel)
def t_k217 : KT := ((217, 3, 0, 0), [(2, 0, 40, 0), (1, 1, 0, 0), (1, 2, 0, 0)], [(0, 0), (0, 143), (0, 143)], [(95, [(2, 0, 40, 0), (1, 1, 0, 0)]), (95, [(2, 0, 40, 0), (1, 2, 0, 0)])], (0, 0, 0), [(41, 1018, 1306)], [], ([], []), ([], []))
def c_k217 : List CUT := [(11, [0, 1, 2, 3, 4, 5], [(2, 0, 40, 0), (1, 1, 0, 0), (1, 2, 0, 0), (1, 3, 0, 0), (1, 4, 0, 0), (1, 5, 0, 0)], [(0, 0), (0, 143), (0, 143), (0, 77), (2, 12), (0, 11)], [(2, 0, 40, 0), (1, 1, 0, 0), (1, 2, 0, 0), (1, 3, 0, 0), (1, 4, 0, 0), (1, 5, 0, 0)], [(0, [(2, 0, 40, 0), (1, 1, 0, 0), (1, 2, 0, 0)]), (95, [(2, 0, 40, 0), (1, 1, 0, 0)]), (95, [(2, 0, 40, 0), (1, 2, 0, 0)]), (8, [(2, 0, 40, 0), (1, 4, 0, 0)]), (76, [(2, 0, 40, 0), (1, 3, 0, 0)])], (0, 0), [(0, 0, 3), (1, 5, 11)]), (35, [0, 1, 2, 3, 4, 5], [(2, 0, 40, 0), (1, 1, 0, 0), (1, 2, 0, 0), (1, 3, 0, 0), (1, 4, 0, 0), (1, 5, 0, 0)], [(0, 0), (0, 143), (0, 143), (0, 77), (2, 12), (0, 11)], [(2, 0, 40, 0), (1, 1, 0, 0), (1, 2, 0, 0), (1, 3, 0, 0), (1, 4, 0, 0), (1, 5, 0, 0)], [(0, [(2, 0, 40, 0), (1, 1, 0, 0), (1, 2, 0, 0)]), (95, [(2, 0, 40, 0), (1, 1, 0, 0)]), (95, [(2, 0, 40, 0), (1, 2, 0, 0)]), (8, [(2, 0, 40, 0), (1, 4, 0, 0)]), (76, [(2, 0, 40, 0), (1, 3, 0, 0)]), (21, [(1, 5, 0, 0), (1, 4, 0, 0)])], (0, 0), [(0, 0, 2), (2, 5, 0)]), (55, [0, 1, 2, 3, 4, 5], [(2, 0, 40, 0), (1, 1, 0, 0), (1, 2, 0, 0), (1, 3, 0, 0), (1, 4, 0, 0), (1, 5, 0, 0)], [(0, 0), (0, 143), (0, 143), (0, 77), (2, 12), (0, 77)], [(2, 0, 40, 0), (1, 1, 0, 0), (1, 2, 0, 0), (1, 3, 0, 0), (1, 4, 0, 0), (1, 5, 0, 0)], [(0, [(2, 0, 40, 0), (1, 1, 0, 0), (1, 2, 0, 0)]), (95, [(2, 0, 40, 0), (1, 1, 0, 0)]), (95, [(2, 0, 40, 0), (1, 2, 0, 0)]), (8, [(2, 0, 40, 0), (1, 4, 0, 0)]), (76, [(2, 0, 40, 0), (1, 3, 0, 0)])], (0, 0), [(0, 0, 1), (1, 5, 77)])]
def a_k217 : List (Nat × KT) := [(2, t_k174), (5, t_k167), (9, t_k175), (14, t_k175), (28, t_k215), (33, t_k175), (38, t_k175), (50, t_k215), (58, t_k174), (69, t_k175), (72, t_k215)]
def l_k217 : LNL := [(10, [(t_r76, [[0], [1], [3]])]), (23, [(t_rc1, [[0], [4], [3], [5], [2], [100962], [100252], [500]])]), (34, [(t_c21, [[0], [1], [500], [4]])]), (47, [(t_rc, [[0], [4], [3], [5], [100252], [500]])]), (52, [(t_ltd, [[5], [4]])]), (60, [(t_r76b, [[0], [2], [100092], [5]])]), (71, [(t_c21, [[0], [2], [100962], [4]]), (t_rc, [[0], [4], [100250], [100962], [100252], [500]])])]
theorem k_k217 (g : GG) : KOK Yt (PSt g) t_k217 := verK_ok (PSt_ok g) (PSt_ax g) (dk := 2) (AN := anOf a_k217) (anOf_ok ⟨k_k174 g, ⟨k_k167 g, ⟨k_k175 g, ⟨k_k175 g, ⟨k_k215 g, ⟨k_k175 g, ⟨k_k175 g, ⟨k_k215 g, ⟨k_k174 g, ⟨k_k175 g, ⟨k_k215 g, trivial⟩⟩⟩⟩⟩⟩⟩⟩⟩⟩⟩) (LN := lnOf l_k217) (lnOf_ok ⟨⟨l_r76 g, trivial⟩, ⟨⟨l_rc1 g, trivial⟩, ⟨⟨l_c21 g, trivial⟩, ⟨⟨l_rc g, trivial⟩, ⟨⟨l_ltd g, trivial⟩, ⟨⟨l_r76b g, trivial⟩, ⟨⟨l_c21 g, ⟨l_rc g, trivial⟩⟩, trivial⟩⟩⟩⟩⟩⟩⟩) (cuts := c_k217) (f := 3000) (by decide +kernel)
def t_k218 : KT := ((218, 9, 0, 0), [(2, 0, 40, 0), (1, 1, 0, 0)], [(0, 0), (0, 1)], [(127, [(2, 0, 40, 0), (1, 1, 0, 0)])], (1, -2147483648, 2147483647), [(40, 9, 10), (41, 5, 7), (41, 1018, 1306), (41, 1594, 2026), (44, 0, 144), (45, 0, 144), (46, 0, 4096)], [], ([], []), ([], []))
def c_k218 : List CUT := [(4, [0, 1, 2], [(2, 0, 40, 0), (1, 1, 0, 0), (1, 2, 0, 0)], [(0, 0), (0, 1), (0, 288)], [(2, 0, 40, 0), (1, 1, 0, 0), (1, 2, 0, 0), (7, 0, 0, 0), (7, 0, 0, 0), (7, 0, 0, 0)], [(0, [(2, 0, 40, 0), (1, 1, 0, 0)]), (127, [(2, 0, 40, 0), (1, 1, 0, 0)]), (129, [(2, 0, 40, 0)]), (91, [(2, 0, 40, 0)])], (0, 0), [(0, 0, 2), (1, 2, 288)]), (35, [0, 1, 2], [(2, 0, 40, 0), (1, 1, 0, 0), (1, 2, 0, 0)], [(0, 0), (0, 1), (0, 144)], [(2, 0, 40, 0), (1, 1, 0, 0), (1, 2, 0, 0), (7, 0, 0, 0), (7, 0, 0, 0), (7, 0, 0, 0)], [(0, [(2, 0, 40, 0), (1, 1, 0, 0)]), (91, [(2, 0, 40, 0)]), (176, [(2, 0, 40, 0)]), (185, [(2, 0, 40, 0), (1, 2, 0, 0)])], (0, 0), [(0, 0, 1), (1, 2, 144)])]
def a_k218 : List (Nat × KT) := [(1, t_k210), (19, t_k213), (22, t_k214), (63, t_k209), (77, t_k198), (91, t_k208), (92, t_k216), (106, t_k217)]
def l_k218 : LNL := [(18, [(t_jb0, [[0], [1]])]), (34, [(t_jb1, [[0], [0, 1], [500]])]), (43, [(t_jb3, [[0], [0, 10], [2], [500], [0, 9]])]), (86, [(t_tn4, [[0], [0, 8], [2], [500], [0, 9]])]), (91, [(t_tn4, [[0], [0, 8], [2], [500], [0, 9]])]), (99, [(t_tn4, [[0], [0, 8], [2], [500], [0, 9]])]), (106, [(t_tn4, [[0], [0, 8], [100210], [500], [0, 9]])]), (111, [(t_jb4, [[0], [0, 1], [2], [500]])]), (153, [(t_jb5, [[0], [0, 1], [2], [5]])]), (163, [(t_jb2, [[0], [2]])])]
theorem k_k218 (g : GG) : KOK Yt (PSt g) t_k218 := verK_ok (PSt_ok g) (PSt_ax g) (dk := 8) (AN := anOf a_k218) (anOf_ok ⟨k_k210 g, ⟨k_k213 g, ⟨k_k214 g, ⟨k_k209 g, ⟨k_k198 g, ⟨k_k208 g, ⟨k_k216 g, ⟨k_k217 g, trivial⟩⟩⟩⟩⟩⟩⟩⟩) (LN := lnOf l_k218) (lnOf_ok ⟨⟨l_jb0 g, trivial⟩, ⟨⟨l_jb1 g, trivial⟩, ⟨⟨l_jb3 g, trivial⟩, ⟨⟨l_tn4 g, trivial⟩, ⟨⟨l_tn4 g, trivial⟩, ⟨⟨l_tn4 g, trivial⟩, ⟨⟨l_tn4 g, trivial⟩, ⟨⟨l_jb4 g, trivial⟩, ⟨⟨l_jb5 g, trivial⟩, ⟨⟨l_jb2 g, trivial⟩, trivial⟩⟩⟩⟩⟩⟩⟩⟩⟩⟩) (cuts := c_k218) (f := 3000) (by decide +kernel)
def t_k165_1 : KT := ((165, 1, 0, 0), [(2, 0, 40, 0), (1, 1, 0, 0), (1, 2, 0, 0), (1, 3, 0, 0)], [(0, 0), (-2147483648, 2147483647), (0, 0), (1, 1)], [], (2, 0, 1), [], [], ([(1, 0, 1)], []), ([], []))
def c_k165_1 : List CUT := []
def a_k165_1 : List (Nat × KT) := []
def l_k165_1 : LNL := []
theorem k_k165_1 (g : GG) : KOK Yt (PSt g) t_k165_1 := verK_ok (PSt_ok g) (PSt_ax g) (dk := 0) (AN := anOf a_k165_1) (anOf_ok trivial) (LN := lnOf l_k165_1) (lnOf_ok trivial) (cuts := c_k165_1) (f := 3000) (by decide +kernel)
def t_k219 : KT := ((219, 7, 0, 0), [(2, 0, 40, 0), (1, 1, 0, 0)], [(0, 0), (-2147483648, 2147483647)], [], (2, 0, 1), [(40, 9, 10), (44, 0, 144)], [], ([(1, 0, 1)], [(127, [(2, 0, 40, 0), (1, 1, 0, 0)])]), ([], []))
def c_k219 : List CUT := []
def a_k219 : List (Nat × KT) := [(1, t_k210), (6, t_k165_1)]
def l_k219 : LNL := [(15, [(t_kj1, [[0], [1]]), (t_kj2, [[0], [1], [0, 9]])])]
theorem k_k219 (g : GG) : KOK Yt (PSt g) t_k219 := verK_ok (PSt_ok g) (PSt_ax g) (dk := 6) (AN := anOf a_k219) (anOf_ok ⟨k_k210 g, ⟨k_k165_1 g, trivial⟩⟩) (LN := lnOf l_k219) (lnOf_ok ⟨⟨l_kj1 g, ⟨l_kj2 g, trivial⟩⟩, trivial⟩) (cuts := c_k219) (f := 3000) (by decide +kernel)
def t_k222 : KT := ((222, 3, 0, 0), [(2, 0, 40, 0)], [(0, 0)], [], (1, -2147483648, 2147483647), [], [(105, [(2, 0, 40, 0), (1, 1, 0, 0)])], ([], []), ([], []))
def c_k222 : List CUT := [(4, [0, 1, 2], [(2, 0, 40, 0), (1, 1, 0, 0), (1, 2, 0, 0)], [(0, 0), (-2147483648, 2147483647), (0, 144)], [(2, 0, 40, 0), (1, 1, 0, 0), (1, 2, 0, 0)], [(0, [(2, 0, 40, 0)]), (105, [(2, 0, 40, 0), (1, 1, 0, 0)])], (0, 0), [(0, 0, 1), (1, 2, 144)])]
def a_k222 : List (Nat × KT) := [(6, t_k168), (10, t_k172p), (14, t_k173p)]
def l_k222 : LNL := [(3, [(t_tb0r, [[0], [1]])]), (19, [(t_tb1r, [[0], [2], [500], [100941]])])]
theorem k_k222 (g : GG) : KOK Yt (PSt g) t_k222 := verK_ok (PSt_ok g) (PSt_ax g) (dk := 2) (AN := anOf a_k222) (anOf_ok ⟨k_k168 g, ⟨k_k172p g, ⟨k_k173p g, trivial⟩⟩⟩) (LN := lnOf l_k222) (lnOf_ok ⟨⟨l_tb0r g, trivial⟩, ⟨⟨l_tb1r g, trivial⟩, trivial⟩⟩) (cuts := c_k222) (f := 3000) (by decide +kernel)
def t_k223g : KT := ((223, 1, 0, 0), [(2, 0, 40, 0), (1, 1, 0, 0), (1, 2, 0, 0), (1, 3, 0, 0), (1, 4, 0, 0)], [(0, 0), (0, 143), (-2147483648, 2147483647), (-1, 143), (0, 143)], [(155, [(2, 0, 40, 0)]), (32, [(2, 0, 40, 0)]), (103, [(2, 0, 40, 0), (1, 1, 0, 0)]), (104, [(2, 0, 40, 0), (1, 3, 0, 0)])], (0, 0, 0), [(41, 2, 3), (41, 442, 1018)], [(100, [(2, 0, 40, 0)]), (33, [(2, 0, 40, 0)])], ([], []), ([], []))
def c_k223g : List CUT := []
def a_k223g : List (Nat × KT) := []
def l_k223g : LNL := [(7, [(t_ly00, [[0], [0, 1], [1], [500]])]), (9, [(t_ly0g, [[0], [0, 1], [1], [3], [500]])]), (20, [(t_ly1g, [[0], [0, 1], [1], [3], [103909]])]), (34, [(t_ly2g, [[0], [0, 1], [1], [3]])])]
theorem k_k223g (g : GG) : KOK Yt (PSt g) t_k223g := verK_ok (PSt_ok g) (PSt_ax g) (dk := 0) (AN := anOf a_k223g) (anOf_ok trivial) (LN := lnOf l_k223g) (lnOf_ok ⟨⟨l_ly00 g, trivial⟩, ⟨⟨l_ly0g g, trivial⟩, ⟨⟨l_ly1g g, trivial⟩, ⟨⟨l_ly2g g, trivial⟩, trivial⟩⟩⟩⟩) (cuts := c_k223g) (f := 3000) (by decide +kernel)
def t_k223 : KT := ((223, 1, 0, 0), [(2, 0, 40, 0), (1, 1, 0, 0), (1, 2, 0, 0), (1, 3, 0, 0), (1, 4, 0, 0)], [(0, 0), (0, 143), (-2147483648, 2147483647), (-1, 143), (0, 143)], [(155, [(2, 0, 40, 0)]), (103, [(2, 0, 40, 0), (1, 1, 0, 0)]), (104, [(2, 0, 40, 0), (1, 3, 0, 0)])], (0, 0, 0), [(41, 2, 3), (41, 442, 1018)], [(100, [(2, 0, 40, 0)])], ([], []), ([], []))
def c_k223 : List CUT := []
def a_k223 : List (Nat × KT) := []
def l_k223 : LNL := [(7, [(t_ly00, [[0], [0, 1], [1], [500]])]), (9, [(t_ly0, [[0], [0, 1], [1], [3], [500]])]), (20, [(t_ly1, [[0], [0, 1], [1], [3], [103009]])]), (34, [(t_ly2, [[0], [0, 1], [1], [3]])])]
theorem k_k223 (g : GG) : KOK Yt (PSt g) t_k223 := verK_ok (PSt_ok g) (PSt_ax g) (dk := 0) (AN := anOf a_k223) (anOf_ok trivial) (LN := lnOf l_k223) (lnOf_ok ⟨⟨l_ly00 g, trivial⟩, ⟨⟨l_ly0 g, trivial⟩, ⟨⟨l_ly1 g, trivial⟩, ⟨⟨l_ly2 g, trivial⟩, trivial⟩⟩⟩⟩) (cuts := c_k223) (f := 3000) (by decide +kernel)
def t_k224g : KT := ((224, 3, 0, 0), [(2, 0, 40, 0)], [(0, 0)], [(100, [(2, 0, 40, 0)]), (156, [(2, 0, 40, 0)]), (32, [(2, 0, 40, 0)])], (0, 0, 0), [(41, 2, 4), (41, 442, 1018), (41, 2026, 2314)], [(100, [(2, 0, 40, 0)]), (33, [(2, 0, 40, 0)])], ([], []), ([], []))
def c_k224g : List CUT := [(4, [0, 1, 2], [(2, 0, 40, 0), (1, 1, 0, 0), (1, 2, 0, 0)], [(0, 0), (-1, 143), (0, 144)], [(2, 0, 40, 0), (1, 1, 0, 0), (1, 2, 0, 0)], [(0, [(2, 0, 40, 0)]), (100, [(2, 0, 40, 0)]), (156, [(2, 0, 40, 0)]), (32, [(2, 0, 40, 0)]), (103, [(2, 0, 40, 0), (1, 1, 0, 0)]), (157, [(2, 0, 40, 0), (1, 2, 0, 0), (1, 1, 0, 0)])], (0, 0), [(0, 0, 1), (1, 2, 144)])]
def a_k224g : List (Nat × KT) := [(6, t_k168), (10, t_k172p), (14, t_k173p), (21, t_k171), (24, t_k171), (60, t_k170p), (63, t_k223g)]
def l_k224g : LNL := [(3, [(t_bi0, [[0], [1], [500]])]), (27, [(t_bi1, [[0], [2]])]), (28, [(t_bi2, [[0], [2], [1]]), (t_bi3, [[0], [2], [1]]), (t_bi4, [[0], [2], [1]])]), (30, [(t_bi5, [[0], [2], [100941], [1]])]), (34, [(t_bi6, [[0], [0, 1], [500], [1]])]), (41, [(t_bi7, [[0], [0, 1], [2], [1]])]), (42, [(t_bi8, [[0], [0, 1], [2]])]), (62, [(t_la0, [[0], [500]])])]
theorem k_k224g (g : GG) : KOK Yt (PSt g) t_k224g := verK_ok (PSt_ok g) (PSt_ax g) (dk := 2) (AN := anOf a_k224g) (anOf_ok ⟨k_k168 g, ⟨k_k172p g, ⟨k_k173p g, ⟨k_k171 g, ⟨k_k171 g, ⟨k_k170p g, ⟨k_k223g g, trivial⟩⟩⟩⟩⟩⟩⟩) (LN := lnOf l_k224g) (lnOf_ok ⟨⟨l_bi0 g, trivial⟩, ⟨⟨l_bi1 g, trivial⟩, ⟨⟨l_bi2 g, ⟨l_bi3 g, ⟨l_bi4 g, trivial⟩⟩⟩, ⟨⟨l_bi5 g, trivial⟩, ⟨⟨l_bi6 g, trivial⟩, ⟨⟨l_bi7 g, trivial⟩, ⟨⟨l_bi8 g, trivial⟩, ⟨⟨l_la0 g, trivial⟩, trivial⟩⟩⟩⟩⟩⟩⟩⟩) (cuts := c_k224g) (f := 3000) (by decide +kernel)
def t_k224 : KT := ((224, 3, 0, 0), [(2, 0, 40, 0)], [(0, 0)], [(100, [(2, 0, 40, 0)]), (156, [(2, 0, 40, 0)])], (0, 0, 0), [(41, 2, 4), (41, 442, 1018), (41, 2026, 2314)], [(100, [(2, 0, 40, 0)])], ([], []), ([], []))
def c_k224 : List CUT := [(4, [0, 1, 2], [(2, 0, 40, 0), (1, 1, 0, 0), (1, 2, 0, 0)], [(0, 0), (-1, 143), (0, 144)], [(2, 0, 40, 0), (1, 1, 0, 0), (1, 2, 0, 0)], [(0, [(2, 0, 40, 0)]), (100, [(2, 0, 40, 0)]), (156, [(2, 0, 40, 0)]), (103, [(2, 0, 40, 0), (1, 1, 0, 0)]), (157, [(2, 0, 40, 0), (1, 2, 0, 0), (1, 1, 0, 0)])], (0, 0), [(0, 0, 1), (1, 2, 144)])]
def a_k224 : List (Nat × KT) := [(6, t_k168), (10, t_k172p), (14, t_k173p), (21, t_k171), (24, t_k171), (60, t_k170p), (63, t_k223)]
def l_k224 : LNL := [(3, [(t_bi0, [[0], [1], [500]])]), (27, [(t_bi1, [[0], [2]])]), (28, [(t_bi2, [[0], [2], [1]]), (t_bi3, [[0], [2], [1]]), (t_bi4, [[0], [2], [1]])]), (30, [(t_bi5, [[0], [2], [100941], [1]])]), (34, [(t_bi6, [[0], [0, 1], [500], [1]])]), (41, [(t_bi7, [[0], [0, 1], [2], [1]])]), (42, [(t_bi8, [[0], [0, 1], [2]])]), (62, [(t_la0, [[0], [500]])])]
theorem k_k224 (g : GG) : KOK Yt (PSt g) t_k224 := verK_ok (PSt_ok g) (PSt_ax g) (dk := 2) (AN := anOf a_k224) (anOf_ok ⟨k_k168 g, ⟨k_k172p g, ⟨k_k173p g, ⟨k_k171 g, ⟨k_k171 g, ⟨k_k170p g, ⟨k_k223 g, trivial⟩⟩⟩⟩⟩⟩⟩) (LN := lnOf l_k224) (lnOf_ok ⟨⟨l_bi0 g, trivial⟩, ⟨⟨l_bi1 g, trivial⟩, ⟨⟨l_bi2 g, ⟨l_bi3 g, ⟨l_bi4 g, trivial⟩⟩⟩, ⟨⟨l_bi5 g, trivial⟩, ⟨⟨l_bi6 g, trivial⟩, ⟨⟨l_bi7 g, trivial⟩, ⟨⟨l_bi8 g, trivial⟩, ⟨⟨l_la0 g, trivial⟩, trivial⟩⟩⟩⟩⟩⟩⟩⟩) (cuts := c_k224) (f := 3000) (by decide +kernel)
def t_k225g : KT := ((225, 4, 0, 0), [(2, 0, 40, 0)], [(0, 0)], [(100, [(2, 0, 40, 0)]), (156, [(2, 0, 40, 0)]), (32, [(2, 0, 40, 0)])], (2, 0, 1), [(41, 2, 4), (41, 442, 1018), (41, 2026, 2314)], [], ([], [(100, [(2, 0, 40, 0)]), (33, [(2, 0, 40, 0)])]), ([], [(100, [(2, 0, 40, 0)]), (33, [(2, 0, 40, 0)])]))
def c_k225g : List CUT := [(8, [0, 1, 2, 3, 4], [(2, 0, 40, 0), (1, 1, 0, 0), (1, 2, 0, 0), (1, 3, 0, 0), (1, 4, 0, 0)], [(0, 0), (-1, 143), (-1, 143), (-1, 2147483647), (0, 144)], [(2, 0, 40, 0), (1, 1, 0, 0), (1, 2, 0, 0), (1, 3, 0, 0), (1, 4, 0, 0), (7, 0, 0, 0), (7, 0, 0, 0), (7, 0, 0, 0), (7, 0, 0, 0)], [(0, [(2, 0, 40, 0)]), (100, [(2, 0, 40, 0)]), (156, [(2, 0, 40, 0)]), (32, [(2, 0, 40, 0)]), (103, [(2, 0, 40, 0), (1, 2, 0, 0)]), (104, [(2, 0, 40, 0), (1, 1, 0, 0)]), (99, [(1, 1, 0, 0), (1, 2, 0, 0)])], (0, 0), [(0, 0, 1), (1, 4, 144), (0, 0, 99), (0, 0, 0)]), (23, [0, 1, 2, 3, 4, 5], [(2, 0, 40, 0), (1, 1, 0, 0), (1, 2, 0, 0), (1, 3, 0, 0), (1, 4, 0, 0), (1, 5, 0, 0)], [(0, 0), (-1, 143), (-1, 143), (-1, 2147483647), (0, 143), (-1, 3)], [(2, 0, 40, 0), (1, 1, 0, 0), (1, 2, 0, 0), (1, 3, 0, 0), (1, 4, 0, 0), (1, 5, 0, 0), (7, 0, 0, 0), (7, 0, 0, 0), (7, 0, 0, 0)], [(0, [(2, 0, 40, 0)]), (100, [(2, 0, 40, 0)]), (156, [(2, 0, 40, 0)]), (32, [(2, 0, 40, 0)]), (103, [(2, 0, 40, 0), (1, 2, 0, 0)]), (104, [(2, 0, 40, 0), (1, 1, 0, 0)]), (99, [(1, 1, 0, 0), (1, 2, 0, 0)]), (103, [(2, 0, 40, 0), (1, 4, 0, 0)]), (95, [(2, 0, 40, 0), (1, 4, 0, 0)])], (0, 0), [(0, 0, 1), (1, 4, 144), (0, 0, 1), (2, 5, -1)])]
def a_k225g : List (Nat × KT) := [(10, t_k168), (14, t_k172p), (18, t_k173p), (28, t_k195), (35, t_k173p), (41, t_k196), (45, t_k182), (49, t_k183), (54, t_k184), (86, t_k224g), (100, t_k178p), (109, t_k223g)]
def l_k225g : LNL := [(7, [(t_mo0, [[0], [1], [2]]), (t_np0, [[1], [2]])]), (12, [(t_mpx, [[0], [4], [100941]])]), (41, [(t_nbe, [[0], [4], [5], [6]])]), (77, [(t_np1, [[1], [2]])]), (89, [(t_np2, [[1], [2]])]), (108, [(t_r01, [[0]])])]
theorem k_k225g (g : GG) : KOK Yt (PSt g) t_k225g := verK_ok (PSt_ok g) (PSt_ax g) (dk := 3) (AN := anOf a_k225g) (anOf_ok ⟨k_k168 g, ⟨k_k172p g, ⟨k_k173p g, ⟨k_k195 g, ⟨k_k173p g, ⟨k_k196 g, ⟨k_k182 g, ⟨k_k183 g, ⟨k_k184 g, ⟨k_k224g g, ⟨k_k178p g, ⟨k_k223g g, trivial⟩⟩⟩⟩⟩⟩⟩⟩⟩⟩⟩⟩) (LN := lnOf l_k225g) (lnOf_ok ⟨⟨l_mo0 g, ⟨l_np0 g, trivial⟩⟩, ⟨⟨l_mpx g, trivial⟩, ⟨⟨l_nbe g, trivial⟩, ⟨⟨l_np1 g, trivial⟩, ⟨⟨l_np2 g, trivial⟩, ⟨⟨l_r01 g, trivial⟩, trivial⟩⟩⟩⟩⟩⟩) (cuts := c_k225g) (f := 3000) (by decide +kernel)
def t_k225 : KT := ((225, 4, 0, 0), [(2, 0, 40, 0)], [(0, 0)], [(100, [(2, 0, 40, 0)]), (156, [(2, 0, 40, 0)])], (2, 0, 1), [(41, 2, 4), (41, 442, 1018), (41, 2026, 2314)], [], ([], [(100, [(2, 0, 40, 0)])]), ([], [(100, [(2, 0, 40, 0)])]))
def c_k225 : List CUT := [(8, [0, 1, 2, 3, 4], [(2, 0, 40, 0), (1, 1, 0, 0), (1, 2, 0, 0), (1, 3, 0, 0), (1, 4, 0, 0)], [(0, 0), (-1, 143), (-1, 143), (-1, 2147483647), (0, 144)], [(2, 0, 40, 0), (1, 1, 0, 0), (1, 2, 0, 0), (1, 3, 0, 0), (1, 4, 0, 0), (7, 0, 0, 0), (7, 0, 0, 0), (7, 0, 0, 0), (7, 0, 0, 0)], [(0, [(2, 0, 40, 0)]), (100, [(2, 0, 40, 0)]), (156, [(2, 0, 40, 0)]), (103, [(2, 0, 40, 0), (1, 2, 0, 0)]), (104, [(2, 0, 40, 0), (1, 1, 0, 0)]), (99, [(1, 1, 0, 0), (1, 2, 0, 0)])], (0, 0), [(0, 0, 1), (1, 4, 144), (0, 0, 99), (0, 0, 0)]), (23, [0, 1, 2, 3, 4, 5], [(2, 0, 40, 0), (1, 1, 0, 0), (1, 2, 0, 0), (1, 3, 0, 0), (1, 4, 0, 0), (1, 5, 0, 0)], [(0, 0), (-1, 143), (-1, 143), (-1, 2147483647), (0, 143), (-1, 3)], [(2, 0, 40, 0), (1, 1, 0, 0), (1, 2, 0, 0), (1, 3, 0, 0), (1, 4, 0, 0), (1, 5, 0, 0), (7, 0, 0, 0), (7, 0, 0, 0), (7, 0, 0, 0)], [(0, [(2, 0, 40, 0)]), (100, [(2, 0, 40, 0)]), (156, [(2, 0, 40, 0)]), (103, [(2, 0, 40, 0), (1, 2, 0, 0)]), (104, [(2, 0, 40, 0), (1, 1, 0, 0)]), (99, [(1, 1, 0, 0), (1, 2, 0, 0)]), (103, [(2, 0, 40, 0), (1, 4, 0, 0)]), (95, [(2, 0, 40, 0), (1, 4, 0, 0)])], (0, 0), [(0, 0, 1), (1, 4, 144), (0, 0, 1), (2, 5, -1)])]
def a_k225 : List (Nat × KT) := [(10, t_k168), (14, t_k172p), (18, t_k173p), (28, t_k195), (35, t_k173p), (41, t_k196), (45, t_k182), (49, t_k183), (54, t_k184), (86, t_k224), (100, t_k178p), (109, t_k223)]
def l_k225 : LNL := [(7, [(t_mo0, [[0], [1], [2]]), (t_np0, [[1], [2]])]), (12, [(t_mpx, [[0], [4], [100941]])]), (41, [(t_nbe, [[0], [4], [5], [6]])]), (77, [(t_np1, [[1], [2]])]), (89, [(t_np2, [[1], [2]])]), (108, [(t_r01, [[0]])])]
theorem k_k225 (g : GG) : KOK Yt (PSt g) t_k225 := verK_ok (PSt_ok g) (PSt_ax g) (dk := 3) (AN := anOf a_k225) (anOf_ok ⟨k_k168 g, ⟨k_k172p g, ⟨k_k173p g, ⟨k_k195 g, ⟨k_k173p g, ⟨k_k196 g, ⟨k_k182 g, ⟨k_k183 g, ⟨k_k184 g, ⟨k_k224 g, ⟨k_k178p g, ⟨k_k223 g, trivial⟩⟩⟩⟩⟩⟩⟩⟩⟩⟩⟩⟩) (LN := lnOf l_k225) (lnOf_ok ⟨⟨l_mo0 g, ⟨l_np0 g, trivial⟩⟩, ⟨⟨l_mpx g, trivial⟩, ⟨⟨l_nbe g, trivial⟩, ⟨⟨l_np1 g, trivial⟩, ⟨⟨l_np2 g, trivial⟩, ⟨⟨l_r01 g, trivial⟩, trivial⟩⟩⟩⟩⟩⟩) (cuts := c_k225) (f := 3000) (by decide +kernel)
def t_k228 : KT := ((228, 3, 0, 0), [(2, 0, 40, 0), (1, 1, 0, 0)], [(0, 0), (0, 287)], [], (2, 0, 1), [], [], ([], []), ([], []))
def c_k228 : List CUT := []
def a_k228 : List (Nat × KT) := [(5, t_k181), (14, t_k180), (24, t_k180), (27, t_k181), (28, t_k178)]
def l_k228 : LNL := []
theorem k_k228 (g : GG) : KOK Yt (PSt g) t_k228 := verK_ok (PSt_ok g) (PSt_ax g) (dk := 2) (AN := anOf a_k228) (anOf_ok ⟨k_k181 g, ⟨k_k180 g, ⟨k_k180 g, ⟨k_k181 g, ⟨k_k178 g, trivial⟩⟩⟩⟩⟩) (LN := lnOf l_k228) (lnOf_ok trivial) (cuts := c_k228) (f := 3000) (by decide +kernel)
def t_k229 : KT := ((229, 4, 0, 0), [(2, 0, 40, 0), (1, 1, 0, 0)], [(0, 0), (-2147483648, 2147483647)], [], (2, 0, 1), [], [], ([(1, 0, 287)], [(97, [(2, 0, 40, 0), (1, 1, 0, 0)])]), ([], []))
def c_k229 : List CUT := []
def a_k229 : List (Nat × KT) := [(2, t_k179), (6, t_k182), (11, t_k180), (12, t_k173p), (17, t_k181e), (18, t_k173p)]
def l_k229 : LNL := []
theorem k_k229 (g : GG) : KOK Yt (PSt g) t_k229 := verK_ok (PSt_ok g) (PSt_ax g) (dk := 3) (AN := anOf a_k229) (anOf_ok ⟨k_k179 g, ⟨k_k182 g, ⟨k_k180 g, ⟨k_k173p g, ⟨k_k181e g, ⟨k_k173p g, trivial⟩⟩⟩⟩⟩⟩) (LN := lnOf l_k229) (lnOf_ok trivial) (cuts := c_k229) (f := 3000) (by decide +kernel)
def t_k230 : KT := ((230, 5, 0, 0), [(2, 0, 40, 0), (1, 1, 0, 0)], [(0, 0), (-2147483648, 2147483647)], [], (2, 0, 1), [], [], ([(1, 0, 287)], []), ([], []))
def c_k230 : List CUT := []
def a_k230 : List (Nat × KT) := [(2, t_k229), (6, t_k183), (10, t_k228)]
def l_k230 : LNL := []
theorem k_k230 (g : GG) : KOK Yt (PSt g) t_k230 := verK_ok (PSt_ok g) (PSt_ax g) (dk := 4) (AN := anOf a_k230) (anOf_ok ⟨k_k229 g, ⟨k_k183 g, ⟨k_k228 g, trivial⟩⟩⟩) (LN := lnOf l_k230) (lnOf_ok trivial) (cuts := c_k230) (f := 3000) (by decide +kernel)
def t_k231 : KT := ((231, 5, 0, 0), [(2, 0, 40, 0), (1, 1, 0, 0)], [(0, 0), (-2147483648, 2147483647)], [], (2, 0, 1), [], [], ([(1, 0, 287)], []), ([], []))
def c_k231 : List CUT := []
def a_k231 : List (Nat × KT) := [(2, t_k229), (6, t_k183), (13, t_k180), (21, t_k181e), (27, t_k228)]
def l_k231 : LNL := []
theorem k_k231 (g : GG) : KOK Yt (PSt g) t_k231 := verK_ok (PSt_ok g) (PSt_ax g) (dk := 4) (AN := anOf a_k231) (anOf_ok ⟨k_k229 g, ⟨k_k183 g, ⟨k_k180 g, ⟨k_k181e g, ⟨k_k228 g, trivial⟩⟩⟩⟩⟩) (LN := lnOf l_k231) (lnOf_ok trivial) (cuts := c_k231) (f := 3000) (by decide +kernel)
def t_k232 : KT := ((232, 6, 0, 0), [(2, 0, 40, 0)], [(0, 0)], [], (1, -2147483648, 2147483647), [], [], ([], []), ([], []))
def c_k232 : List CUT := [(4, [0, 1, 2], [(2, 0, 40, 0), (1, 1, 0, 0), (1, 2, 0, 0)], [(0, 0), (-2147483648, 2147483647), (0, 288)], [(2, 0, 40, 0), (1, 1, 0, 0), (1, 2, 0, 0)], [(0, [(2, 0, 40, 0)])], (0, 0), [(0, 0, 1), (1, 2, 288)])]
def a_k232 : List (Nat × KT) := [(7, t_k168), (12, t_k230)]
def l_k232 : LNL := []
theorem k_k232 (g : GG) : KOK Yt (PSt g) t_k232 := verK_ok (PSt_ok g) (PSt_ax g) (dk := 5) (AN := anOf a_k232) (anOf_ok ⟨k_k168 g, ⟨k_k230 g, trivial⟩⟩) (LN := lnOf l_k232) (lnOf_ok trivial) (cuts := c_k232) (f := 3000) (by decide +kernel)
def t_k233 : KT := ((233, 6, 0, 0), [(2, 0, 40, 0)], [(0, 0)], [], (1, -2147483648, 2147483647), [], [], ([], []), ([], []))
def c_k233 : List CUT := [(4, [0, 1, 2], [(2, 0, 40, 0), (1, 1, 0, 0), (1, 2, 0, 0)], [(0, 0), (-2147483648, 2147483647), (0, 288)], [(2, 0, 40, 0), (1, 1, 0, 0), (1, 2, 0, 0)], [(0, [(2, 0, 40, 0)])], (0, 0), [(0, 0, 1), (1, 2, 288)])]
def a_k233 : List (Nat × KT) := [(7, t_k168), (12, t_k231)]
def l_k233 : LNL := []
theorem k_k233 (g : GG) : KOK Yt (PSt g) t_k233 := verK_ok (PSt_ok g) (PSt_ax g) (dk := 5) (AN := anOf a_k233) (anOf_ok ⟨k_k168 g, ⟨k_k231 g, trivial⟩⟩) (LN := lnOf l_k233) (lnOf_ok trivial) (cuts := c_k233) (f := 3000) (by decide +kernel)
def t_k234 : KT := ((234, 1, 0, 0), [(2, 0, 40, 0), (1, 1, 0, 0)], [(0, 0), (-2147483648, 2147483647)], [], (2, 0, 1), [], [], ([(1, 0, 143)], []), ([], []))
def c_k234 : List CUT := []
def a_k234 : List (Nat × KT) := []
def l_k234 : LNL := []
theorem k_k234 (g : GG) : KOK Yt (PSt g) t_k234 := verK_ok (PSt_ok g) (PSt_ax g) (dk := 0) (AN := anOf a_k234) (anOf_ok trivial) (LN := lnOf l_k234) (lnOf_ok trivial) (cuts := c_k234) (f := 3000) (by decide +kernel)
def t_k235 : KT := ((235, 3, 0, 0), [(2, 0, 40, 0), (1, 1, 0, 0), (1, 2, 0, 0)], [(0, 0), (-2147483648, 2147483647), (-2147483648, 2147483647)], [], (2, 0, 1), [], [], ([], []), ([], []))
def c_k235 : List CUT := [(2, [0, 1, 2, 3], [(2, 0, 40, 0), (1, 1, 0, 0), (1, 2, 0, 0), (1, 3, 0, 0)], [(0, 0), (-2147483648, 2147483647), (-2147483648, 2147483647), (0, 144)], [(2, 0, 40, 0), (1, 1, 0, 0), (1, 2, 0, 0), (1, 3, 0, 0), (7, 0, 0, 0), (7, 0, 0, 0)], [(0, [(2, 0, 40, 0), (1, 1, 0, 0), (1, 2, 0, 0)])], (0, 0), [(0, 0, 1), (1, 3, 144)])]
def a_k235 : List (Nat × KT) := [(4, t_k168), (8, t_k173p)]
def l_k235 : LNL := []
theorem k_k235 (g : GG) : KOK Yt (PSt g) t_k235 := verK_ok (PSt_ok g) (PSt_ax g) (dk := 2) (AN := anOf a_k235) (anOf_ok ⟨k_k168 g, ⟨k_k173p g, trivial⟩⟩) (LN := lnOf l_k235) (lnOf_ok trivial) (cuts := c_k235) (f := 3000) (by decide +kernel)
def t_k236 : KT := ((236, 3, 0, 0), [(2, 0, 40, 0), (1, 1, 0, 0), (1, 2, 0, 0)], [(0, 0), (0, 143), (-2147483648, 2147483647)], [], (0, 0, 0), [(41, 442, 586), (41, 2026, 2170)], [], ([], []), ([], []))
def c_k236 : List CUT := [(2, [0, 1, 2, 3], [(2, 0, 40, 0), (1, 1, 0, 0), (1, 2, 0, 0), (1, 3, 0, 0)], [(0, 0), (0, 143), (-2147483648, 2147483647), (0, 144)], [(2, 0, 40, 0), (1, 1, 0, 0), (1, 2, 0, 0), (1, 3, 0, 0)], [(0, [(2, 0, 40, 0), (1, 1, 0, 0), (1, 2, 0, 0)])], (0, 0), [(0, 0, 1), (1, 3, 144)])]
def a_k236 : List (Nat × KT) := [(4, t_k168), (8, t_k173p)]
def l_k236 : LNL := []
theorem k_k236 (g : GG) : KOK Yt (PSt g) t_k236 := verK_ok (PSt_ok g) (PSt_ax g) (dk := 2) (AN := anOf a_k236) (anOf_ok ⟨k_k168 g, ⟨k_k173p g, trivial⟩⟩) (LN := lnOf l_k236) (lnOf_ok trivial) (cuts := c_k236) (f := 3000) (by decide +kernel)
def t_k238 : KT := ((238, 3, 0, 0), [(2, 0, 40, 0), (1, 1, 0, 0), (1, 2, 0, 0)], [(0, 0), (0, 287), (-2147483648, 2147483647)], [], (1, -2147483648, 2147483647), [], [], ([], []), ([], []))
def c_k238 : List CUT := []
def a_k238 : List (Nat × KT) := [(5, t_k180), (12, t_k180), (16, t_k181), (21, t_k180), (25, t_k181), (29, t_k180), (34, t_k178)]
def l_k238 : LNL := []
theorem k_k238 (g : GG) : KOK Yt (PSt g) t_k238 := verK_ok (PSt_ok g) (PSt_ax g) (dk := 2) (AN := anOf a_k238) (anOf_ok ⟨k_k180 g, ⟨k_k180 g, ⟨k_k181 g, ⟨k_k180 g, ⟨k_k181 g, ⟨k_k180 g, ⟨k_k178 g, trivial⟩⟩⟩⟩⟩⟩⟩) (LN := lnOf l_k238) (lnOf_ok trivial) (cuts := c_k238) (f := 3000) (by decide +kernel)
def t_k239 : KT := ((239, 5, 0, 0), [(2, 0, 40, 0), (1, 1, 0, 0), (1, 2, 0, 0), (1, 3, 0, 0)], [(0, 0), (-2147483648, 2147483647), (-2147483648, 2147483647), (-2147483648, 2147483647)], [], (2, 0, 1), [], [], ([(1, 0, 287), (2, 0, 143), (3, 0, 143)], []), ([], []))
def c_k239 : List CUT := []
def a_k239 : List (Nat × KT) := [(2, t_k229), (11, t_k180), (20, t_k181e)]
def l_k239 : LNL := []
theorem k_k239 (g : GG) : KOK Yt (PSt g) t_k239 := verK_ok (PSt_ok g) (PSt_ax g) (dk := 4) (AN := anOf a_k239) (anOf_ok ⟨k_k229 g, ⟨k_k180 g, ⟨k_k181e g, trivial⟩⟩⟩) (LN := lnOf l_k239) (lnOf_ok trivial) (cuts := c_k239) (f := 3000) (by decide +kernel)
def t_k240 : KT := ((240, 1, 0, 0), [(2, 0, 40, 0), (1, 1, 0, 0), (1, 2, 0, 0)], [(0, 0), (-2147483648, 2147483647), (-2147483648, 2147483647)], [], (2, 0, 1), [], [], ([], []), ([], []))
def c_k240 : List CUT := []
def a_k240 : List (Nat × KT) := []
def l_k240 : LNL := []
theorem k_k240 (g : GG) : KOK Yt (PSt g) t_k240 := verK_ok (PSt_ok g) (PSt_ax g) (dk := 0) (AN := anOf a_k240) (anOf_ok trivial) (LN := lnOf l_k240) (lnOf_ok trivial) (cuts := c_k240) (f := 3000) (by decide +kernel)
def t_k241 : KT := ((241, 6, 0, 0), [(2, 0, 40, 0), (1, 1, 0, 0), (1, 2, 0, 0)], [(0, 0), (-2147483648, 2147483647), (-2147483648, 2147483647)], [], (2, 0, 1), [(40, 12, 13), (40, 13, 14)], [], ([], []), ([], []))
def c_k241 : List CUT := [(5, [0, 1, 2, 3, 1013], [(2, 0, 40, 0), (1, 1, 0, 0), (1, 2, 0, 0), (1, 3, 0, 0), (1, 4, 0, 0)], [(0, 0), (-2147483648, 2147483647), (-2147483648, 2147483647), (0, 288), (0, 2147483647)], [(2, 0, 40, 0), (1, 1, 0, 0), (1, 2, 0, 0), (1, 3, 0, 0), (7, 0, 0, 0), (7, 0, 0, 0), (7, 0, 0, 0)], [(0, [(2, 0, 40, 0), (1, 1, 0, 0), (1, 2, 0, 0)])], (0, 0), [(0, 0, 1), (1, 3, 288), (0, 0, 99), (0, 0, 0)]), (27, [0, 1, 2, 3, 4, 5, 6, 1013], [(2, 0, 40, 0), (1, 1, 0, 0), (1, 2, 0, 0), (1, 3, 0, 0), (1, 4, 0, 0), (1, 5, 0, 0), (1, 6, 0, 0), (1, 7, 0, 0)], [(0, 0), (0, 143), (0, 143), (0, 287), (-2147483648, 2147483647), (-2147483648, 2147483647), (0, 288), (0, 2147483647)], [(2, 0, 40, 0), (1, 1, 0, 0), (1, 2, 0, 0), (1, 3, 0, 0), (1, 4, 0, 0), (1, 5, 0, 0), (1, 6, 0, 0)], [(0, [(2, 0, 40, 0), (1, 1, 0, 0), (1, 2, 0, 0)])], (0, 0), [(0, 0, 1), (1, 3, 288), (0, 0, 1), (1, 6, 288)])]
def a_k241 : List (Nat × KT) := [(8, t_k168), (15, t_k239), (21, t_k238), (30, t_k168), (37, t_k239), (42, t_k238), (63, t_k240)]
def l_k241 : LNL := []
theorem k_k241 (g : GG) : KOK Yt (PSt g) t_k241 := verK_ok (PSt_ok g) (PSt_ax g) (dk := 5) (AN := anOf a_k241) (anOf_ok ⟨k_k168 g, ⟨k_k239 g, ⟨k_k238 g, ⟨k_k168 g, ⟨k_k239 g, ⟨k_k238 g, ⟨k_k240 g, trivial⟩⟩⟩⟩⟩⟩⟩) (LN := lnOf l_k241) (lnOf_ok trivial) (cuts := c_k241) (f := 3000) (by decide +kernel)
def t_k243 : KT := ((243, 7, 0, 0), [(2, 0, 40, 0)], [(0, 0)], [], (1, -1, 144), [(40, 12, 13), (40, 13, 14), (41, 442, 586), (41, 2026, 2170), (47, 0, 144)], [], ([], []), ([], []))
def c_k243 : List CUT := [(7, [0, 1, 2], [(2, 0, 40, 0), (1, 1, 0, 0), (1, 2, 0, 0)], [(0, 0), (0, 144), (0, 144)], [(2, 0, 40, 0), (1, 1, 0, 0), (1, 2, 0, 0), (7, 0, 0, 0), (7, 0, 0, 0), (7, 0, 0, 0), (7, 0, 0, 0), (7, 0, 0, 0)], [(0, [(2, 0, 40, 0)]), (402, [(2, 0, 40, 0), (1, 2, 0, 0)]), (403, [(2, 0, 40, 0), (1, 1, 0, 0)])], (0, 0), [(0, 0, 2), (1, 2, 144), (0, 0, 99), (0, 0, 0), (0, 0, 0), (0, 0, 0)]), (22, [0, 1, 2], [(2, 0, 40, 0), (1, 1, 0, 0), (1, 2, 0, 0)], [(0, 0), (0, 144), (0, 0)], [(2, 0, 40, 0), (1, 1, 0, 0), (1, 2, 0, 0), (7, 0, 0, 0), (7, 0, 0, 0), (7, 0, 0, 0), (7, 0, 0, 0), (7, 0, 0, 0)], [(0, [(2, 0, 40, 0)]), (401, [(2, 0, 40, 0), (1, 1, 0, 0)])], (0, 0), [(0, 0, 1), (2, 1, 0), (0, 0, 99), (0, 0, 0), (0, 0, 0), (0, 0, 0)]), (30, [0, 1, 2, 3, 4, 5, 6], [(2, 0, 40, 0), (1, 1, 0, 0), (1, 2, 0, 0), (1, 3, 0, 0), (1, 4, 0, 0), (1, 5, 0, 0), (1, 6, 0, 0)], [(0, 0), (0, 144), (0, 2147483647), (-2147483648, 2147483647), (-1, 143), (-1, 143), (0, 144)], [(2, 0, 40, 0), (1, 1, 0, 0), (1, 2, 0, 0), (1, 3, 0, 0), (1, 4, 0, 0), (1, 5, 0, 0), (1, 6, 0, 0), (7, 0, 0, 0)], [(0, [(2, 0, 40, 0)]), (401, [(2, 0, 40, 0), (1, 1, 0, 0)]), (404, [(2, 0, 40, 0), (1, 4, 0, 0), (1, 5, 0, 0)])], (0, 0), [(0, 0, 1), (2, 1, 0), (0, 0, 2), (1, 6, 144), (0, 0, 99), (0, 0, 0)]), (40, [0, 1, 2, 3, 4, 5, 6, 7], [(2, 0, 40, 0), (1, 1, 0, 0), (1, 2, 0, 0), (1, 3, 0, 0), (1, 4, 0, 0), (1, 5, 0, 0), (1, 6, 0, 0), (1, 7, 0, 0)], [(0, 0), (0, 144), (0, 2147483647), (-2147483648, 2147483647), (-1, 143), (-1, 143), (0, 143), (1, 144)], [(2, 0, 40, 0), (1, 1, 0, 0), (1, 2, 0, 0), (1, 3, 0, 0), (1, 4, 0, 0), (1, 5, 0, 0), (1, 6, 0, 0), (1, 7, 0, 0)], [(0, [(2, 0, 40, 0)]), (401, [(2, 0, 40, 0), (1, 1, 0, 0)]), (404, [(2, 0, 40, 0), (1, 4, 0, 0), (1, 5, 0, 0)]), (405, [(2, 0, 40, 0), (1, 6, 0, 0)])], (0, 0), [(0, 0, 1), (2, 1, 0), (0, 0, 2), (1, 6, 144), (0, 0, 1), (1, 7, 144)]), (91, [0, 1, 2, 3, 4, 5, 6, 7], [(2, 0, 40, 0), (1, 1, 0, 0), (1, 2, 0, 0), (1, 3, 0, 0), (1, 4, 0, 0), (1, 5, 0, 0), (1, 6, 0, 0), (1, 7, 0, 0)], [(0, 0), (0, 144), (0, 2147483647), (-2147483648, 2147483647), (0, 143), (0, 143), (-2147483648, 2147483647), (0, 144)], [(2, 0, 40, 0), (1, 1, 0, 0), (1, 2, 0, 0), (1, 3, 0, 0), (1, 4, 0, 0), (1, 5, 0, 0), (1, 6, 0, 0), (1, 7, 0, 0)], [(0, [(2, 0, 40, 0)]), (408, [(2, 0, 40, 0), (1, 1, 0, 0), (1, 4, 0, 0), (1, 6, 0, 0), (1, 7, 0, 0)])], (0, 0), [(0, 0, 1), (2, 1, 0), (0, 0, 1), (1, 7, 144), (0, 0, 99), (0, 0, 0)])]
def a_k243 : List (Nat × KT) := [(58, t_k241), (107, t_k235), (114, t_k236)]
def l_k243 : LNL := [(4, [(t_se3, [[0], [0, 1], [500]])]), (6, [(t_se0, [[0], [500]])]), (17, [(t_se1, [[0], [0, 14], [2]])]), (18, [(t_se2, [[0], [0, 14], [2]])]), (20, [(t_se4, [[0], [2], [1], [0, 1], [0, 1, 3]])]), (29, [(t_se5, [[0], [4], [5]])]), (36, [(t_se6, [[0], [0, 1], [6], [0, 1, 3]])]), (46, [(t_se6, [[0], [0, 1], [7], [0, 1, 3]])]), (74, [(t_se7, [[0], [0, 14], [6], [7], [100990], [100991]])]), (84, [(t_se8, [[0], [0, 1], [4], [5], [0, 1, 3]])]), (90, [(t_se9, [[0], [0, 14], [1], [4], [5], [6], [500]])]), (97, [(t_se6, [[0], [0, 1], [7], [0, 1, 3]])]), (101, [(t_seA, [[0], [0, 14], [7], [500]])]), (122, [(t_seC, [[0], [0, 14], [1], [4], [6], [7], [104092], [500]])]), (123, [(t_seB, [[0], [1], [4], [6], [7], [104092]]), (t_seD, [[0], [0, 14], [1], [4], [6], [7], [102196]])]), (128, [(t_seE, [[0], [0, 1], [1], [4], [6], [7], [0, 1, 3]])])]
theorem k_k243 (g : GG) : KOK Yt (PSt g) t_k243 := verK_ok (PSt_ok g) (PSt_ax g) (dk := 6) (AN := anOf a_k243) (anOf_ok ⟨k_k241 g, ⟨k_k235 g, ⟨k_k236 g, trivial⟩⟩⟩) (LN := lnOf l_k243) (lnOf_ok ⟨⟨l_se3 g, trivial⟩, ⟨⟨l_se0 g, trivial⟩, ⟨⟨l_se1 g, trivial⟩, ⟨⟨l_se2 g, trivial⟩, ⟨⟨l_se4 g, trivial⟩, ⟨⟨l_se5 g, trivial⟩, ⟨⟨l_se6 g, trivial⟩, ⟨⟨l_se6 g, trivial⟩, ⟨⟨l_se7 g, trivial⟩, ⟨⟨l_se8 g, trivial⟩, ⟨⟨l_se9 g, trivial⟩, ⟨⟨l_se6 g, trivial⟩, ⟨⟨l_seA g, trivial⟩, ⟨⟨l_seC g, trivial⟩, ⟨⟨l_seB g, ⟨l_seD g, trivial⟩⟩, ⟨⟨l_seE g, trivial⟩, trivial⟩⟩⟩⟩⟩⟩⟩⟩⟩⟩⟩⟩⟩⟩⟩⟩) (cuts := c_k243) (f := 3000) (by decide +kernel)
def t_k244 : KT := ((244, 1, 0, 0), [(2, 0, 40, 0)], [(0, 0)], [(100, [(2, 0, 40, 0)]), (101, [(2, 0, 40, 0)]), (109, [(2, 0, 40, 0)])], (0, 0, 0), [(41, 0, 2314), (52, 0, 2314)], [(100, [(2, 0, 40, 0)]), (101, [(2, 0, 40, 0)]), (109, [(2, 0, 40, 0)])], ([], []), ([], []))
def c_k244 : List CUT := [(2, [0, 1], [(2, 0, 40, 0), (1, 1, 0, 0)], [(0, 0), (0, 2314)], [(2, 0, 40, 0), (1, 1, 0, 0), (7, 0, 0, 0)], [(0, [(2, 0, 40, 0)]), (117, [(2, 0, 40, 0), (1, 1, 0, 0)])], (0, 0), [(0, 0, 1), (1, 1, 2314)])]
def a_k244 : List (Nat × KT) := []
def l_k244 : LNL := [(1, [(t_sw0, [[0], [500]])]), (17, [(t_sw1, [[0], [0, 1], [0, 2], [1], [2], [500]])]), (22, [(t_sw2, [[0], [0, 1], [0, 2], [1], [2], [102084]])]), (23, [(t_sw3, [[0], [0, 2], [1], [102093]])]), (25, [(t_sw4, [[0], [1]])])]
theorem k_k244 (g : GG) : KOK Yt (PSt g) t_k244 := verK_ok (PSt_ok g) (PSt_ax g) (dk := 0) (AN := anOf a_k244) (anOf_ok trivial) (LN := lnOf l_k244) (lnOf_ok ⟨⟨l_sw0 g, trivial⟩, ⟨⟨l_sw1 g, trivial⟩, ⟨⟨l_sw2 g, trivial⟩, ⟨⟨l_sw3 g, trivial⟩, ⟨⟨l_sw4 g, trivial⟩, trivial⟩⟩⟩⟩⟩) (cuts := c_k244) (f := 3000) (by decide +kernel)
def t_k246 : KT := ((246, 1, 0, 0), [(2, 0, 40, 0), (1, 1, 0, 0), (1, 2, 1, 0)], [(0, 0), (-2147483648, 2147483647), (0, 396)], [(456, [(2, 0, 40, 0), (1, 2, 0, 0)]), (473, [(2, 0, 40, 0), (1, 2, 0, 0)]), (472, [(1, 1, 0, 0), (1, 2, 0, 0)])], (0, 0, 0), [(40, 16, 17), (48, 0, 400)], [(456, [(2, 0, 40, 0), (1, 2, 0, 4)]), (473, [(2, 0, 40, 0), (1, 2, 0, 4)])], ([], []), ([], []))
def c_k246 : List CUT := []
def a_k246 : List (Nat × KT) := []
def l_k246 : LNL := [(8, [(t_wb0, [[0], [500], [104561], [1]])]), (13, [(t_wb1_0, [[0], [0, 15], [104721], [1], [100812], [100822]]), (t_wb1_1, [[0], [0, 15], [104721], [1], [100812], [100822]]), (t_wb1_2, [[0], [0, 15], [104721], [1], [100812], [100822]]), (t_wb1_3, [[0], [0, 15], [104721], [1], [100812], [100822]])]), (14, [(t_wb2, [[0], [0, 15], [102971], [104750]])]), (22, [(t_wb3, [[0], [104760], [104761]])])]
theorem k_k246 (g : GG) : KOK Yt (PSt g) t_k246 := verK_ok (PSt_ok g) (PSt_ax g) (dk := 0) (AN := anOf a_k246) (anOf_ok trivial) (LN := lnOf l_k246) (lnOf_ok ⟨⟨l_wb0 g, trivial⟩, ⟨⟨l_wb1_0 g, ⟨l_wb1_1 g, ⟨l_wb1_2 g, ⟨l_wb1_3 g, trivial⟩⟩⟩⟩, ⟨⟨l_wb2 g, trivial⟩, ⟨⟨l_wb3 g, trivial⟩, trivial⟩⟩⟩⟩) (cuts := c_k246) (f := 3000) (by decide +kernel)
def t_k247 : KT := ((247, 2, 0, 0), [(2, 0, 40, 0), (1, 1, 0, 0), (1, 2, 0, 0), (1, 3, 0, 0), (1, 4, 0, 0), (1, 5, 0, 0), (1, 6, 1, 0)], [(0, 0), (-2147483648, 2147483647), (-2147483648, 2147483647), (-2147483648, 2147483647), (-2147483648, 2147483647), (-2147483648, 2147483647), (0, 400)], [(479, [(2, 0, 40, 0), (1, 6, 0, 0)]), (472, [(1, 1, 0, 0), (1, 6, 0, 0)]), (472, [(1, 2, 0, 0), (1, 6, 0, 4)]), (472, [(1, 3, 0, 0), (1, 6, 0, 8)]), (472, [(1, 4, 0, 0), (1, 6, 0, 12)]), (472, [(1, 5, 0, 0), (1, 6, 0, 16)])], (1, -1, 400), [(40, 0, 1), (40, 16, 17), (48, 0, 400)], [(477, [(1, 7, 0, 0), (1, 6, 0, 0)]), (480, [(2, 0, 40, 0), (1, 6, 0, 0)])], ([], []), ([], []))
def c_k247 : List CUT := []
def a_k247 : List (Nat × KT) := [(11, t_k246), (14, t_k246), (17, t_k246), (20, t_k246), (23, t_k246)]
def l_k247 : LNL := [(5, [(t_wfe0, [[0], [500], [104791]])]), (8, [(t_wfe1, [[0], [104760], [104761]])]), (11, [(t_wfe2, [[0], [104760], [104761]])]), (26, [(t_wfe3, [[0], [500], [104761]])])]
theorem k_k247 (g : GG) : KOK Yt (PSt g) t_k247 := verK_ok (PSt_ok g) (PSt_ax g) (dk := 1) (AN := anOf a_k247) (anOf_ok ⟨k_k246 g, ⟨k_k246 g, ⟨k_k246 g, ⟨k_k246 g, ⟨k_k246 g, trivial⟩⟩⟩⟩⟩) (LN := lnOf l_k247) (lnOf_ok ⟨⟨l_wfe0 g, trivial⟩, ⟨⟨l_wfe1 g, trivial⟩, ⟨⟨l_wfe2 g, trivial⟩, ⟨⟨l_wfe3 g, trivial⟩, trivial⟩⟩⟩⟩) (cuts := c_k247) (f := 3000) (by decide +kernel)
def t_k249 : KT := ((249, 1, 0, 0), [(2, 0, 40, 0), (1, 1, 0, 0)], [(0, 0), (-2147483648, 2147483647)], [], (1, -1, 15), [], [(467, [(1, 2, 0, 0), (1, 1, 0, 0)])], ([], []), ([], []))
def c_k249 : List CUT := []
def a_k249 : List (Nat × KT) := []
def l_k249 : LNL := [(9, [(t_udg1, [[1]])]), (23, [(t_udg2, [[1]]), (t_udg3, [[1]]), (t_udg4, [[1]]), (t_udg5, [[1]])])]
theorem k_k249 (g : GG) : KOK Yt (PSt g) t_k249 := verK_ok (PSt_ok g) (PSt_ax g) (dk := 0) (AN := anOf a_k249) (anOf_ok trivial) (LN := lnOf l_k249) (lnOf_ok ⟨⟨l_udg1 g, trivial⟩, ⟨⟨l_udg2 g, ⟨l_udg3 g, ⟨l_udg4 g, ⟨l_udg5 g, trivial⟩⟩⟩⟩, trivial⟩⟩) (cuts := c_k249) (f := 3000) (by decide +kernel)
def t_k250 : KT := ((250, 2, 0, 0), [(2, 0, 40, 0), (1, 1, 0, 0)], [(0, 0), (0, 400)], [(458, [(2, 0, 40, 0), (1, 1, 0, 0)])], (1, -1, 400), [(40, 20, 21), (40, 21, 22), (49, 0, 144), (50, 0, 144)], [(18, [(2, 0, 40, 0), (1, 2, 0, 0), (0, 0, 0, 0)]), (466, [(1, 2, 0, 0)]), (469, [(2, 0, 40, 0), (1, 2, 0, 0)])], ([], []), ([], []))
def c_k250 : List CUT := [(12, [0, 1, 2, 3, 4, 1020, 1021], [(2, 0, 40, 0), (1, 1, 0, 0), (1, 2, 0, 0), (1, 3, 0, 0), (1, 4, 0, 0), (1, 5, 0, 0), (1, 6, 0, 0)], [(0, 0), (0, 400), (0, 144), (0, 24), (0, 400), (0, 11), (0, 12)], [(2, 0, 40, 0), (1, 1, 0, 0), (1, 2, 0, 0), (1, 3, 0, 0), (1, 4, 0, 0), (7, 0, 0, 0), (7, 0, 0, 0)], [(0, [(2, 0, 40, 0), (1, 1, 0, 0)]), (14, [(1, 2, 0, 0), (1, 5, 0, 0), (1, 3, 0, 0)]), (6, [(1, 4, 0, 0), (1, 1, 0, 0)]), (458, [(2, 0, 40, 0), (1, 1, 0, 0)]), (470, [(1, 4, 0, 0), (1, 5, 0, 0), (1, 6, 0, 0), (1, 3, 0, 0)]), (481, [(2, 0, 40, 0), (1, 4, 0, 0), (1, 3, 0, 0), (1, 2, 0, 0)]), (461, [(1, 4, 0, 0)])], (0, 0), [(0, 0, 1), (1, 4, 400)])]
def a_k250 : List (Nat × KT) := [(92, t_k249), (126, t_k249), (131, t_k177), (148, t_k249)]
def l_k250 : LNL := [(11, [(t_rd0, [[2], [0, 20], [3]]), (t_le0n, [[500], [1]]), (t_urf0, [[0], [500], [3], [2], [0, 20], [0, 21]])]), (18, [(t_urf1, [[0], [4], [1]])]), (22, [(t_urf2, [[0], [0, 15], [500], [4], [1]])]), (45, [(t_urg1, [[4], [0, 20], [0, 21], [3], [100272]]), (t_urg2, [[4], [0, 20], [0, 21], [3]]), (t_urg3, [[4], [0, 20], [0, 21], [3], [100262]]), (t_urh1, [[104750], [4]]), (t_urh2, [[0], [4], [1]])]), (46, [(t_rd6, [[0], [4]]), (t_urv, [[0], [500]])]), (47, [(t_urg4, [[4], [0, 20], [0, 21], [3], [100272]]), (t_urg5, [[4], [0, 20], [0, 21], [3], [100272], [100262]])]), (65, [(t_urk1, [[0], [4], [1], [104931], [104932]])]), (66, [(t_rd6, [[0], [4]]), (t_urv, [[0], [500]])]), (67, [(t_rd5, [[0], [0, 20], [0, 21]]), (t_urk3, [[0], [4], [1], [104931], [104932], [100262]])]), (69, [(t_urkX, [[4], [1]])]), (73, [(t_urk4, [[104750], [4], [104931], [104932]])]), (74, [(t_rd6, [[0], [4]]), (t_urv, [[0], [500]])]), (77, [(t_rd4, [[2], [100141], [100142]]), (t_rd8, [[4], [1]]), (t_urk5, [[104750], [4], [104931], [104932], [100262], [0], [2]])]), (95, [(t_urs1, [[104750], [4], [0, 20], [0, 21], [3]]), (t_urs2, [[104750], [4], [0, 20], [0, 21], [3], [104670]])]), (96, [(t_rd6, [[0], [4]]), (t_urv, [[0], [500]])]), (102, [(t_rd1, [[2], [0, 20], [3]])]), (107, [(t_urs0, [[4], [3], [100272], [0], [0, 19], [2], [500]])]), (108, [(t_urs3a, [[104750], [4], [0, 20], [0, 21], [3], [100272], [104940]]), (t_urs3b, [[104750], [4], [0, 20], [0, 21], [3], [100272], [104940]])]), (109, [(t_rd6, [[0], [4]]), (t_urv, [[0], [500]])]), (110, [(t_urs4a, [[104750], [4], [0, 20], [0, 21], [3], [100272], [104940], [0], [2]]), (t_urs4b, [[104750], [4], [0, 20], [0, 21], [3], [100272], [104940], [0], [2], [104670]])]), (136, [(t_rd2, [[2], [0, 20], [3], [100272]])]), (138, [(t_rd1, [[2], [0, 20], [3]]), (t_rd3, [[2], [0, 20], [3]])]), (143, [(t_urs5a, [[104750], [4], [0, 20], [0, 21], [3], [100272], [0], [0, 19], [2]]), (t_urs5b, [[104750], [4], [0, 20], [0, 21], [3], [100272], [0], [0, 19], [2], [104670]])]), (153, [(t_rd8, [[4], [1]])]), (156, [(t_rd7, [[0], [4], [1]]), (t_urs7, [[0], [4], [1]])])]
theorem k_k250 (g : GG) : KOK Yt (PSt g) t_k250 := verK_ok (PSt_ok g) (PSt_ax g) (dk := 1) (AN := anOf a_k250) (anOf_ok ⟨k_k249 g, ⟨k_k249 g, ⟨k_k177 g, ⟨k_k249 g, trivial⟩⟩⟩⟩) (LN := lnOf l_k250) (lnOf_ok ⟨⟨l_rd0 g, ⟨l_le0n g, ⟨l_urf0 g, trivial⟩⟩⟩, ⟨⟨l_urf1 g, trivial⟩, ⟨⟨l_urf2 g, trivial⟩, ⟨⟨l_urg1 g, ⟨l_urg2 g, ⟨l_urg3 g, ⟨l_urh1 g, ⟨l_urh2 g, trivial⟩⟩⟩⟩⟩, ⟨⟨l_rd6 g, ⟨l_urv g, trivial⟩⟩, ⟨⟨l_urg4 g, ⟨l_urg5 g, trivial⟩⟩, ⟨⟨l_urk1 g, trivial⟩, ⟨⟨l_rd6 g, ⟨l_urv g, trivial⟩⟩, ⟨⟨l_rd5 g, ⟨l_urk3 g, trivial⟩⟩, ⟨⟨l_urkX g, trivial⟩, ⟨⟨l_urk4 g, trivial⟩, ⟨⟨l_rd6 g, ⟨l_urv g, trivial⟩⟩, ⟨⟨l_rd4 g, ⟨l_rd8 g, ⟨l_urk5 g, trivial⟩⟩⟩, ⟨⟨l_urs1 g, ⟨l_urs2 g, trivial⟩⟩, ⟨⟨l_rd6 g, ⟨l_urv g, trivial⟩⟩, ⟨⟨l_rd1 g, trivial⟩, ⟨⟨l_urs0 g, trivial⟩, ⟨⟨l_urs3a g, ⟨l_urs3b g, trivial⟩⟩, ⟨⟨l_rd6 g, ⟨l_urv g, trivial⟩⟩, ⟨⟨l_urs4a g, ⟨l_urs4b g, trivial⟩⟩, ⟨⟨l_rd2 g, trivial⟩, ⟨⟨l_rd1 g, ⟨l_rd3 g, trivial⟩⟩, ⟨⟨l_urs5a g, ⟨l_urs5b g, trivial⟩⟩, ⟨⟨l_rd8 g, trivial⟩, ⟨⟨l_rd7 g, ⟨l_urs7 g, trivial⟩⟩, trivial⟩⟩⟩⟩⟩⟩⟩⟩⟩⟩⟩⟩⟩⟩⟩⟩⟩⟩⟩⟩⟩⟩⟩⟩⟩) (cuts := c_k250) (f := 3000) (by decide +kernel)
def t_k165_2 : KT := ((165, 1, 0, 0), [(2, 0, 40, 0), (1, 1, 0, 0), (1, 2, 0, 0), (1, 3, 0, 0)], [(0, 0), (-2147483648, 2147483647), (0, 0), (6, 6)], [], (2, 0, 1), [], [], ([(1, 0, 6)], []), ([], []))
def c_k165_2 : List CUT := []
def a_k165_2 : List (Nat × KT) := []
def l_k165_2 : LNL := []
theorem k_k165_2 (g : GG) : KOK Yt (PSt g) t_k165_2 := verK_ok (PSt_ok g) (PSt_ax g) (dk := 0) (AN := anOf a_k165_2) (anOf_ok trivial) (LN := lnOf l_k165_2) (lnOf_ok trivial) (cuts := c_k165_2) (f := 3000) (by decide +kernel)
def t_k256 : KT := ((256, 6, 0, 0), [(2, 0, 40, 0), (1, 1, 0, 0), (1, 2, 0, 0)], [(0, 0), (-2147483648, 2147483647), (-2147483648, 2147483647)], [], (1, -2147483648, 2147483647), [(40, 0, 1)], [], ([], []), ([], []))
def c_k256 : List CUT := []
def a_k256 : List (Nat × KT) := [(5, t_k179), (11, t_k165_2), (20, t_k180), (23, t_k181e), (24, t_k178p), (31, t_k182), (62, t_k230), (73, t_k231), (81, t_k184)]
def l_k256 : LNL := []
theorem k_k256 (g : GG) : KOK Yt (PSt g) t_k256 := verK_ok (PSt_ok g) (PSt_ax g) (dk := 5) (AN := anOf a_k256) (anOf_ok ⟨k_k179 g, ⟨k_k165_2 g, ⟨k_k180 g, ⟨k_k181e g, ⟨k_k178p g, ⟨k_k182 g, ⟨k_k230 g, ⟨k_k231 g, ⟨k_k184 g, trivial⟩⟩⟩⟩⟩⟩⟩⟩⟩) (LN := lnOf l_k256) (lnOf_ok trivial) (cuts := c_k256) (f := 3000) (by decide +kernel)
def t_k257 : KT := ((257, 6, 0, 0), [(2, 0, 40, 0), (1, 1, 0, 0)], [(0, 0), (-2147483648, 2147483647)], [], (1, -1000, 1), [(40, 0, 1)], [], ([], []), ([], []))
def c_k257 : List CUT := []
def a_k257 : List (Nat × KT) := [(5, t_k205), (9, t_k206)]
def l_k257 : LNL := []
theorem k_k257 (g : GG) : KOK Yt (PSt g) t_k257 := verK_ok (PSt_ok g) (PSt_ax g) (dk := 5) (AN := anOf a_k257) (anOf_ok ⟨k_k205 g, ⟨k_k206 g, trivial⟩⟩) (LN := lnOf l_k257) (lnOf_ok trivial) (cuts := c_k257) (f := 3000) (by decide +kernel)
def t_k165_3 : KT := ((165, 1, 0, 0), [(2, 0, 40, 0), (1, 1, 0, 0), (1, 2, 0, 0), (1, 3, 0, 0)], [(0, 0), (-2147483648, 2147483647), (0, 0), (-1, 143)], [], (2, 0, 1), [], [], ([(1, 0, 143), (3, 0, 143)], []), ([], []))
def c_k165_3 : List CUT := []
def a_k165_3 : List (Nat × KT) := []
def l_k165_3 : LNL := []
theorem k_k165_3 (g : GG) : KOK Yt (PSt g) t_k165_3 := verK_ok (PSt_ok g) (PSt_ax g) (dk := 0) (AN := anOf a_k165_3) (anOf_ok trivial) (LN := lnOf l_k165_3) (lnOf_ok trivial) (cuts := c_k165_3) (f := 3000) (by decide +kernel)
def t_k258 : KT := ((258, 7, 0, 0), [(2, 0, 40, 0), (1, 1, 0, 0)], [(0, 0), (-2147483648, 2147483647)], [], (1, -1, 144), [(40, 0, 1), (40, 9, 10), (44, 0, 144)], [], ([], []), ([], []))
def c_k258 : List CUT := []
def a_k258 : List (Nat × KT) := [(4, t_k210), (18, t_k165_3)]
def l_k258 : LNL := []
theorem k_k258 (g : GG) : KOK Yt (PSt g) t_k258 := verK_ok (PSt_ok g) (PSt_ax g) (dk := 6) (AN := anOf a_k258) (anOf_ok ⟨k_k210 g, ⟨k_k165_3 g, trivial⟩⟩) (LN := lnOf l_k258) (lnOf_ok trivial) (cuts := c_k258) (f := 3000) (by decide +kernel)
def t_k259 : KT := ((259, 6, 0, 0), [(2, 0, 40, 0), (1, 1, 0, 0), (1, 2, 0, 0)], [(0, 0), (-2147483648, 2147483647), (-2147483648, 2147483647)], [], (1, -76, 254), [(40, 0, 1)], [], ([], []), ([], []))
def c_k259 : List CUT := []
def a_k259 : List (Nat × KT) := [(5, t_k205), (12, t_k205), (21, t_k209), (26, t_k198)]
def l_k259 : LNL := []
theorem k_k259 (g : GG) : KOK Yt (PSt g) t_k259 := verK_ok (PSt_ok g) (PSt_ax g) (dk := 5) (AN := anOf a_k259) (anOf_ok ⟨k_k205 g, ⟨k_k205 g, ⟨k_k209 g, ⟨k_k198 g, trivial⟩⟩⟩⟩) (LN := lnOf l_k259) (lnOf_ok trivial) (cuts := c_k259) (f := 3000) (by decide +kernel)
def t_k260 : KT := ((260, 2, 0, 0), [(2, 0, 40, 0), (1, 1, 0, 0), (1, 2, 0, 0)], [(0, 0), (-2147483648, 2147483647), (-2147483648, 2147483647)], [], (1, -2147483648, 2147483647), [(40, 0, 1)], [], ([], []), ([], []))
def c_k260 : List CUT := []
def a_k260 : List (Nat × KT) := [(20, t_k165_3), (26, t_k165_0)]
def l_k260 : LNL := []
theorem k_k260 (g : GG) : KOK Yt (PSt g) t_k260 := verK_ok (PSt_ok g) (PSt_ax g) (dk := 1) (AN := anOf a_k260) (anOf_ok ⟨k_k165_3 g, ⟨k_k165_0 g, trivial⟩⟩) (LN := lnOf l_k260) (lnOf_ok trivial) (cuts := c_k260) (f := 3000) (by decide +kernel)
def t_k261 : KT := ((261, 3, 0, 0), [(2, 0, 40, 0), (1, 1, 0, 0)], [(0, 0), (-2147483648, 2147483647)], [], (1, -2147483648, 2147483647), [], [], ([], []), ([], []))
def c_k261 : List CUT := [(4, [0, 1, 2, 3], [(2, 0, 40, 0), (1, 1, 0, 0), (1, 2, 0, 0), (1, 3, 0, 0)], [(0, 0), (-2147483648, 2147483647), (-2147483648, 2147483647), (0, 144)], [(2, 0, 40, 0), (1, 1, 0, 0), (1, 2, 0, 0), (1, 3, 0, 0)], [(0, [(2, 0, 40, 0), (1, 1, 0, 0)])], (0, 0), [(0, 0, 1), (1, 3, 144)])]
def a_k261 : List (Nat × KT) := [(6, t_k168), (10, t_k173p)]
def l_k261 : LNL := []
theorem k_k261 (g : GG) : KOK Yt (PSt g) t_k261 := verK_ok (PSt_ok g) (PSt_ax g) (dk := 2) (AN := anOf a_k261) (anOf_ok ⟨k_k168 g, ⟨k_k173p g, trivial⟩⟩) (LN := lnOf l_k261) (lnOf_ok trivial) (cuts := c_k261) (f := 3000) (by decide +kernel)
def t_k262 : KT := ((262, 5, 0, 0), [(2, 0, 40, 0), (1, 1, 0, 0)], [(0, 0), (-2147483648, 2147483647)], [], (1, -2147483648, 2147483647), [], [], ([], []), ([], []))
def c_k262 : List CUT := [(4, [0, 1, 2, 3], [(2, 0, 40, 0), (1, 1, 0, 0), (1, 2, 0, 0), (1, 3, 0, 0)], [(0, 0), (-2147483648, 2147483647), (-2147483648, 2147483647), (0, 288)], [(2, 0, 40, 0), (1, 1, 0, 0), (1, 2, 0, 0), (1, 3, 0, 0), (7, 0, 0, 0), (7, 0, 0, 0)], [(0, [(2, 0, 40, 0), (1, 1, 0, 0)])], (0, 0), [(0, 0, 1), (1, 3, 288)])]
def a_k262 : List (Nat × KT) := [(7, t_k168), (12, t_k229), (20, t_k180), (34, t_k181e)]
def l_k262 : LNL := []
theorem k_k262 (g : GG) : KOK Yt (PSt g) t_k262 := verK_ok (PSt_ok g) (PSt_ax g) (dk := 4) (AN := anOf a_k262) (anOf_ok ⟨k_k168 g, ⟨k_k229 g, ⟨k_k180 g, ⟨k_k181e g, trivial⟩⟩⟩⟩) (LN := lnOf l_k262) (lnOf_ok trivial) (cuts := c_k262) (f := 3000) (by decide +kernel)
def t_k263 : KT := ((263, 6, 0, 0), [(2, 0, 40, 0), (1, 1, 0, 0), (1, 2, 0, 0)], [(0, 0), (-2147483648, 2147483647), (-2147483648, 2147483647)], [], (1, -2147483648, 2147483647), [(40, 0, 1)], [], ([], []), ([], []))
def c_k263 : List CUT := []
def a_k263 : List (Nat × KT) := [(5, t_k234), (23, t_k261), (40, t_k262)]
def l_k263 : LNL := []
theorem k_k263 (g : GG) : KOK Yt (PSt g) t_k263 := verK_ok (PSt_ok g) (PSt_ax g) (dk := 5) (AN := anOf a_k263) (anOf_ok ⟨k_k234 g, ⟨k_k261 g, ⟨k_k262 g, trivial⟩⟩⟩) (LN := lnOf l_k263) (lnOf_ok trivial) (cuts := c_k263) (f := 3000) (by decide +kernel)
def t_k165_4 : KT := ((165, 1, 0, 0), [(2, 0, 40, 0), (1, 1, 0, 0), (1, 2, 0, 0), (1, 3, 0, 0)], [(0, 0), (-2147483648, 2147483647), (0, 0), (1, 11)], [], (2, 0, 1), [], [], ([(1, 0, 11)], []), ([], []))
def c_k165_4 : List CUT := []
def a_k165_4 : List (Nat × KT) := []
def l_k165_4 : LNL := []
theorem k_k165_4 (g : GG) : KOK Yt (PSt g) t_k165_4 := verK_ok (PSt_ok g) (PSt_ax g) (dk := 0) (AN := anOf a_k165_4) (anOf_ok trivial) (LN := lnOf l_k165_4) (lnOf_ok trivial) (cuts := c_k165_4) (f := 3000) (by decide +kernel)
def t_k165_5 : KT := ((165, 1, 0, 0), [(2, 0, 40, 0), (1, 1, 0, 0), (1, 2, 0, 0), (1, 3, 0, 0)], [(0, 0), (-2147483648, 2147483647), (1, 12), (1, 11)], [], (2, 0, 1), [], [], ([(1, 1, 11)], []), ([], []))
def c_k165_5 : List CUT := []
def a_k165_5 : List (Nat × KT) := []
def l_k165_5 : LNL := []
theorem k_k165_5 (g : GG) : KOK Yt (PSt g) t_k165_5 := verK_ok (PSt_ok g) (PSt_ax g) (dk := 0) (AN := anOf a_k165_5) (anOf_ok trivial) (LN := lnOf l_k165_5) (lnOf_ok trivial) (cuts := c_k165_5) (f := 3000) (by decide +kernel)
def t_k264 : KT := ((264, 3, 0, 0), [(2, 0, 40, 0), (1, 1, 0, 0), (1, 2, 0, 0), (1, 3, 0, 0), (1, 4, 0, 0)], [(0, 0), (-2147483648, 2147483647), (-2147483648, 2147483647), (-2147483648, 2147483647), (-2147483648, 2147483647)], [], (1, -8421504, 8421504), [(40, 0, 1)], [], ([], []), ([], []))
def c_k264 : List CUT := [(49, [0, 1, 2, 3, 4, 5, 6, 1000], [(2, 0, 40, 0), (1, 1, 0, 0), (1, 2, 0, 0), (1, 3, 0, 0), (1, 4, 0, 0), (1, 5, 0, 0), (1, 6, 0, 0), (1, 7, 0, 0)], [(0, 0), (0, 11), (1, 11), (0, 11), (1, 11), (-2147483648, 2147483647), (0, 12), (0, 0)], [(2, 0, 40, 0), (1, 1, 0, 0), (1, 2, 0, 0), (1, 3, 0, 0), (1, 4, 0, 0), (1, 5, 0, 0), (1, 6, 0, 0), (7, 0, 0, 0), (7, 0, 0, 0)], [(0, [(2, 0, 40, 0), (1, 1, 0, 0), (1, 2, 0, 0), (1, 3, 0, 0), (1, 4, 0, 0)])], (0, 0), [(0, 0, 2), (1, 6, 12)]), (99, [0, 1, 2, 3, 4, 5, 6, 1000], [(2, 0, 40, 0), (1, 1, 0, 0), (1, 2, 0, 0), (1, 3, 0, 0), (1, 4, 0, 0), (1, 5, 0, 0), (1, 6, 0, 0), (1, 7, 0, 0)], [(0, 0), (0, 11), (1, 11), (0, 11), (1, 11), (-2147483648, 2147483647), (0, 12), (0, 0)], [(2, 0, 40, 0), (1, 1, 0, 0), (1, 2, 0, 0), (1, 3, 0, 0), (1, 4, 0, 0), (1, 5, 0, 0), (1, 6, 0, 0), (7, 0, 0, 0), (7, 0, 0, 0)], [(0, [(2, 0, 40, 0), (1, 1, 0, 0), (1, 2, 0, 0), (1, 3, 0, 0), (1, 4, 0, 0)])], (0, 0), [(0, 0, 1), (1, 6, 12)])]
def a_k264 : List (Nat × KT) := [(7, t_k166), (10, t_k165_4), (18, t_k166), (21, t_k165_5), (27, t_k167), (30, t_k165_4), (38, t_k167), (41, t_k165_5), (54, t_k167), (61, t_k167), (68, t_k172p), (72, t_k172p), (85, t_k178), (92, t_k178), (104, t_k167), (111, t_k167), (118, t_k172p), (122, t_k172p), (134, t_k167), (136, t_k178), (141, t_k167), (144, t_k178)]
def l_k264 : LNL := []
theorem k_k264 (g : GG) : KOK Yt (PSt g) t_k264 := verK_ok (PSt_ok g) (PSt_ax g) (dk := 2) (AN := anOf a_k264) (anOf_ok ⟨k_k166 g, ⟨k_k165_4 g, ⟨k_k166 g, ⟨k_k165_5 g, ⟨k_k167 g, ⟨k_k165_4 g, ⟨k_k167 g, ⟨k_k165_5 g, ⟨k_k167 g, ⟨k_k167 g, ⟨k_k172p g, ⟨k_k172p g, ⟨k_k178 g, ⟨k_k178 g, ⟨k_k167 g, ⟨k_k167 g, ⟨k_k172p g, ⟨k_k172p g, ⟨k_k167 g, ⟨k_k178 g, ⟨k_k167 g, ⟨k_k178 g, trivial⟩⟩⟩⟩⟩⟩⟩⟩⟩⟩⟩⟩⟩⟩⟩⟩⟩⟩⟩⟩⟩⟩) (LN := lnOf l_k264) (lnOf_ok trivial) (cuts := c_k264) (f := 3000) (by decide +kernel)
def t_k265 : KT := ((265, 3, 0, 0), [(2, 0, 40, 0), (1, 1, 0, 0)], [(0, 0), (-2147483648, 2147483647)], [], (3, 0, 0), [(40, 0, 1)], [], ([], []), ([], []))
def c_k265 : List CUT := [(13, [0, 1, 4, 1000], [(2, 0, 40, 0), (1, 1, 0, 0), (1, 2, 0, 0), (1, 3, 0, 0)], [(0, 0), (0, 143), (0, 144), (0, 0)], [(2, 0, 40, 0), (1, 1, 0, 0), (4, 0, 0, 0), (7, 0, 0, 0), (1, 2, 0, 0)], [(0, [(2, 0, 40, 0), (1, 1, 0, 0)])], (0, 0), [(0, 0, 1), (1, 4, 144)])]
def a_k265 : List (Nat × KT) := [(5, t_k234), (15, t_k168), (19, t_k173p)]
def l_k265 : LNL := []
theorem k_k265 (g : GG) : KOK Yt (PSt g) t_k265 := verK_ok (PSt_ok g) (PSt_ax g) (dk := 2) (AN := anOf a_k265) (anOf_ok ⟨k_k234 g, ⟨k_k168 g, ⟨k_k173p g, trivial⟩⟩⟩) (LN := lnOf l_k265) (lnOf_ok trivial) (cuts := c_k265) (f := 3000) (by decide +kernel)
def t_k266 : KT := ((266, 3, 0, 0), [(2, 0, 40, 0), (1, 1, 0, 0), (4, 0, 0, 0)], [(0, 0), (-2147483648, 2147483647), (0, 0)], [], (3, 0, 0), [(40, 0, 1)], [], ([], []), ([], []))
def c_k266 : List CUT := [(13, [0, 1, 6, 1000], [(2, 0, 40, 0), (1, 1, 0, 0), (1, 2, 0, 0), (1, 3, 0, 0)], [(0, 0), (-2147483648, 2147483647), (0, 144), (0, 0)], [(2, 0, 40, 0), (1, 1, 0, 0), (4, 0, 0, 0), (7, 0, 0, 0), (4, 0, 0, 0), (7, 0, 0, 0), (1, 2, 0, 0), (7, 0, 0, 0), (7, 0, 0, 0)], [(0, [(2, 0, 40, 0), (1, 1, 0, 0), (4, 0, 0, 0)])], (0, 0), [(0, 0, 1), (1, 6, 144)])]
def a_k266 : List (Nat × KT) := [(15, t_k168), (19, t_k173p)]
def l_k266 : LNL := []
theorem k_k266 (g : GG) : KOK Yt (PSt g) t_k266 := verE_ok (PSt_ok g) (PSt_ax g) (dk := 2) (AN := anOf a_k266) (anOf_ok ⟨k_k168 g, ⟨k_k173p g, trivial⟩⟩) (LN := lnOf l_k266) (lnOf_ok trivial) (EP := powE t_k266 62) (powE_ok (pc := 115) (i1 := 324) (i2 := 318) (by decide +kernel) rfl ⟨⟨by decide +kernel, by decide +kernel, by decide +kernel, by decide +kernel, by decide +kernel, by decide +kernel, by decide +kernel, by decide +kernel, by decide +kernel⟩, ⟨by decide +kernel, by decide +kernel, by decide +kernel, by decide +kernel, by decide +kernel, by decide +kernel, by decide +kernel⟩, by decide +kernel, by decide +kernel, by decide +kernel⟩) (cuts := c_k266) (f := 3000) (by decide +kernel)
def t_k267 : KT := ((267, 3, 0, 0), [(2, 0, 40, 0), (1, 1, 0, 0)], [(0, 0), (0, 1)], [], (1, -1, 143), [], [], ([], []), ([], []))
def c_k267 : List CUT := [(4, [0, 1, 2, 3], [(2, 0, 40, 0), (1, 1, 0, 0), (1, 2, 0, 0), (1, 3, 0, 0)], [(0, 0), (0, 1), (-1, 143), (0, 144)], [(2, 0, 40, 0), (1, 1, 0, 0), (1, 2, 0, 0), (1, 3, 0, 0)], [(0, [(2, 0, 40, 0), (1, 1, 0, 0)])], (0, 0), [(0, 0, 1), (1, 3, 144)])]
def a_k267 : List (Nat × KT) := [(6, t_k168), (10, t_k173p)]
def l_k267 : LNL := []
theorem k_k267 (g : GG) : KOK Yt (PSt g) t_k267 := verK_ok (PSt_ok g) (PSt_ax g) (dk := 2) (AN := anOf a_k267) (anOf_ok ⟨k_k168 g, ⟨k_k173p g, trivial⟩⟩) (LN := lnOf l_k267) (lnOf_ok trivial) (cuts := c_k267) (f := 3000) (by decide +kernel)
def t_k165_6 : KT := ((165, 1, 0, 0), [(2, 0, 40, 0), (1, 1, 0, 0), (1, 2, 0, 0), (1, 3, 0, 0)], [(0, 0), (-2147483648, 2147483647), (0, 0), (3, 3)], [], (2, 0, 1), [], [], ([(1, 0, 3)], []), ([], []))
def c_k165_6 : List CUT := []
def a_k165_6 : List (Nat × KT) := []
def l_k165_6 : LNL := []
theorem k_k165_6 (g : GG) : KOK Yt (PSt g) t_k165_6 := verK_ok (PSt_ok g) (PSt_ax g) (dk := 0) (AN := anOf a_k165_6) (anOf_ok trivial) (LN := lnOf l_k165_6) (lnOf_ok trivial) (cuts := c_k165_6) (f := 3000) (by decide +kernel)
def t_k268 : KT := ((268, 4, 0, 0), [(2, 0, 40, 0), (1, 1, 0, 0)], [(0, 0), (-2147483648, 2147483647)], [], (1, -2147483648, 2147483647), [(40, 0, 1)], [], ([], []), ([], []))
def c_k268 : List CUT := []
def a_k268 : List (Nat × KT) := [(7, t_k165_6), (20, t_k267)]
def l_k268 : LNL := []
theorem k_k268 (g : GG) : KOK Yt (PSt g) t_k268 := verK_ok (PSt_ok g) (PSt_ax g) (dk := 3) (AN := anOf a_k268) (anOf_ok ⟨k_k165_6 g, ⟨k_k267 g, trivial⟩⟩) (LN := lnOf l_k268) (lnOf_ok trivial) (cuts := c_k268) (f := 3000) (by decide +kernel)
def t_k165_7 : KT := ((165, 1, 0, 0), [(2, 0, 40, 0), (1, 1, 0, 0), (1, 2, 0, 0), (1, 3, 0, 0)], [(0, 0), (-2147483648, 2147483647), (-2147483648, 2147483647), (-2147483648, 2147483647)], [], (2, 0, 1), [], [], ([], []), ([], []))
def c_k165_7 : List CUT := []
def a_k165_7 : List (Nat × KT) := []
def l_k165_7 : LNL := []
theorem k_k165_7 (g : GG) : KOK Yt (PSt g) t_k165_7 := verK_ok (PSt_ok g) (PSt_ax g) (dk := 0) (AN := anOf a_k165_7) (anOf_ok trivial) (LN := lnOf l_k165_7) (lnOf_ok trivial) (cuts := c_k165_7) (f := 3000) (by decide +kernel)
def t_k269 : KT := ((269, 3, 0, 0), [(2, 0, 40, 0), (1, 1, 0, 0), (1, 2, 0, 0)], [(0, 0), (-2147483648, 2147483647), (-2147483648, 2147483647)], [], (1, -2147483648, 2147483647), [(40, 0, 1)], [], ([], []), ([], []))
def c_k269 : List CUT := [(7, [0, 1, 2, 3, 4, 1000], [(2, 0, 40, 0), (1, 1, 0, 0), (1, 2, 0, 0), (1, 3, 0, 0), (1, 4, 0, 0), (1, 5, 0, 0)], [(0, 0), (-2147483648, 2147483647), (-2147483648, 2147483647), (-2147483648, 2147483647), (0, 144), (0, 0)], [(2, 0, 40, 0), (1, 1, 0, 0), (1, 2, 0, 0), (1, 3, 0, 0), (1, 4, 0, 0)], [(0, [(2, 0, 40, 0), (1, 1, 0, 0), (1, 2, 0, 0)])], (0, 0), [(0, 0, 1), (1, 4, 144)])]
def a_k269 : List (Nat × KT) := [(9, t_k168), (13, t_k173p), (24, t_k165_7)]
def l_k269 : LNL := []
theorem k_k269 (g : GG) : KOK Yt (PSt g) t_k269 := verK_ok (PSt_ok g) (PSt_ax g) (dk := 2) (AN := anOf a_k269) (anOf_ok ⟨k_k168 g, ⟨k_k173p g, ⟨k_k165_7 g, trivial⟩⟩⟩) (LN := lnOf l_k269) (lnOf_ok trivial) (cuts := c_k269) (f := 3000) (by decide +kernel)
def t_k270 : KT := ((270, 2, 0, 0), [(2, 0, 40, 0), (1, 1, 0, 0), (1, 2, 0, 0)], [(0, 0), (0, 143), (-2147483648, 2147483647)], [], (2, 0, 1), [], [], ([], []), ([], []))
def c_k270 : List CUT := []
def a_k270 : List (Nat × KT) := [(2, t_k173p)]
def l_k270 : LNL := []
theorem k_k270 (g : GG) : KOK Yt (PSt g) t_k270 := verK_ok (PSt_ok g) (PSt_ax g) (dk := 1) (AN := anOf a_k270) (anOf_ok ⟨k_k173p g, trivial⟩) (LN := lnOf l_k270) (lnOf_ok trivial) (cuts := c_k270) (f := 3000) (by decide +kernel)
def t_k272 : KT := ((272, 3, 0, 0), [(2, 0, 40, 0), (1, 1, 0, 0), (1, 2, 0, 0)], [(0, 0), (-2147483648, 2147483647), (-2147483648, 2147483647)], [], (1, -2147483648, 2147483647), [], [], ([], []), ([], []))
def c_k272 : List CUT := [(4, [0, 1, 2, 3, 4], [(2, 0, 40, 0), (1, 1, 0, 0), (1, 2, 0, 0), (1, 3, 0, 0), (1, 4, 0, 0)], [(0, 0), (-2147483648, 2147483647), (-2147483648, 2147483647), (-2147483648, 2147483647), (0, 144)], [(2, 0, 40, 0), (1, 1, 0, 0), (1, 2, 0, 0), (1, 3, 0, 0), (1, 4, 0, 0)], [(0, [(2, 0, 40, 0), (1, 1, 0, 0), (1, 2, 0, 0)])], (0, 0), [(0, 0, 1), (1, 4, 144)])]
def a_k272 : List (Nat × KT) := [(6, t_k168), (11, t_k270)]
def l_k272 : LNL := []
theorem k_k272 (g : GG) : KOK Yt (PSt g) t_k272 := verK_ok (PSt_ok g) (PSt_ax g) (dk := 2) (AN := anOf a_k272) (anOf_ok ⟨k_k168 g, ⟨k_k270 g, trivial⟩⟩) (LN := lnOf l_k272) (lnOf_ok trivial) (cuts := c_k272) (f := 3000) (by decide +kernel)
def t_k274 : KT := ((274, 4, 0, 0), [(2, 0, 40, 0), (1, 1, 0, 0)], [(0, 0), (0, 143)], [(95, [(2, 0, 40, 0), (1, 1, 0, 0)])], (2, 0, 1), [], [], ([], []), ([], []))
def c_k274 : List CUT := [(8, [0, 1, 2], [(2, 0, 40, 0), (1, 1, 0, 0), (1, 2, 0, 0)], [(0, 0), (0, 143), (0, 4)], [(2, 0, 40, 0), (1, 1, 0, 0), (1, 2, 0, 0), (7, 0, 0, 0)], [(0, [(2, 0, 40, 0), (1, 1, 0, 0)]), (95, [(2, 0, 40, 0), (1, 1, 0, 0)])], (0, 0), [(0, 0, 1), (1, 2, 4)])]
def a_k274 : List (Nat × KT) := [(2, t_k173p), (14, t_k195), (21, t_k172p), (25, t_k173p)]
def l_k274 : LNL := []
theorem k_k274 (g : GG) : KOK Yt (PSt g) t_k274 := verK_ok (PSt_ok g) (PSt_ax g) (dk := 3) (AN := anOf a_k274) (anOf_ok ⟨k_k173p g, ⟨k_k195 g, ⟨k_k172p g, ⟨k_k173p g, trivial⟩⟩⟩⟩) (LN := lnOf l_k274) (lnOf_ok trivial) (cuts := c_k274) (f := 3000) (by decide +kernel)
def t_k275 : KT := ((275, 5, 0, 0), [(2, 0, 40, 0), (1, 1, 0, 0)], [(0, 0), (-2147483648, 2147483647)], [], (1, -2147483648, 2147483647), [(40, 0, 1)], [], ([], []), ([], []))
def c_k275 : List CUT := [(7, [0, 1, 2, 3, 1000], [(2, 0, 40, 0), (1, 1, 0, 0), (1, 2, 0, 0), (1, 3, 0, 0), (1, 4, 0, 0)], [(0, 0), (-2147483648, 2147483647), (-2147483648, 2147483647), (0, 144), (0, 0)], [(2, 0, 40, 0), (1, 1, 0, 0), (1, 2, 0, 0), (1, 3, 0, 0)], [(0, [(2, 0, 40, 0), (1, 1, 0, 0)])], (0, 0), [(0, 0, 1), (1, 3, 144)])]
def a_k275 : List (Nat × KT) := [(9, t_k168), (13, t_k274)]
def l_k275 : LNL := [(11, [(t_mpx, [[0], [3], [100941]])])]
theorem k_k275 (g : GG) : KOK Yt (PSt g) t_k275 := verK_ok (PSt_ok g) (PSt_ax g) (dk := 4) (AN := anOf a_k275) (anOf_ok ⟨k_k168 g, ⟨k_k274 g, trivial⟩⟩) (LN := lnOf l_k275) (lnOf_ok ⟨⟨l_mpx g, trivial⟩, trivial⟩) (cuts := c_k275) (f := 3000) (by decide +kernel)
def t_k276 : KT := ((276, 4, 0, 0), [(2, 0, 40, 0), (1, 1, 0, 0), (1, 2, 0, 0)], [(0, 0), (-2147483648, 2147483647), (-2147483648, 2147483647)], [], (1, -1, 143), [(40, 0, 1)], [], ([], []), ([], []))
def c_k276 : List CUT := [(19, [0, 1, 2, 3, 4, 1000], [(2, 0, 40, 0), (1, 1, 0, 0), (1, 2, 0, 0), (1, 3, 0, 0), (1, 4, 0, 0), (1, 5, 0, 0)], [(0, 0), (0, 143), (0, 2147483647), (-1, 143), (0, 2147483647), (0, 0)], [(2, 0, 40, 0), (1, 1, 0, 0), (1, 2, 0, 0), (1, 3, 0, 0), (1, 4, 0, 0)], [(0, [(2, 0, 40, 0), (1, 1, 0, 0), (1, 2, 0, 0)])], (0, 0), [(0, 0, 1), (1, 4, 2147483647)])]
def a_k276 : List (Nat × KT) := [(5, t_k169), (9, t_k173p)]
def l_k276 : LNL := []
theorem k_k276 (g : GG) : KOK Yt (PSt g) t_k276 := verK_ok (PSt_ok g) (PSt_ax g) (dk := 3) (AN := anOf a_k276) (anOf_ok ⟨k_k169 g, ⟨k_k173p g, trivial⟩⟩) (LN := lnOf l_k276) (lnOf_ok trivial) (cuts := c_k276) (f := 3000) (by decide +kernel)
def t_k278 : KT := ((278, 3, 0, 0), [(2, 0, 40, 0), (2, 1, 52, 0)], [(0, 0), (0, 0)], [], (1, -2147483648, 2147483647), [], [], ([], []), ([], []))
def c_k278 : List CUT := [(4, [0, 1, 2, 3], [(2, 0, 40, 0), (2, 1, 52, 0), (1, 2, 0, 0), (1, 3, 0, 0)], [(0, 0), (0, 0), (-2147483648, 2147483647), (0, 144)], [(2, 0, 40, 0), (2, 1, 52, 0), (1, 2, 0, 0), (1, 3, 0, 0)], [(0, [(2, 0, 40, 0), (2, 1, 52, 0)])], (0, 0), [(0, 0, 1), (1, 3, 144)])]
def a_k278 : List (Nat × KT) := [(6, t_k168)]
def l_k278 : LNL := []
theorem k_k278 (g : GG) : KOK Yt (PSt g) t_k278 := verK_ok (PSt_ok g) (PSt_ax g) (dk := 2) (AN := anOf a_k278) (anOf_ok ⟨k_k168 g, trivial⟩) (LN := lnOf l_k278) (lnOf_ok trivial) (cuts := c_k278) (f := 3000) (by decide +kernel)
def t_k281 : KT := ((281, 2, 0, 0), [(2, 0, 40, 0), (1, 1, 0, 0), (1, 2, 0, 0)], [(0, 0), (-2147483648, 2147483647), (-2147483648, 2147483647)], [], (1, -2147483648, 2147483647), [(40, 0, 1)], [], ([], []), ([], []))
def c_k281 : List CUT := []
def a_k281 : List (Nat × KT) := [(16, t_k165_0)]
def l_k281 : LNL := [(29, [(t_lg, [[1], [0, 5], [500]])])]
theorem k_k281 (g : GG) : KOK Yt (PSt g) t_k281 := verK_ok (PSt_ok g) (PSt_ax g) (dk := 1) (AN := anOf a_k281) (anOf_ok ⟨k_k165_0 g, trivial⟩) (LN := lnOf l_k281) (lnOf_ok ⟨⟨l_lg g, trivial⟩, trivial⟩) (cuts := c_k281) (f := 3000) (by decide +kernel)
def t_k282_1 : KT := ((282, 1, 0, 0), [(2, 0, 40, 0), (1, 1, 0, 0)], [(0, 0), (1, 1)], [(100, [(2, 0, 40, 0)]), (101, [(2, 0, 40, 0)]), (107, [(2, 0, 40, 0)]), (108, [(2, 0, 40, 0)]), (77, [(2, 0, 40, 0), (0, 0, 0, 0), (0, 0, 0, 0)])], (2, 0, 1), [(40, 0, 1), (40, 23, 24), (40, 26, 27), (40, 27, 28), (42, 0, 180), (53, 0, 2314)], [], ([], [(100, [(2, 0, 40, 0)]), (101, [(2, 0, 40, 0)]), (107, [(2, 0, 40, 0)]), (108, [(2, 0, 40, 0)]), (430, [(2, 0, 40, 0), (0, 0, 0, 0)])]), ([], [(100, [(2, 0, 40, 0)]), (101, [(2, 0, 40, 0)]), (107, [(2, 0, 40, 0)]), (108, [(2, 0, 40, 0)]), (430, [(2, 0, 40, 0), (0, 0, 0, 0)])]))
def c_k282_1 : List CUT := [(15, [0, 1, 2, 1000, 1023], [(2, 0, 40, 0), (1, 1, 0, 0), (1, 2, 0, 0), (1, 3, 0, 0), (1, 4, 0, 0)], [(0, 0), (1, 1), (0, 2314), (0, 0), (1, 1)], [(2, 0, 40, 0), (1, 1, 0, 0), (1, 2, 0, 0)], [(0, [(2, 0, 40, 0), (1, 1, 0, 0)]), (107, [(2, 0, 40, 0)]), (100, [(2, 0, 40, 0)]), (101, [(2, 0, 40, 0)]), (112, [(2, 0, 40, 0), (1, 2, 0, 0)]), (77, [(2, 0, 40, 0), (0, 0, 0, 0), (0, 0, 0, 0)])], (0, 0), [(0, 0, 2), (1, 2, 2314)]), (41, [0, 1, 2, 1000, 1023], [(2, 0, 40, 0), (1, 1, 0, 0), (1, 2, 0, 0), (1, 3, 0, 0), (1, 4, 0, 0)], [(0, 0), (1, 1), (0, 286), (0, 0), (1, 1)], [(2, 0, 40, 0), (1, 1, 0, 0), (1, 2, 0, 0)], [(0, [(2, 0, 40, 0), (1, 1, 0, 0)]), (100, [(2, 0, 40, 0)]), (101, [(2, 0, 40, 0)]), (107, [(2, 0, 40, 0)]), (108, [(2, 0, 40, 0)]), (77, [(2, 0, 40, 0), (0, 0, 0, 0), (0, 0, 0, 0)])], (0, 0), [(0, 0, 1), (1, 2, 286)])]
def a_k282_1 : List (Nat × KT) := []
def l_k282_1 : LNL := [(14, [(t_ci0, [[0], [500]])]), (27, [(t_ci1, [[0], [0, 24], [0, 1], [2], [500]])]), (28, [(t_ci2, [[0], [0, 24], [2], [102033]])]), (39, [(t_ci3, [[0], [2]])]), (75, [(t_im1, [[0], [0, 5]])])]
theorem k_k282_1 (g : GG) : KOK Yt (PSt g) t_k282_1 := verK_ok (PSt_ok g) (PSt_ax g) (dk := 0) (AN := anOf a_k282_1) (anOf_ok trivial) (LN := lnOf l_k282_1) (lnOf_ok ⟨⟨l_ci0 g, trivial⟩, ⟨⟨l_ci1 g, trivial⟩, ⟨⟨l_ci2 g, trivial⟩, ⟨⟨l_ci3 g, trivial⟩, ⟨⟨l_im1 g, trivial⟩, trivial⟩⟩⟩⟩⟩) (cuts := c_k282_1) (f := 3000) (by decide +kernel)
def t_k282_0 : KT := ((282, 1, 0, 0), [(2, 0, 40, 0), (1, 1, 0, 0)], [(0, 0), (0, 0)], [(100, [(2, 0, 40, 0)]), (101, [(2, 0, 40, 0)]), (107, [(2, 0, 40, 0)]), (108, [(2, 0, 40, 0)]), (430, [(2, 0, 40, 0), (0, 0, 0, 0)]), (77, [(2, 0, 40, 0), (0, 0, 0, 0), (0, 0, 0, 0)])], (2, 0, 1), [(40, 0, 1), (40, 3, 4), (40, 5, 6), (40, 7, 8), (40, 23, 24), (41, 0, 2314), (42, 0, 180)], [], ([], [(100, [(2, 0, 40, 0)]), (101, [(2, 0, 40, 0)]), (107, [(2, 0, 40, 0)]), (108, [(2, 0, 40, 0)]), (77, [(2, 0, 40, 0), (0, 0, 0, 0), (0, 0, 0, 0)])]), ([], [(100, [(2, 0, 40, 0)]), (101, [(2, 0, 40, 0)]), (107, [(2, 0, 40, 0)]), (108, [(2, 0, 40, 0)]), (77, [(2, 0, 40, 0), (0, 0, 0, 0), (0, 0, 0, 0)])]))
def c_k282_0 : List CUT := [(15, [0, 1, 2, 1000, 1023], [(2, 0, 40, 0), (1, 1, 0, 0), (1, 2, 0, 0), (1, 3, 0, 0), (1, 4, 0, 0)], [(0, 0), (0, 0), (0, 2314), (0, 0), (1, 1)], [(2, 0, 40, 0), (1, 1, 0, 0), (1, 2, 0, 0)], [(0, [(2, 0, 40, 0), (1, 1, 0, 0)]), (107, [(2, 0, 40, 0)]), (108, [(2, 0, 40, 0)]), (113, [(2, 0, 40, 0), (1, 2, 0, 0)]), (430, [(2, 0, 40, 0), (0, 0, 0, 0)])], (0, 0), [(0, 0, 2), (1, 2, 2314)]), (41, [0, 1, 2, 1000, 1023], [(2, 0, 40, 0), (1, 1, 0, 0), (1, 2, 0, 0), (1, 3, 0, 0), (1, 4, 0, 0)], [(0, 0), (0, 0), (0, 286), (0, 0), (1, 1)], [(2, 0, 40, 0), (1, 1, 0, 0), (1, 2, 0, 0)], [(0, [(2, 0, 40, 0), (1, 1, 0, 0)]), (100, [(2, 0, 40, 0)]), (101, [(2, 0, 40, 0)]), (107, [(2, 0, 40, 0)]), (108, [(2, 0, 40, 0)]), (430, [(2, 0, 40, 0), (0, 0, 0, 0)])], (0, 0), [(0, 0, 1), (1, 2, 286)])]
def a_k282_0 : List (Nat × KT) := []
def l_k282_0 : LNL := [(14, [(t_cj0, [[0], [500]])]), (36, [(t_cj1, [[0], [0, 1], [0, 24], [2], [500]])]), (37, [(t_cj2, [[0], [0, 1], [2], [102043]])]), (39, [(t_cj3, [[0], [2]])]), (85, [(t_im2, [[0], [0, 26]])])]
theorem k_k282_0 (g : GG) : KOK Yt (PSt g) t_k282_0 := verK_ok (PSt_ok g) (PSt_ax g) (dk := 0) (AN := anOf a_k282_0) (anOf_ok trivial) (LN := lnOf l_k282_0) (lnOf_ok ⟨⟨l_cj0 g, trivial⟩, ⟨⟨l_cj1 g, trivial⟩, ⟨⟨l_cj2 g, trivial⟩, ⟨⟨l_cj3 g, trivial⟩, ⟨⟨l_im2 g, trivial⟩, trivial⟩⟩⟩⟩⟩) (cuts := c_k282_0) (f := 3000) (by decide +kernel)
def t_k283 : KT := ((283, 1, 0, 0), [(2, 0, 40, 0), (1, 1, 0, 0), (1, 2, 0, 0)], [(0, 0), (298, 298), (0, 144)], [], (1, -2147483648, 2147483647), [], [], ([], []), ([], []))
def c_k283 : List CUT := [(4, [0, 1, 2, 3, 4], [(2, 0, 40, 0), (1, 1, 0, 0), (1, 2, 0, 0), (1, 3, 0, 0), (1, 4, 0, 0)], [(0, 0), (298, 298), (0, 144), (-2147483648, 2147483647), (0, 144)], [(2, 0, 40, 0), (1, 1, 0, 0), (1, 2, 0, 0), (1, 3, 0, 0), (1, 4, 0, 0)], [(0, [(2, 0, 40, 0), (1, 1, 0, 0), (1, 2, 0, 0)])], (0, 0), [(0, 0, 1), (1, 4, 144)])]
def a_k283 : List (Nat × KT) := []
def l_k283 : LNL := []
theorem k_k283 (g : GG) : KOK Yt (PSt g) t_k283 := verK_ok (PSt_ok g) (PSt_ax g) (dk := 0) (AN := anOf a_k283) (anOf_ok trivial) (LN := lnOf l_k283) (lnOf_ok trivial) (cuts := c_k283) (f := 3000) (by decide +kernel)
def t_k284 : KT := ((284, 6, 0, 0), [(2, 0, 40, 0)], [(0, 0)], [], (1, -2147483648, 2147483647), [], [], ([], []), ([], []))
def c_k284 : List CUT := [(4, [0, 1, 2], [(2, 0, 40, 0), (1, 1, 0, 0), (1, 2, 0, 0)], [(0, 0), (-2147483648, 2147483647), (0, 144)], [(2, 0, 40, 0), (1, 1, 0, 0), (1, 2, 0, 0)], [(0, [(2, 0, 40, 0)])], (0, 0), [(0, 0, 1), (1, 2, 144)])]
def a_k284 : List (Nat × KT) := [(6, t_k168), (11, t_k206)]
def l_k284 : LNL := []
theorem k_k284 (g : GG) : KOK Yt (PSt g) t_k284 := verK_ok (PSt_ok g) (PSt_ax g) (dk := 5) (AN := anOf a_k284) (anOf_ok ⟨k_k168 g, ⟨k_k206 g, trivial⟩⟩) (LN := lnOf l_k284) (lnOf_ok trivial) (cuts := c_k284) (f := 3000) (by decide +kernel)
def t_k285 : KT := ((285, 4, 0, 0), [(2, 0, 40, 0)], [(0, 0)], [], (1, -2147483648, 2147483647), [], [], ([], []), ([], []))
def c_k285 : List CUT := [(4, [0, 1, 2], [(2, 0, 40, 0), (1, 1, 0, 0), (1, 2, 0, 0)], [(0, 0), (-2147483648, 2147483647), (0, 288)], [(2, 0, 40, 0), (1, 1, 0, 0), (1, 2, 0, 0)], [(0, [(2, 0, 40, 0)])], (0, 0), [(0, 0, 1), (1, 2, 288)])]
def a_k285 : List (Nat × KT) := [(7, t_k168), (12, t_k179), (16, t_k183)]
def l_k285 : LNL := []
theorem k_k285 (g : GG) : KOK Yt (PSt g) t_k285 := verK_ok (PSt_ok g) (PSt_ax g) (dk := 3) (AN := anOf a_k285) (anOf_ok ⟨k_k168 g, ⟨k_k179 g, ⟨k_k183 g, trivial⟩⟩⟩) (LN := lnOf l_k285) (lnOf_ok trivial) (cuts := c_k285) (f := 3000) (by decide +kernel)
def t_k286 : KT := ((286, 3, 0, 0), [(2, 0, 40, 0)], [(0, 0)], [], (1, -2147483648, 2147483647), [], [], ([], []), ([], []))
def c_k286 : List CUT := [(4, [0, 1, 2], [(2, 0, 40, 0), (1, 1, 0, 0), (1, 2, 0, 0)], [(0, 0), (-2147483648, 2147483647), (0, 144)], [(2, 0, 40, 0), (1, 1, 0, 0), (1, 2, 0, 0)], [(0, [(2, 0, 40, 0)])], (0, 0), [(0, 0, 1), (1, 2, 144)])]
def a_k286 : List (Nat × KT) := [(6, t_k168), (10, t_k173p)]
def l_k286 : LNL := []
theorem k_k286 (g : GG) : KOK Yt (PSt g) t_k286 := verK_ok (PSt_ok g) (PSt_ax g) (dk := 2) (AN := anOf a_k286) (anOf_ok ⟨k_k168 g, ⟨k_k173p g, trivial⟩⟩) (LN := lnOf l_k286) (lnOf_ok trivial) (cuts := c_k286) (f := 3000) (by decide +kernel)
def t_k165e : KT := ((165, 1, 0, 0), [(2, 0, 40, 0), (1, 1, 0, 0), (1, 2, 0, 0), (1, 3, 0, 0)], [(0, 0), (-2147483648, 2147483647), (0, 0), (0, 400)], [], (2, 0, 1), [], [], ([(1, 0, 400)], [(482, [(1, 1, 0, 0), (1, 3, 0, 0)])]), ([], [(483, [(1, 1, 0, 0), (1, 3, 0, 0)])]))
def c_k165e : List CUT := []
def a_k165e : List (Nat × KT) := []
def l_k165e : LNL := [(6, [(t_wii2, [[1], [3]])]), (8, [(t_wii0, [[1], [3]]), (t_wii1, [[1], [3]])])]
theorem k_k165e (g : GG) : KOK Yt (PSt g) t_k165e := verK_ok (PSt_ok g) (PSt_ax g) (dk := 0) (AN := anOf a_k165e) (anOf_ok trivial) (LN := lnOf l_k165e) (lnOf_ok ⟨⟨l_wii2 g, trivial⟩, ⟨⟨l_wii0 g, ⟨l_wii1 g, trivial⟩⟩, trivial⟩⟩) (cuts := c_k165e) (f := 3000) (by decide +kernel)
def t_k248 : KT := ((248, 2, 0, 0), [(2, 0, 40, 0), (1, 1, 0, 0), (1, 2, 1, 0)], [(0, 0), (-2147483648, 2147483647), (0, 400)], [(479, [(2, 0, 40, 0), (1, 2, 0, 0)])], (2, 0, 1), [(40, 0, 1), (40, 16, 17)], [], ([(1, 0, 400)], [(482, [(1, 1, 0, 0), (1, 2, 0, 0)]), (479, [(2, 0, 40, 0), (1, 1, 0, 0)])]), ([], [(483, [(1, 1, 0, 0), (1, 2, 0, 0)]), (479, [(2, 0, 40, 0), (1, 2, 0, 0)])]))
def c_k248 : List CUT := []
def a_k248 : List (Nat × KT) := [(8, t_k165e)]
def l_k248 : LNL := [(8, [(t_wfe0, [[0], [500], [104791]])]), (10, [(t_wem1, [[1], [104760], [104761]])]), (14, [(t_wem2, [[0], [1], [104760], [104761]])]), (15, [(t_wem3, [[0], [1]])])]
theorem k_k248 (g : GG) : KOK Yt (PSt g) t_k248 := verK_ok (PSt_ok g) (PSt_ax g) (dk := 1) (AN := anOf a_k248) (anOf_ok ⟨k_k165e g, trivial⟩) (LN := lnOf l_k248) (lnOf_ok ⟨⟨l_wfe0 g, trivial⟩, ⟨⟨l_wem1 g, trivial⟩, ⟨⟨l_wem2 g, trivial⟩, ⟨⟨l_wem3 g, trivial⟩, trivial⟩⟩⟩⟩) (cuts := c_k248) (f := 3000) (by decide +kernel)
def t_k252 : KT := ((252, 1, 0, 0), [(2, 0, 40, 0), (1, 1, 1, 0)], [(0, 0), (-1, 400)], [(3577, [(2, 0, 40, 0), (1, 1, 0, 0), (1, 1, 0, 0)])], (1, -1, 400), [(40, 0, 1)], [(476, [(1, 2, 0, 0), (1, 1, 0, 0)])], ([], []), ([], []))
def c_k252 : List CUT := []
def a_k252 : List (Nat × KT) := []
def l_k252 : LNL := [(5, [(t_ufl2, [[0], [500], [135771]])])]
theorem k_k252 (g : GG) : KOK Yt (PSt g) t_k252 := verK_ok (PSt_ok g) (PSt_ax g) (dk := 0) (AN := anOf a_k252) (anOf_ok trivial) (LN := lnOf l_k252) (lnOf_ok ⟨⟨l_ufl2 g, trivial⟩, trivial⟩) (cuts := c_k252) (f := 3000) (by decide +kernel)
def t_k255 : KT := ((255, 4, 0, 0), [(2, 0, 40, 0), (1, 1, 0, 0)], [(0, 0), (-2147483648, 2147483647)], [], (1, -2147483648, 2147483647), [(40, 0, 1)], [], ([], []), ([], []))
def c_k255 : List CUT := []
def a_k255 : List (Nat × KT) := [(5, t_k169), (9, t_k173p)]
def l_k255 : LNL := []
theorem k_k255 (g : GG) : KOK Yt (PSt g) t_k255 := verK_ok (PSt_ok g) (PSt_ax g) (dk := 3) (AN := anOf a_k255) (anOf_ok ⟨k_k169 g, ⟨k_k173p g, trivial⟩⟩) (LN := lnOf l_k255) (lnOf_ok trivial) (cuts := c_k255) (f := 3000) (by decide +kernel)
def t_k226 : KT := ((226, 4, 0, 0), [(2, 0, 40, 0)], [(0, 0)], [], (1, -2147483648, 2147483647), [(40, 0, 1), (41, 2, 5), (41, 442, 1018), (41, 2026, 2314)], [(100, [(2, 0, 40, 0)]), (101, [(2, 0, 40, 0)])], ([], []), ([], []))
def c_k226 : List CUT := []
def a_k226 : List (Nat × KT) := [(4, t_k187), (6, t_k222)]
def l_k226 : LNL := [(17, [(t_be1, [[0], [0, 1], [1]]), (t_be0, [[0], [0, 1]])])]
theorem k_k226 (g : GG) : KOK Yt (PSt g) t_k226 := verK_ok (PSt_ok g) (PSt_ax g) (dk := 3) (AN := anOf a_k226) (anOf_ok ⟨k_k187 g, ⟨k_k222 g, trivial⟩⟩) (LN := lnOf l_k226) (lnOf_ok ⟨⟨l_be1 g, ⟨l_be0 g, trivial⟩⟩, trivial⟩) (cuts := c_k226) (f := 3000) (by decide +kernel)
def t_k192 : KT := ((192, 4, 0, 0), [(2, 0, 40, 0), (1, 1, 0, 0), (1, 2, 0, 0)], [(0, 0), (-2147483648, 2147483647), (-2147483648, 2147483647)], [(100, [(2, 0, 40, 0)]), (101, [(2, 0, 40, 0)]), (107, [(2, 0, 40, 0)])], (1, -1000, 127), [(40, 0, 1), (40, 7, 8), (41, 2, 5), (41, 10, 154), (41, 442, 1018), (41, 2026, 2314), (43, 0, 27768)], [(100, [(2, 0, 40, 0)]), (101, [(2, 0, 40, 0)]), (107, [(2, 0, 40, 0)])], ([], []), ([], []))
def c_k192 : List CUT := []
def a_k192 : List (Nat × KT) := [(5, t_k169), (10, t_k188), (19, t_k177), (23, t_k170p)]
def l_k192 : LNL := []
theorem k_k192 (g : GG) : KOK Yt (PSt g) t_k192 := verK_ok (PSt_ok g) (PSt_ax g) (dk := 3) (AN := anOf a_k192) (anOf_ok ⟨k_k169 g, ⟨k_k188 g, ⟨k_k177 g, ⟨k_k170p g, trivial⟩⟩⟩⟩) (LN := lnOf l_k192) (lnOf_ok trivial) (cuts := c_k192) (f := 3000) (by decide +kernel)
def t_k193 : KT := ((193, 4, 0, 0), [(2, 0, 40, 0), (1, 1, 0, 0), (1, 2, 0, 0)], [(0, 0), (-2147483648, 2147483647), (0, 1)], [(100, [(2, 0, 40, 0)]), (101, [(2, 0, 40, 0)]), (107, [(2, 0, 40, 0)])], (2, 0, 1), [(40, 0, 1), (40, 7, 8), (41, 2, 5), (41, 298, 1018), (41, 2026, 2314), (43, 0, 27768)], [], ([(1, 0, 143)], [(100, [(2, 0, 40, 0)]), (101, [(2, 0, 40, 0)]), (107, [(2, 0, 40, 0)])]), ([], [(100, [(2, 0, 40, 0)]), (101, [(2, 0, 40, 0)]), (107, [(2, 0, 40, 0)])]))
def c_k193 : List CUT := []
def a_k193 : List (Nat × KT) := [(5, t_k169), (9, t_k172p), (15, t_k188)]
def l_k193 : LNL := [(27, [(t_nf01, [[0]])])]
theorem k_k193 (g : GG) : KOK Yt (PSt g) t_k193 := verK_ok (PSt_ok g) (PSt_ax g) (dk := 3) (AN := anOf a_k193) (anOf_ok ⟨k_k169 g, ⟨k_k172p g, ⟨k_k188 g, trivial⟩⟩⟩) (LN := lnOf l_k193) (lnOf_ok ⟨⟨l_nf01 g, trivial⟩, trivial⟩) (cuts := c_k193) (f := 3000) (by decide +kernel)
def t_k165_8 : KT := ((165, 1, 0, 0), [(2, 0, 40, 0), (1, 1, 0, 0), (1, 2, 0, 0), (1, 3, 0, 0)], [(0, 0), (-2147483648, 2147483647), (0, 0), (99, 99)], [], (2, 0, 1), [], [], ([(1, 0, 99)], []), ([], []))
def c_k165_8 : List CUT := []
def a_k165_8 : List (Nat × KT) := []
def l_k165_8 : LNL := []
theorem k_k165_8 (g : GG) : KOK Yt (PSt g) t_k165_8 := verK_ok (PSt_ok g) (PSt_ax g) (dk := 0) (AN := anOf a_k165_8) (anOf_ok trivial) (LN := lnOf l_k165_8) (lnOf_ok trivial) (cuts := c_k165_8) (f := 3000) (by decide +kernel)
def t_k194 : KT := ((194, 4, 0, 0), [(2, 0, 40, 0), (1, 1, 0, 0), (1, 2, 0, 0)], [(0, 0), (-2147483648, 2147483647), (-2147483648, 2147483647)], [(100, [(2, 0, 40, 0)]), (101, [(2, 0, 40, 0)]), (107, [(2, 0, 40, 0)])], (2, 0, 1), [(40, 0, 1), (40, 7, 8), (41, 154, 298), (43, 0, 27768)], [], ([(1, 0, 143), (2, 0, 99)], [(100, [(2, 0, 40, 0)]), (101, [(2, 0, 40, 0)]), (107, [(2, 0, 40, 0)])]), ([], [(100, [(2, 0, 40, 0)]), (101, [(2, 0, 40, 0)]), (107, [(2, 0, 40, 0)])]))
def c_k194 : List CUT := []
def a_k194 : List (Nat × KT) := [(5, t_k169), (11, t_k165_8), (16, t_k186)]
def l_k194 : LNL := []
theorem k_k194 (g : GG) : KOK Yt (PSt g) t_k194 := verK_ok (PSt_ok g) (PSt_ax g) (dk := 3) (AN := anOf a_k194) (anOf_ok ⟨k_k169 g, ⟨k_k165_8 g, ⟨k_k186 g, trivial⟩⟩⟩) (LN := lnOf l_k194) (lnOf_ok trivial) (cuts := c_k194) (f := 3000) (by decide +kernel)
def t_k221 : KT := ((221, 4, 0, 0), [(2, 0, 40, 0), (1, 1, 0, 0), (1, 2, 0, 0)], [(0, 0), (-2147483648, 2147483647), (0, 1)], [(100, [(2, 0, 40, 0)]), (101, [(2, 0, 40, 0)]), (107, [(2, 0, 40, 0)])], (2, 0, 1), [(40, 0, 1), (40, 7, 8), (41, 2, 5), (41, 442, 1018), (41, 1306, 1594), (41, 2026, 2314), (43, 0, 27768)], [], ([(1, 0, 287)], [(100, [(2, 0, 40, 0)]), (101, [(2, 0, 40, 0)]), (107, [(2, 0, 40, 0)])]), ([], [(100, [(2, 0, 40, 0)]), (101, [(2, 0, 40, 0)]), (107, [(2, 0, 40, 0)])]))
def c_k221 : List CUT := []
def a_k221 : List (Nat × KT) := [(5, t_k179), (23, t_k188)]
def l_k221 : LNL := []
theorem k_k221 (g : GG) : KOK Yt (PSt g) t_k221 := verK_ok (PSt_ok g) (PSt_ax g) (dk := 3) (AN := anOf a_k221) (anOf_ok ⟨k_k179 g, ⟨k_k188 g, trivial⟩⟩) (LN := lnOf l_k221) (lnOf_ok trivial) (cuts := c_k221) (f := 3000) (by decide +kernel)
def t_k242 : KT := ((242, 7, 0, 0), [(2, 0, 40, 0), (1, 1, 0, 0), (1, 2, 0, 0), (1, 3, 0, 0)], [(0, 0), (-2147483648, 2147483647), (-2147483648, 2147483647), (-2147483648, 2147483647)], [], (1, -2147483648, 2147483647), [(40, 0, 1), (40, 12, 13), (40, 13, 14)], [], ([], []), ([], []))
def c_k242 : List CUT := []
def a_k242 : List (Nat × KT) := [(5, t_k234), (9, t_k234), (18, t_k165_1), (23, t_k241)]
def l_k242 : LNL := []
theorem k_k242 (g : GG) : KOK Yt (PSt g) t_k242 := verK_ok (PSt_ok g) (PSt_ax g) (dk := 6) (AN := anOf a_k242) (anOf_ok ⟨k_k234 g, ⟨k_k234 g, ⟨k_k165_1 g, ⟨k_k241 g, trivial⟩⟩⟩⟩) (LN := lnOf l_k242) (lnOf_ok trivial) (cuts := c_k242) (f := 3000) (by decide +kernel)
def t_k165so : KT := ((165, 1, 0, 0), [(2, 0, 40, 0), (1, 1, 0, 0), (1, 2, 0, 0), (1, 3, 0, 0)], [(0, 0), (-2147483648, 2147483647), (2, 2), (12, 12)], [], (2, 0, 1), [], [], ([(1, 2, 12)], []), ([], [(440, [(1, 1, 0, 0), (0, 0, 0, 2), (0, 0, 0, 12)])]))
def c_k165so : List CUT := []
def a_k165so : List (Nat × KT) := []
def l_k165so : LNL := [(8, [(t_sol, [[1]]), (t_soh, [[1]])])]
theorem k_k165so (g : GG) : KOK Yt (PSt g) t_k165so := verK_ok (PSt_ok g) (PSt_ax g) (dk := 0) (AN := anOf a_k165so) (anOf_ok trivial) (LN := lnOf l_k165so) (lnOf_ok ⟨⟨l_sol g, ⟨l_soh g, trivial⟩⟩, trivial⟩) (cuts := c_k165so) (f := 3000) (by decide +kernel)
def t_k191 : KT := ((191, 2, 0, 0), [(2, 0, 40, 0), (1, 1, 0, 0), (1, 2, 0, 0)], [(0, 0), (-2147483648, 2147483647), (-2147483648, 2147483647)], [(100, [(2, 0, 40, 0)]), (101, [(2, 0, 40, 0)]), (107, [(2, 0, 40, 0)])], (2, 0, 1), [(40, 0, 1), (40, 7, 8), (41, 0, 2314), (43, 0, 27768)], [], ([(1, 2, 12), (2, 2, 12)], [(100, [(2, 0, 40, 0)]), (101, [(2, 0, 40, 0)]), (107, [(2, 0, 40, 0)])]), ([], [(441, [(1, 1, 0, 0), (1, 2, 0, 0), (0, 0, 0, 2), (0, 0, 0, 12)]), (100, [(2, 0, 40, 0)]), (101, [(2, 0, 40, 0)]), (107, [(2, 0, 40, 0)])]))
def c_k191 : List CUT := []
def a_k191 : List (Nat × KT) := [(7, t_k165so), (13, t_k165so), (18, t_k186), (22, t_k190)]
def l_k191 : LNL := [(15, [(t_soa, [[1], [2]]), (t_sob, [[1], [2]])])]
theorem k_k191 (g : GG) : KOK Yt (PSt g) t_k191 := verK_ok (PSt_ok g) (PSt_ax g) (dk := 1) (AN := anOf a_k191) (anOf_ok ⟨k_k165so g, ⟨k_k165so g, ⟨k_k186 g, ⟨k_k190 g, trivial⟩⟩⟩⟩) (LN := lnOf l_k191) (lnOf_ok ⟨⟨l_soa g, ⟨l_sob g, trivial⟩⟩, trivial⟩) (cuts := c_k191) (f := 3000) (by decide +kernel)
def t_k251 : KT := ((251, 3, 0, 0), [(2, 0, 40, 0)], [(0, 0)], [(100, [(2, 0, 40, 0)]), (101, [(2, 0, 40, 0)]), (107, [(2, 0, 40, 0)]), (497, [(2, 0, 40, 0)])], (1, -1, 144), [(40, 0, 1), (40, 7, 8), (40, 16, 17), (40, 17, 18), (40, 20, 21), (40, 21, 22), (41, 0, 2314), (43, 0, 27768), (49, 0, 144), (50, 0, 144)], [(100, [(2, 0, 40, 0)]), (101, [(2, 0, 40, 0)]), (107, [(2, 0, 40, 0)]), (479, [(2, 0, 40, 0), (0, 0, 0, 0)]), (485, [(2, 0, 40, 0)]), (486, [(1, 1, 0, 0)])], ([], []), ([], []))
def c_k251 : List CUT := [(30, [0, 1, 2, 1000, 1016, 1017, 1020, 1021], [(2, 0, 40, 0), (1, 1, 0, 0), (1, 2, 0, 0), (1, 3, 0, 0), (1, 4, 0, 0), (1, 5, 0, 0), (1, 6, 0, 0), (1, 7, 0, 0)], [(0, 0), (0, 400), (0, 144), (0, 0), (0, 0), (-1, -1), (2, 12), (2, 12)], [(2, 0, 40, 0), (1, 1, 0, 0), (1, 2, 0, 0)], [(0, [(2, 0, 40, 0)]), (100, [(2, 0, 40, 0)]), (102, [(2, 0, 40, 0)]), (107, [(2, 0, 40, 0)]), (479, [(2, 0, 40, 0), (0, 0, 0, 0)]), (93, [(2, 0, 40, 0), (1, 6, 0, 0)]), (8, [(2, 0, 40, 0), (1, 7, 0, 0)]), (488, [(1, 6, 0, 0), (1, 7, 0, 0)]), (485, [(2, 0, 40, 0)])], (0, 0), [(0, 0, 1), (1, 2, 144)])]
def a_k251 : List (Nat × KT) := [(12, t_k250), (21, t_k186), (27, t_k190), (32, t_k168), (61, t_k168)]
def l_k251 : LNL := [(5, [(t_utu0, [[0], [500]])]), (9, [(t_wty0, [[0]])]), (14, [(t_utu1, [[0], [0, 17]])]), (19, [(t_utt4, [[0, 17]])]), (27, [(t_rdt, [[0], [501], [500], [100181]]), (t_utu2, [[0], [501], [500], [0, 17]])]), (60, [(t_nf01, [[0]])]), (62, [(t_utu3, [[0], [500], [0, 20], [0, 21]])])]
theorem k_k251 (g : GG) : KOK Yt (PSt g) t_k251 := verK_ok (PSt_ok g) (PSt_ax g) (dk := 2) (AN := anOf a_k251) (anOf_ok ⟨k_k250 g, ⟨k_k186 g, ⟨k_k190 g, ⟨k_k168 g, ⟨k_k168 g, trivial⟩⟩⟩⟩⟩) (LN := lnOf l_k251) (lnOf_ok ⟨⟨l_utu0 g, trivial⟩, ⟨⟨l_wty0 g, trivial⟩, ⟨⟨l_utu1 g, trivial⟩, ⟨⟨l_utt4 g, trivial⟩, ⟨⟨l_rdt g, ⟨l_utu2 g, trivial⟩⟩, ⟨⟨l_nf01 g, trivial⟩, ⟨⟨l_utu3 g, trivial⟩, trivial⟩⟩⟩⟩⟩⟩⟩) (cuts := c_k251) (f := 3000) (by decide +kernel)
def t_k287 : KT := ((287, 7, 0, 0), [(2, 0, 40, 0), (1, 1, 0, 0)], [(0, 0), (-2147483648, 2147483647)], [], (1, -2147483648, 2147483647), [(40, 0, 1), (40, 9, 10), (44, 0, 144)], [], ([], []), ([], []))
def c_k287 : List CUT := []
def a_k287 : List (Nat × KT) := [(4, t_k210), (8, t_k166), (14, t_k167), (22, t_k168), (23, t_k283), (35, t_k284), (41, t_k285), (47, t_k286), (69, t_k232), (75, t_k233)]
def l_k287 : LNL := []
theorem k_k287 (g : GG) : KOK Yt (PSt g) t_k287 := verK_ok (PSt_ok g) (PSt_ax g) (dk := 6) (AN := anOf a_k287) (anOf_ok ⟨k_k210 g, ⟨k_k166 g, ⟨k_k167 g, ⟨k_k168 g, ⟨k_k283 g, ⟨k_k284 g, ⟨k_k285 g, ⟨k_k286 g, ⟨k_k232 g, ⟨k_k233 g, trivial⟩⟩⟩⟩⟩⟩⟩⟩⟩⟩) (LN := lnOf l_k287) (lnOf_ok trivial) (cuts := c_k287) (f := 3000) (by decide +kernel)
def t_k237 : KT := ((237, 4, 0, 0), [(2, 0, 40, 0), (1, 1, 0, 0), (1, 2, 0, 0)], [(0, 0), (-2147483648, 2147483647), (-2147483648, 2147483647)], [(77, [(2, 0, 40, 0), (0, 0, 0, 0), (0, 0, 0, 0)]), (78, [(0, 0, 0, 0)]), (100, [(2, 0, 40, 0)]), (101, [(2, 0, 40, 0)]), (107, [(2, 0, 40, 0)])], (2, 0, 1), [(40, 0, 1), (40, 5, 6), (40, 7, 8), (41, 442, 586), (41, 2026, 2170), (42, 0, 180), (43, 0, 27768)], [], ([(1, 0, 143)], [(77, [(2, 0, 40, 0), (0, 0, 0, 150), (0, 0, 0, 0)]), (100, [(2, 0, 40, 0)]), (101, [(2, 0, 40, 0)]), (107, [(2, 0, 40, 0)])]), ([], [(77, [(2, 0, 40, 0), (0, 0, 0, 150), (0, 0, 0, 0)]), (100, [(2, 0, 40, 0)]), (101, [(2, 0, 40, 0)]), (107, [(2, 0, 40, 0)])]))
def c_k237 : List CUT := []
def a_k237 : List (Nat × KT) := [(5, t_k234), (10, t_k235), (15, t_k186), (19, t_k236), (24, t_k185)]
def l_k237 : LNL := [(12, [(t_mw77, [[0], [100771]])]), (25, [(t_mw77, [[0], [100771]])])]
theorem k_k237 (g : GG) : KOK Yt (PSt g) t_k237 := verK_ok (PSt_ok g) (PSt_ax g) (dk := 3) (AN := anOf a_k237) (anOf_ok ⟨k_k234 g, ⟨k_k235 g, ⟨k_k186 g, ⟨k_k236 g, ⟨k_k185 g, trivial⟩⟩⟩⟩⟩) (LN := lnOf l_k237) (lnOf_ok ⟨⟨l_mw77 g, trivial⟩, ⟨⟨l_mw77 g, trivial⟩, trivial⟩⟩) (cuts := c_k237) (f := 3000) (by decide +kernel)
def t_k165_9 : KT := ((165, 1, 0, 0), [(2, 0, 40, 0), (1, 1, 0, 0), (1, 2, 0, 0), (1, 3, 0, 0)], [(0, 0), (-2147483648, 2147483647), (1, 1), (144, 144)], [], (2, 0, 1), [], [], ([(1, 1, 144)], []), ([], []))
def c_k165_9 : List CUT := []
def a_k165_9 : List (Nat × KT) := []
def l_k165_9 : LNL := []
theorem k_k165_9 (g : GG) : KOK Yt (PSt g) t_k165_9 := verK_ok (PSt_ok g) (PSt_ax g) (dk := 0) (AN := anOf a_k165_9) (anOf_ok trivial) (LN := lnOf l_k165_9) (lnOf_ok trivial) (cuts := c_k165_9) (f := 3000) (by decide +kernel)
def t_k227 : KT := ((227, 7, 0, 0), [(2, 0, 40, 0), (1, 1, 0, 0)], [(0, 0), (-2147483648, 2147483647)], [(100, [(2, 0, 40, 0)]), (101, [(2, 0, 40, 0)]), (77, [(2, 0, 40, 0), (0, 0, 0, 0), (0, 0, 0, 0)]), (78, [(0, 0, 0, 0)])], (1, -1, 144), [(40, 0, 1), (40, 5, 6), (41, 2, 5), (41, 442, 1018), (41, 2026, 2314), (42, 0, 180)], [(100, [(2, 0, 40, 0)]), (101, [(2, 0, 40, 0)]), (77, [(2, 0, 40, 0), (0, 0, 0, 150), (0, 0, 0, 0)])], ([], []), ([], []))
def c_k227 : List CUT := [(18, [0, 1, 2, 1000], [(2, 0, 40, 0), (1, 1, 0, 0), (1, 2, 0, 0), (1, 3, 0, 0)], [(0, 0), (1, 144), (0, 144), (0, 0)], [(2, 0, 40, 0), (1, 1, 0, 0), (1, 2, 0, 0)], [(0, [(2, 0, 40, 0), (1, 1, 0, 0)]), (100, [(2, 0, 40, 0)]), (101, [(2, 0, 40, 0)]), (159, [(2, 0, 40, 0), (1, 2, 0, 0)]), (78, [(0, 0, 0, 0)])], (0, 0), [(0, 0, 1), (1, 2, 144)])]
def a_k227 : List (Nat × KT) := [(7, t_k165_9), (28, t_k225), (49, t_k185), (55, t_k222), (70, t_k232), (71, t_k185)]
def l_k227 : LNL := [(14, [(t_mw77, [[0], [100771]])]), (17, [(t_st0, [[0], [500]])]), (27, [(t_st1, [[0], [0, 1], [0, 1, 4], [2]])]), (50, [(t_w77, [[0], [2]])]), (57, [(t_be1, [[0], [0, 1], [101051]]), (t_st3, [[0], [2]])]), (72, [(t_be0, [[0], [0, 1]]), (t_st5, [[0], [2]])]), (73, [(t_st6, [[0], [2]])])]
theorem k_k227 (g : GG) : KOK Yt (PSt g) t_k227 := verK_ok (PSt_ok g) (PSt_ax g) (dk := 6) (AN := anOf a_k227) (anOf_ok ⟨k_k165_9 g, ⟨k_k225 g, ⟨k_k185 g, ⟨k_k222 g, ⟨k_k232 g, ⟨k_k185 g, trivial⟩⟩⟩⟩⟩⟩) (LN := lnOf l_k227) (lnOf_ok ⟨⟨l_mw77 g, trivial⟩, ⟨⟨l_st0 g, trivial⟩, ⟨⟨l_st1 g, trivial⟩, ⟨⟨l_w77 g, trivial⟩, ⟨⟨l_be1 g, ⟨l_st3 g, trivial⟩⟩, ⟨⟨l_be0 g, ⟨l_st5 g, trivial⟩⟩, ⟨⟨l_st6 g, trivial⟩, trivial⟩⟩⟩⟩⟩⟩⟩) (cuts := c_k227) (f := 3000) (by decide +kernel)
def t_k277 : KT := ((277, 5, 0, 0), [(2, 0, 40, 0)], [(0, 0)], [], (0, 0, 0), [(41, 2, 5), (41, 442, 1018), (41, 2026, 2314)], [(100, [(2, 0, 40, 0)])], ([], []), ([], []))
def c_k277 : List CUT := [(2, [0], [(2, 0, 40, 0)], [(0, 0)], [(2, 0, 40, 0)], [(0, [(2, 0, 40, 0)]), (100, [(2, 0, 40, 0)]), (32, [(2, 0, 40, 0)])], (0, 0), [(0, 0, 1), (0, 0, 0)])]
def a_k277 : List (Nat × KT) := [(1, t_k187), (3, t_k222), (6, t_k225g)]
def l_k277 : LNL := [(5, [(t_fx1, [[0], [101051]])])]
theorem k_k277 (g : GG) : KOK Yt (PSt g) t_k277 := verG_ok (PSG := fun z => PSt (g.1, g.2.1, z)) (PSt_gh g.1 g.2.1) (fun z => PSt_ok _) (fun z => PSt_ax _) (dk := 4) (AN := anOf a_k277) (fun gz => anOf_ok ⟨k_k187 (g.1, g.2.1, gz), ⟨k_k222 (g.1, g.2.1, gz), ⟨k_k225g (g.1, g.2.1, gz), trivial⟩⟩⟩) (LN := lnOf l_k277) (fun gz => lnOf_ok ⟨⟨l_fx1 (g.1, g.2.1, gz), trivial⟩, trivial⟩) (cuts := c_k277) (f := 3000) (by decide +kernel) g.2.2
def t_k253 : KT := ((253, 1, 0, 0), [(2, 0, 40, 0), (1, 1, 0, 0)], [(0, 0), (0, 143)], [(100, [(2, 0, 40, 0)]), (104, [(2, 0, 40, 0), (1, 1, 0, 0)])], (1, -2147483648, 2147483647), [], [], ([], []), ([], []))
def c_k253 : List CUT := [(4, [0, 1, 2, 3], [(2, 0, 40, 0), (1, 1, 0, 0), (1, 2, 0, 0), (1, 3, 0, 0)], [(0, 0), (0, 143), (-2147483648, 2147483647), (0, 143)], [(2, 0, 40, 0), (1, 1, 0, 0), (1, 2, 0, 0), (1, 3, 0, 0)], [(0, [(2, 0, 40, 0), (1, 1, 0, 0)]), (100, [(2, 0, 40, 0)]), (104, [(2, 0, 40, 0), (1, 3, 0, 0)]), (34, [(2, 0, 40, 0), (1, 3, 0, 0)])], (0, 0), [(0, 0, 1), (0, 0, 0)])]
def a_k253 : List (Nat × KT) := []
def l_k253 : LNL := [(3, [(t_bm0, [[0], [500]])]), (22, [(t_bm1, [[0], [0, 1], [3], [500]])])]
theorem k_k253 (g : GG) : KOK Yt (PSt g) t_k253 := verG_ok (PSG := fun z => PSt (g.1, g.2.1, z)) (PSt_gh g.1 g.2.1) (fun z => PSt_ok _) (fun z => PSt_ax _) (dk := 0) (AN := anOf a_k253) (fun gz => anOf_ok trivial) (LN := lnOf l_k253) (fun gz => lnOf_ok ⟨⟨l_bm0 (g.1, g.2.1, gz), trivial⟩, ⟨⟨l_bm1 (g.1, g.2.1, gz), trivial⟩, trivial⟩⟩) (cuts := c_k253) (f := 3000) (by decide +kernel) g.2.2
def t_k165_10 : KT := ((165, 1, 0, 0), [(2, 0, 40, 0), (1, 1, 0, 0), (1, 2, 0, 0), (1, 3, 0, 0)], [(0, 0), (-2147483648, 2147483647), (0, 0), (7, 7)], [], (2, 0, 1), [], [], ([(1, 0, 7)], []), ([], []))
def c_k165_10 : List CUT := []
def a_k165_10 : List (Nat × KT) := []
def l_k165_10 : LNL := []
theorem k_k165_10 (g : GG) : KOK Yt (PSt g) t_k165_10 := verK_ok (PSt_ok g) (PSt_ax g) (dk := 0) (AN := anOf a_k165_10) (anOf_ok trivial) (LN := lnOf l_k165_10) (lnOf_ok trivial) (cuts := c_k165_10) (f := 3000) (by decide +kernel)
def t_k254 : KT := ((254, 4, 0, 0), [(2, 0, 40, 0), (1, 1, 0, 0), (1, 2, 0, 0)], [(0, 0), (-2147483648, 2147483647), (-2147483648, 2147483647)], [(100, [(2, 0, 40, 0)])], (1, -2147483648, 2147483647), [(40, 0, 1)], [], ([], []), ([], []))
def c_k254 : List CUT := []
def a_k254 : List (Nat × KT) := [(5, t_k169), (11, t_k165_10), (17, t_k173p), (23, t_k170p), (30, t_k171), (87, t_k253)]
def l_k254 : LNL := []
theorem k_k254 (g : GG) : KOK Yt (PSt g) t_k254 := verK_ok (PSt_ok g) (PSt_ax g) (dk := 3) (AN := anOf a_k254) (anOf_ok ⟨k_k169 g, ⟨k_k165_10 g, ⟨k_k173p g, ⟨k_k170p g, ⟨k_k171 g, ⟨k_k253 g, trivial⟩⟩⟩⟩⟩⟩) (LN := lnOf l_k254) (lnOf_ok trivial) (cuts := c_k254) (f := 3000) (by decide +kernel)
def t_k280 : KT := ((280, 6, 0, 0), [(2, 0, 40, 0), (1, 1, 0, 0)], [(0, 0), (-2147483648, 2147483647)], [(100, [(2, 0, 40, 0)]), (101, [(2, 0, 40, 0)])], (1, -1, 144), [(40, 0, 1), (41, 0, 2314), (52, 0, 2314)], [(100, [(2, 0, 40, 0)]), (101, [(2, 0, 40, 0)])], ([], []), ([], []))
def c_k280 : List CUT := [(11, [0, 1, 2, 1000], [(2, 0, 40, 0), (1, 1, 0, 0), (1, 2, 0, 0), (1, 3, 0, 0)], [(0, 0), (0, 287), (0, 2314), (0, 0)], [(2, 0, 40, 0), (1, 1, 0, 0), (1, 2, 0, 0), (7, 0, 0, 0)], [(0, [(2, 0, 40, 0), (1, 1, 0, 0)]), (100, [(2, 0, 40, 0)]), (101, [(2, 0, 40, 0)]), (97, [(2, 0, 40, 0), (1, 1, 0, 0)]), (110, [(2, 0, 40, 0), (1, 2, 0, 0)])], (0, 0), [(0, 0, 2), (1, 2, 2314)]), (40, [0, 1, 2, 3, 1000], [(2, 0, 40, 0), (1, 1, 0, 0), (1, 2, 0, 0), (1, 3, 0, 0), (1, 4, 0, 0)], [(0, 0), (0, 287), (0, 144), (0, 2314), (0, 0)], [(2, 0, 40, 0), (1, 1, 0, 0), (1, 2, 0, 0), (1, 3, 0, 0)], [(0, [(2, 0, 40, 0), (1, 1, 0, 0)]), (109, [(2, 0, 40, 0)]), (111, [(2, 0, 40, 0), (1, 3, 0, 0)])], (0, 0), [(0, 0, 1), (1, 3, 2314)])]
def a_k280 : List (Nat × KT) := [(5, t_k179), (32, t_k277)]
def l_k280 : LNL := [(10, [(t_cp0, [[0], [500]])]), (21, [(t_cp1, [[0], [0, 2], [0, 1], [2], [500]])]), (22, [(t_cp2, [[0], [0, 2], [2], [102013]])]), (24, [(t_cp3, [[0], [2]])]), (39, [(t_cq0, [[0], [500]])]), (50, [(t_cq1, [[0], [0, 1], [0, 2], [3], [500]])]), (51, [(t_cq2, [[0], [0, 1], [3], [102023]])]), (53, [(t_cq3, [[0], [3]])])]
theorem k_k280 (g : GG) : KOK Yt (PSt g) t_k280 := verK_ok (PSt_ok g) (PSt_ax g) (dk := 5) (AN := anOf a_k280) (anOf_ok ⟨k_k179 g, ⟨k_k277 g, trivial⟩⟩) (LN := lnOf l_k280) (lnOf_ok ⟨⟨l_cp0 g, trivial⟩, ⟨⟨l_cp1 g, trivial⟩, ⟨⟨l_cp2 g, trivial⟩, ⟨⟨l_cp3 g, trivial⟩, ⟨⟨l_cq0 g, trivial⟩, ⟨⟨l_cq1 g, trivial⟩, ⟨⟨l_cq2 g, trivial⟩, ⟨⟨l_cq3 g, trivial⟩, trivial⟩⟩⟩⟩⟩⟩⟩⟩) (cuts := c_k280) (f := 3000) (by decide +kernel)
def t_k220 : KT := ((220, 10, 0, 0), [(2, 0, 40, 0), (1, 1, 0, 0)], [(0, 0), (-2147483648, 2147483647)], [(100, [(2, 0, 40, 0)]), (101, [(2, 0, 40, 0)]), (107, [(2, 0, 40, 0)]), (77, [(2, 0, 40, 0), (0, 0, 0, 0), (0, 0, 0, 0)]), (78, [(0, 0, 0, 0)])], (1, -2147483648, 2147483647), [(40, 0, 1), (40, 5, 6), (40, 7, 8), (40, 9, 10), (41, 2, 7), (41, 442, 1306), (41, 1594, 2314), (42, 0, 180), (43, 0, 27768), (44, 0, 144), (45, 0, 144), (46, 0, 4096)], [(100, [(2, 0, 40, 0)]), (101, [(2, 0, 40, 0)]), (107, [(2, 0, 40, 0)]), (77, [(2, 0, 40, 0), (0, 0, 0, 150), (0, 0, 0, 0)])], ([], []), ([], []))
def c_k220 : List CUT := []
def a_k220 : List (Nat × KT) := [(5, t_k219), (10, t_k188), (13, t_k218), (20, t_k185)]
def l_k220 : LNL := [(8, [(t_mw77, [[0], [100771]])]), (21, [(t_mw77, [[0], [100771]])])]
theorem k_k220 (g : GG) : KOK Yt (PSt g) t_k220 := verK_ok (PSt_ok g) (PSt_ax g) (dk := 9) (AN := anOf a_k220) (anOf_ok ⟨k_k219 g, ⟨k_k188 g, ⟨k_k218 g, ⟨k_k185 g, trivial⟩⟩⟩⟩) (LN := lnOf l_k220) (lnOf_ok ⟨⟨l_mw77 g, trivial⟩, ⟨⟨l_mw77 g, trivial⟩, trivial⟩⟩) (cuts := c_k220) (f := 3000) (by decide +kernel)
def t_k165_11 : KT := ((165, 1, 0, 0), [(2, 0, 40, 0), (1, 1, 0, 0), (1, 2, 0, 0), (1, 3, 0, 0)], [(0, 0), (-2147483648, 2147483647), (0, 0), (4, 4)], [], (2, 0, 1), [], [], ([(1, 0, 4)], []), ([], []))
def c_k165_11 : List CUT := []
def a_k165_11 : List (Nat × KT) := []
def l_k165_11 : LNL := []
theorem k_k165_11 (g : GG) : KOK Yt (PSt g) t_k165_11 := verK_ok (PSt_ok g) (PSt_ax g) (dk := 0) (AN := anOf a_k165_11) (anOf_ok trivial) (LN := lnOf l_k165_11) (lnOf_ok trivial) (cuts := c_k165_11) (f := 3000) (by decide +kernel)
def t_k279 : KT := ((279, 10, 0, 0), [(2, 0, 40, 0), (1, 1, 0, 0), (1, 2, 0, 0)], [(0, 0), (-2147483648, 2147483647), (-2147483648, 2147483647)], [(100, [(2, 0, 40, 0)]), (101, [(2, 0, 40, 0)])], (1, -2147483648, 2147483647), [(40, 0, 1), (40, 9, 10), (41, 0, 2314), (44, 0, 144), (45, 0, 144), (46, 0, 4096), (52, 0, 2314)], [(100, [(2, 0, 40, 0)]), (101, [(2, 0, 40, 0)])], ([], []), ([], []))
def c_k279 : List CUT := [(17, [0, 1, 2, 3, 1000], [(2, 0, 40, 0), (1, 1, 0, 0), (1, 2, 0, 0), (1, 3, 0, 0), (1, 4, 0, 0)], [(0, 0), (0, 1), (0, 4), (0, 2314), (0, 0)], [(2, 0, 40, 0), (1, 1, 0, 0), (1, 2, 0, 0), (1, 3, 0, 0), (7, 0, 0, 0)], [(0, [(2, 0, 40, 0), (1, 1, 0, 0), (1, 2, 0, 0)]), (100, [(2, 0, 40, 0)]), (101, [(2, 0, 40, 0)]), (127, [(2, 0, 40, 0), (1, 1, 0, 0)]), (110, [(2, 0, 40, 0), (1, 3, 0, 0)])], (0, 0), [(0, 0, 2), (1, 3, 2314)]), (65, [0, 1, 2, 3, 4, 1000], [(2, 0, 40, 0), (1, 1, 0, 0), (1, 2, 0, 0), (1, 3, 0, 0), (1, 4, 0, 0), (1, 5, 0, 0)], [(0, 0), (0, 1), (0, 4), (-2147483648, 2147483647), (0, 2314), (0, 0)], [(2, 0, 40, 0), (1, 1, 0, 0), (1, 2, 0, 0), (1, 3, 0, 0), (1, 4, 0, 0)], [(0, [(2, 0, 40, 0), (1, 1, 0, 0), (1, 2, 0, 0)]), (109, [(2, 0, 40, 0)]), (111, [(2, 0, 40, 0), (1, 4, 0, 0)])], (0, 0), [(0, 0, 1), (1, 4, 2314)])]
def a_k279 : List (Nat × KT) := [(5, t_k219), (11, t_k165_11), (32, t_k218), (35, t_k277), (47, t_k232), (53, t_k233), (61, t_k278)]
def l_k279 : LNL := [(16, [(t_cp0, [[0], [500]])]), (27, [(t_cp1, [[0], [0, 2], [0, 1], [3], [500]])]), (28, [(t_cp2, [[0], [0, 2], [3], [102013]])]), (30, [(t_cp3, [[0], [3]])]), (64, [(t_cq0, [[0], [500]])]), (75, [(t_cq1, [[0], [0, 1], [0, 2], [4], [500]])]), (76, [(t_cq2, [[0], [0, 1], [4], [102023]])]), (78, [(t_cq3, [[0], [4]])])]
theorem k_k279 (g : GG) : KOK Yt (PSt g) t_k279 := verK_ok (PSt_ok g) (PSt_ax g) (dk := 9) (AN := anOf a_k279) (anOf_ok ⟨k_k219 g, ⟨k_k165_11 g, ⟨k_k218 g, ⟨k_k277 g, ⟨k_k232 g, ⟨k_k233 g, ⟨k_k278 g, trivial⟩⟩⟩⟩⟩⟩⟩) (LN := lnOf l_k279) (lnOf_ok ⟨⟨l_cp0 g, trivial⟩, ⟨⟨l_cp1 g, trivial⟩, ⟨⟨l_cp2 g, trivial⟩, ⟨⟨l_cp3 g, trivial⟩, ⟨⟨l_cq0 g, trivial⟩, ⟨⟨l_cq1 g, trivial⟩, ⟨⟨l_cq2 g, trivial⟩, ⟨⟨l_cq3 g, trivial⟩, trivial⟩⟩⟩⟩⟩⟩⟩⟩) (cuts := c_k279) (f := 3000) (by decide +kernel)
def t_k245 : KT := ((245, 8, 0, 0), [(2, 0, 40, 0)], [(0, 0)], [(100, [(2, 0, 40, 0)]), (101, [(2, 0, 40, 0)]), (107, [(2, 0, 40, 0)]), (77, [(2, 0, 40, 0), (0, 0, 0, 0), (0, 0, 0, 0)]), (78, [(0, 0, 0, 0)])], (1, -1, 144), [(40, 0, 1), (40, 5, 6), (40, 7, 8), (40, 12, 13), (40, 13, 14), (41, 0, 2314), (42, 0, 180), (43, 0, 27768), (47, 0, 144), (52, 0, 2314)], [(100, [(2, 0, 40, 0)]), (101, [(2, 0, 40, 0)]), (107, [(2, 0, 40, 0)]), (77, [(2, 0, 40, 0), (0, 0, 0, 150), (0, 0, 0, 0)])], ([], []), ([], []))
def c_k245 : List CUT := [(5, [0, 1, 1000], [(2, 0, 40, 0), (1, 1, 0, 0), (1, 2, 0, 0)], [(0, 0), (0, 2314), (0, 0)], [(2, 0, 40, 0), (1, 1, 0, 0)], [(0, [(2, 0, 40, 0)]), (100, [(2, 0, 40, 0)]), (101, [(2, 0, 40, 0)]), (107, [(2, 0, 40, 0)]), (77, [(2, 0, 40, 0), (0, 0, 0, 0), (0, 0, 0, 0)]), (78, [(0, 0, 0, 0)]), (110, [(2, 0, 40, 0), (1, 1, 0, 0)])], (0, 0), [(0, 0, 1), (1, 1, 2314)])]
def a_k245 : List (Nat × KT) := [(19, t_k243), (22, t_k244), (29, t_k186), (31, t_k244), (39, t_k185)]
def l_k245 : LNL := [(4, [(t_cp0, [[0], [500]])]), (15, [(t_cp1, [[0], [0, 2], [0, 1], [1], [500]])]), (16, [(t_cp2, [[0], [0, 2], [1], [102013]])]), (18, [(t_cp3, [[0], [1]])]), (26, [(t_mw77, [[0], [100771]])]), (40, [(t_mw77, [[0], [100771]])])]
theorem k_k245 (g : GG) : KOK Yt (PSt g) t_k245 := verK_ok (PSt_ok g) (PSt_ax g) (dk := 7) (AN := anOf a_k245) (anOf_ok ⟨k_k243 g, ⟨k_k244 g, ⟨k_k186 g, ⟨k_k244 g, ⟨k_k185 g, trivial⟩⟩⟩⟩⟩) (LN := lnOf l_k245) (lnOf_ok ⟨⟨l_cp0 g, trivial⟩, ⟨⟨l_cp1 g, trivial⟩, ⟨⟨l_cp2 g, trivial⟩, ⟨⟨l_cp3 g, trivial⟩, ⟨⟨l_mw77 g, trivial⟩, ⟨⟨l_mw77 g, trivial⟩, trivial⟩⟩⟩⟩⟩⟩) (cuts := c_k245) (f := 3000) (by decide +kernel)
def t_k271 : KT := ((271, 5, 0, 0), [(2, 0, 40, 0), (1, 1, 0, 0)], [(0, 0), (-2147483648, 2147483647)], [], (0, 0, 0), [(51, 0, 144)], [], ([], []), ([], []))
def c_k271 : List CUT := [(2, [0, 1, 2], [(2, 0, 40, 0), (1, 1, 0, 0), (1, 2, 0, 0)], [(0, 0), (-2147483648, 2147483647), (0, 144)], [(2, 0, 40, 0), (1, 1, 0, 0), (1, 2, 0, 0), (7, 0, 0, 0), (7, 0, 0, 0)], [(0, [(2, 0, 40, 0), (1, 1, 0, 0)]), (36, [(2, 0, 40, 0)])], (0, 0), [(0, 0, 2), (1, 2, 144)]), (21, [0, 1, 2, 3], [(2, 0, 40, 0), (1, 1, 0, 0), (1, 2, 0, 0), (1, 3, 0, 0)], [(0, 0), (-2147483648, 2147483647), (0, 1), (0, 288)], [(2, 0, 40, 0), (1, 1, 0, 0), (1, 2, 0, 0), (1, 3, 0, 0), (7, 0, 0, 0)], [(0, [(2, 0, 40, 0), (1, 1, 0, 0)]), (30, [(2, 0, 40, 0), (1, 2, 0, 0)])], (0, 0), [(0, 0, 1), (1, 3, 288)])]
def a_k271 : List (Nat × KT) := [(4, t_k168), (24, t_k168), (29, t_k229), (34, t_k180), (36, t_k270), (41, t_k181e), (43, t_k270), (49, t_k180), (55, t_k181e), (63, t_k180), (69, t_k181e), (76, t_k180), (83, t_k181e), (90, t_k180), (97, t_k181e)]
def l_k271 : LNL := [(1, [(t_ar36, [[0]])]), (20, [(t_ar30, [[0], [2]]), (t_ar31, [[0], [100301]])]), (51, [(t_ax, [[0], [0, 22], [3], [104222], [500]])]), (57, [(t_ay, [[0], [0, 22], [3], [104232], [500]])]), (59, [(t_ane, [[0], [3], [100990], [100991]])]), (65, [(t_ax, [[0], [0, 22], [3], [104222], [500]])]), (71, [(t_ay, [[0], [0, 22], [3], [104232], [500]])]), (72, [(t_alt, [[0], [3], [100210], [100211]])]), (78, [(t_ax, [[0], [0, 22], [3], [104222], [500]])]), (79, [(t_age, [[0], [3], [100061], [100060]])]), (85, [(t_ay, [[0], [0, 22], [3], [104232], [500]]), (t_am1, [[0], [3], [500]]), (t_am2, [[0], [3], [500]])]), (92, [(t_as1, [[0], [0, 22], [3], [501], [500], [100301]])]), (93, [(t_as2, [[0], [0, 22], [3], [102911], [102914]])]), (99, [(t_as3, [[0], [0, 22], [3], [501], [500]])]), (100, [(t_as4, [[0], [0, 22], [102921], [102923]])])]
theorem k_k271 (g : GG) : KOK Yt (PSt g) t_k271 := verG_ok (PSG := fun z => PSt (g.1, g.2.1, z)) (PSt_gh g.1 g.2.1) (fun z => PSt_ok _) (fun z => PSt_ax _) (dk := 4) (AN := anOf a_k271) (fun gz => anOf_ok ⟨k_k168 (g.1, g.2.1, gz), ⟨k_k168 (g.1, g.2.1, gz), ⟨k_k229 (g.1, g.2.1, gz), ⟨k_k180 (g.1, g.2.1, gz), ⟨k_k270 (g.1, g.2.1, gz), ⟨k_k181e (g.1, g.2.1, gz), ⟨k_k270 (g.1, g.2.1, gz), ⟨k_k180 (g.1, g.2.1, gz), ⟨k_k181e (g.1, g.2.1, gz), ⟨k_k180 (g.1, g.2.1, gz), ⟨k_k181e (g.1, g.2.1, gz), ⟨k_k180 (g.1, g.2.1, gz), ⟨k_k181e (g.1, g.2.1, gz), ⟨k_k180 (g.1, g.2.1, gz), ⟨k_k181e (g.1, g.2.1, gz), trivial⟩⟩⟩⟩⟩⟩⟩⟩⟩⟩⟩⟩⟩⟩⟩) (LN := lnOf l_k271) (fun gz => lnOf_ok ⟨⟨l_ar36 (g.1, g.2.1, gz), trivial⟩, ⟨⟨l_ar30 (g.1, g.2.1, gz), ⟨l_ar31 (g.1, g.2.1, gz), trivial⟩⟩, ⟨⟨l_ax (g.1, g.2.1, gz), trivial⟩, ⟨⟨l_ay (g.1, g.2.1, gz), trivial⟩, ⟨⟨l_ane (g.1, g.2.1, gz), trivial⟩, ⟨⟨l_ax (g.1, g.2.1, gz), trivial⟩, ⟨⟨l_ay (g.1, g.2.1, gz), trivial⟩, ⟨⟨l_alt (g.1, g.2.1, gz), trivial⟩, ⟨⟨l_ax (g.1, g.2.1, gz), trivial⟩, ⟨⟨l_age (g.1, g.2.1, gz), trivial⟩, ⟨⟨l_ay (g.1, g.2.1, gz), ⟨l_am1 (g.1, g.2.1, gz), ⟨l_am2 (g.1, g.2.1, gz), trivial⟩⟩⟩, ⟨⟨l_as1 (g.1, g.2.1, gz), trivial⟩, ⟨⟨l_as2 (g.1, g.2.1, gz), trivial⟩, ⟨⟨l_as3 (g.1, g.2.1, gz), trivial⟩, ⟨⟨l_as4 (g.1, g.2.1, gz), trivial⟩, trivial⟩⟩⟩⟩⟩⟩⟩⟩⟩⟩⟩⟩⟩⟩⟩) (cuts := c_k271) (f := 3000) (by decide +kernel) g.2.2
def t_k273 : KT := ((273, 6, 0, 0), [(2, 0, 40, 0), (1, 1, 0, 0), (1, 2, 0, 0)], [(0, 0), (-2147483648, 2147483647), (-2147483648, 2147483647)], [], (1, -2147483648, 2147483647), [(40, 0, 1), (51, 0, 144)], [], ([], []), ([], []))
def c_k273 : List CUT := [(22, [0, 1, 2, 3, 4, 5, 6, 1000], [(2, 0, 40, 0), (1, 1, 0, 0), (1, 2, 0, 0), (1, 3, 0, 0), (1, 4, 0, 0), (1, 5, 0, 0), (1, 6, 0, 0), (1, 7, 0, 0)], [(0, 0), (-2147483648, 2147483647), (0, 2), (-2147483648, 2147483647), (-1, 143), (-2147483648, 2147483647), (0, 144), (0, 0)], [(2, 0, 40, 0), (1, 1, 0, 0), (1, 2, 0, 0), (1, 3, 0, 0), (1, 4, 0, 0), (1, 5, 0, 0), (1, 6, 0, 0)], [(0, [(2, 0, 40, 0), (1, 1, 0, 0), (1, 2, 0, 0)])], (0, 0), [(0, 0, 1), (1, 6, 144)])]
def a_k273 : List (Nat × KT) := [(7, t_k165_0), (13, t_k271), (24, t_k168), (29, t_k270), (45, t_k272), (54, t_k272)]
def l_k273 : LNL := []
theorem k_k273 (g : GG) : KOK Yt (PSt g) t_k273 := verK_ok (PSt_ok g) (PSt_ax g) (dk := 5) (AN := anOf a_k273) (anOf_ok ⟨k_k165_0 g, ⟨k_k271 g, ⟨k_k168 g, ⟨k_k270 g, ⟨k_k272 g, ⟨k_k272 g, trivial⟩⟩⟩⟩⟩⟩) (LN := lnOf l_k273) (lnOf_ok trivial) (cuts := c_k273) (f := 3000) (by decide +kernel)
