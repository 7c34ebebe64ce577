/-! the reference: contracts that bounds alone bear -/
def t_k166 : KT := ((166, 1, 0, 0), [(2, 0, 40, 0)], [(0, 0)], [], (1, 2, 12), [], [(93, [(2, 0, 40, 0), (1, 1, 0, 0)])], ([], []), ([], []))
def c_k166 : List CUT := []
def a_k166 : List (Nat × KT) := []
def l_k166 : LNL := [(6, [(t_mrow, [[0], [0, 1], [500]])])]
theorem k_k166 (g : GG) : KOK Yt (PSt g) t_k166 := verK_ok (PSt_ok g) (PSt_ax g) (dk := 0) (AN := anOf a_k166) (anOf_ok trivial) (LN := lnOf l_k166) (lnOf_ok ⟨⟨l_mrow g, trivial⟩, trivial⟩) (cuts := c_k166) (f := 3000) (by decide +kernel)
def t_k167 : KT := ((167, 1, 0, 0), [(2, 0, 40, 0)], [(0, 0)], [], (1, 2, 12), [], [(8, [(2, 0, 40, 0), (1, 1, 0, 0)])], ([], []), ([], []))
def c_k167 : List CUT := []
def a_k167 : List (Nat × KT) := []
def l_k167 : LNL := [(6, [(t_mcol, [[0], [0, 1], [500]])])]
theorem k_k167 (g : GG) : KOK Yt (PSt g) t_k167 := verK_ok (PSt_ok g) (PSt_ax g) (dk := 0) (AN := anOf a_k167) (anOf_ok trivial) (LN := lnOf l_k167) (lnOf_ok ⟨⟨l_mcol g, trivial⟩, trivial⟩) (cuts := c_k167) (f := 3000) (by decide +kernel)
def t_k168 : KT := ((168, 2, 0, 0), [(2, 0, 40, 0)], [(0, 0)], [], (1, 4, 144), [], [(94, [(2, 0, 40, 0), (1, 1, 0, 0)])], ([], []), ([], []))
def c_k168 : List CUT := []
def a_k168 : List (Nat × KT) := [(1, t_k166), (3, t_k167)]
def l_k168 : LNL := [(5, [(t_mman, [[0], [100931], [100081], [500]])])]
theorem k_k168 (g : GG) : KOK Yt (PSt g) t_k168 := verK_ok (PSt_ok g) (PSt_ax g) (dk := 1) (AN := anOf a_k168) (anOf_ok ⟨k_k166 g, ⟨k_k167 g, trivial⟩⟩) (LN := lnOf l_k168) (lnOf_ok ⟨⟨l_mman g, trivial⟩, trivial⟩) (cuts := c_k168) (f := 3000) (by decide +kernel)
def t_k169 : KT := ((169, 3, 0, 0), [(2, 0, 40, 0), (1, 1, 0, 0)], [(0, 0), (-2147483648, 2147483647)], [], (2, 0, 1), [], [], ([(1, 0, 143)], [(95, [(2, 0, 40, 0), (1, 1, 0, 0)])]), ([], []))
def c_k169 : List CUT := []
def a_k169 : List (Nat × KT) := [(4, t_k168)]
def l_k169 : LNL := [(6, [(t_mpx, [[0], [1], [100941]])])]
theorem k_k169 (g : GG) : KOK Yt (PSt g) t_k169 := verK_ok (PSt_ok g) (PSt_ax g) (dk := 2) (AN := anOf a_k169) (anOf_ok ⟨k_k168 g, trivial⟩) (LN := lnOf l_k169) (lnOf_ok ⟨⟨l_mpx g, trivial⟩, trivial⟩) (cuts := c_k169) (f := 3000) (by decide +kernel)
def t_k170 : KT := ((170, 1, 0, 0), [(2, 0, 40, 0), (1, 1, 0, 0)], [(0, 0), (-10, 200)], [], (1, -2147483648, 2147483647), [], [], ([], []), ([], []))
def c_k170 : List CUT := []
def a_k170 : List (Nat × KT) := []
def l_k170 : LNL := []
theorem k_k170 (g : GG) : KOK Yt (PSt g) t_k170 := verK_ok (PSt_ok g) (PSt_ax g) (dk := 0) (AN := anOf a_k170) (anOf_ok trivial) (LN := lnOf l_k170) (lnOf_ok trivial) (cuts := c_k170) (f := 3000) (by decide +kernel)
def t_k171 : KT := ((171, 1, 0, 0), [(2, 0, 40, 0), (1, 1, 0, 0)], [(0, 0), (-13, 156)], [], (1, -2147483648, 2147483647), [], [], ([], []), ([], []))
def c_k171 : List CUT := []
def a_k171 : List (Nat × KT) := []
def l_k171 : LNL := []
theorem k_k171 (g : GG) : KOK Yt (PSt g) t_k171 := verK_ok (PSt_ok g) (PSt_ax g) (dk := 0) (AN := anOf a_k171) (anOf_ok trivial) (LN := lnOf l_k171) (lnOf_ok trivial) (cuts := c_k171) (f := 3000) (by decide +kernel)
def t_k172 : KT := ((172, 1, 0, 0), [(2, 0, 40, 0), (1, 1, 0, 0)], [(0, 0), (-13, 156)], [], (2, 0, 1), [], [], ([], []), ([], []))
def c_k172 : List CUT := []
def a_k172 : List (Nat × KT) := []
def l_k172 : LNL := []
theorem k_k172 (g : GG) : KOK Yt (PSt g) t_k172 := verK_ok (PSt_ok g) (PSt_ax g) (dk := 0) (AN := anOf a_k172) (anOf_ok trivial) (LN := lnOf l_k172) (lnOf_ok trivial) (cuts := c_k172) (f := 3000) (by decide +kernel)
def t_k173 : KT := ((173, 1, 0, 0), [(2, 0, 40, 0), (1, 1, 0, 0)], [(0, 0), (-13, 156)], [], (2, 0, 1), [], [], ([], []), ([], []))
def c_k173 : List CUT := []
def a_k173 : List (Nat × KT) := []
def l_k173 : LNL := []
theorem k_k173 (g : GG) : KOK Yt (PSt g) t_k173 := verK_ok (PSt_ok g) (PSt_ax g) (dk := 0) (AN := anOf a_k173) (anOf_ok trivial) (LN := lnOf l_k173) (lnOf_ok trivial) (cuts := c_k173) (f := 3000) (by decide +kernel)
def t_k174 : KT := ((174, 2, 0, 0), [(2, 0, 40, 0), (1, 1, 0, 0)], [(0, 0), (0, 155)], [], (1, 0, 77), [], [(9, [(2, 0, 40, 0), (1, 1, 0, 0), (1, 2, 0, 0)])], ([], []), ([], []))
def c_k174 : List CUT := []
def a_k174 : List (Nat × KT) := [(2, t_k167)]
def l_k174 : LNL := [(4, [(t_mrw, [[0], [1], [100081], [500]])])]
theorem k_k174 (g : GG) : KOK Yt (PSt g) t_k174 := verK_ok (PSt_ok g) (PSt_ax g) (dk := 1) (AN := anOf a_k174) (anOf_ok ⟨k_k167 g, trivial⟩) (LN := lnOf l_k174) (lnOf_ok ⟨⟨l_mrw g, trivial⟩, trivial⟩) (cuts := c_k174) (f := 3000) (by decide +kernel)
def t_k175 : KT := ((175, 2, 0, 0), [(2, 0, 40, 0), (1, 1, 0, 0)], [(0, 0), (0, 155)], [], (1, 0, 11), [], [(96, [(2, 0, 40, 0), (1, 1, 0, 0), (1, 2, 0, 0)])], ([], []), ([], []))
def c_k175 : List CUT := []
def a_k175 : List (Nat × KT) := [(2, t_k167)]
def l_k175 : LNL := [(4, [(t_mcl, [[0], [1], [100081], [500]])])]
theorem k_k175 (g : GG) : KOK Yt (PSt g) t_k175 := verK_ok (PSt_ok g) (PSt_ax g) (dk := 1) (AN := anOf a_k175) (anOf_ok ⟨k_k167 g, trivial⟩) (LN := lnOf l_k175) (lnOf_ok ⟨⟨l_mcl g, trivial⟩, trivial⟩) (cuts := c_k175) (f := 3000) (by decide +kernel)
def t_k176s : KT := ((176, 1, 0, 0), [(2, 0, 40, 0), (1, 1, 0, 0)], [(0, 0), (-127, 127)], [], (1, 0, 127), [], [], ([], []), ([], []))
def c_k176s : List CUT := []
def a_k176s : List (Nat × KT) := []
def l_k176s : LNL := []
theorem k_k176s (g : GG) : KOK Yt (PSt g) t_k176s := verK_ok (PSt_ok g) (PSt_ax g) (dk := 0) (AN := anOf a_k176s) (anOf_ok trivial) (LN := lnOf l_k176s) (lnOf_ok trivial) (cuts := c_k176s) (f := 3000) (by decide +kernel)
def t_k176 : KT := ((176, 1, 0, 0), [(2, 0, 40, 0), (1, 1, 0, 0)], [(0, 0), (-2147483648, 2147483647)], [], (1, -2147483648, 2147483647), [], [], ([], []), ([], []))
def c_k176 : List CUT := []
def a_k176 : List (Nat × KT) := []
def l_k176 : LNL := []
theorem k_k176 (g : GG) : KOK Yt (PSt g) t_k176 := verK_ok (PSt_ok g) (PSt_ax g) (dk := 0) (AN := anOf a_k176) (anOf_ok trivial) (LN := lnOf l_k176) (lnOf_ok trivial) (cuts := c_k176) (f := 3000) (by decide +kernel)
def t_k177 : KT := ((177, 1, 0, 0), [(2, 0, 40, 0), (4, 0, 0, 0)], [(0, 0), (0, 0)], [], (1, -127, 127), [], [], ([], []), ([], []))
theorem k_k177 (g : GG) : KOK Yt (PSt g) t_k177 := by
  intro d ρ α Γ M as gs hgn hd hT hB hA _
  cases List.length_eq_zero_iff.mp hgn
  rw [List.append_nil] at hA
  obtain ⟨m, t, rfl, h1, h2⟩ := ARs.cons (show ARs ρ α Γ [(2, 0, 40, 0), (4, 0, 0, 0)] as from hA)
  obtain ⟨m2, t2, rfl, h3, h4⟩ := ARs.cons h2
  cases h4.nil
  obtain ⟨rfl, g1, g2⟩ := h1.ref rfl
  obtain ⟨x, rfl, -⟩ := h3.lng rfl
  cases d with
  | zero => exact absurd hd (by decide)
  | succ d =>
    refine (wrM_ok d (α 0) x M).imp fun r M1 q => ?_
    obtain ⟨rfl, rfl⟩ := q
    exact ⟨Γ, hT, FRM.refl _ _ _, fun _ _ => rfl, Nat.le_refl _, Nat.le_refl _, _, rfl, (wr_bd x).1, (wr_bd x).2, fun p hp => absurd hp List.not_mem_nil⟩
def t_k178 : KT := ((178, 2, 0, 0), [(2, 0, 40, 0), (1, 1, 0, 0), (1, 2, 0, 0)], [(0, 0), (-10, 200), (-10, 200)], [], (1, -127, 127), [], [], ([], []), ([], []))
def c_k178 : List CUT := []
def a_k178 : List (Nat × KT) := [(3, t_k170), (6, t_k170), (9, t_k177)]
def l_k178 : LNL := []
theorem k_k178 (g : GG) : KOK Yt (PSt g) t_k178 := verK_ok (PSt_ok g) (PSt_ax g) (dk := 1) (AN := anOf a_k178) (anOf_ok ⟨k_k170 g, ⟨k_k170 g, ⟨k_k177 g, trivial⟩⟩⟩) (LN := lnOf l_k178) (lnOf_ok trivial) (cuts := c_k178) (f := 3000) (by decide +kernel)
def t_k179 : KT := ((179, 3, 0, 0), [(2, 0, 40, 0), (1, 1, 0, 0)], [(0, 0), (-2147483648, 2147483647)], [], (2, 0, 1), [], [], ([(1, 0, 287)], [(97, [(2, 0, 40, 0), (1, 1, 0, 0)])]), ([], []))
def c_k179 : List CUT := []
def a_k179 : List (Nat × KT) := [(5, t_k168), (18, t_k175), (20, t_k167), (32, t_k174), (34, t_k166)]
def l_k179 : LNL := [(24, [(t_medh, [[0], [1], [100262], [100962], [100081], [100941], [100252], [100272]])]), (38, [(t_medv, [[0], [1], [100262], [100092], [100931], [100941], [100252], [100272]])])]
theorem k_k179 (g : GG) : KOK Yt (PSt g) t_k179 := verK_ok (PSt_ok g) (PSt_ax g) (dk := 2) (AN := anOf a_k179) (anOf_ok ⟨k_k168 g, ⟨k_k175 g, ⟨k_k167 g, ⟨k_k174 g, ⟨k_k166 g, trivial⟩⟩⟩⟩⟩) (LN := lnOf l_k179) (lnOf_ok ⟨⟨l_medh g, trivial⟩, ⟨⟨l_medv g, trivial⟩, trivial⟩⟩) (cuts := c_k179) (f := 3000) (by decide +kernel)
def t_k180 : KT := ((180, 1, 0, 0), [(2, 0, 40, 0), (1, 1, 0, 0)], [(0, 0), (0, 287)], [], (1, 0, 143), [], [], ([], []), ([], []))
def c_k180 : List CUT := []
def a_k180 : List (Nat × KT) := []
def l_k180 : LNL := []
theorem k_k180 (g : GG) : KOK Yt (PSt g) t_k180 := verK_ok (PSt_ok g) (PSt_ax g) (dk := 0) (AN := anOf a_k180) (anOf_ok trivial) (LN := lnOf l_k180) (lnOf_ok trivial) (cuts := c_k180) (f := 3000) (by decide +kernel)
def t_k181e : KT := ((181, 2, 0, 0), [(2, 0, 40, 0), (1, 1, 0, 0)], [(0, 0), (0, 287)], [(97, [(2, 0, 40, 0), (1, 1, 0, 0)])], (1, 1, 143), [], [], ([], []), ([], []))
def c_k181e : List CUT := []
def a_k181e : List (Nat × KT) := [(14, t_k167)]
def l_k181e : LNL := [(7, [(t_mg0, [[0], [1], [500], [100272]])]), (16, [(t_mg1, [[0], [1], [100262], [100272], [100081], [500]])])]
theorem k_k181e (g : GG) : KOK Yt (PSt g) t_k181e := verK_ok (PSt_ok g) (PSt_ax g) (dk := 1) (AN := anOf a_k181e) (anOf_ok ⟨k_k167 g, trivial⟩) (LN := lnOf l_k181e) (lnOf_ok ⟨⟨l_mg0 g, trivial⟩, ⟨⟨l_mg1 g, trivial⟩, trivial⟩⟩) (cuts := c_k181e) (f := 3000) (by decide +kernel)
def t_k181 : KT := ((181, 2, 0, 0), [(2, 0, 40, 0), (1, 1, 0, 0)], [(0, 0), (0, 287)], [], (1, 1, 155), [], [], ([], []), ([], []))
def c_k181 : List CUT := []
def a_k181 : List (Nat × KT) := [(14, t_k167)]
def l_k181 : LNL := []
theorem k_k181 (g : GG) : KOK Yt (PSt g) t_k181 := verK_ok (PSt_ok g) (PSt_ax g) (dk := 1) (AN := anOf a_k181) (anOf_ok ⟨k_k167 g, trivial⟩) (LN := lnOf l_k181) (lnOf_ok trivial) (cuts := c_k181) (f := 3000) (by decide +kernel)
def t_k182 : KT := ((182, 3, 0, 0), [(2, 0, 40, 0), (1, 1, 0, 0)], [(0, 0), (0, 287)], [], (2, 0, 1), [], [], ([], []), ([], []))
def c_k182 : List CUT := []
def a_k182 : List (Nat × KT) := [(3, t_k180), (4, t_k172), (9, t_k181), (10, t_k172)]
def l_k182 : LNL := []
theorem k_k182 (g : GG) : KOK Yt (PSt g) t_k182 := verK_ok (PSt_ok g) (PSt_ax g) (dk := 2) (AN := anOf a_k182) (anOf_ok ⟨k_k180 g, ⟨k_k172 g, ⟨k_k181 g, ⟨k_k172 g, trivial⟩⟩⟩⟩) (LN := lnOf l_k182) (lnOf_ok trivial) (cuts := c_k182) (f := 3000) (by decide +kernel)
def t_k183 : KT := ((183, 1, 0, 0), [(2, 0, 40, 0), (1, 1, 0, 0)], [(0, 0), (0, 287)], [], (2, 0, 1), [], [], ([], []), ([], []))
def c_k183 : List CUT := []
def a_k183 : List (Nat × KT) := []
def l_k183 : LNL := []
theorem k_k183 (g : GG) : KOK Yt (PSt g) t_k183 := verK_ok (PSt_ok g) (PSt_ax g) (dk := 0) (AN := anOf a_k183) (anOf_ok trivial) (LN := lnOf l_k183) (lnOf_ok trivial) (cuts := c_k183) (f := 3000) (by decide +kernel)
def t_k184 : KT := ((184, 3, 0, 0), [(2, 0, 40, 0), (1, 1, 0, 0)], [(0, 0), (0, 287)], [], (1, -2147483648, 2147483647), [], [], ([], []), ([], []))
def c_k184 : List CUT := []
def a_k184 : List (Nat × KT) := [(3, t_k180), (4, t_k171), (9, t_k181), (10, t_k171)]
def l_k184 : LNL := []
theorem k_k184 (g : GG) : KOK Yt (PSt g) t_k184 := verK_ok (PSt_ok g) (PSt_ax g) (dk := 2) (AN := anOf a_k184) (anOf_ok ⟨k_k180 g, ⟨k_k171 g, ⟨k_k181 g, ⟨k_k171 g, trivial⟩⟩⟩⟩) (LN := lnOf l_k184) (lnOf_ok trivial) (cuts := c_k184) (f := 3000) (by decide +kernel)
def t_k185 : KT := ((185, 1, 0, 0), [(2, 0, 40, 0), (1, 1, 0, 0), (1, 2, 0, 0), (1, 3, 0, 0), (1, 4, 1, 0)], [(0, 0), (-2147483648, 2147483647), (-2147483648, 2147483647), (-2147483648, 2147483647), (0, 1000)], [(77, [(2, 0, 40, 0), (1, 4, 0, 0), (0, 0, 0, 0)]), (78, [(0, 0, 0, 0)])], (0, 0, 0), [(40, 5, 6), (42, 0, 180)], [(77, [(2, 0, 40, 0), (1, 4, 0, 1), (0, 0, 0, 0)])], ([], []), ([], []))
def c_k185 : List CUT := []
def a_k185 : List (Nat × KT) := []
def l_k185 : LNL := [(3, [(t_ml0, [[0], [100771], [0, 5]])]), (32, [(t_ml1, [[0], [100591], [0, 5]])])]
theorem k_k185 (g : GG) : KOK Yt (PSt g) t_k185 := verK_ok (PSt_ok g) (PSt_ax g) (dk := 0) (AN := anOf a_k185) (anOf_ok trivial) (LN := lnOf l_k185) (lnOf_ok ⟨⟨l_ml0 g, trivial⟩, ⟨⟨l_ml1 g, trivial⟩, trivial⟩⟩) (cuts := c_k185) (f := 3000) (by decide +kernel)
def t_k187 : KT := ((187, 1, 0, 0), [(2, 0, 40, 0)], [(0, 0)], [], (0, 0, 0), [(41, 2, 5), (41, 442, 1018), (41, 2026, 2314)], [], ([], []), ([], []))
def c_k187 : List CUT := [(2, [0, 1], [(2, 0, 40, 0), (1, 1, 0, 0)], [(0, 0), (0, 144)], [(2, 0, 40, 0), (1, 1, 0, 0)], [(0, [(2, 0, 40, 0)])], (0, 0), [(0, 0, 1), (1, 1, 144)])]
def a_k187 : List (Nat × KT) := []
def l_k187 : LNL := []
theorem k_k187 (g : GG) : KOK Yt (PSt g) t_k187 := verK_ok (PSt_ok g) (PSt_ax g) (dk := 0) (AN := anOf a_k187) (anOf_ok trivial) (LN := lnOf l_k187) (lnOf_ok trivial) (cuts := c_k187) (f := 3000) (by decide +kernel)
def t_k186 : KT := ((186, 1, 0, 0), [(2, 0, 40, 0)], [(0, 0)], [], (0, 0, 0), [(40, 7, 8), (43, 0, 27768)], [], ([], []), ([], []))
def c_k186 : List CUT := [(6, [0, 1, 1007], [(2, 0, 40, 0), (1, 1, 0, 0), (1, 2, 0, 0)], [(0, 0), (0, 25454), (12, 12)], [(2, 0, 40, 0), (1, 1, 0, 0)], [(0, [(2, 0, 40, 0)])], (0, 0), [(0, 0, 2), (1, 1, 25454)]), (26, [0, 1, 1007], [(2, 0, 40, 0), (1, 1, 0, 0), (1, 2, 0, 0)], [(0, 0), (0, 2314), (0, 11)], [(2, 0, 40, 0), (1, 1, 0, 0)], [(0, [(2, 0, 40, 0)])], (0, 0), [(0, 0, 1), (1, 1, 2314)])]
def a_k186 : List (Nat × KT) := []
def l_k186 : LNL := [(41, [(t_acto, [[0, 7], [100252], [1], [501], [500]])])]
theorem k_k186 (g : GG) : KOK Yt (PSt g) t_k186 := verK_ok (PSt_ok g) (PSt_ax g) (dk := 0) (AN := anOf a_k186) (anOf_ok trivial) (LN := lnOf l_k186) (lnOf_ok ⟨⟨l_acto g, trivial⟩, trivial⟩) (cuts := c_k186) (f := 3000) (by decide +kernel)
def t_k188 : KT := ((188, 2, 0, 0), [(2, 0, 40, 0)], [(0, 0)], [], (0, 0, 0), [(40, 7, 8), (41, 2, 5), (41, 442, 1018), (41, 2026, 2314), (43, 0, 27768)], [], ([], []), ([], []))
def c_k188 : List CUT := []
def a_k188 : List (Nat × KT) := [(1, t_k186), (3, t_k187)]
def l_k188 : LNL := []
theorem k_k188 (g : GG) : KOK Yt (PSt g) t_k188 := verK_ok (PSt_ok g) (PSt_ax g) (dk := 1) (AN := anOf a_k188) (anOf_ok ⟨k_k186 g, ⟨k_k187 g, trivial⟩⟩) (LN := lnOf l_k188) (lnOf_ok trivial) (cuts := c_k188) (f := 3000) (by decide +kernel)
def t_k189 : KT := ((189, 2, 0, 0), [(2, 0, 40, 0)], [(0, 0)], [(77, [(2, 0, 40, 0), (0, 0, 0, 0), (0, 0, 0, 0)]), (78, [(0, 0, 0, 0)])], (1, -1, 11), [(40, 0, 1), (40, 5, 6), (40, 7, 8), (41, 0, 2314), (42, 0, 180)], [(77, [(2, 0, 40, 0), (0, 0, 0, 150), (0, 0, 0, 0)])], ([], []), ([], []))
def c_k189 : List CUT := [(16, [0, 1, 1000, 1007], [(2, 0, 40, 0), (1, 1, 0, 0), (1, 2, 0, 0), (1, 3, 0, 0)], [(0, 0), (0, 2314), (0, 0), (0, 11)], [(2, 0, 40, 0), (1, 1, 0, 0)], [(0, [(2, 0, 40, 0)]), (77, [(2, 0, 40, 0), (0, 0, 0, 0), (0, 0, 0, 0)]), (78, [(0, 0, 0, 0)])], (0, 0), [(0, 0, 1), (1, 1, 2314)])]
def a_k189 : List (Nat × KT) := [(39, t_k185)]
def l_k189 : LNL := [(7, [(t_mw77, [[0], [100771]])]), (30, [(t_acfr0, [[0, 7], [100252], [1], [500]])]), (31, [(t_acfr, [[0, 7], [100252], [1], [100232], [500]])]), (42, [(t_mw77, [[0], [100771]])])]
theorem k_k189 (g : GG) : KOK Yt (PSt g) t_k189 := verK_ok (PSt_ok g) (PSt_ax g) (dk := 1) (AN := anOf a_k189) (anOf_ok ⟨k_k185 g, trivial⟩) (LN := lnOf l_k189) (lnOf_ok ⟨⟨l_mw77 g, trivial⟩, ⟨⟨l_acfr0 g, trivial⟩, ⟨⟨l_acfr g, trivial⟩, ⟨⟨l_mw77 g, trivial⟩, trivial⟩⟩⟩⟩) (cuts := c_k189) (f := 3000) (by decide +kernel)
def t_k190 : KT := ((190, 1, 0, 0), [(2, 0, 40, 0), (1, 1, 0, 0), (1, 2, 0, 0)], [(0, 0), (2, 12), (2, 12)], [], (0, 0, 0), [(41, 0, 2314)], [], ([], []), ([], []))
def c_k190 : List CUT := [(2, [0, 1, 2, 3], [(2, 0, 40, 0), (1, 1, 0, 0), (1, 2, 0, 0), (1, 3, 0, 0)], [(0, 0), (2, 12), (2, 12), (0, 2314)], [(2, 0, 40, 0), (1, 1, 0, 0), (1, 2, 0, 0), (1, 3, 0, 0)], [(0, [(2, 0, 40, 0), (1, 1, 0, 0), (1, 2, 0, 0)])], (0, 0), [(0, 0, 1), (1, 3, 2314)])]
def a_k190 : List (Nat × KT) := []
def l_k190 : LNL := []
theorem k_k190 (g : GG) : KOK Yt (PSt g) t_k190 := verK_ok (PSt_ok g) (PSt_ax g) (dk := 0) (AN := anOf a_k190) (anOf_ok trivial) (LN := lnOf l_k190) (lnOf_ok trivial) (cuts := c_k190) (f := 3000) (by decide +kernel)
def t_k195 : KT := ((195, 3, 0, 0), [(2, 0, 40, 0), (1, 1, 0, 0), (1, 2, 0, 0)], [(0, 0), (0, 143), (0, 3)], [(95, [(2, 0, 40, 0), (1, 1, 0, 0)])], (1, -1, 143), [], [(20, [(2, 0, 40, 0), (1, 1, 0, 0), (1, 2, 0, 0), (1, 3, 0, 0)])], ([], []), ([], []))
def c_k195 : List CUT := []
def a_k195 : List (Nat × KT) := [(4, t_k175), (6, t_k167), (21, t_k174), (23, t_k166), (29, t_k167), (39, t_k175), (49, t_k174), (53, t_k167)]
def l_k195 : LNL := [(13, [(t_nb0, [[0], [1], [2], [100962], [100081]])]), (14, [(t_nbn, [[0], [1], [2]])]), (31, [(t_nb1, [[0], [1], [2], [100092], [100931], [100081], [500]])]), (32, [(t_nbn, [[0], [1], [2]])]), (44, [(t_nb2, [[0], [1], [2], [100962]])]), (45, [(t_nbn, [[0], [1], [2]])]), (55, [(t_nb3, [[0], [1], [2], [100092], [100081], [500]])]), (56, [(t_nbn, [[0], [1], [2]])])]
theorem k_k195 (g : GG) : KOK Yt (PSt g) t_k195 := verK_ok (PSt_ok g) (PSt_ax g) (dk := 2) (AN := anOf a_k195) (anOf_ok ⟨k_k175 g, ⟨k_k167 g, ⟨k_k174 g, ⟨k_k166 g, ⟨k_k167 g, ⟨k_k175 g, ⟨k_k174 g, ⟨k_k167 g, trivial⟩⟩⟩⟩⟩⟩⟩⟩) (LN := lnOf l_k195) (lnOf_ok ⟨⟨l_nb0 g, trivial⟩, ⟨⟨l_nbn g, trivial⟩, ⟨⟨l_nb1 g, trivial⟩, ⟨⟨l_nbn g, trivial⟩, ⟨⟨l_nb2 g, trivial⟩, ⟨⟨l_nbn g, trivial⟩, ⟨⟨l_nb3 g, trivial⟩, ⟨⟨l_nbn g, trivial⟩, trivial⟩⟩⟩⟩⟩⟩⟩⟩) (cuts := c_k195) (f := 3000) (by decide +kernel)
def t_k196 : KT := ((196, 2, 0, 0), [(2, 0, 40, 0), (1, 1, 0, 0), (1, 2, 0, 0)], [(0, 0), (0, 143), (0, 3)], [(28, [(2, 0, 40, 0), (1, 1, 0, 0), (1, 2, 0, 0)])], (1, 0, 287), [], [], ([], []), ([], []))
def c_k196 : List CUT := []
def a_k196 : List (Nat × KT) := [(27, t_k167)]
def l_k196 : LNL := [(18, [(t_et2, [[0], [1], [2]])]), (29, [(t_et3, [[0], [1], [2], [100081], [500]])])]
theorem k_k196 (g : GG) : KOK Yt (PSt g) t_k196 := verK_ok (PSt_ok g) (PSt_ax g) (dk := 1) (AN := anOf a_k196) (anOf_ok ⟨k_k167 g, trivial⟩) (LN := lnOf l_k196) (lnOf_ok ⟨⟨l_et2 g, trivial⟩, ⟨⟨l_et3 g, trivial⟩, trivial⟩⟩) (cuts := c_k196) (f := 3000) (by decide +kernel)
def t_k197 : KT := ((197, 4, 0, 0), [(2, 0, 40, 0), (1, 1, 0, 0)], [(0, 0), (0, 143)], [(95, [(2, 0, 40, 0), (1, 1, 0, 0)])], (1, -409, 99), [], [], ([], []), ([], []))
def c_k197 : List CUT := [(6, [0, 1, 2, 3, 4], [(2, 0, 40, 0), (1, 1, 0, 0), (1, 2, 0, 0), (1, 3, 0, 0), (1, 4, 0, 0)], [(0, 0), (0, 143), (0, 11), (0, 2313), (0, 4)], [(2, 0, 40, 0), (1, 1, 0, 0), (1, 2, 0, 0), (1, 3, 0, 0), (1, 4, 0, 0), (7, 0, 0, 0)], [(0, [(2, 0, 40, 0), (1, 1, 0, 0)]), (6, [(1, 2, 0, 0), (1, 4, 0, 0)]), (19, [(1, 3, 0, 0), (1, 2, 0, 0)]), (95, [(2, 0, 40, 0), (1, 1, 0, 0)])], (0, 0), [(0, 0, 1), (1, 4, 4)])]
def a_k197 : List (Nat × KT) := [(12, t_k195), (19, t_k172), (31, t_k178), (32, t_k176s)]
def l_k197 : LNL := [(5, [(t_le0, [[2], [500]]), (t_gs0, [[3], [2]])]), (6, [(t_leb4, [[2], [4]]), (t_gsb, [[3], [2]])]), (34, [(t_gs2, [[3], [100231], [500], [2]])]), (36, [(t_le1, [[2], [4]]), (t_le2, [[2], [4]])])]
theorem k_k197 (g : GG) : KOK Yt (PSt g) t_k197 := verK_ok (PSt_ok g) (PSt_ax g) (dk := 3) (AN := anOf a_k197) (anOf_ok ⟨k_k195 g, ⟨k_k172 g, ⟨k_k178 g, ⟨k_k176s g, trivial⟩⟩⟩⟩) (LN := lnOf l_k197) (lnOf_ok ⟨⟨l_le0 g, ⟨l_gs0 g, trivial⟩⟩, ⟨⟨l_leb4 g, ⟨l_gsb g, trivial⟩⟩, ⟨⟨l_gs2 g, trivial⟩, ⟨⟨l_le1 g, ⟨l_le2 g, trivial⟩⟩, trivial⟩⟩⟩⟩) (cuts := c_k197) (f := 3000) (by decide +kernel)
def t_k198 : KT := ((198, 3, 0, 0), [(2, 0, 40, 0), (1, 1, 0, 0), (1, 2, 0, 0)], [(0, 0), (0, 143), (0, 143)], [], (1, 0, 254), [], [], ([], []), ([], []))
def c_k198 : List CUT := []
def a_k198 : List (Nat × KT) := [(3, t_k174), (6, t_k174), (8, t_k176s), (12, t_k175), (15, t_k175), (17, t_k176s)]
def l_k198 : LNL := []
theorem k_k198 (g : GG) : KOK Yt (PSt g) t_k198 := verK_ok (PSt_ok g) (PSt_ax g) (dk := 2) (AN := anOf a_k198) (anOf_ok ⟨k_k174 g, ⟨k_k174 g, ⟨k_k176s g, ⟨k_k175 g, ⟨k_k175 g, ⟨k_k176s g, trivial⟩⟩⟩⟩⟩⟩) (LN := lnOf l_k198) (lnOf_ok trivial) (cuts := c_k198) (f := 3000) (by decide +kernel)
def t_k205 : KT := ((205, 4, 0, 0), [(2, 0, 40, 0), (1, 1, 0, 0)], [(0, 0), (-2147483648, 2147483647)], [], (2, 0, 1), [], [], ([(1, 0, 143)], []), ([], []))
def c_k205 : List CUT := []
def a_k205 : List (Nat × KT) := [(2, t_k169), (6, t_k174), (8, t_k166), (14, t_k175), (16, t_k167)]
def l_k205 : LNL := []
theorem k_k205 (g : GG) : KOK Yt (PSt g) t_k205 := verK_ok (PSt_ok g) (PSt_ax g) (dk := 3) (AN := anOf a_k205) (anOf_ok ⟨k_k169 g, ⟨k_k174 g, ⟨k_k166 g, ⟨k_k175 g, ⟨k_k167 g, trivial⟩⟩⟩⟩⟩) (LN := lnOf l_k205) (lnOf_ok trivial) (cuts := c_k205) (f := 3000) (by decide +kernel)
def t_k206 : KT := ((206, 5, 0, 0), [(2, 0, 40, 0), (1, 1, 0, 0)], [(0, 0), (0, 155)], [], (1, -1, 1), [], [], ([], []), ([], []))
def c_k206 : List CUT := []
def a_k206 : List (Nat × KT) := [(2, t_k205), (12, t_k167), (17, t_k172), (21, t_k172), (25, t_k172), (31, t_k172), (38, t_k178), (44, t_k178), (51, t_k178), (56, t_k178)]
def l_k206 : LNL := []
theorem k_k206 (g : GG) : KOK Yt (PSt g) t_k206 := verK_ok (PSt_ok g) (PSt_ax g) (dk := 4) (AN := anOf a_k206) (anOf_ok ⟨k_k205 g, ⟨k_k167 g, ⟨k_k172 g, ⟨k_k172 g, ⟨k_k172 g, ⟨k_k172 g, ⟨k_k178 g, ⟨k_k178 g, ⟨k_k178 g, ⟨k_k178 g, trivial⟩⟩⟩⟩⟩⟩⟩⟩⟩⟩) (LN := lnOf l_k206) (lnOf_ok trivial) (cuts := c_k206) (f := 3000) (by decide +kernel)
def t_k199 : KT := ((199, 6, 0, 0), [(2, 0, 40, 0), (1, 1, 0, 0)], [(0, 0), (0, 143)], [], (1, 0, 2286), [], [], ([], []), ([], []))
def c_k199 : List CUT := [(4, [0, 1, 2, 3], [(2, 0, 40, 0), (1, 1, 0, 0), (1, 2, 0, 0), (1, 3, 0, 0)], [(0, 0), (0, 143), (0, 2286), (0, 144)], [(2, 0, 40, 0), (1, 1, 0, 0), (1, 2, 0, 0), (1, 3, 0, 0)], [(0, [(2, 0, 40, 0), (1, 1, 0, 0)])], (0, 0), [(0, 0, 1), (1, 3, 144)])]
def a_k199 : List (Nat × KT) := [(6, t_k168), (10, t_k206), (16, t_k198), (24, t_k198)]
def l_k199 : LNL := []
theorem k_k199 (g : GG) : KOK Yt (PSt g) t_k199 := verK_ok (PSt_ok g) (PSt_ax g) (dk := 5) (AN := anOf a_k199) (anOf_ok ⟨k_k168 g, ⟨k_k206 g, ⟨k_k198 g, ⟨k_k198 g, trivial⟩⟩⟩⟩) (LN := lnOf l_k199) (lnOf_ok trivial) (cuts := c_k199) (f := 3000) (by decide +kernel)
def t_k165_0 : KT := ((165, 1, 0, 0), [(2, 0, 40, 0), (1, 1, 0, 0), (1, 2, 0, 0), (1, 3, 0, 0)], [(0, 0), (-2147483648, 2147483647), (0, 0), (2, 2)], [], (2, 0, 1), [], [], ([(1, 0, 2)], []), ([], []))
def c_k165_0 : List CUT := []
def a_k165_0 : List (Nat × KT) := []
def l_k165_0 : LNL := []
theorem k_k165_0 (g : GG) : KOK Yt (PSt g) t_k165_0 := verK_ok (PSt_ok g) (PSt_ax g) (dk := 0) (AN := anOf a_k165_0) (anOf_ok trivial) (LN := lnOf l_k165_0) (lnOf_ok trivial) (cuts := c_k165_0) (f := 3000) (by decide +kernel)
def t_k200 : KT := ((200, 7, 0, 0), [(2, 0, 40, 0), (1, 1, 0, 0)], [(0, 0), (-2147483648, 2147483647)], [], (1, -2147483648, 2147483647), [(40, 0, 1), (40, 7, 8), (41, 154, 298), (43, 0, 27768)], [], ([], []), ([], []))
def c_k200 : List CUT := [(17, [0, 1, 2, 3, 1000], [(2, 0, 40, 0), (1, 1, 0, 0), (1, 2, 0, 0), (1, 3, 0, 0), (1, 4, 0, 0)], [(0, 0), (0, 2), (-2147483648, 2147483647), (0, 144), (0, 0)], [(2, 0, 40, 0), (1, 1, 0, 0), (1, 2, 0, 0), (1, 3, 0, 0), (7, 0, 0, 0)], [(0, [(2, 0, 40, 0), (1, 1, 0, 0)])], (0, 0), [(0, 0, 1), (1, 3, 144)])]
def a_k200 : List (Nat × KT) := [(7, t_k165_0), (12, t_k186), (19, t_k168), (27, t_k172), (36, t_k197), (40, t_k199)]
def l_k200 : LNL := [(34, [(t_mpx, [[0], [3], [100941]])])]
theorem k_k200 (g : GG) : KOK Yt (PSt g) t_k200 := verK_ok (PSt_ok g) (PSt_ax g) (dk := 6) (AN := anOf a_k200) (anOf_ok ⟨k_k165_0 g, ⟨k_k186 g, ⟨k_k168 g, ⟨k_k172 g, ⟨k_k197 g, ⟨k_k199 g, trivial⟩⟩⟩⟩⟩⟩) (LN := lnOf l_k200) (lnOf_ok ⟨⟨l_mpx g, trivial⟩, trivial⟩) (cuts := c_k200) (f := 3000) (by decide +kernel)
def t_k165_1 : KT := ((165, 1, 0, 0), [(2, 0, 40, 0), (1, 1, 0, 0), (1, 2, 0, 0), (1, 3, 0, 0)], [(0, 0), (-2147483648, 2147483647), (-999, -999), (999, 999)], [], (2, 0, 1), [], [], ([(1, -999, 999)], []), ([], []))
def c_k165_1 : List CUT := []
def a_k165_1 : List (Nat × KT) := []
def l_k165_1 : LNL := []
theorem k_k165_1 (g : GG) : KOK Yt (PSt g) t_k165_1 := verK_ok (PSt_ok g) (PSt_ax g) (dk := 0) (AN := anOf a_k165_1) (anOf_ok trivial) (LN := lnOf l_k165_1) (lnOf_ok trivial) (cuts := c_k165_1) (f := 3000) (by decide +kernel)
def t_k201 : KT := ((201, 3, 0, 0), [(2, 0, 40, 0), (1, 1, 0, 0), (1, 2, 0, 0)], [(0, 0), (-2147483648, 2147483647), (-2147483648, 2147483647)], [], (2, 0, 1), [(40, 0, 1), (40, 7, 8), (41, 2, 5), (41, 10, 154), (41, 442, 1018), (41, 2026, 2314), (43, 0, 27768)], [], ([], []), ([], []))
def c_k201 : List CUT := [(21, [0, 1, 2, 3, 1000], [(2, 0, 40, 0), (1, 1, 0, 0), (1, 2, 0, 0), (1, 3, 0, 0), (1, 4, 0, 0)], [(0, 0), (-999, 999), (-999, 999), (0, 144), (0, 0)], [(2, 0, 40, 0), (1, 1, 0, 0), (1, 2, 0, 0), (1, 3, 0, 0)], [(0, [(2, 0, 40, 0), (1, 1, 0, 0), (1, 2, 0, 0)])], (0, 0), [(0, 0, 1), (1, 3, 144)])]
def a_k201 : List (Nat × KT) := [(7, t_k165_1), (13, t_k165_1), (18, t_k188), (23, t_k168), (33, t_k170), (37, t_k174), (43, t_k175), (47, t_k177)]
def l_k201 : LNL := []
theorem k_k201 (g : GG) : KOK Yt (PSt g) t_k201 := verK_ok (PSt_ok g) (PSt_ax g) (dk := 2) (AN := anOf a_k201) (anOf_ok ⟨k_k165_1 g, ⟨k_k165_1 g, ⟨k_k188 g, ⟨k_k168 g, ⟨k_k170 g, ⟨k_k174 g, ⟨k_k175 g, ⟨k_k177 g, trivial⟩⟩⟩⟩⟩⟩⟩⟩) (LN := lnOf l_k201) (lnOf_ok trivial) (cuts := c_k201) (f := 3000) (by decide +kernel)
def t_k202 : KT := ((202, 1, 0, 0), [(2, 0, 40, 0), (1, 1, 0, 0)], [(0, 0), (1, 144)], [], (1, 0, 143), [(40, 3, 4)], [], ([], []), ([], []))
def c_k202 : List CUT := []
def a_k202 : List (Nat × KT) := []
def l_k202 : LNL := []
theorem k_k202 (g : GG) : KOK Yt (PSt g) t_k202 := verK_ok (PSt_ok g) (PSt_ax g) (dk := 0) (AN := anOf a_k202) (anOf_ok trivial) (LN := lnOf l_k202) (lnOf_ok trivial) (cuts := c_k202) (f := 3000) (by decide +kernel)
def t_k165_2 : KT := ((165, 1, 0, 0), [(2, 0, 40, 0), (1, 1, 0, 0), (1, 2, 0, 0), (1, 3, 0, 0)], [(0, 0), (-2147483648, 2147483647), (1, 1), (60, 60)], [], (2, 0, 1), [], [], ([(1, 1, 60)], []), ([], []))
def c_k165_2 : List CUT := []
def a_k165_2 : List (Nat × KT) := []
def l_k165_2 : LNL := []
theorem k_k165_2 (g : GG) : KOK Yt (PSt g) t_k165_2 := verK_ok (PSt_ok g) (PSt_ax g) (dk := 0) (AN := anOf a_k165_2) (anOf_ok trivial) (LN := lnOf l_k165_2) (lnOf_ok trivial) (cuts := c_k165_2) (f := 3000) (by decide +kernel)
def t_k203 : KT := ((203, 3, 0, 0), [(2, 0, 40, 0), (1, 1, 0, 0)], [(0, 0), (-2147483648, 2147483647)], [], (2, 0, 1), [(40, 0, 1), (40, 3, 4), (40, 7, 8), (41, 2, 5), (41, 10, 154), (41, 442, 1018), (41, 2026, 2314), (43, 0, 27768)], [], ([], []), ([], []))
def c_k203 : List CUT := [(15, [0, 1, 2, 1000], [(2, 0, 40, 0), (1, 1, 0, 0), (1, 2, 0, 0), (1, 3, 0, 0)], [(0, 0), (1, 60), (0, 60), (0, 0)], [(2, 0, 40, 0), (1, 1, 0, 0), (1, 2, 0, 0), (7, 0, 0, 0)], [(0, [(2, 0, 40, 0), (1, 1, 0, 0)])], (0, 0), [(0, 0, 1), (1, 2, 60)])]
def a_k203 : List (Nat × KT) := [(7, t_k165_2), (12, t_k188), (20, t_k168), (21, t_k202), (31, t_k170), (34, t_k202), (39, t_k177)]
def l_k203 : LNL := []
theorem k_k203 (g : GG) : KOK Yt (PSt g) t_k203 := verK_ok (PSt_ok g) (PSt_ax g) (dk := 2) (AN := anOf a_k203) (anOf_ok ⟨k_k165_2 g, ⟨k_k188 g, ⟨k_k168 g, ⟨k_k202 g, ⟨k_k170 g, ⟨k_k202 g, ⟨k_k177 g, trivial⟩⟩⟩⟩⟩⟩⟩) (LN := lnOf l_k203) (lnOf_ok trivial) (cuts := c_k203) (f := 3000) (by decide +kernel)
def t_k204 : KT := ((204, 1, 0, 0), [(2, 0, 40, 0), (1, 1, 0, 0)], [(0, 0), (-2147483648, 2147483647)], [], (1, -2147483648, 2147483647), [(40, 0, 1), (40, 3, 4)], [], ([], []), ([], []))
def c_k204 : List CUT := []
def a_k204 : List (Nat × KT) := []
def l_k204 : LNL := []
theorem k_k204 (g : GG) : KOK Yt (PSt g) t_k204 := verK_ok (PSt_ok g) (PSt_ax g) (dk := 0) (AN := anOf a_k204) (anOf_ok trivial) (LN := lnOf l_k204) (lnOf_ok trivial) (cuts := c_k204) (f := 3000) (by decide +kernel)
def t_k207 : KT := ((207, 3, 0, 0), [(2, 0, 40, 0), (1, 1, 0, 0), (1, 2, 0, 0)], [(0, 0), (0, 143), (0, 3)], [], (1, -76, 78), [], [], ([], []), ([], []))
def c_k207 : List CUT := []
def a_k207 : List (Nat × KT) := [(4, t_k174), (12, t_k166), (17, t_k174), (25, t_k175), (30, t_k167), (35, t_k175)]
def l_k207 : LNL := []
theorem k_k207 (g : GG) : KOK Yt (PSt g) t_k207 := verK_ok (PSt_ok g) (PSt_ax g) (dk := 2) (AN := anOf a_k207) (anOf_ok ⟨k_k174 g, ⟨k_k166 g, ⟨k_k174 g, ⟨k_k175 g, ⟨k_k167 g, ⟨k_k175 g, trivial⟩⟩⟩⟩⟩⟩) (LN := lnOf l_k207) (lnOf_ok trivial) (cuts := c_k207) (f := 3000) (by decide +kernel)
def t_k208 : KT := ((208, 4, 0, 0), [(2, 0, 40, 0), (1, 1, 0, 0)], [(0, 0), (0, 143)], [], (1, 0, 3), [], [], ([], []), ([], []))
def c_k208 : List CUT := [(4, [0, 1, 2, 3], [(2, 0, 40, 0), (1, 1, 0, 0), (1, 2, 0, 0), (1, 3, 0, 0)], [(0, 0), (0, 143), (0, 3), (1, 4)], [(2, 0, 40, 0), (1, 1, 0, 0), (1, 2, 0, 0), (1, 3, 0, 0)], [(0, [(2, 0, 40, 0), (1, 1, 0, 0)])], (0, 0), [(0, 0, 1), (1, 3, 4)])]
def a_k208 : List (Nat × KT) := [(10, t_k207), (14, t_k207)]
def l_k208 : LNL := []
theorem k_k208 (g : GG) : KOK Yt (PSt g) t_k208 := verK_ok (PSt_ok g) (PSt_ax g) (dk := 3) (AN := anOf a_k208) (anOf_ok ⟨k_k207 g, ⟨k_k207 g, trivial⟩⟩) (LN := lnOf l_k208) (lnOf_ok trivial) (cuts := c_k208) (f := 3000) (by decide +kernel)
def t_k209 : KT := ((209, 5, 0, 0), [(2, 0, 40, 0), (1, 1, 0, 0)], [(0, 0), (0, 143)], [], (1, -76, 78), [], [], ([], []), ([], []))
def c_k209 : List CUT := []
def a_k209 : List (Nat × KT) := [(4, t_k208), (5, t_k207)]
def l_k209 : LNL := []
theorem k_k209 (g : GG) : KOK Yt (PSt g) t_k209 := verK_ok (PSt_ok g) (PSt_ax g) (dk := 4) (AN := anOf a_k209) (anOf_ok ⟨k_k208 g, ⟨k_k207 g, trivial⟩⟩) (LN := lnOf l_k209) (lnOf_ok trivial) (cuts := c_k209) (f := 3000) (by decide +kernel)
def t_k210 : KT := ((210, 6, 0, 0), [(2, 0, 40, 0)], [(0, 0)], [], (0, 0, 0), [(40, 9, 10), (44, 0, 144)], [(91, [(2, 0, 40, 0)])], ([], []), ([], []))
def c_k210 : List CUT := [(5, [0, 1, 1009], [(2, 0, 40, 0), (1, 1, 0, 0), (1, 2, 0, 0)], [(0, 0), (0, 144), (0, 144)], [(2, 0, 40, 0), (1, 1, 0, 0)], [(0, [(2, 0, 40, 0)]), (6, [(1, 2, 0, 0), (1, 1, 0, 0)]), (91, [(2, 0, 40, 0)])], (0, 0), [(0, 0, 1), (1, 1, 144)])]
def a_k210 : List (Nat × KT) := [(7, t_k168), (11, t_k206)]
def l_k210 : LNL := [(4, [(t_le0, [[0, 9], [500]]), (t_tn0, [[0], [0, 9]])]), (9, [(t_mpx, [[0], [1], [100941]])]), (14, [(t_lebr, [[0, 9], [1]])]), (19, [(t_tn1, [[0], [0, 8], [0, 9]])]), (20, [(t_tn2, [[0], [0, 8], [0, 9], [1]])]), (26, [(t_tn3, [[0], [0, 8], [0, 9]])]), (27, [(t_le1, [[0, 9], [1]]), (t_le2, [[0, 9], [1]])])]
theorem k_k210 (g : GG) : KOK Yt (PSt g) t_k210 := verK_ok (PSt_ok g) (PSt_ax g) (dk := 5) (AN := anOf a_k210) (anOf_ok ⟨k_k168 g, ⟨k_k206 g, trivial⟩⟩) (LN := lnOf l_k210) (lnOf_ok ⟨⟨l_le0 g, ⟨l_tn0 g, trivial⟩⟩, ⟨⟨l_mpx g, trivial⟩, ⟨⟨l_lebr g, trivial⟩, ⟨⟨l_tn1 g, trivial⟩, ⟨⟨l_tn2 g, trivial⟩, ⟨⟨l_tn3 g, trivial⟩, ⟨⟨l_le1 g, ⟨l_le2 g, trivial⟩⟩, trivial⟩⟩⟩⟩⟩⟩⟩) (cuts := c_k210) (f := 3000) (by decide +kernel)
def t_k211 : KT := ((211, 6, 0, 0), [(2, 0, 40, 0), (1, 1, 0, 0), (1, 2, 0, 0)], [(0, 0), (0, 143), (0, 143)], [], (2, 0, 1), [], [], ([], []), ([], []))
def c_k211 : List CUT := []
def a_k211 : List (Nat × KT) := [(5, t_k206), (11, t_k206)]
def l_k211 : LNL := []
theorem k_k211 (g : GG) : KOK Yt (PSt g) t_k211 := verK_ok (PSt_ok g) (PSt_ax g) (dk := 5) (AN := anOf a_k211) (anOf_ok ⟨k_k206 g, ⟨k_k206 g, trivial⟩⟩) (LN := lnOf l_k211) (lnOf_ok trivial) (cuts := c_k211) (f := 3000) (by decide +kernel)
def t_k215 : KT := ((215, 1, 0, 0), [(2, 0, 40, 0), (1, 1, 0, 0)], [(0, 0), (0, 287)], [], (0, 0, 0), [(41, 1018, 1306)], [], ([], []), ([], []))
def c_k215 : List CUT := []
def a_k215 : List (Nat × KT) := []
def l_k215 : LNL := []
theorem k_k215 (g : GG) : KOK Yt (PSt g) t_k215 := verK_ok (PSt_ok g) (PSt_ax g) (dk := 0) (AN := anOf a_k215) (anOf_ok trivial) (LN := lnOf l_k215) (lnOf_ok trivial) (cuts := c_k215) (f := 3000) (by decide +kernel)
def t_k216 : KT := ((216, 3, 0, 0), [(2, 0, 40, 0), (1, 1, 0, 0), (1, 2, 0, 0)], [(0, 0), (0, 143), (0, 3)], [(95, [(2, 0, 40, 0), (1, 1, 0, 0)])], (0, 0, 0), [(41, 1018, 1306)], [], ([], []), ([], []))
def c_k216 : List CUT := [(15, [0, 1, 2, 3, 4, 5, 6], [(2, 0, 40, 0), (1, 1, 0, 0), (1, 2, 0, 0), (1, 3, 0, 0), (1, 4, 0, 0), (1, 5, 0, 0), (1, 6, 0, 0)], [(0, 0), (0, 143), (0, 0), (0, 77), (0, 11), (2, 12), (-1, 77)], [(2, 0, 40, 0), (1, 1, 0, 0), (1, 2, 0, 0), (1, 3, 0, 0), (1, 4, 0, 0), (1, 5, 0, 0), (1, 6, 0, 0)], [(0, [(2, 0, 40, 0), (1, 1, 0, 0), (1, 2, 0, 0)]), (8, [(2, 0, 40, 0), (1, 5, 0, 0)]), (21, [(1, 4, 0, 0), (1, 5, 0, 0)]), (76, [(2, 0, 40, 0), (1, 3, 0, 0)]), (76, [(2, 0, 40, 0), (1, 6, 0, 0)])], (0, 0), [(0, 0, 4), (2, 6, -1)]), (35, [0, 1, 2, 3, 4, 5, 6], [(2, 0, 40, 0), (1, 1, 0, 0), (1, 2, 0, 0), (1, 3, 0, 0), (1, 4, 0, 0), (1, 5, 0, 0), (1, 6, 0, 0)], [(0, 0), (0, 143), (1, 1), (0, 77), (0, 11), (2, 12), (1, 78)], [(2, 0, 40, 0), (1, 1, 0, 0), (1, 2, 0, 0), (1, 3, 0, 0), (1, 4, 0, 0), (1, 5, 0, 0), (1, 6, 0, 0)], [(0, [(2, 0, 40, 0), (1, 1, 0, 0), (1, 2, 0, 0)]), (8, [(2, 0, 40, 0), (1, 5, 0, 0)]), (21, [(1, 4, 0, 0), (1, 5, 0, 0)]), (76, [(2, 0, 40, 0), (1, 3, 0, 0)])], (0, 0), [(0, 0, 3), (1, 6, 78)]), (55, [0, 1, 2, 3, 4, 5, 6], [(2, 0, 40, 0), (1, 1, 0, 0), (1, 2, 0, 0), (1, 3, 0, 0), (1, 4, 0, 0), (1, 5, 0, 0), (1, 6, 0, 0)], [(0, 0), (0, 143), (2, 2), (0, 77), (0, 11), (2, 12), (-1, 11)], [(2, 0, 40, 0), (1, 1, 0, 0), (1, 2, 0, 0), (1, 3, 0, 0), (1, 4, 0, 0), (1, 5, 0, 0), (1, 6, 0, 0)], [(0, [(2, 0, 40, 0), (1, 1, 0, 0), (1, 2, 0, 0)]), (8, [(2, 0, 40, 0), (1, 5, 0, 0)]), (21, [(1, 4, 0, 0), (1, 5, 0, 0)]), (76, [(2, 0, 40, 0), (1, 3, 0, 0)]), (21, [(1, 6, 0, 0), (1, 5, 0, 0)])], (0, 0), [(0, 0, 2), (2, 6, -1)]), (77, [0, 1, 2, 3, 4, 5, 6], [(2, 0, 40, 0), (1, 1, 0, 0), (1, 2, 0, 0), (1, 3, 0, 0), (1, 4, 0, 0), (1, 5, 0, 0), (1, 6, 0, 0)], [(0, 0), (0, 143), (3, 3), (0, 77), (0, 11), (2, 12), (1, 12)], [(2, 0, 40, 0), (1, 1, 0, 0), (1, 2, 0, 0), (1, 3, 0, 0), (1, 4, 0, 0), (1, 5, 0, 0), (1, 6, 0, 0)], [(0, [(2, 0, 40, 0), (1, 1, 0, 0), (1, 2, 0, 0)]), (8, [(2, 0, 40, 0), (1, 5, 0, 0)]), (21, [(1, 4, 0, 0), (1, 5, 0, 0)]), (76, [(2, 0, 40, 0), (1, 3, 0, 0)])], (0, 0), [(0, 0, 1), (1, 6, 12)])]
def a_k216 : List (Nat × KT) := [(2, t_k174), (6, t_k175), (9, t_k167), (25, t_k215), (37, t_k166), (47, t_k215), (67, t_k215), (90, t_k215)]
def l_k216 : LNL := [(11, [(t_r76, [[0], [1], [3]]), (t_c21, [[0], [1], [4], [5]])]), (24, [(t_rc, [[0], [5], [6], [4], [100252], [500]])]), (27, [(t_r76d, [[0], [6]])]), (39, [(t_r76k, [[0], [6], [100931]])]), (46, [(t_rc, [[0], [5], [6], [4], [100252], [500]])]), (64, [(t_rc, [[0], [5], [3], [6], [100252], [500]])]), (69, [(t_ltd, [[6], [5]])]), (87, [(t_rc, [[0], [5], [3], [6], [100252], [500]])])]
theorem k_k216 (g : GG) : KOK Yt (PSt g) t_k216 := verK_ok (PSt_ok g) (PSt_ax g) (dk := 2) (AN := anOf a_k216) (anOf_ok ⟨k_k174 g, ⟨k_k175 g, ⟨k_k167 g, ⟨k_k215 g, ⟨k_k166 g, ⟨k_k215 g, ⟨k_k215 g, ⟨k_k215 g, trivial⟩⟩⟩⟩⟩⟩⟩⟩) (LN := lnOf l_k216) (lnOf_ok ⟨⟨l_r76 g, ⟨l_c21 g, trivial⟩⟩, ⟨⟨l_rc g, trivial⟩, ⟨⟨l_r76d g, trivial⟩, ⟨⟨l_r76k g, trivial⟩, ⟨⟨l_rc g, trivial⟩, ⟨⟨l_rc g, trivial⟩, ⟨⟨l_ltd g, trivial⟩, ⟨⟨l_rc g, trivial⟩, trivial⟩⟩⟩⟩⟩⟩⟩⟩) (cuts := c_k216) (f := 3000) (by decide +kernel)
def t_k217 : KT := ((217, 3, 0, 0), [(2, 0, 40, 0), (1, 1, 0, 0), (1, 2, 0, 0)], [(0, 0), (0, 143), (0, 143)], [(95, [(2, 0, 40, 0), (1, 1, 0, 0)]), (95, [(2, 0, 40, 0), (1, 2, 0, 0)])], (0, 0, 0), [(41, 1018, 1306)], [], ([], []), ([], []))
def c_k217 : List CUT := [(11, [0, 1, 2, 3, 4, 5], [(2, 0, 40, 0), (1, 1, 0, 0), (1, 2, 0, 0), (1, 3, 0, 0), (1, 4, 0, 0), (1, 5, 0, 0)], [(0, 0), (0, 143), (0, 143), (0, 77), (2, 12), (0, 11)], [(2, 0, 40, 0), (1, 1, 0, 0), (1, 2, 0, 0), (1, 3, 0, 0), (1, 4, 0, 0), (1, 5, 0, 0)], [(0, [(2, 0, 40, 0), (1, 1, 0, 0), (1, 2, 0, 0)]), (95, [(2, 0, 40, 0), (1, 1, 0, 0)]), (95, [(2, 0, 40, 0), (1, 2, 0, 0)]), (8, [(2, 0, 40, 0), (1, 4, 0, 0)]), (76, [(2, 0, 40, 0), (1, 3, 0, 0)])], (0, 0), [(0, 0, 3), (1, 5, 11)]), (35, [0, 1, 2, 3, 4, 5], [(2, 0, 40, 0), (1, 1, 0, 0), (1, 2, 0, 0), (1, 3, 0, 0), (1, 4, 0, 0), (1, 5, 0, 0)], [(0, 0), (0, 143), (0, 143), (0, 77), (2, 12), (0, 11)], [(2, 0, 40, 0), (1, 1, 0, 0), (1, 2, 0, 0), (1, 3, 0, 0), (1, 4, 0, 0), (1, 5, 0, 0)], [(0, [(2, 0, 40, 0), (1, 1, 0, 0), (1, 2, 0, 0)]), (95, [(2, 0, 40, 0), (1, 1, 0, 0)]), (95, [(2, 0, 40, 0), (1, 2, 0, 0)]), (8, [(2, 0, 40, 0), (1, 4, 0, 0)]), (76, [(2, 0, 40, 0), (1, 3, 0, 0)]), (21, [(1, 5, 0, 0), (1, 4, 0, 0)])], (0, 0), [(0, 0, 2), (2, 5, 0)]), (55, [0, 1, 2, 3, 4, 5], [(2, 0, 40, 0), (1, 1, 0, 0), (1, 2, 0, 0), (1, 3, 0, 0), (1, 4, 0, 0), (1, 5, 0, 0)], [(0, 0), (0, 143), (0, 143), (0, 77), (2, 12), (0, 77)], [(2, 0, 40, 0), (1, 1, 0, 0), (1, 2, 0, 0), (1, 3, 0, 0), (1, 4, 0, 0), (1, 5, 0, 0)], [(0, [(2, 0, 40, 0), (1, 1, 0, 0), (1, 2, 0, 0)]), (95, [(2, 0, 40, 0), (1, 1, 0, 0)]), (95, [(2, 0, 40, 0), (1, 2, 0, 0)]), (8, [(2, 0, 40, 0), (1, 4, 0, 0)]), (76, [(2, 0, 40, 0), (1, 3, 0, 0)])], (0, 0), [(0, 0, 1), (1, 5, 77)])]
def a_k217 : List (Nat × KT) := [(2, t_k174), (5, t_k167), (9, t_k175), (14, t_k175), (28, t_k215), (33, t_k175), (38, t_k175), (50, t_k215), (58, t_k174), (69, t_k175), (72, t_k215)]
def l_k217 : LNL := [(10, [(t_r76, [[0], [1], [3]])]), (23, [(t_rc1, [[0], [4], [3], [5], [2], [100962], [100252], [500]])]), (34, [(t_c21, [[0], [1], [500], [4]])]), (47, [(t_rc, [[0], [4], [3], [5], [100252], [500]])]), (52, [(t_ltd, [[5], [4]])]), (60, [(t_r76b, [[0], [2], [100092], [5]])]), (71, [(t_c21, [[0], [2], [100962], [4]]), (t_rc, [[0], [4], [100250], [100962], [100252], [500]])])]
theorem k_k217 (g : GG) : KOK Yt (PSt g) t_k217 := verK_ok (PSt_ok g) (PSt_ax g) (dk := 2) (AN := anOf a_k217) (anOf_ok ⟨k_k174 g, ⟨k_k167 g, ⟨k_k175 g, ⟨k_k175 g, ⟨k_k215 g, ⟨k_k175 g, ⟨k_k175 g, ⟨k_k215 g, ⟨k_k174 g, ⟨k_k175 g, ⟨k_k215 g, trivial⟩⟩⟩⟩⟩⟩⟩⟩⟩⟩⟩) (LN := lnOf l_k217) (lnOf_ok ⟨⟨l_r76 g, trivial⟩, ⟨⟨l_rc1 g, trivial⟩, ⟨⟨l_c21 g, trivial⟩, ⟨⟨l_rc g, trivial⟩, ⟨⟨l_ltd g, trivial⟩, ⟨⟨l_r76b g, trivial⟩, ⟨⟨l_c21 g, ⟨l_rc g, trivial⟩⟩, trivial⟩⟩⟩⟩⟩⟩⟩) (cuts := c_k217) (f := 3000) (by decide +kernel)
def t_k165_3 : KT := ((165, 1, 0, 0), [(2, 0, 40, 0), (1, 1, 0, 0), (1, 2, 0, 0), (1, 3, 0, 0)], [(0, 0), (-2147483648, 2147483647), (0, 0), (1, 1)], [], (2, 0, 1), [], [], ([(1, 0, 1)], []), ([], []))
def c_k165_3 : List CUT := []
def a_k165_3 : List (Nat × KT) := []
def l_k165_3 : LNL := []
theorem k_k165_3 (g : GG) : KOK Yt (PSt g) t_k165_3 := verK_ok (PSt_ok g) (PSt_ax g) (dk := 0) (AN := anOf a_k165_3) (anOf_ok trivial) (LN := lnOf l_k165_3) (lnOf_ok trivial) (cuts := c_k165_3) (f := 3000) (by decide +kernel)
def t_k219 : KT := ((219, 7, 0, 0), [(2, 0, 40, 0), (1, 1, 0, 0)], [(0, 0), (-2147483648, 2147483647)], [], (2, 0, 1), [(40, 9, 10), (44, 0, 144)], [], ([(1, 0, 1)], []), ([], []))
def c_k219 : List CUT := []
def a_k219 : List (Nat × KT) := [(1, t_k210), (6, t_k165_3)]
def l_k219 : LNL := []
theorem k_k219 (g : GG) : KOK Yt (PSt g) t_k219 := verK_ok (PSt_ok g) (PSt_ax g) (dk := 6) (AN := anOf a_k219) (anOf_ok ⟨k_k210 g, ⟨k_k165_3 g, trivial⟩⟩) (LN := lnOf l_k219) (lnOf_ok trivial) (cuts := c_k219) (f := 3000) (by decide +kernel)
def t_k222 : KT := ((222, 3, 0, 0), [(2, 0, 40, 0)], [(0, 0)], [], (1, -2147483648, 2147483647), [], [], ([], []), ([], []))
def c_k222 : List CUT := [(4, [0, 1, 2], [(2, 0, 40, 0), (1, 1, 0, 0), (1, 2, 0, 0)], [(0, 0), (-2147483648, 2147483647), (0, 144)], [(2, 0, 40, 0), (1, 1, 0, 0), (1, 2, 0, 0)], [(0, [(2, 0, 40, 0)])], (0, 0), [(0, 0, 1), (1, 2, 144)])]
def a_k222 : List (Nat × KT) := [(6, t_k168), (10, t_k172), (14, t_k173)]
def l_k222 : LNL := []
theorem k_k222 (g : GG) : KOK Yt (PSt g) t_k222 := verK_ok (PSt_ok g) (PSt_ax g) (dk := 2) (AN := anOf a_k222) (anOf_ok ⟨k_k168 g, ⟨k_k172 g, ⟨k_k173 g, trivial⟩⟩⟩) (LN := lnOf l_k222) (lnOf_ok trivial) (cuts := c_k222) (f := 3000) (by decide +kernel)
def t_k223 : KT := ((223, 1, 0, 0), [(2, 0, 40, 0), (1, 1, 0, 0), (1, 2, 0, 0), (1, 3, 0, 0), (1, 4, 0, 0)], [(0, 0), (0, 143), (-2147483648, 2147483647), (-1, 143), (0, 143)], [], (0, 0, 0), [(41, 2, 3), (41, 442, 1018)], [], ([], []), ([], []))
def c_k223 : List CUT := []
def a_k223 : List (Nat × KT) := []
def l_k223 : LNL := []
theorem k_k223 (g : GG) : KOK Yt (PSt g) t_k223 := verK_ok (PSt_ok g) (PSt_ax g) (dk := 0) (AN := anOf a_k223) (anOf_ok trivial) (LN := lnOf l_k223) (lnOf_ok trivial) (cuts := c_k223) (f := 3000) (by decide +kernel)
def t_k228 : KT := ((228, 3, 0, 0), [(2, 0, 40, 0), (1, 1, 0, 0)], [(0, 0), (0, 287)], [], (2, 0, 1), [], [], ([], []), ([], []))
def c_k228 : List CUT := []
def a_k228 : List (Nat × KT) := [(5, t_k181), (14, t_k180), (24, t_k180), (27, t_k181), (28, t_k178)]
def l_k228 : LNL := []
theorem k_k228 (g : GG) : KOK Yt (PSt g) t_k228 := verK_ok (PSt_ok g) (PSt_ax g) (dk := 2) (AN := anOf a_k228) (anOf_ok ⟨k_k181 g, ⟨k_k180 g, ⟨k_k180 g, ⟨k_k181 g, ⟨k_k178 g, trivial⟩⟩⟩⟩⟩) (LN := lnOf l_k228) (lnOf_ok trivial) (cuts := c_k228) (f := 3000) (by decide +kernel)
def t_k229 : KT := ((229, 4, 0, 0), [(2, 0, 40, 0), (1, 1, 0, 0)], [(0, 0), (-2147483648, 2147483647)], [], (2, 0, 1), [], [], ([(1, 0, 287)], [(97, [(2, 0, 40, 0), (1, 1, 0, 0)])]), ([], []))
def c_k229 : List CUT := []
def a_k229 : List (Nat × KT) := [(2, t_k179), (6, t_k182), (11, t_k180), (12, t_k173), (17, t_k181e), (18, t_k173)]
def l_k229 : LNL := []
theorem k_k229 (g : GG) : KOK Yt (PSt g) t_k229 := verK_ok (PSt_ok g) (PSt_ax g) (dk := 3) (AN := anOf a_k229) (anOf_ok ⟨k_k179 g, ⟨k_k182 g, ⟨k_k180 g, ⟨k_k173 g, ⟨k_k181e g, ⟨k_k173 g, trivial⟩⟩⟩⟩⟩⟩) (LN := lnOf l_k229) (lnOf_ok trivial) (cuts := c_k229) (f := 3000) (by decide +kernel)
def t_k230 : KT := ((230, 5, 0, 0), [(2, 0, 40, 0), (1, 1, 0, 0)], [(0, 0), (-2147483648, 2147483647)], [], (2, 0, 1), [], [], ([(1, 0, 287)], []), ([], []))
def c_k230 : List CUT := []
def a_k230 : List (Nat × KT) := [(2, t_k229), (6, t_k183), (10, t_k228)]
def l_k230 : LNL := []
theorem k_k230 (g : GG) : KOK Yt (PSt g) t_k230 := verK_ok (PSt_ok g) (PSt_ax g) (dk := 4) (AN := anOf a_k230) (anOf_ok ⟨k_k229 g, ⟨k_k183 g, ⟨k_k228 g, trivial⟩⟩⟩) (LN := lnOf l_k230) (lnOf_ok trivial) (cuts := c_k230) (f := 3000) (by decide +kernel)
def t_k231 : KT := ((231, 5, 0, 0), [(2, 0, 40, 0), (1, 1, 0, 0)], [(0, 0), (-2147483648, 2147483647)], [], (2, 0, 1), [], [], ([(1, 0, 287)], []), ([], []))
def c_k231 : List CUT := []
def a_k231 : List (Nat × KT) := [(2, t_k229), (6, t_k183), (13, t_k180), (21, t_k181e), (27, t_k228)]
def l_k231 : LNL := []
theorem k_k231 (g : GG) : KOK Yt (PSt g) t_k231 := verK_ok (PSt_ok g) (PSt_ax g) (dk := 4) (AN := anOf a_k231) (anOf_ok ⟨k_k229 g, ⟨k_k183 g, ⟨k_k180 g, ⟨k_k181e g, ⟨k_k228 g, trivial⟩⟩⟩⟩⟩) (LN := lnOf l_k231) (lnOf_ok trivial) (cuts := c_k231) (f := 3000) (by decide +kernel)
def t_k232 : KT := ((232, 6, 0, 0), [(2, 0, 40, 0)], [(0, 0)], [], (1, -2147483648, 2147483647), [], [], ([], []), ([], []))
def c_k232 : List CUT := [(4, [0, 1, 2], [(2, 0, 40, 0), (1, 1, 0, 0), (1, 2, 0, 0)], [(0, 0), (-2147483648, 2147483647), (0, 288)], [(2, 0, 40, 0), (1, 1, 0, 0), (1, 2, 0, 0)], [(0, [(2, 0, 40, 0)])], (0, 0), [(0, 0, 1), (1, 2, 288)])]
def a_k232 : List (Nat × KT) := [(7, t_k168), (12, t_k230)]
def l_k232 : LNL := []
theorem k_k232 (g : GG) : KOK Yt (PSt g) t_k232 := verK_ok (PSt_ok g) (PSt_ax g) (dk := 5) (AN := anOf a_k232) (anOf_ok ⟨k_k168 g, ⟨k_k230 g, trivial⟩⟩) (LN := lnOf l_k232) (lnOf_ok trivial) (cuts := c_k232) (f := 3000) (by decide +kernel)
def t_k233 : KT := ((233, 6, 0, 0), [(2, 0, 40, 0)], [(0, 0)], [], (1, -2147483648, 2147483647), [], [], ([], []), ([], []))
def c_k233 : List CUT := [(4, [0, 1, 2], [(2, 0, 40, 0), (1, 1, 0, 0), (1, 2, 0, 0)], [(0, 0), (-2147483648, 2147483647), (0, 288)], [(2, 0, 40, 0), (1, 1, 0, 0), (1, 2, 0, 0)], [(0, [(2, 0, 40, 0)])], (0, 0), [(0, 0, 1), (1, 2, 288)])]
def a_k233 : List (Nat × KT) := [(7, t_k168), (12, t_k231)]
def l_k233 : LNL := []
theorem k_k233 (g : GG) : KOK Yt (PSt g) t_k233 := verK_ok (PSt_ok g) (PSt_ax g) (dk := 5) (AN := anOf a_k233) (anOf_ok ⟨k_k168 g, ⟨k_k231 g, trivial⟩⟩) (LN := lnOf l_k233) (lnOf_ok trivial) (cuts := c_k233) (f := 3000) (by decide +kernel)
def t_k234 : KT := ((234, 1, 0, 0), [(2, 0, 40, 0), (1, 1, 0, 0)], [(0, 0), (-2147483648, 2147483647)], [], (2, 0, 1), [], [], ([(1, 0, 143)], []), ([], []))
def c_k234 : List CUT := []
def a_k234 : List (Nat × KT) := []
def l_k234 : LNL := []
theorem k_k234 (g : GG) : KOK Yt (PSt g) t_k234 := verK_ok (PSt_ok g) (PSt_ax g) (dk := 0) (AN := anOf a_k234) (anOf_ok trivial) (LN := lnOf l_k234) (lnOf_ok trivial) (cuts := c_k234) (f := 3000) (by decide +kernel)
def t_k235 : KT := ((235, 3, 0, 0), [(2, 0, 40, 0), (1, 1, 0, 0), (1, 2, 0, 0)], [(0, 0), (-2147483648, 2147483647), (-2147483648, 2147483647)], [], (2, 0, 1), [], [], ([], []), ([], []))
def c_k235 : List CUT := [(2, [0, 1, 2, 3], [(2, 0, 40, 0), (1, 1, 0, 0), (1, 2, 0, 0), (1, 3, 0, 0)], [(0, 0), (-2147483648, 2147483647), (-2147483648, 2147483647), (0, 144)], [(2, 0, 40, 0), (1, 1, 0, 0), (1, 2, 0, 0), (1, 3, 0, 0), (7, 0, 0, 0), (7, 0, 0, 0)], [(0, [(2, 0, 40, 0), (1, 1, 0, 0), (1, 2, 0, 0)])], (0, 0), [(0, 0, 1), (1, 3, 144)])]
def a_k235 : List (Nat × KT) := [(4, t_k168), (8, t_k173)]
def l_k235 : LNL := []
theorem k_k235 (g : GG) : KOK Yt (PSt g) t_k235 := verK_ok (PSt_ok g) (PSt_ax g) (dk := 2) (AN := anOf a_k235) (anOf_ok ⟨k_k168 g, ⟨k_k173 g, trivial⟩⟩) (LN := lnOf l_k235) (lnOf_ok trivial) (cuts := c_k235) (f := 3000) (by decide +kernel)
def t_k236 : KT := ((236, 3, 0, 0), [(2, 0, 40, 0), (1, 1, 0, 0), (1, 2, 0, 0)], [(0, 0), (0, 143), (-2147483648, 2147483647)], [], (0, 0, 0), [(41, 442, 586), (41, 2026, 2170)], [], ([], []), ([], []))
def c_k236 : List CUT := [(2, [0, 1, 2, 3], [(2, 0, 40, 0), (1, 1, 0, 0), (1, 2, 0, 0), (1, 3, 0, 0)], [(0, 0), (0, 143), (-2147483648, 2147483647), (0, 144)], [(2, 0, 40, 0), (1, 1, 0, 0), (1, 2, 0, 0), (1, 3, 0, 0)], [(0, [(2, 0, 40, 0), (1, 1, 0, 0), (1, 2, 0, 0)])], (0, 0), [(0, 0, 1), (1, 3, 144)])]
def a_k236 : List (Nat × KT) := [(4, t_k168), (8, t_k173)]
def l_k236 : LNL := []
theorem k_k236 (g : GG) : KOK Yt (PSt g) t_k236 := verK_ok (PSt_ok g) (PSt_ax g) (dk := 2) (AN := anOf a_k236) (anOf_ok ⟨k_k168 g, ⟨k_k173 g, trivial⟩⟩) (LN := lnOf l_k236) (lnOf_ok trivial) (cuts := c_k236) (f := 3000) (by decide +kernel)
def t_k238 : KT := ((238, 3, 0, 0), [(2, 0, 40, 0), (1, 1, 0, 0), (1, 2, 0, 0)], [(0, 0), (0, 287), (-2147483648, 2147483647)], [], (1, -2147483648, 2147483647), [], [], ([], []), ([], []))
def c_k238 : List CUT := []
def a_k238 : List (Nat × KT) := [(5, t_k180), (12, t_k180), (16, t_k181), (21, t_k180), (25, t_k181), (29, t_k180), (34, t_k178)]
def l_k238 : LNL := []
theorem k_k238 (g : GG) : KOK Yt (PSt g) t_k238 := verK_ok (PSt_ok g) (PSt_ax g) (dk := 2) (AN := anOf a_k238) (anOf_ok ⟨k_k180 g, ⟨k_k180 g, ⟨k_k181 g, ⟨k_k180 g, ⟨k_k181 g, ⟨k_k180 g, ⟨k_k178 g, trivial⟩⟩⟩⟩⟩⟩⟩) (LN := lnOf l_k238) (lnOf_ok trivial) (cuts := c_k238) (f := 3000) (by decide +kernel)
def t_k239 : KT := ((239, 5, 0, 0), [(2, 0, 40, 0), (1, 1, 0, 0), (1, 2, 0, 0), (1, 3, 0, 0)], [(0, 0), (-2147483648, 2147483647), (-2147483648, 2147483647), (-2147483648, 2147483647)], [], (2, 0, 1), [], [], ([(1, 0, 287), (2, 0, 143), (3, 0, 143)], []), ([], []))
def c_k239 : List CUT := []
def a_k239 : List (Nat × KT) := [(2, t_k229), (11, t_k180), (20, t_k181e)]
def l_k239 : LNL := []
theorem k_k239 (g : GG) : KOK Yt (PSt g) t_k239 := verK_ok (PSt_ok g) (PSt_ax g) (dk := 4) (AN := anOf a_k239) (anOf_ok ⟨k_k229 g, ⟨k_k180 g, ⟨k_k181e g, trivial⟩⟩⟩) (LN := lnOf l_k239) (lnOf_ok trivial) (cuts := c_k239) (f := 3000) (by decide +kernel)
def t_k240 : KT := ((240, 1, 0, 0), [(2, 0, 40, 0), (1, 1, 0, 0), (1, 2, 0, 0)], [(0, 0), (-2147483648, 2147483647), (-2147483648, 2147483647)], [], (2, 0, 1), [], [], ([], []), ([], []))
def c_k240 : List CUT := []
def a_k240 : List (Nat × KT) := []
def l_k240 : LNL := []
theorem k_k240 (g : GG) : KOK Yt (PSt g) t_k240 := verK_ok (PSt_ok g) (PSt_ax g) (dk := 0) (AN := anOf a_k240) (anOf_ok trivial) (LN := lnOf l_k240) (lnOf_ok trivial) (cuts := c_k240) (f := 3000) (by decide +kernel)
def t_k241 : KT := ((241, 6, 0, 0), [(2, 0, 40, 0), (1, 1, 0, 0), (1, 2, 0, 0)], [(0, 0), (-2147483648, 2147483647), (-2147483648, 2147483647)], [], (2, 0, 1), [(40, 12, 13), (40, 13, 14)], [], ([], []), ([], []))
def c_k241 : List CUT := [(5, [0, 1, 2, 3, 1013], [(2, 0, 40, 0), (1, 1, 0, 0), (1, 2, 0, 0), (1, 3, 0, 0), (1, 4, 0, 0)], [(0, 0), (-2147483648, 2147483647), (-2147483648, 2147483647), (0, 288), (0, 2147483647)], [(2, 0, 40, 0), (1, 1, 0, 0), (1, 2, 0, 0), (1, 3, 0, 0), (7, 0, 0, 0), (7, 0, 0, 0), (7, 0, 0, 0)], [(0, [(2, 0, 40, 0), (1, 1, 0, 0), (1, 2, 0, 0)])], (0, 0), [(0, 0, 1), (1, 3, 288), (0, 0, 99), (0, 0, 0)]), (27, [0, 1, 2, 3, 4, 5, 6, 1013], [(2, 0, 40, 0), (1, 1, 0, 0), (1, 2, 0, 0), (1, 3, 0, 0), (1, 4, 0, 0), (1, 5, 0, 0), (1, 6, 0, 0), (1, 7, 0, 0)], [(0, 0), (0, 143), (0, 143), (0, 287), (-2147483648, 2147483647), (-2147483648, 2147483647), (0, 288), (0, 2147483647)], [(2, 0, 40, 0), (1, 1, 0, 0), (1, 2, 0, 0), (1, 3, 0, 0), (1, 4, 0, 0), (1, 5, 0, 0), (1, 6, 0, 0)], [(0, [(2, 0, 40, 0), (1, 1, 0, 0), (1, 2, 0, 0)])], (0, 0), [(0, 0, 1), (1, 3, 288), (0, 0, 1), (1, 6, 288)])]
def a_k241 : List (Nat × KT) := [(8, t_k168), (15, t_k239), (21, t_k238), (30, t_k168), (37, t_k239), (42, t_k238), (63, t_k240)]
def l_k241 : LNL := []
theorem k_k241 (g : GG) : KOK Yt (PSt g) t_k241 := verK_ok (PSt_ok g) (PSt_ax g) (dk := 5) (AN := anOf a_k241) (anOf_ok ⟨k_k168 g, ⟨k_k239 g, ⟨k_k238 g, ⟨k_k168 g, ⟨k_k239 g, ⟨k_k238 g, ⟨k_k240 g, trivial⟩⟩⟩⟩⟩⟩⟩) (LN := lnOf l_k241) (lnOf_ok trivial) (cuts := c_k241) (f := 3000) (by decide +kernel)
def t_k244 : KT := ((244, 1, 0, 0), [(2, 0, 40, 0)], [(0, 0)], [], (0, 0, 0), [(41, 0, 2314), (52, 0, 2314)], [], ([], []), ([], []))
def c_k244 : List CUT := [(2, [0, 1], [(2, 0, 40, 0), (1, 1, 0, 0)], [(0, 0), (0, 2314)], [(2, 0, 40, 0), (1, 1, 0, 0), (7, 0, 0, 0)], [(0, [(2, 0, 40, 0)])], (0, 0), [(0, 0, 1), (1, 1, 2314)])]
def a_k244 : List (Nat × KT) := []
def l_k244 : LNL := []
theorem k_k244 (g : GG) : KOK Yt (PSt g) t_k244 := verK_ok (PSt_ok g) (PSt_ax g) (dk := 0) (AN := anOf a_k244) (anOf_ok trivial) (LN := lnOf l_k244) (lnOf_ok trivial) (cuts := c_k244) (f := 3000) (by decide +kernel)
def t_k246_0 : KT := ((246, 1, 0, 0), [(2, 0, 40, 0), (1, 1, 0, 0)], [(0, 0), (-2147483648, 2147483647)], [(2676, [(2, 0, 40, 0), (0, 0, 0, 0), (0, 0, 0, 380)])], (0, 0, 0), [(40, 16, 17), (48, 0, 400)], [(2676, [(2, 0, 40, 0), (0, 0, 0, 0), (0, 0, 0, 384)])], ([], []), ([], []))
def c_k246_0 : List CUT := []
def a_k246_0 : List (Nat × KT) := []
def l_k246_0 : LNL := []
theorem k_k246_0 (g : GG) : KOK Yt (PSt g) t_k246_0 := verK_ok (PSt_ok g) (PSt_ax g) (dk := 0) (AN := anOf a_k246_0) (anOf_ok trivial) (LN := lnOf l_k246_0) (lnOf_ok trivial) (cuts := c_k246_0) (f := 3000) (by decide +kernel)
def t_k246_1 : KT := ((246, 1, 0, 0), [(2, 0, 40, 0), (1, 1, 0, 0)], [(0, 0), (-2147483648, 2147483647)], [(2676, [(2, 0, 40, 0), (0, 0, 0, 0), (0, 0, 0, 384)])], (0, 0, 0), [(40, 16, 17), (48, 0, 400)], [(2676, [(2, 0, 40, 0), (0, 0, 0, 0), (0, 0, 0, 388)])], ([], []), ([], []))
def c_k246_1 : List CUT := []
def a_k246_1 : List (Nat × KT) := []
def l_k246_1 : LNL := []
theorem k_k246_1 (g : GG) : KOK Yt (PSt g) t_k246_1 := verK_ok (PSt_ok g) (PSt_ax g) (dk := 0) (AN := anOf a_k246_1) (anOf_ok trivial) (LN := lnOf l_k246_1) (lnOf_ok trivial) (cuts := c_k246_1) (f := 3000) (by decide +kernel)
def t_k246_2 : KT := ((246, 1, 0, 0), [(2, 0, 40, 0), (1, 1, 0, 0)], [(0, 0), (-2147483648, 2147483647)], [(2676, [(2, 0, 40, 0), (0, 0, 0, 0), (0, 0, 0, 388)])], (0, 0, 0), [(40, 16, 17), (48, 0, 400)], [(2676, [(2, 0, 40, 0), (0, 0, 0, 0), (0, 0, 0, 392)])], ([], []), ([], []))
def c_k246_2 : List CUT := []
def a_k246_2 : List (Nat × KT) := []
def l_k246_2 : LNL := []
theorem k_k246_2 (g : GG) : KOK Yt (PSt g) t_k246_2 := verK_ok (PSt_ok g) (PSt_ax g) (dk := 0) (AN := anOf a_k246_2) (anOf_ok trivial) (LN := lnOf l_k246_2) (lnOf_ok trivial) (cuts := c_k246_2) (f := 3000) (by decide +kernel)
def t_k246_3 : KT := ((246, 1, 0, 0), [(2, 0, 40, 0), (1, 1, 0, 0)], [(0, 0), (-2147483648, 2147483647)], [(2676, [(2, 0, 40, 0), (0, 0, 0, 0), (0, 0, 0, 392)])], (0, 0, 0), [(40, 16, 17), (48, 0, 400)], [(2676, [(2, 0, 40, 0), (0, 0, 0, 0), (0, 0, 0, 396)])], ([], []), ([], []))
def c_k246_3 : List CUT := []
def a_k246_3 : List (Nat × KT) := []
def l_k246_3 : LNL := []
theorem k_k246_3 (g : GG) : KOK Yt (PSt g) t_k246_3 := verK_ok (PSt_ok g) (PSt_ax g) (dk := 0) (AN := anOf a_k246_3) (anOf_ok trivial) (LN := lnOf l_k246_3) (lnOf_ok trivial) (cuts := c_k246_3) (f := 3000) (by decide +kernel)
def t_k246_4 : KT := ((246, 1, 0, 0), [(2, 0, 40, 0), (1, 1, 0, 0)], [(0, 0), (-2147483648, 2147483647)], [(2676, [(2, 0, 40, 0), (0, 0, 0, 0), (0, 0, 0, 396)])], (0, 0, 0), [(40, 16, 17), (48, 0, 400)], [(2676, [(2, 0, 40, 0), (0, 0, 0, 0), (0, 0, 0, 400)])], ([], []), ([], []))
def c_k246_4 : List CUT := []
def a_k246_4 : List (Nat × KT) := []
def l_k246_4 : LNL := []
theorem k_k246_4 (g : GG) : KOK Yt (PSt g) t_k246_4 := verK_ok (PSt_ok g) (PSt_ax g) (dk := 0) (AN := anOf a_k246_4) (anOf_ok trivial) (LN := lnOf l_k246_4) (lnOf_ok trivial) (cuts := c_k246_4) (f := 3000) (by decide +kernel)
def t_k247 : KT := ((247, 2, 0, 0), [(2, 0, 40, 0), (1, 1, 0, 0), (1, 2, 0, 0), (1, 3, 0, 0), (1, 4, 0, 0), (1, 5, 0, 0)], [(0, 0), (-2147483648, 2147483647), (-2147483648, 2147483647), (-2147483648, 2147483647), (-2147483648, 2147483647), (-2147483648, 2147483647)], [], (1, -1, 400), [(40, 0, 1), (40, 16, 17), (48, 0, 400)], [], ([], []), ([], []))
def c_k247 : List CUT := []
def a_k247 : List (Nat × KT) := [(11, t_k246_0), (14, t_k246_1), (17, t_k246_2), (20, t_k246_3), (23, t_k246_4)]
def l_k247 : LNL := []
theorem k_k247 (g : GG) : KOK Yt (PSt g) t_k247 := verK_ok (PSt_ok g) (PSt_ax g) (dk := 1) (AN := anOf a_k247) (anOf_ok ⟨k_k246_0 g, ⟨k_k246_1 g, ⟨k_k246_2 g, ⟨k_k246_3 g, ⟨k_k246_4 g, trivial⟩⟩⟩⟩⟩) (LN := lnOf l_k247) (lnOf_ok trivial) (cuts := c_k247) (f := 3000) (by decide +kernel)
def t_k249 : KT := ((249, 1, 0, 0), [(2, 0, 40, 0), (1, 1, 0, 0)], [(0, 0), (-2147483648, 2147483647)], [], (1, -1, 15), [], [], ([], []), ([], []))
def c_k249 : List CUT := []
def a_k249 : List (Nat × KT) := []
def l_k249 : LNL := []
theorem k_k249 (g : GG) : KOK Yt (PSt g) t_k249 := verK_ok (PSt_ok g) (PSt_ax g) (dk := 0) (AN := anOf a_k249) (anOf_ok trivial) (LN := lnOf l_k249) (lnOf_ok trivial) (cuts := c_k249) (f := 3000) (by decide +kernel)
def t_k250 : KT := ((250, 2, 0, 0), [(2, 0, 40, 0), (1, 1, 0, 0)], [(0, 0), (0, 400)], [], (1, -1, 400), [(40, 20, 21), (40, 21, 22), (49, 0, 144), (50, 0, 144)], [(18, [(2, 0, 40, 0), (1, 2, 0, 0), (0, 0, 0, 0)])], ([], []), ([], []))
def c_k250 : List CUT := [(12, [0, 1, 2, 3, 4, 1020, 1021], [(2, 0, 40, 0), (1, 1, 0, 0), (1, 2, 0, 0), (1, 3, 0, 0), (1, 4, 0, 0), (1, 5, 0, 0), (1, 6, 0, 0)], [(0, 0), (0, 400), (0, 144), (0, 24), (0, 2313), (0, 11), (0, 12)], [(2, 0, 40, 0), (1, 1, 0, 0), (1, 2, 0, 0), (1, 3, 0, 0), (1, 4, 0, 0), (7, 0, 0, 0), (7, 0, 0, 0)], [(0, [(2, 0, 40, 0), (1, 1, 0, 0)]), (14, [(1, 2, 0, 0), (1, 5, 0, 0), (1, 3, 0, 0)]), (6, [(1, 4, 0, 0), (1, 1, 0, 0)])], (0, 0), [(0, 0, 1), (1, 4, 2313)])]
def a_k250 : List (Nat × KT) := [(92, t_k249), (126, t_k249), (131, t_k177), (148, t_k249)]
def l_k250 : LNL := [(11, [(t_rd0, [[2], [0, 20], [3]]), (t_le0n, [[500], [1]])]), (46, [(t_rd6, [[0], [4]])]), (66, [(t_rd6, [[0], [4]])]), (67, [(t_rd5, [[0], [0, 20], [0, 21]])]), (74, [(t_rd6, [[0], [4]])]), (77, [(t_rd4, [[2], [100141], [100142]]), (t_rd8, [[4], [1]]), (t_rd9, [[4], [1]])]), (96, [(t_rd6, [[0], [4]])]), (102, [(t_rd1, [[2], [0, 20], [3]])]), (109, [(t_rd6, [[0], [4]])]), (136, [(t_rd2, [[2], [0, 20], [3], [100272]])]), (138, [(t_rd1, [[2], [0, 20], [3]]), (t_rd3, [[2], [0, 20], [3]])]), (153, [(t_rd8, [[4], [1]])]), (156, [(t_rd7, [[0], [4], [1]])])]
theorem k_k250 (g : GG) : KOK Yt (PSt g) t_k250 := verK_ok (PSt_ok g) (PSt_ax g) (dk := 1) (AN := anOf a_k250) (anOf_ok ⟨k_k249 g, ⟨k_k249 g, ⟨k_k177 g, ⟨k_k249 g, trivial⟩⟩⟩⟩) (LN := lnOf l_k250) (lnOf_ok ⟨⟨l_rd0 g, ⟨l_le0n g, trivial⟩⟩, ⟨⟨l_rd6 g, trivial⟩, ⟨⟨l_rd6 g, trivial⟩, ⟨⟨l_rd5 g, trivial⟩, ⟨⟨l_rd6 g, trivial⟩, ⟨⟨l_rd4 g, ⟨l_rd8 g, ⟨l_rd9 g, trivial⟩⟩⟩, ⟨⟨l_rd6 g, trivial⟩, ⟨⟨l_rd1 g, trivial⟩, ⟨⟨l_rd6 g, trivial⟩, ⟨⟨l_rd2 g, trivial⟩, ⟨⟨l_rd1 g, ⟨l_rd3 g, trivial⟩⟩, ⟨⟨l_rd8 g, trivial⟩, ⟨⟨l_rd7 g, trivial⟩, trivial⟩⟩⟩⟩⟩⟩⟩⟩⟩⟩⟩⟩⟩) (cuts := c_k250) (f := 3000) (by decide +kernel)
def t_k165_4 : KT := ((165, 1, 0, 0), [(2, 0, 40, 0), (1, 1, 0, 0), (1, 2, 0, 0), (1, 3, 0, 0)], [(0, 0), (-2147483648, 2147483647), (0, 0), (6, 6)], [], (2, 0, 1), [], [], ([(1, 0, 6)], []), ([], []))
def c_k165_4 : List CUT := []
def a_k165_4 : List (Nat × KT) := []
def l_k165_4 : LNL := []
theorem k_k165_4 (g : GG) : KOK Yt (PSt g) t_k165_4 := verK_ok (PSt_ok g) (PSt_ax g) (dk := 0) (AN := anOf a_k165_4) (anOf_ok trivial) (LN := lnOf l_k165_4) (lnOf_ok trivial) (cuts := c_k165_4) (f := 3000) (by decide +kernel)
def t_k256 : KT := ((256, 6, 0, 0), [(2, 0, 40, 0), (1, 1, 0, 0), (1, 2, 0, 0)], [(0, 0), (-2147483648, 2147483647), (-2147483648, 2147483647)], [], (1, -2147483648, 2147483647), [(40, 0, 1)], [], ([], []), ([], []))
def c_k256 : List CUT := []
def a_k256 : List (Nat × KT) := [(5, t_k179), (11, t_k165_4), (20, t_k180), (23, t_k181e), (24, t_k178), (31, t_k182), (62, t_k230), (73, t_k231), (81, t_k184)]
def l_k256 : LNL := []
theorem k_k256 (g : GG) : KOK Yt (PSt g) t_k256 := verK_ok (PSt_ok g) (PSt_ax g) (dk := 5) (AN := anOf a_k256) (anOf_ok ⟨k_k179 g, ⟨k_k165_4 g, ⟨k_k180 g, ⟨k_k181e g, ⟨k_k178 g, ⟨k_k182 g, ⟨k_k230 g, ⟨k_k231 g, ⟨k_k184 g, trivial⟩⟩⟩⟩⟩⟩⟩⟩⟩) (LN := lnOf l_k256) (lnOf_ok trivial) (cuts := c_k256) (f := 3000) (by decide +kernel)
def t_k257 : KT := ((257, 6, 0, 0), [(2, 0, 40, 0), (1, 1, 0, 0)], [(0, 0), (-2147483648, 2147483647)], [], (1, -1000, 1), [(40, 0, 1)], [], ([], []), ([], []))
def c_k257 : List CUT := []
def a_k257 : List (Nat × KT) := [(5, t_k205), (9, t_k206)]
def l_k257 : LNL := []
theorem k_k257 (g : GG) : KOK Yt (PSt g) t_k257 := verK_ok (PSt_ok g) (PSt_ax g) (dk := 5) (AN := anOf a_k257) (anOf_ok ⟨k_k205 g, ⟨k_k206 g, trivial⟩⟩) (LN := lnOf l_k257) (lnOf_ok trivial) (cuts := c_k257) (f := 3000) (by decide +kernel)
def t_k165_5 : KT := ((165, 1, 0, 0), [(2, 0, 40, 0), (1, 1, 0, 0), (1, 2, 0, 0), (1, 3, 0, 0)], [(0, 0), (-2147483648, 2147483647), (0, 0), (-1, 143)], [], (2, 0, 1), [], [], ([(1, 0, 143), (3, 0, 143)], []), ([], []))
def c_k165_5 : List CUT := []
def a_k165_5 : List (Nat × KT) := []
def l_k165_5 : LNL := []
theorem k_k165_5 (g : GG) : KOK Yt (PSt g) t_k165_5 := verK_ok (PSt_ok g) (PSt_ax g) (dk := 0) (AN := anOf a_k165_5) (anOf_ok trivial) (LN := lnOf l_k165_5) (lnOf_ok trivial) (cuts := c_k165_5) (f := 3000) (by decide +kernel)
def t_k258 : KT := ((258, 7, 0, 0), [(2, 0, 40, 0), (1, 1, 0, 0)], [(0, 0), (-2147483648, 2147483647)], [], (1, -1, 144), [(40, 0, 1), (40, 9, 10), (44, 0, 144)], [], ([], []), ([], []))
def c_k258 : List CUT := []
def a_k258 : List (Nat × KT) := [(4, t_k210), (18, t_k165_5)]
def l_k258 : LNL := []
theorem k_k258 (g : GG) : KOK Yt (PSt g) t_k258 := verK_ok (PSt_ok g) (PSt_ax g) (dk := 6) (AN := anOf a_k258) (anOf_ok ⟨k_k210 g, ⟨k_k165_5 g, trivial⟩⟩) (LN := lnOf l_k258) (lnOf_ok trivial) (cuts := c_k258) (f := 3000) (by decide +kernel)
def t_k259 : KT := ((259, 6, 0, 0), [(2, 0, 40, 0), (1, 1, 0, 0), (1, 2, 0, 0)], [(0, 0), (-2147483648, 2147483647), (-2147483648, 2147483647)], [], (1, -76, 254), [(40, 0, 1)], [], ([], []), ([], []))
def c_k259 : List CUT := []
def a_k259 : List (Nat × KT) := [(5, t_k205), (12, t_k205), (21, t_k209), (26, t_k198)]
def l_k259 : LNL := []
theorem k_k259 (g : GG) : KOK Yt (PSt g) t_k259 := verK_ok (PSt_ok g) (PSt_ax g) (dk := 5) (AN := anOf a_k259) (anOf_ok ⟨k_k205 g, ⟨k_k205 g, ⟨k_k209 g, ⟨k_k198 g, trivial⟩⟩⟩⟩) (LN := lnOf l_k259) (lnOf_ok trivial) (cuts := c_k259) (f := 3000) (by decide +kernel)
def t_k260 : KT := ((260, 2, 0, 0), [(2, 0, 40, 0), (1, 1, 0, 0), (1, 2, 0, 0)], [(0, 0), (-2147483648, 2147483647), (-2147483648, 2147483647)], [], (1, -2147483648, 2147483647), [(40, 0, 1)], [], ([], []), ([], []))
def c_k260 : List CUT := []
def a_k260 : List (Nat × KT) := [(20, t_k165_5), (26, t_k165_0)]
def l_k260 : LNL := []
theorem k_k260 (g : GG) : KOK Yt (PSt g) t_k260 := verK_ok (PSt_ok g) (PSt_ax g) (dk := 1) (AN := anOf a_k260) (anOf_ok ⟨k_k165_5 g, ⟨k_k165_0 g, trivial⟩⟩) (LN := lnOf l_k260) (lnOf_ok trivial) (cuts := c_k260) (f := 3000) (by decide +kernel)
def t_k261 : KT := ((261, 3, 0, 0), [(2, 0, 40, 0), (1, 1, 0, 0)], [(0, 0), (-2147483648, 2147483647)], [], (1, -2147483648, 2147483647), [], [], ([], []), ([], []))
def c_k261 : List CUT := [(4, [0, 1, 2, 3], [(2, 0, 40, 0), (1, 1, 0, 0), (1, 2, 0, 0), (1, 3, 0, 0)], [(0, 0), (-2147483648, 2147483647), (-2147483648, 2147483647), (0, 144)], [(2, 0, 40, 0), (1, 1, 0, 0), (1, 2, 0, 0), (1, 3, 0, 0)], [(0, [(2, 0, 40, 0), (1, 1, 0, 0)])], (0, 0), [(0, 0, 1), (1, 3, 144)])]
def a_k261 : List (Nat × KT) := [(6, t_k168), (10, t_k173)]
def l_k261 : LNL := []
theorem k_k261 (g : GG) : KOK Yt (PSt g) t_k261 := verK_ok (PSt_ok g) (PSt_ax g) (dk := 2) (AN := anOf a_k261) (anOf_ok ⟨k_k168 g, ⟨k_k173 g, trivial⟩⟩) (LN := lnOf l_k261) (lnOf_ok trivial) (cuts := c_k261) (f := 3000) (by decide +kernel)
def t_k262 : KT := ((262, 5, 0, 0), [(2, 0, 40, 0), (1, 1, 0, 0)], [(0, 0), (-2147483648, 2147483647)], [], (1, -2147483648, 2147483647), [], [], ([], []), ([], []))
def c_k262 : List CUT := [(4, [0, 1, 2, 3], [(2, 0, 40, 0), (1, 1, 0, 0), (1, 2, 0, 0), (1, 3, 0, 0)], [(0, 0), (-2147483648, 2147483647), (-2147483648, 2147483647), (0, 288)], [(2, 0, 40, 0), (1, 1, 0, 0), (1, 2, 0, 0), (1, 3, 0, 0), (7, 0, 0, 0), (7, 0, 0, 0)], [(0, [(2, 0, 40, 0), (1, 1, 0, 0)])], (0, 0), [(0, 0, 1), (1, 3, 288)])]
def a_k262 : List (Nat × KT) := [(7, t_k168), (12, t_k229), (20, t_k180), (34, t_k181e)]
def l_k262 : LNL := []
theorem k_k262 (g : GG) : KOK Yt (PSt g) t_k262 := verK_ok (PSt_ok g) (PSt_ax g) (dk := 4) (AN := anOf a_k262) (anOf_ok ⟨k_k168 g, ⟨k_k229 g, ⟨k_k180 g, ⟨k_k181e g, trivial⟩⟩⟩⟩) (LN := lnOf l_k262) (lnOf_ok trivial) (cuts := c_k262) (f := 3000) (by decide +kernel)
def t_k263 : KT := ((263, 6, 0, 0), [(2, 0, 40, 0), (1, 1, 0, 0), (1, 2, 0, 0)], [(0, 0), (-2147483648, 2147483647), (-2147483648, 2147483647)], [], (1, -2147483648, 2147483647), [(40, 0, 1)], [], ([], []), ([], []))
def c_k263 : List CUT := []
def a_k263 : List (Nat × KT) := [(5, t_k234), (23, t_k261), (40, t_k262)]
def l_k263 : LNL := []
theorem k_k263 (g : GG) : KOK Yt (PSt g) t_k263 := verK_ok (PSt_ok g) (PSt_ax g) (dk := 5) (AN := anOf a_k263) (anOf_ok ⟨k_k234 g, ⟨k_k261 g, ⟨k_k262 g, trivial⟩⟩⟩) (LN := lnOf l_k263) (lnOf_ok trivial) (cuts := c_k263) (f := 3000) (by decide +kernel)
def t_k165_6 : KT := ((165, 1, 0, 0), [(2, 0, 40, 0), (1, 1, 0, 0), (1, 2, 0, 0), (1, 3, 0, 0)], [(0, 0), (-2147483648, 2147483647), (0, 0), (1, 11)], [], (2, 0, 1), [], [], ([(1, 0, 11)], []), ([], []))
def c_k165_6 : List CUT := []
def a_k165_6 : List (Nat × KT) := []
def l_k165_6 : LNL := []
theorem k_k165_6 (g : GG) : KOK Yt (PSt g) t_k165_6 := verK_ok (PSt_ok g) (PSt_ax g) (dk := 0) (AN := anOf a_k165_6) (anOf_ok trivial) (LN := lnOf l_k165_6) (lnOf_ok trivial) (cuts := c_k165_6) (f := 3000) (by decide +kernel)
def t_k165_7 : KT := ((165, 1, 0, 0), [(2, 0, 40, 0), (1, 1, 0, 0), (1, 2, 0, 0), (1, 3, 0, 0)], [(0, 0), (-2147483648, 2147483647), (1, 12), (1, 11)], [], (2, 0, 1), [], [], ([(1, 1, 11)], []), ([], []))
def c_k165_7 : List CUT := []
def a_k165_7 : List (Nat × KT) := []
def l_k165_7 : LNL := []
theorem k_k165_7 (g : GG) : KOK Yt (PSt g) t_k165_7 := verK_ok (PSt_ok g) (PSt_ax g) (dk := 0) (AN := anOf a_k165_7) (anOf_ok trivial) (LN := lnOf l_k165_7) (lnOf_ok trivial) (cuts := c_k165_7) (f := 3000) (by decide +kernel)
def t_k264 : KT := ((264, 3, 0, 0), [(2, 0, 40, 0), (1, 1, 0, 0), (1, 2, 0, 0), (1, 3, 0, 0), (1, 4, 0, 0)], [(0, 0), (-2147483648, 2147483647), (-2147483648, 2147483647), (-2147483648, 2147483647), (-2147483648, 2147483647)], [], (1, -8421504, 8421504), [(40, 0, 1)], [], ([], []), ([], []))
def c_k264 : List CUT := [(49, [0, 1, 2, 3, 4, 5, 6, 1000], [(2, 0, 40, 0), (1, 1, 0, 0), (1, 2, 0, 0), (1, 3, 0, 0), (1, 4, 0, 0), (1, 5, 0, 0), (1, 6, 0, 0), (1, 7, 0, 0)], [(0, 0), (0, 11), (1, 11), (0, 11), (1, 11), (-2147483648, 2147483647), (0, 12), (0, 0)], [(2, 0, 40, 0), (1, 1, 0, 0), (1, 2, 0, 0), (1, 3, 0, 0), (1, 4, 0, 0), (1, 5, 0, 0), (1, 6, 0, 0), (7, 0, 0, 0), (7, 0, 0, 0)], [(0, [(2, 0, 40, 0), (1, 1, 0, 0), (1, 2, 0, 0), (1, 3, 0, 0), (1, 4, 0, 0)])], (0, 0), [(0, 0, 2), (1, 6, 12)]), (99, [0, 1, 2, 3, 4, 5, 6, 1000], [(2, 0, 40, 0), (1, 1, 0, 0), (1, 2, 0, 0), (1, 3, 0, 0), (1, 4, 0, 0), (1, 5, 0, 0), (1, 6, 0, 0), (1, 7, 0, 0)], [(0, 0), (0, 11), (1, 11), (0, 11), (1, 11), (-2147483648, 2147483647), (0, 12), (0, 0)], [(2, 0, 40, 0), (1, 1, 0, 0), (1, 2, 0, 0), (1, 3, 0, 0), (1, 4, 0, 0), (1, 5, 0, 0), (1, 6, 0, 0), (7, 0, 0, 0), (7, 0, 0, 0)], [(0, [(2, 0, 40, 0), (1, 1, 0, 0), (1, 2, 0, 0), (1, 3, 0, 0), (1, 4, 0, 0)])], (0, 0), [(0, 0, 1), (1, 6, 12)])]
def a_k264 : List (Nat × KT) := [(7, t_k166), (10, t_k165_6), (18, t_k166), (21, t_k165_7), (27, t_k167), (30, t_k165_6), (38, t_k167), (41, t_k165_7), (54, t_k167), (61, t_k167), (68, t_k172), (72, t_k172), (85, t_k178), (92, t_k178), (104, t_k167), (111, t_k167), (118, t_k172), (122, t_k172), (134, t_k167), (136, t_k178), (141, t_k167), (144, t_k178)]
def l_k264 : LNL := []
theorem k_k264 (g : GG) : KOK Yt (PSt g) t_k264 := verK_ok (PSt_ok g) (PSt_ax g) (dk := 2) (AN := anOf a_k264) (anOf_ok ⟨k_k166 g, ⟨k_k165_6 g, ⟨k_k166 g, ⟨k_k165_7 g, ⟨k_k167 g, ⟨k_k165_6 g, ⟨k_k167 g, ⟨k_k165_7 g, ⟨k_k167 g, ⟨k_k167 g, ⟨k_k172 g, ⟨k_k172 g, ⟨k_k178 g, ⟨k_k178 g, ⟨k_k167 g, ⟨k_k167 g, ⟨k_k172 g, ⟨k_k172 g, ⟨k_k167 g, ⟨k_k178 g, ⟨k_k167 g, ⟨k_k178 g, trivial⟩⟩⟩⟩⟩⟩⟩⟩⟩⟩⟩⟩⟩⟩⟩⟩⟩⟩⟩⟩⟩⟩) (LN := lnOf l_k264) (lnOf_ok trivial) (cuts := c_k264) (f := 3000) (by decide +kernel)
def t_k265 : KT := ((265, 3, 0, 0), [(2, 0, 40, 0), (1, 1, 0, 0)], [(0, 0), (-2147483648, 2147483647)], [], (3, 0, 0), [(40, 0, 1)], [], ([], []), ([], []))
def c_k265 : List CUT := [(13, [0, 1, 4, 1000], [(2, 0, 40, 0), (1, 1, 0, 0), (1, 2, 0, 0), (1, 3, 0, 0)], [(0, 0), (0, 143), (0, 144), (0, 0)], [(2, 0, 40, 0), (1, 1, 0, 0), (4, 0, 0, 0), (7, 0, 0, 0), (1, 2, 0, 0)], [(0, [(2, 0, 40, 0), (1, 1, 0, 0)])], (0, 0), [(0, 0, 1), (1, 4, 144)])]
def a_k265 : List (Nat × KT) := [(5, t_k234), (15, t_k168), (19, t_k173)]
def l_k265 : LNL := []
theorem k_k265 (g : GG) : KOK Yt (PSt g) t_k265 := verK_ok (PSt_ok g) (PSt_ax g) (dk := 2) (AN := anOf a_k265) (anOf_ok ⟨k_k234 g, ⟨k_k168 g, ⟨k_k173 g, trivial⟩⟩⟩) (LN := lnOf l_k265) (lnOf_ok trivial) (cuts := c_k265) (f := 3000) (by decide +kernel)
def t_k266 : KT := ((266, 3, 0, 0), [(2, 0, 40, 0), (1, 1, 0, 0), (4, 0, 0, 0)], [(0, 0), (-2147483648, 2147483647), (0, 0)], [], (3, 0, 0), [(40, 0, 1)], [], ([], []), ([], []))
def c_k266 : List CUT := [(13, [0, 1, 6, 1000], [(2, 0, 40, 0), (1, 1, 0, 0), (1, 2, 0, 0), (1, 3, 0, 0)], [(0, 0), (-2147483648, 2147483647), (0, 144), (0, 0)], [(2, 0, 40, 0), (1, 1, 0, 0), (4, 0, 0, 0), (7, 0, 0, 0), (4, 0, 0, 0), (7, 0, 0, 0), (1, 2, 0, 0), (7, 0, 0, 0), (7, 0, 0, 0)], [(0, [(2, 0, 40, 0), (1, 1, 0, 0), (4, 0, 0, 0)])], (0, 0), [(0, 0, 1), (1, 6, 144)])]
def a_k266 : List (Nat × KT) := [(15, t_k168), (19, t_k173)]
def l_k266 : LNL := []
theorem k_k266 (g : GG) : KOK Yt (PSt g) t_k266 := verE_ok (PSt_ok g) (PSt_ax g) (dk := 2) (AN := anOf a_k266) (anOf_ok ⟨k_k168 g, ⟨k_k173 g, trivial⟩⟩) (LN := lnOf l_k266) (lnOf_ok trivial) (EP := powE t_k266 62) (powE_ok (pc := 115) (i1 := 324) (i2 := 318) (by decide +kernel) rfl ⟨⟨by decide +kernel, by decide +kernel, by decide +kernel, by decide +kernel, by decide +kernel, by decide +kernel, by decide +kernel, by decide +kernel, by decide +kernel⟩, ⟨by decide +kernel, by decide +kernel, by decide +kernel, by decide +kernel, by decide +kernel, by decide +kernel, by decide +kernel⟩, by decide +kernel, by decide +kernel, by decide +kernel⟩) (cuts := c_k266) (f := 3000) (by decide +kernel)
def t_k267 : KT := ((267, 3, 0, 0), [(2, 0, 40, 0), (1, 1, 0, 0)], [(0, 0), (0, 1)], [], (1, -1, 143), [], [], ([], []), ([], []))
def c_k267 : List CUT := [(4, [0, 1, 2, 3], [(2, 0, 40, 0), (1, 1, 0, 0), (1, 2, 0, 0), (1, 3, 0, 0)], [(0, 0), (0, 1), (-1, 143), (0, 144)], [(2, 0, 40, 0), (1, 1, 0, 0), (1, 2, 0, 0), (1, 3, 0, 0)], [(0, [(2, 0, 40, 0), (1, 1, 0, 0)])], (0, 0), [(0, 0, 1), (1, 3, 144)])]
def a_k267 : List (Nat × KT) := [(6, t_k168), (10, t_k173)]
def l_k267 : LNL := []
theorem k_k267 (g : GG) : KOK Yt (PSt g) t_k267 := verK_ok (PSt_ok g) (PSt_ax g) (dk := 2) (AN := anOf a_k267) (anOf_ok ⟨k_k168 g, ⟨k_k173 g, trivial⟩⟩) (LN := lnOf l_k267) (lnOf_ok trivial) (cuts := c_k267) (f := 3000) (by decide +kernel)
def t_k165_8 : KT := ((165, 1, 0, 0), [(2, 0, 40, 0), (1, 1, 0, 0), (1, 2, 0, 0), (1, 3, 0, 0)], [(0, 0), (-2147483648, 2147483647), (0, 0), (3, 3)], [], (2, 0, 1), [], [], ([(1, 0, 3)], []), ([], []))
def c_k165_8 : List CUT := []
def a_k165_8 : List (Nat × KT) := []
def l_k165_8 : LNL := []
theorem k_k165_8 (g : GG) : KOK Yt (PSt g) t_k165_8 := verK_ok (PSt_ok g) (PSt_ax g) (dk := 0) (AN := anOf a_k165_8) (anOf_ok trivial) (LN := lnOf l_k165_8) (lnOf_ok trivial) (cuts := c_k165_8) (f := 3000) (by decide +kernel)
def t_k268 : KT := ((268, 4, 0, 0), [(2, 0, 40, 0), (1, 1, 0, 0)], [(0, 0), (-2147483648, 2147483647)], [], (1, -2147483648, 2147483647), [(40, 0, 1)], [], ([], []), ([], []))
def c_k268 : List CUT := []
def a_k268 : List (Nat × KT) := [(7, t_k165_8), (20, t_k267)]
def l_k268 : LNL := []
theorem k_k268 (g : GG) : KOK Yt (PSt g) t_k268 := verK_ok (PSt_ok g) (PSt_ax g) (dk := 3) (AN := anOf a_k268) (anOf_ok ⟨k_k165_8 g, ⟨k_k267 g, trivial⟩⟩) (LN := lnOf l_k268) (lnOf_ok trivial) (cuts := c_k268) (f := 3000) (by decide +kernel)
def t_k165_9 : KT := ((165, 1, 0, 0), [(2, 0, 40, 0), (1, 1, 0, 0), (1, 2, 0, 0), (1, 3, 0, 0)], [(0, 0), (-2147483648, 2147483647), (-2147483648, 2147483647), (-2147483648, 2147483647)], [], (2, 0, 1), [], [], ([], []), ([], []))
def c_k165_9 : List CUT := []
def a_k165_9 : List (Nat × KT) := []
def l_k165_9 : LNL := []
theorem k_k165_9 (g : GG) : KOK Yt (PSt g) t_k165_9 := verK_ok (PSt_ok g) (PSt_ax g) (dk := 0) (AN := anOf a_k165_9) (anOf_ok trivial) (LN := lnOf l_k165_9) (lnOf_ok trivial) (cuts := c_k165_9) (f := 3000) (by decide +kernel)
def t_k269 : KT := ((269, 3, 0, 0), [(2, 0, 40, 0), (1, 1, 0, 0), (1, 2, 0, 0)], [(0, 0), (-2147483648, 2147483647), (-2147483648, 2147483647)], [], (1, -2147483648, 2147483647), [(40, 0, 1)], [], ([], []), ([], []))
def c_k269 : List CUT := [(7, [0, 1, 2, 3, 4, 1000], [(2, 0, 40, 0), (1, 1, 0, 0), (1, 2, 0, 0), (1, 3, 0, 0), (1, 4, 0, 0), (1, 5, 0, 0)], [(0, 0), (-2147483648, 2147483647), (-2147483648, 2147483647), (-2147483648, 2147483647), (0, 144), (0, 0)], [(2, 0, 40, 0), (1, 1, 0, 0), (1, 2, 0, 0), (1, 3, 0, 0), (1, 4, 0, 0)], [(0, [(2, 0, 40, 0), (1, 1, 0, 0), (1, 2, 0, 0)])], (0, 0), [(0, 0, 1), (1, 4, 144)])]
def a_k269 : List (Nat × KT) := [(9, t_k168), (13, t_k173), (24, t_k165_9)]
def l_k269 : LNL := []
theorem k_k269 (g : GG) : KOK Yt (PSt g) t_k269 := verK_ok (PSt_ok g) (PSt_ax g) (dk := 2) (AN := anOf a_k269) (anOf_ok ⟨k_k168 g, ⟨k_k173 g, ⟨k_k165_9 g, trivial⟩⟩⟩) (LN := lnOf l_k269) (lnOf_ok trivial) (cuts := c_k269) (f := 3000) (by decide +kernel)
def t_k270 : KT := ((270, 2, 0, 0), [(2, 0, 40, 0), (1, 1, 0, 0), (1, 2, 0, 0)], [(0, 0), (0, 143), (-2147483648, 2147483647)], [], (2, 0, 1), [], [], ([], []), ([], []))
def c_k270 : List CUT := []
def a_k270 : List (Nat × KT) := [(2, t_k173)]
def l_k270 : LNL := []
theorem k_k270 (g : GG) : KOK Yt (PSt g) t_k270 := verK_ok (PSt_ok g) (PSt_ax g) (dk := 1) (AN := anOf a_k270) (anOf_ok ⟨k_k173 g, trivial⟩) (LN := lnOf l_k270) (lnOf_ok trivial) (cuts := c_k270) (f := 3000) (by decide +kernel)
def t_k272 : KT := ((272, 3, 0, 0), [(2, 0, 40, 0), (1, 1, 0, 0), (1, 2, 0, 0)], [(0, 0), (-2147483648, 2147483647), (-2147483648, 2147483647)], [], (1, -2147483648, 2147483647), [], [], ([], []), ([], []))
def c_k272 : List CUT := [(4, [0, 1, 2, 3, 4], [(2, 0, 40, 0), (1, 1, 0, 0), (1, 2, 0, 0), (1, 3, 0, 0), (1, 4, 0, 0)], [(0, 0), (-2147483648, 2147483647), (-2147483648, 2147483647), (-2147483648, 2147483647), (0, 144)], [(2, 0, 40, 0), (1, 1, 0, 0), (1, 2, 0, 0), (1, 3, 0, 0), (1, 4, 0, 0)], [(0, [(2, 0, 40, 0), (1, 1, 0, 0), (1, 2, 0, 0)])], (0, 0), [(0, 0, 1), (1, 4, 144)])]
def a_k272 : List (Nat × KT) := [(6, t_k168), (11, t_k270)]
def l_k272 : LNL := []
theorem k_k272 (g : GG) : KOK Yt (PSt g) t_k272 := verK_ok (PSt_ok g) (PSt_ax g) (dk := 2) (AN := anOf a_k272) (anOf_ok ⟨k_k168 g, ⟨k_k270 g, trivial⟩⟩) (LN := lnOf l_k272) (lnOf_ok trivial) (cuts := c_k272) (f := 3000) (by decide +kernel)
def t_k274 : KT := ((274, 4, 0, 0), [(2, 0, 40, 0), (1, 1, 0, 0)], [(0, 0), (0, 143)], [(95, [(2, 0, 40, 0), (1, 1, 0, 0)])], (2, 0, 1), [], [], ([], []), ([], []))
def c_k274 : List CUT := [(8, [0, 1, 2], [(2, 0, 40, 0), (1, 1, 0, 0), (1, 2, 0, 0)], [(0, 0), (0, 143), (0, 4)], [(2, 0, 40, 0), (1, 1, 0, 0), (1, 2, 0, 0), (7, 0, 0, 0)], [(0, [(2, 0, 40, 0), (1, 1, 0, 0)]), (95, [(2, 0, 40, 0), (1, 1, 0, 0)])], (0, 0), [(0, 0, 1), (1, 2, 4)])]
def a_k274 : List (Nat × KT) := [(2, t_k173), (14, t_k195), (21, t_k172), (25, t_k173)]
def l_k274 : LNL := []
theorem k_k274 (g : GG) : KOK Yt (PSt g) t_k274 := verK_ok (PSt_ok g) (PSt_ax g) (dk := 3) (AN := anOf a_k274) (anOf_ok ⟨k_k173 g, ⟨k_k195 g, ⟨k_k172 g, ⟨k_k173 g, trivial⟩⟩⟩⟩) (LN := lnOf l_k274) (lnOf_ok trivial) (cuts := c_k274) (f := 3000) (by decide +kernel)
def t_k275 : KT := ((275, 5, 0, 0), [(2, 0, 40, 0), (1, 1, 0, 0)], [(0, 0), (-2147483648, 2147483647)], [], (1, -2147483648, 2147483647), [(40, 0, 1)], [], ([], []), ([], []))
def c_k275 : List CUT := [(7, [0, 1, 2, 3, 1000], [(2, 0, 40, 0), (1, 1, 0, 0), (1, 2, 0, 0), (1, 3, 0, 0), (1, 4, 0, 0)], [(0, 0), (-2147483648, 2147483647), (-2147483648, 2147483647), (0, 144), (0, 0)], [(2, 0, 40, 0), (1, 1, 0, 0), (1, 2, 0, 0), (1, 3, 0, 0)], [(0, [(2, 0, 40, 0), (1, 1, 0, 0)])], (0, 0), [(0, 0, 1), (1, 3, 144)])]
def a_k275 : List (Nat × KT) := [(9, t_k168), (13, t_k274)]
def l_k275 : LNL := [(11, [(t_mpx, [[0], [3], [100941]])])]
theorem k_k275 (g : GG) : KOK Yt (PSt g) t_k275 := verK_ok (PSt_ok g) (PSt_ax g) (dk := 4) (AN := anOf a_k275) (anOf_ok ⟨k_k168 g, ⟨k_k274 g, trivial⟩⟩) (LN := lnOf l_k275) (lnOf_ok ⟨⟨l_mpx g, trivial⟩, trivial⟩) (cuts := c_k275) (f := 3000) (by decide +kernel)
def t_k276 : KT := ((276, 4, 0, 0), [(2, 0, 40, 0), (1, 1, 0, 0), (1, 2, 0, 0)], [(0, 0), (-2147483648, 2147483647), (-2147483648, 2147483647)], [], (1, -1, 143), [(40, 0, 1)], [], ([], []), ([], []))
def c_k276 : List CUT := [(19, [0, 1, 2, 3, 4, 1000], [(2, 0, 40, 0), (1, 1, 0, 0), (1, 2, 0, 0), (1, 3, 0, 0), (1, 4, 0, 0), (1, 5, 0, 0)], [(0, 0), (0, 143), (0, 2147483647), (-1, 143), (0, 2147483647), (0, 0)], [(2, 0, 40, 0), (1, 1, 0, 0), (1, 2, 0, 0), (1, 3, 0, 0), (1, 4, 0, 0)], [(0, [(2, 0, 40, 0), (1, 1, 0, 0), (1, 2, 0, 0)])], (0, 0), [(0, 0, 1), (1, 4, 2147483647)])]
def a_k276 : List (Nat × KT) := [(5, t_k169), (9, t_k173)]
def l_k276 : LNL := []
theorem k_k276 (g : GG) : KOK Yt (PSt g) t_k276 := verK_ok (PSt_ok g) (PSt_ax g) (dk := 3) (AN := anOf a_k276) (anOf_ok ⟨k_k169 g, ⟨k_k173 g, trivial⟩⟩) (LN := lnOf l_k276) (lnOf_ok trivial) (cuts := c_k276) (f := 3000) (by decide +kernel)
def t_k278 : KT := ((278, 3, 0, 0), [(2, 0, 40, 0), (2, 1, 52, 0)], [(0, 0), (0, 0)], [], (1, -2147483648, 2147483647), [], [], ([], []), ([], []))
def c_k278 : List CUT := [(4, [0, 1, 2, 3], [(2, 0, 40, 0), (2, 1, 52, 0), (1, 2, 0, 0), (1, 3, 0, 0)], [(0, 0), (0, 0), (-2147483648, 2147483647), (0, 144)], [(2, 0, 40, 0), (2, 1, 52, 0), (1, 2, 0, 0), (1, 3, 0, 0)], [(0, [(2, 0, 40, 0), (2, 1, 52, 0)])], (0, 0), [(0, 0, 1), (1, 3, 144)])]
def a_k278 : List (Nat × KT) := [(6, t_k168)]
def l_k278 : LNL := []
theorem k_k278 (g : GG) : KOK Yt (PSt g) t_k278 := verK_ok (PSt_ok g) (PSt_ax g) (dk := 2) (AN := anOf a_k278) (anOf_ok ⟨k_k168 g, trivial⟩) (LN := lnOf l_k278) (lnOf_ok trivial) (cuts := c_k278) (f := 3000) (by decide +kernel)
def t_k281 : KT := ((281, 2, 0, 0), [(2, 0, 40, 0), (1, 1, 0, 0), (1, 2, 0, 0)], [(0, 0), (-2147483648, 2147483647), (-2147483648, 2147483647)], [], (1, -2147483648, 2147483647), [(40, 0, 1)], [], ([], []), ([], []))
def c_k281 : List CUT := []
def a_k281 : List (Nat × KT) := [(16, t_k165_0)]
def l_k281 : LNL := [(29, [(t_lg, [[1], [0, 5], [500]])])]
theorem k_k281 (g : GG) : KOK Yt (PSt g) t_k281 := verK_ok (PSt_ok g) (PSt_ax g) (dk := 1) (AN := anOf a_k281) (anOf_ok ⟨k_k165_0 g, trivial⟩) (LN := lnOf l_k281) (lnOf_ok ⟨⟨l_lg g, trivial⟩, trivial⟩) (cuts := c_k281) (f := 3000) (by decide +kernel)
def t_k282 : KT := ((282, 1, 0, 0), [(2, 0, 40, 0), (1, 1, 0, 0)], [(0, 0), (0, 1)], [], (2, 0, 1), [(40, 0, 1), (40, 3, 4), (40, 5, 6), (40, 7, 8), (40, 23, 24), (40, 26, 27), (40, 27, 28), (41, 0, 2314), (42, 0, 180), (53, 0, 2314)], [], ([], []), ([], []))
def c_k282 : List CUT := [(15, [0, 1, 2, 1000, 1023], [(2, 0, 40, 0), (1, 1, 0, 0), (1, 2, 0, 0), (1, 3, 0, 0), (1, 4, 0, 0)], [(0, 0), (0, 1), (0, 2314), (0, 0), (1, 1)], [(2, 0, 40, 0), (1, 1, 0, 0), (1, 2, 0, 0)], [(0, [(2, 0, 40, 0), (1, 1, 0, 0)])], (0, 0), [(0, 0, 2), (1, 2, 2314)]), (41, [0, 1, 2, 1000, 1023], [(2, 0, 40, 0), (1, 1, 0, 0), (1, 2, 0, 0), (1, 3, 0, 0), (1, 4, 0, 0)], [(0, 0), (0, 1), (0, 286), (0, 0), (1, 1)], [(2, 0, 40, 0), (1, 1, 0, 0), (1, 2, 0, 0)], [(0, [(2, 0, 40, 0), (1, 1, 0, 0)])], (0, 0), [(0, 0, 1), (1, 2, 286)])]
def a_k282 : List (Nat × KT) := []
def l_k282 : LNL := []
theorem k_k282 (g : GG) : KOK Yt (PSt g) t_k282 := verK_ok (PSt_ok g) (PSt_ax g) (dk := 0) (AN := anOf a_k282) (anOf_ok trivial) (LN := lnOf l_k282) (lnOf_ok trivial) (cuts := c_k282) (f := 3000) (by decide +kernel)
def t_k283 : KT := ((283, 1, 0, 0), [(2, 0, 40, 0), (1, 1, 0, 0), (1, 2, 0, 0)], [(0, 0), (298, 298), (0, 144)], [], (1, -2147483648, 2147483647), [], [], ([], []), ([], []))
def c_k283 : List CUT := [(4, [0, 1, 2, 3, 4], [(2, 0, 40, 0), (1, 1, 0, 0), (1, 2, 0, 0), (1, 3, 0, 0), (1, 4, 0, 0)], [(0, 0), (298, 298), (0, 144), (-2147483648, 2147483647), (0, 144)], [(2, 0, 40, 0), (1, 1, 0, 0), (1, 2, 0, 0), (1, 3, 0, 0), (1, 4, 0, 0)], [(0, [(2, 0, 40, 0), (1, 1, 0, 0), (1, 2, 0, 0)])], (0, 0), [(0, 0, 1), (1, 4, 144)])]
def a_k283 : List (Nat × KT) := []
def l_k283 : LNL := []
theorem k_k283 (g : GG) : KOK Yt (PSt g) t_k283 := verK_ok (PSt_ok g) (PSt_ax g) (dk := 0) (AN := anOf a_k283) (anOf_ok trivial) (LN := lnOf l_k283) (lnOf_ok trivial) (cuts := c_k283) (f := 3000) (by decide +kernel)
def t_k284 : KT := ((284, 6, 0, 0), [(2, 0, 40, 0)], [(0, 0)], [], (1, -2147483648, 2147483647), [], [], ([], []), ([], []))
def c_k284 : List CUT := [(4, [0, 1, 2], [(2, 0, 40, 0), (1, 1, 0, 0), (1, 2, 0, 0)], [(0, 0), (-2147483648, 2147483647), (0, 144)], [(2, 0, 40, 0), (1, 1, 0, 0), (1, 2, 0, 0)], [(0, [(2, 0, 40, 0)])], (0, 0), [(0, 0, 1), (1, 2, 144)])]
def a_k284 : List (Nat × KT) := [(6, t_k168), (11, t_k206)]
def l_k284 : LNL := []
theorem k_k284 (g : GG) : KOK Yt (PSt g) t_k284 := verK_ok (PSt_ok g) (PSt_ax g) (dk := 5) (AN := anOf a_k284) (anOf_ok ⟨k_k168 g, ⟨k_k206 g, trivial⟩⟩) (LN := lnOf l_k284) (lnOf_ok trivial) (cuts := c_k284) (f := 3000) (by decide +kernel)
def t_k285 : KT := ((285, 4, 0, 0), [(2, 0, 40, 0)], [(0, 0)], [], (1, -2147483648, 2147483647), [], [], ([], []), ([], []))
def c_k285 : List CUT := [(4, [0, 1, 2], [(2, 0, 40, 0), (1, 1, 0, 0), (1, 2, 0, 0)], [(0, 0), (-2147483648, 2147483647), (0, 288)], [(2, 0, 40, 0), (1, 1, 0, 0), (1, 2, 0, 0)], [(0, [(2, 0, 40, 0)])], (0, 0), [(0, 0, 1), (1, 2, 288)])]
def a_k285 : List (Nat × KT) := [(7, t_k168), (12, t_k179), (16, t_k183)]
def l_k285 : LNL := []
theorem k_k285 (g : GG) : KOK Yt (PSt g) t_k285 := verK_ok (PSt_ok g) (PSt_ax g) (dk := 3) (AN := anOf a_k285) (anOf_ok ⟨k_k168 g, ⟨k_k179 g, ⟨k_k183 g, trivial⟩⟩⟩) (LN := lnOf l_k285) (lnOf_ok trivial) (cuts := c_k285) (f := 3000) (by decide +kernel)
def t_k286 : KT := ((286, 3, 0, 0), [(2, 0, 40, 0)], [(0, 0)], [], (1, -2147483648, 2147483647), [], [], ([], []), ([], []))
def c_k286 : List CUT := [(4, [0, 1, 2], [(2, 0, 40, 0), (1, 1, 0, 0), (1, 2, 0, 0)], [(0, 0), (-2147483648, 2147483647), (0, 144)], [(2, 0, 40, 0), (1, 1, 0, 0), (1, 2, 0, 0)], [(0, [(2, 0, 40, 0)])], (0, 0), [(0, 0, 1), (1, 2, 144)])]
def a_k286 : List (Nat × KT) := [(6, t_k168), (10, t_k173)]
def l_k286 : LNL := []
theorem k_k286 (g : GG) : KOK Yt (PSt g) t_k286 := verK_ok (PSt_ok g) (PSt_ax g) (dk := 2) (AN := anOf a_k286) (anOf_ok ⟨k_k168 g, ⟨k_k173 g, trivial⟩⟩) (LN := lnOf l_k286) (lnOf_ok trivial) (cuts := c_k286) (f := 3000) (by decide +kernel)
def t_k165_10 : KT := ((165, 1, 0, 0), [(2, 0, 40, 0), (1, 1, 0, 0), (1, 2, 0, 0), (1, 3, 0, 0)], [(0, 0), (-2147483648, 2147483647), (0, 0), (0, 400)], [], (2, 0, 1), [], [], ([(1, 0, 400)], []), ([], []))
def c_k165_10 : List CUT := []
def a_k165_10 : List (Nat × KT) := []
def l_k165_10 : LNL := []
theorem k_k165_10 (g : GG) : KOK Yt (PSt g) t_k165_10 := verK_ok (PSt_ok g) (PSt_ax g) (dk := 0) (AN := anOf a_k165_10) (anOf_ok trivial) (LN := lnOf l_k165_10) (lnOf_ok trivial) (cuts := c_k165_10) (f := 3000) (by decide +kernel)
def t_k248 : KT := ((248, 2, 0, 0), [(2, 0, 40, 0), (1, 1, 0, 0)], [(0, 0), (-2147483648, 2147483647)], [], (2, 0, 1), [(40, 0, 1), (40, 16, 17)], [], ([(1, 0, 400)], []), ([], []))
def c_k248 : List CUT := []
def a_k248 : List (Nat × KT) := [(8, t_k165_10)]
def l_k248 : LNL := []
theorem k_k248 (g : GG) : KOK Yt (PSt g) t_k248 := verK_ok (PSt_ok g) (PSt_ax g) (dk := 1) (AN := anOf a_k248) (anOf_ok ⟨k_k165_10 g, trivial⟩) (LN := lnOf l_k248) (lnOf_ok trivial) (cuts := c_k248) (f := 3000) (by decide +kernel)
def t_k252 : KT := ((252, 1, 0, 0), [(2, 0, 40, 0)], [(0, 0)], [], (1, -1, 400), [(40, 0, 1)], [], ([], []), ([], []))
def c_k252 : List CUT := []
def a_k252 : List (Nat × KT) := []
def l_k252 : LNL := []
theorem k_k252 (g : GG) : KOK Yt (PSt g) t_k252 := verK_ok (PSt_ok g) (PSt_ax g) (dk := 0) (AN := anOf a_k252) (anOf_ok trivial) (LN := lnOf l_k252) (lnOf_ok trivial) (cuts := c_k252) (f := 3000) (by decide +kernel)
def t_k165_11 : KT := ((165, 1, 0, 0), [(2, 0, 40, 0), (1, 1, 0, 0), (1, 2, 0, 0), (1, 3, 0, 0)], [(0, 0), (-2147483648, 2147483647), (0, 0), (7, 7)], [], (2, 0, 1), [], [], ([(1, 0, 7)], []), ([], []))
def c_k165_11 : List CUT := []
def a_k165_11 : List (Nat × KT) := []
def l_k165_11 : LNL := []
theorem k_k165_11 (g : GG) : KOK Yt (PSt g) t_k165_11 := verK_ok (PSt_ok g) (PSt_ax g) (dk := 0) (AN := anOf a_k165_11) (anOf_ok trivial) (LN := lnOf l_k165_11) (lnOf_ok trivial) (cuts := c_k165_11) (f := 3000) (by decide +kernel)
def t_k255 : KT := ((255, 4, 0, 0), [(2, 0, 40, 0), (1, 1, 0, 0)], [(0, 0), (-2147483648, 2147483647)], [], (1, -2147483648, 2147483647), [(40, 0, 1)], [], ([], []), ([], []))
def c_k255 : List CUT := []
def a_k255 : List (Nat × KT) := [(5, t_k169), (9, t_k173)]
def l_k255 : LNL := []
theorem k_k255 (g : GG) : KOK Yt (PSt g) t_k255 := verK_ok (PSt_ok g) (PSt_ax g) (dk := 3) (AN := anOf a_k255) (anOf_ok ⟨k_k169 g, ⟨k_k173 g, trivial⟩⟩) (LN := lnOf l_k255) (lnOf_ok trivial) (cuts := c_k255) (f := 3000) (by decide +kernel)
def t_k226 : KT := ((226, 4, 0, 0), [(2, 0, 40, 0)], [(0, 0)], [], (1, -2147483648, 2147483647), [(40, 0, 1), (41, 2, 5), (41, 442, 1018), (41, 2026, 2314)], [], ([], []), ([], []))
def c_k226 : List CUT := []
def a_k226 : List (Nat × KT) := [(4, t_k187), (6, t_k222)]
def l_k226 : LNL := []
theorem k_k226 (g : GG) : KOK Yt (PSt g) t_k226 := verK_ok (PSt_ok g) (PSt_ax g) (dk := 3) (AN := anOf a_k226) (anOf_ok ⟨k_k187 g, ⟨k_k222 g, trivial⟩⟩) (LN := lnOf l_k226) (lnOf_ok trivial) (cuts := c_k226) (f := 3000) (by decide +kernel)
def t_k192 : KT := ((192, 4, 0, 0), [(2, 0, 40, 0), (1, 1, 0, 0), (1, 2, 0, 0)], [(0, 0), (-2147483648, 2147483647), (-2147483648, 2147483647)], [], (1, -2147483648, 2147483647), [(40, 0, 1), (40, 7, 8), (41, 2, 5), (41, 10, 154), (41, 442, 1018), (41, 2026, 2314), (43, 0, 27768)], [], ([], []), ([], []))
def c_k192 : List CUT := []
def a_k192 : List (Nat × KT) := [(5, t_k169), (10, t_k188), (19, t_k177), (23, t_k170)]
def l_k192 : LNL := []
theorem k_k192 (g : GG) : KOK Yt (PSt g) t_k192 := verK_ok (PSt_ok g) (PSt_ax g) (dk := 3) (AN := anOf a_k192) (anOf_ok ⟨k_k169 g, ⟨k_k188 g, ⟨k_k177 g, ⟨k_k170 g, trivial⟩⟩⟩⟩) (LN := lnOf l_k192) (lnOf_ok trivial) (cuts := c_k192) (f := 3000) (by decide +kernel)
def t_k193 : KT := ((193, 4, 0, 0), [(2, 0, 40, 0), (1, 1, 0, 0), (1, 2, 0, 0)], [(0, 0), (-2147483648, 2147483647), (0, 1)], [], (2, 0, 1), [(40, 0, 1), (40, 7, 8), (41, 2, 5), (41, 298, 1018), (41, 2026, 2314), (43, 0, 27768)], [], ([(1, 0, 143)], []), ([], []))
def c_k193 : List CUT := []
def a_k193 : List (Nat × KT) := [(5, t_k169), (9, t_k172), (15, t_k188)]
def l_k193 : LNL := []
theorem k_k193 (g : GG) : KOK Yt (PSt g) t_k193 := verK_ok (PSt_ok g) (PSt_ax g) (dk := 3) (AN := anOf a_k193) (anOf_ok ⟨k_k169 g, ⟨k_k172 g, ⟨k_k188 g, trivial⟩⟩⟩) (LN := lnOf l_k193) (lnOf_ok trivial) (cuts := c_k193) (f := 3000) (by decide +kernel)
def t_k165_12 : KT := ((165, 1, 0, 0), [(2, 0, 40, 0), (1, 1, 0, 0), (1, 2, 0, 0), (1, 3, 0, 0)], [(0, 0), (-2147483648, 2147483647), (0, 0), (99, 99)], [], (2, 0, 1), [], [], ([(1, 0, 99)], []), ([], []))
def c_k165_12 : List CUT := []
def a_k165_12 : List (Nat × KT) := []
def l_k165_12 : LNL := []
theorem k_k165_12 (g : GG) : KOK Yt (PSt g) t_k165_12 := verK_ok (PSt_ok g) (PSt_ax g) (dk := 0) (AN := anOf a_k165_12) (anOf_ok trivial) (LN := lnOf l_k165_12) (lnOf_ok trivial) (cuts := c_k165_12) (f := 3000) (by decide +kernel)
def t_k194 : KT := ((194, 4, 0, 0), [(2, 0, 40, 0), (1, 1, 0, 0), (1, 2, 0, 0)], [(0, 0), (-2147483648, 2147483647), (-2147483648, 2147483647)], [], (2, 0, 1), [(40, 0, 1), (40, 7, 8), (41, 154, 298), (43, 0, 27768)], [], ([(1, 0, 143), (2, 0, 99)], []), ([], []))
def c_k194 : List CUT := []
def a_k194 : List (Nat × KT) := [(5, t_k169), (11, t_k165_12), (16, t_k186)]
def l_k194 : LNL := []
theorem k_k194 (g : GG) : KOK Yt (PSt g) t_k194 := verK_ok (PSt_ok g) (PSt_ax g) (dk := 3) (AN := anOf a_k194) (anOf_ok ⟨k_k169 g, ⟨k_k165_12 g, ⟨k_k186 g, trivial⟩⟩⟩) (LN := lnOf l_k194) (lnOf_ok trivial) (cuts := c_k194) (f := 3000) (by decide +kernel)
def t_k221 : KT := ((221, 4, 0, 0), [(2, 0, 40, 0), (1, 1, 0, 0), (1, 2, 0, 0)], [(0, 0), (-2147483648, 2147483647), (0, 1)], [], (2, 0, 1), [(40, 0, 1), (40, 7, 8), (41, 2, 5), (41, 442, 1018), (41, 1306, 1594), (41, 2026, 2314), (43, 0, 27768)], [], ([(1, 0, 287)], []), ([], []))
def c_k221 : List CUT := []
def a_k221 : List (Nat × KT) := [(5, t_k179), (23, t_k188)]
def l_k221 : LNL := []
theorem k_k221 (g : GG) : KOK Yt (PSt g) t_k221 := verK_ok (PSt_ok g) (PSt_ax g) (dk := 3) (AN := anOf a_k221) (anOf_ok ⟨k_k179 g, ⟨k_k188 g, trivial⟩⟩) (LN := lnOf l_k221) (lnOf_ok trivial) (cuts := c_k221) (f := 3000) (by decide +kernel)
def t_k242 : KT := ((242, 7, 0, 0), [(2, 0, 40, 0), (1, 1, 0, 0), (1, 2, 0, 0), (1, 3, 0, 0)], [(0, 0), (-2147483648, 2147483647), (-2147483648, 2147483647), (-2147483648, 2147483647)], [], (1, -2147483648, 2147483647), [(40, 0, 1), (40, 12, 13), (40, 13, 14)], [], ([], []), ([], []))
def c_k242 : List CUT := []
def a_k242 : List (Nat × KT) := [(5, t_k234), (9, t_k234), (18, t_k165_3), (23, t_k241)]
def l_k242 : LNL := []
theorem k_k242 (g : GG) : KOK Yt (PSt g) t_k242 := verK_ok (PSt_ok g) (PSt_ax g) (dk := 6) (AN := anOf a_k242) (anOf_ok ⟨k_k234 g, ⟨k_k234 g, ⟨k_k165_3 g, ⟨k_k241 g, trivial⟩⟩⟩⟩) (LN := lnOf l_k242) (lnOf_ok trivial) (cuts := c_k242) (f := 3000) (by decide +kernel)
def t_k165_13 : KT := ((165, 1, 0, 0), [(2, 0, 40, 0), (1, 1, 0, 0), (1, 2, 0, 0), (1, 3, 0, 0)], [(0, 0), (-2147483648, 2147483647), (2, 2), (12, 12)], [], (2, 0, 1), [], [], ([(1, 2, 12)], []), ([], []))
def c_k165_13 : List CUT := []
def a_k165_13 : List (Nat × KT) := []
def l_k165_13 : LNL := []
theorem k_k165_13 (g : GG) : KOK Yt (PSt g) t_k165_13 := verK_ok (PSt_ok g) (PSt_ax g) (dk := 0) (AN := anOf a_k165_13) (anOf_ok trivial) (LN := lnOf l_k165_13) (lnOf_ok trivial) (cuts := c_k165_13) (f := 3000) (by decide +kernel)
def t_k191 : KT := ((191, 2, 0, 0), [(2, 0, 40, 0), (1, 1, 0, 0), (1, 2, 0, 0)], [(0, 0), (-2147483648, 2147483647), (-2147483648, 2147483647)], [], (2, 0, 1), [(40, 0, 1), (40, 7, 8), (41, 0, 2314), (43, 0, 27768)], [], ([(1, 2, 12), (2, 2, 12)], []), ([], []))
def c_k191 : List CUT := []
def a_k191 : List (Nat × KT) := [(7, t_k165_13), (13, t_k165_13), (18, t_k186), (22, t_k190)]
def l_k191 : LNL := []
theorem k_k191 (g : GG) : KOK Yt (PSt g) t_k191 := verK_ok (PSt_ok g) (PSt_ax g) (dk := 1) (AN := anOf a_k191) (anOf_ok ⟨k_k165_13 g, ⟨k_k165_13 g, ⟨k_k186 g, ⟨k_k190 g, trivial⟩⟩⟩⟩) (LN := lnOf l_k191) (lnOf_ok trivial) (cuts := c_k191) (f := 3000) (by decide +kernel)
def t_k251 : KT := ((251, 3, 0, 0), [(2, 0, 40, 0)], [(0, 0)], [], (1, -1, 144), [(40, 0, 1), (40, 7, 8), (40, 16, 17), (40, 17, 18), (40, 20, 21), (40, 21, 22), (41, 0, 2314), (43, 0, 27768), (49, 0, 144), (50, 0, 144)], [], ([], []), ([], []))
def c_k251 : List CUT := [(30, [0, 1, 2, 1000, 1016, 1017, 1020, 1021], [(2, 0, 40, 0), (1, 1, 0, 0), (1, 2, 0, 0), (1, 3, 0, 0), (1, 4, 0, 0), (1, 5, 0, 0), (1, 6, 0, 0), (1, 7, 0, 0)], [(0, 0), (0, 400), (0, 144), (0, 0), (0, 0), (-1, -1), (2, 12), (2, 12)], [(2, 0, 40, 0), (1, 1, 0, 0), (1, 2, 0, 0)], [(0, [(2, 0, 40, 0)])], (0, 0), [(0, 0, 1), (1, 2, 144)])]
def a_k251 : List (Nat × KT) := [(12, t_k250), (21, t_k186), (27, t_k190), (32, t_k168), (61, t_k168)]
def l_k251 : LNL := [(27, [(t_rdt, [[0], [501], [500], [100181]])])]
theorem k_k251 (g : GG) : KOK Yt (PSt g) t_k251 := verK_ok (PSt_ok g) (PSt_ax g) (dk := 2) (AN := anOf a_k251) (anOf_ok ⟨k_k250 g, ⟨k_k186 g, ⟨k_k190 g, ⟨k_k168 g, ⟨k_k168 g, trivial⟩⟩⟩⟩⟩) (LN := lnOf l_k251) (lnOf_ok ⟨⟨l_rdt g, trivial⟩, trivial⟩) (cuts := c_k251) (f := 3000) (by decide +kernel)
def t_k287 : KT := ((287, 7, 0, 0), [(2, 0, 40, 0), (1, 1, 0, 0)], [(0, 0), (-2147483648, 2147483647)], [], (1, -2147483648, 2147483647), [(40, 0, 1), (40, 9, 10), (44, 0, 144)], [], ([], []), ([], []))
def c_k287 : List CUT := []
def a_k287 : List (Nat × KT) := [(4, t_k210), (8, t_k166), (14, t_k167), (22, t_k168), (23, t_k283), (35, t_k284), (41, t_k285), (47, t_k286), (69, t_k232), (75, t_k233)]
def l_k287 : LNL := []
theorem k_k287 (g : GG) : KOK Yt (PSt g) t_k287 := verK_ok (PSt_ok g) (PSt_ax g) (dk := 6) (AN := anOf a_k287) (anOf_ok ⟨k_k210 g, ⟨k_k166 g, ⟨k_k167 g, ⟨k_k168 g, ⟨k_k283 g, ⟨k_k284 g, ⟨k_k285 g, ⟨k_k286 g, ⟨k_k232 g, ⟨k_k233 g, trivial⟩⟩⟩⟩⟩⟩⟩⟩⟩⟩) (LN := lnOf l_k287) (lnOf_ok trivial) (cuts := c_k287) (f := 3000) (by decide +kernel)
def t_k237 : KT := ((237, 4, 0, 0), [(2, 0, 40, 0), (1, 1, 0, 0), (1, 2, 0, 0)], [(0, 0), (-2147483648, 2147483647), (-2147483648, 2147483647)], [(77, [(2, 0, 40, 0), (0, 0, 0, 0), (0, 0, 0, 0)]), (78, [(0, 0, 0, 0)])], (2, 0, 1), [(40, 0, 1), (40, 5, 6), (40, 7, 8), (41, 442, 586), (41, 2026, 2170), (42, 0, 180), (43, 0, 27768)], [(77, [(2, 0, 40, 0), (0, 0, 0, 150), (0, 0, 0, 0)])], ([(1, 0, 143)], []), ([], []))
def c_k237 : List CUT := []
def a_k237 : List (Nat × KT) := [(5, t_k234), (10, t_k235), (15, t_k186), (19, t_k236), (24, t_k185)]
def l_k237 : LNL := [(12, [(t_mw77, [[0], [100771]])]), (25, [(t_mw77, [[0], [100771]])])]
theorem k_k237 (g : GG) : KOK Yt (PSt g) t_k237 := verK_ok (PSt_ok g) (PSt_ax g) (dk := 3) (AN := anOf a_k237) (anOf_ok ⟨k_k234 g, ⟨k_k235 g, ⟨k_k186 g, ⟨k_k236 g, ⟨k_k185 g, trivial⟩⟩⟩⟩⟩) (LN := lnOf l_k237) (lnOf_ok ⟨⟨l_mw77 g, trivial⟩, ⟨⟨l_mw77 g, trivial⟩, trivial⟩⟩) (cuts := c_k237) (f := 3000) (by decide +kernel)
