/-! the reference: contracts that bounds alone bear -/
def t_k166 : KT := ((166, 1, 0, 0), [(2, 0, 40, 0)], [(0, 0)], [], (1, 2, 12), [], [], ([], []), ([], []))
def c_k166 : List CUT := []
def a_k166 : List (Nat × KT) := []
def l_k166 : LNL := []
theorem k_k166 (g : Nat) : KOK Yt (PSt g) t_k166 := verK_ok (PSt_ok g) (PSt_ax g) (dk := 0) (AN := anOf a_k166) (anOf_ok trivial) (LN := lnOf l_k166) (lnOf_ok trivial) (cuts := c_k166) (f := 3000) (by decide +kernel)
def t_k167 : KT := ((167, 1, 0, 0), [(2, 0, 40, 0)], [(0, 0)], [], (1, 2, 12), [], [], ([], []), ([], []))
def c_k167 : List CUT := []
def a_k167 : List (Nat × KT) := []
def l_k167 : LNL := []
theorem k_k167 (g : Nat) : KOK Yt (PSt g) t_k167 := verK_ok (PSt_ok g) (PSt_ax g) (dk := 0) (AN := anOf a_k167) (anOf_ok trivial) (LN := lnOf l_k167) (lnOf_ok trivial) (cuts := c_k167) (f := 3000) (by decide +kernel)
def t_k168 : KT := ((168, 2, 0, 0), [(2, 0, 40, 0)], [(0, 0)], [], (1, 4, 144), [], [], ([], []), ([], []))
def c_k168 : List CUT := []
def a_k168 : List (Nat × KT) := [(1, t_k166), (3, t_k167)]
def l_k168 : LNL := []
theorem k_k168 (g : Nat) : KOK Yt (PSt g) t_k168 := verK_ok (PSt_ok g) (PSt_ax g) (dk := 1) (AN := anOf a_k168) (anOf_ok ⟨k_k166 g, ⟨k_k167 g, trivial⟩⟩) (LN := lnOf l_k168) (lnOf_ok trivial) (cuts := c_k168) (f := 3000) (by decide +kernel)
def t_k169 : KT := ((169, 3, 0, 0), [(2, 0, 40, 0), (1, 1, 0, 0)], [(0, 0), (-2147483648, 2147483647)], [], (2, 0, 1), [], [], ([(1, 0, 143)], []), ([], []))
def c_k169 : List CUT := []
def a_k169 : List (Nat × KT) := [(4, t_k168)]
def l_k169 : LNL := []
theorem k_k169 (g : Nat) : KOK Yt (PSt g) t_k169 := verK_ok (PSt_ok g) (PSt_ax g) (dk := 2) (AN := anOf a_k169) (anOf_ok ⟨k_k168 g, trivial⟩) (LN := lnOf l_k169) (lnOf_ok trivial) (cuts := c_k169) (f := 3000) (by decide +kernel)
def t_k170 : KT := ((170, 1, 0, 0), [(2, 0, 40, 0), (1, 1, 0, 0)], [(0, 0), (-10, 200)], [], (1, -2147483648, 2147483647), [], [], ([], []), ([], []))
def c_k170 : List CUT := []
def a_k170 : List (Nat × KT) := []
def l_k170 : LNL := []
theorem k_k170 (g : Nat) : KOK Yt (PSt g) t_k170 := verK_ok (PSt_ok g) (PSt_ax g) (dk := 0) (AN := anOf a_k170) (anOf_ok trivial) (LN := lnOf l_k170) (lnOf_ok trivial) (cuts := c_k170) (f := 3000) (by decide +kernel)
def t_k171 : KT := ((171, 1, 0, 0), [(2, 0, 40, 0), (1, 1, 0, 0)], [(0, 0), (-13, 156)], [], (1, -2147483648, 2147483647), [], [], ([], []), ([], []))
def c_k171 : List CUT := []
def a_k171 : List (Nat × KT) := []
def l_k171 : LNL := []
theorem k_k171 (g : Nat) : KOK Yt (PSt g) t_k171 := verK_ok (PSt_ok g) (PSt_ax g) (dk := 0) (AN := anOf a_k171) (anOf_ok trivial) (LN := lnOf l_k171) (lnOf_ok trivial) (cuts := c_k171) (f := 3000) (by decide +kernel)
def t_k172 : KT := ((172, 1, 0, 0), [(2, 0, 40, 0), (1, 1, 0, 0)], [(0, 0), (-13, 156)], [], (2, 0, 1), [], [], ([], []), ([], []))
def c_k172 : List CUT := []
def a_k172 : List (Nat × KT) := []
def l_k172 : LNL := []
theorem k_k172 (g : Nat) : KOK Yt (PSt g) t_k172 := verK_ok (PSt_ok g) (PSt_ax g) (dk := 0) (AN := anOf a_k172) (anOf_ok trivial) (LN := lnOf l_k172) (lnOf_ok trivial) (cuts := c_k172) (f := 3000) (by decide +kernel)
def t_k173 : KT := ((173, 1, 0, 0), [(2, 0, 40, 0), (1, 1, 0, 0)], [(0, 0), (-13, 156)], [], (2, 0, 1), [], [], ([], []), ([], []))
def c_k173 : List CUT := []
def a_k173 : List (Nat × KT) := []
def l_k173 : LNL := []
theorem k_k173 (g : Nat) : KOK Yt (PSt g) t_k173 := verK_ok (PSt_ok g) (PSt_ax g) (dk := 0) (AN := anOf a_k173) (anOf_ok trivial) (LN := lnOf l_k173) (lnOf_ok trivial) (cuts := c_k173) (f := 3000) (by decide +kernel)
def t_k174 : KT := ((174, 2, 0, 0), [(2, 0, 40, 0), (1, 1, 0, 0)], [(0, 0), (0, 155)], [], (1, 0, 77), [], [], ([], []), ([], []))
def c_k174 : List CUT := []
def a_k174 : List (Nat × KT) := [(2, t_k167)]
def l_k174 : LNL := []
theorem k_k174 (g : Nat) : KOK Yt (PSt g) t_k174 := verK_ok (PSt_ok g) (PSt_ax g) (dk := 1) (AN := anOf a_k174) (anOf_ok ⟨k_k167 g, trivial⟩) (LN := lnOf l_k174) (lnOf_ok trivial) (cuts := c_k174) (f := 3000) (by decide +kernel)
def t_k175 : KT := ((175, 2, 0, 0), [(2, 0, 40, 0), (1, 1, 0, 0)], [(0, 0), (0, 155)], [], (1, 0, 11), [], [], ([], []), ([], []))
def c_k175 : List CUT := []
def a_k175 : List (Nat × KT) := [(2, t_k167)]
def l_k175 : LNL := []
theorem k_k175 (g : Nat) : KOK Yt (PSt g) t_k175 := verK_ok (PSt_ok g) (PSt_ax g) (dk := 1) (AN := anOf a_k175) (anOf_ok ⟨k_k167 g, trivial⟩) (LN := lnOf l_k175) (lnOf_ok trivial) (cuts := c_k175) (f := 3000) (by decide +kernel)
def t_k176 : KT := ((176, 1, 0, 0), [(2, 0, 40, 0), (1, 1, 0, 0)], [(0, 0), (-2147483648, 2147483647)], [], (1, -2147483648, 2147483647), [], [], ([], []), ([], []))
def c_k176 : List CUT := []
def a_k176 : List (Nat × KT) := []
def l_k176 : LNL := []
theorem k_k176 (g : Nat) : KOK Yt (PSt g) t_k176 := verK_ok (PSt_ok g) (PSt_ax g) (dk := 0) (AN := anOf a_k176) (anOf_ok trivial) (LN := lnOf l_k176) (lnOf_ok trivial) (cuts := c_k176) (f := 3000) (by decide +kernel)
def t_k177 : KT := ((177, 1, 0, 0), [(2, 0, 40, 0), (4, 0, 0, 0)], [(0, 0), (0, 0)], [], (1, -127, 127), [], [], ([], []), ([], []))
theorem k_k177 (g : Nat) : KOK Yt (PSt g) t_k177 := by
  intro d ρ α Γ M as hd hT hB hA _
  obtain ⟨m, t, rfl, h1, h2⟩ := ARs.cons (show ARs ρ α Γ [(2, 0, 40, 0), (4, 0, 0, 0)] as from hA)
  obtain ⟨m2, t2, rfl, h3, h4⟩ := ARs.cons h2
  cases h4.nil
  obtain ⟨rfl, g1, g2⟩ := h1.ref rfl
  obtain ⟨x, rfl, -⟩ := h3.lng rfl
  cases d with
  | zero => exact absurd hd (by decide)
  | succ d =>
    refine (wrM_ok d (α 0) x M).imp fun r M1 q => ?_
    obtain ⟨rfl, rfl⟩ := q
    exact ⟨Γ, hT, FRM.refl _ _ _, fun _ _ => rfl, Nat.le_refl _, Nat.le_refl _, _, rfl, (wr_bd x).1, (wr_bd x).2, fun p hp => absurd hp List.not_mem_nil⟩
def t_k178 : KT := ((178, 2, 0, 0), [(2, 0, 40, 0), (1, 1, 0, 0), (1, 2, 0, 0)], [(0, 0), (-10, 200), (-10, 200)], [], (1, -127, 127), [], [], ([], []), ([], []))
def c_k178 : List CUT := []
def a_k178 : List (Nat × KT) := [(3, t_k170), (6, t_k170), (9, t_k177)]
def l_k178 : LNL := []
theorem k_k178 (g : Nat) : KOK Yt (PSt g) t_k178 := verK_ok (PSt_ok g) (PSt_ax g) (dk := 1) (AN := anOf a_k178) (anOf_ok ⟨k_k170 g, ⟨k_k170 g, ⟨k_k177 g, trivial⟩⟩⟩) (LN := lnOf l_k178) (lnOf_ok trivial) (cuts := c_k178) (f := 3000) (by decide +kernel)
def t_k179 : KT := ((179, 3, 0, 0), [(2, 0, 40, 0), (1, 1, 0, 0)], [(0, 0), (-2147483648, 2147483647)], [], (2, 0, 1), [], [], ([(1, 0, 287)], []), ([], []))
def c_k179 : List CUT := []
def a_k179 : List (Nat × KT) := [(5, t_k168), (18, t_k175), (20, t_k167), (32, t_k174), (34, t_k166)]
def l_k179 : LNL := []
theorem k_k179 (g : Nat) : KOK Yt (PSt g) t_k179 := verK_ok (PSt_ok g) (PSt_ax g) (dk := 2) (AN := anOf a_k179) (anOf_ok ⟨k_k168 g, ⟨k_k175 g, ⟨k_k167 g, ⟨k_k174 g, ⟨k_k166 g, trivial⟩⟩⟩⟩⟩) (LN := lnOf l_k179) (lnOf_ok trivial) (cuts := c_k179) (f := 3000) (by decide +kernel)
def t_k180 : KT := ((180, 1, 0, 0), [(2, 0, 40, 0), (1, 1, 0, 0)], [(0, 0), (0, 287)], [], (1, 0, 143), [], [], ([], []), ([], []))
def c_k180 : List CUT := []
def a_k180 : List (Nat × KT) := []
def l_k180 : LNL := []
theorem k_k180 (g : Nat) : KOK Yt (PSt g) t_k180 := verK_ok (PSt_ok g) (PSt_ax g) (dk := 0) (AN := anOf a_k180) (anOf_ok trivial) (LN := lnOf l_k180) (lnOf_ok trivial) (cuts := c_k180) (f := 3000) (by decide +kernel)
def t_k181 : KT := ((181, 2, 0, 0), [(2, 0, 40, 0), (1, 1, 0, 0)], [(0, 0), (0, 287)], [], (1, 1, 155), [], [], ([], []), ([], []))
def c_k181 : List CUT := []
def a_k181 : List (Nat × KT) := [(14, t_k167)]
def l_k181 : LNL := []
theorem k_k181 (g : Nat) : KOK Yt (PSt g) t_k181 := verK_ok (PSt_ok g) (PSt_ax g) (dk := 1) (AN := anOf a_k181) (anOf_ok ⟨k_k167 g, trivial⟩) (LN := lnOf l_k181) (lnOf_ok trivial) (cuts := c_k181) (f := 3000) (by decide +kernel)
def t_k182 : KT := ((182, 3, 0, 0), [(2, 0, 40, 0), (1, 1, 0, 0)], [(0, 0), (0, 287)], [], (2, 0, 1), [], [], ([], []), ([], []))
def c_k182 : List CUT := []
def a_k182 : List (Nat × KT) := [(3, t_k180), (4, t_k172), (9, t_k181), (10, t_k172)]
def l_k182 : LNL := []
theorem k_k182 (g : Nat) : KOK Yt (PSt g) t_k182 := verK_ok (PSt_ok g) (PSt_ax g) (dk := 2) (AN := anOf a_k182) (anOf_ok ⟨k_k180 g, ⟨k_k172 g, ⟨k_k181 g, ⟨k_k172 g, trivial⟩⟩⟩⟩) (LN := lnOf l_k182) (lnOf_ok trivial) (cuts := c_k182) (f := 3000) (by decide +kernel)
def t_k183 : KT := ((183, 1, 0, 0), [(2, 0, 40, 0), (1, 1, 0, 0)], [(0, 0), (0, 287)], [], (2, 0, 1), [], [], ([], []), ([], []))
def c_k183 : List CUT := []
def a_k183 : List (Nat × KT) := []
def l_k183 : LNL := []
theorem k_k183 (g : Nat) : KOK Yt (PSt g) t_k183 := verK_ok (PSt_ok g) (PSt_ax g) (dk := 0) (AN := anOf a_k183) (anOf_ok trivial) (LN := lnOf l_k183) (lnOf_ok trivial) (cuts := c_k183) (f := 3000) (by decide +kernel)
def t_k184 : KT := ((184, 3, 0, 0), [(2, 0, 40, 0), (1, 1, 0, 0)], [(0, 0), (0, 287)], [], (1, -2147483648, 2147483647), [], [], ([], []), ([], []))
def c_k184 : List CUT := []
def a_k184 : List (Nat × KT) := [(3, t_k180), (4, t_k171), (9, t_k181), (10, t_k171)]
def l_k184 : LNL := []
theorem k_k184 (g : Nat) : KOK Yt (PSt g) t_k184 := verK_ok (PSt_ok g) (PSt_ax g) (dk := 2) (AN := anOf a_k184) (anOf_ok ⟨k_k180 g, ⟨k_k171 g, ⟨k_k181 g, ⟨k_k171 g, trivial⟩⟩⟩⟩) (LN := lnOf l_k184) (lnOf_ok trivial) (cuts := c_k184) (f := 3000) (by decide +kernel)
def t_k187 : KT := ((187, 1, 0, 0), [(2, 0, 40, 0)], [(0, 0)], [], (0, 0, 0), [(41, 0, 2314)], [], ([], []), ([], []))
def c_k187 : List CUT := [(2, [0, 1], [(2, 0, 40, 0), (1, 1, 0, 0)], [(0, 0), (0, 144)], [(2, 0, 40, 0), (1, 1, 0, 0)], [(0, [(2, 0, 40, 0)])], (0, 0), [(0, 0, 1), (1, 1, 144)])]
def a_k187 : List (Nat × KT) := []
def l_k187 : LNL := []
theorem k_k187 (g : Nat) : KOK Yt (PSt g) t_k187 := verK_ok (PSt_ok g) (PSt_ax g) (dk := 0) (AN := anOf a_k187) (anOf_ok trivial) (LN := lnOf l_k187) (lnOf_ok trivial) (cuts := c_k187) (f := 3000) (by decide +kernel)
def t_k190 : KT := ((190, 1, 0, 0), [(2, 0, 40, 0), (1, 1, 0, 0), (1, 2, 0, 0)], [(0, 0), (2, 12), (2, 12)], [], (0, 0, 0), [(41, 0, 2314)], [], ([], []), ([], []))
def c_k190 : List CUT := [(2, [0, 1, 2, 3], [(2, 0, 40, 0), (1, 1, 0, 0), (1, 2, 0, 0), (1, 3, 0, 0)], [(0, 0), (2, 12), (2, 12), (0, 2314)], [(2, 0, 40, 0), (1, 1, 0, 0), (1, 2, 0, 0), (1, 3, 0, 0)], [(0, [(2, 0, 40, 0), (1, 1, 0, 0), (1, 2, 0, 0)])], (0, 0), [(0, 0, 1), (1, 3, 2314)])]
def a_k190 : List (Nat × KT) := []
def l_k190 : LNL := []
theorem k_k190 (g : Nat) : KOK Yt (PSt g) t_k190 := verK_ok (PSt_ok g) (PSt_ax g) (dk := 0) (AN := anOf a_k190) (anOf_ok trivial) (LN := lnOf l_k190) (lnOf_ok trivial) (cuts := c_k190) (f := 3000) (by decide +kernel)
def t_k195 : KT := ((195, 3, 0, 0), [(2, 0, 40, 0), (1, 1, 0, 0), (1, 2, 0, 0)], [(0, 0), (0, 143), (0, 3)], [], (1, -12, 155), [], [], ([], []), ([], []))
def c_k195 : List CUT := []
def a_k195 : List (Nat × KT) := [(4, t_k175), (6, t_k167), (21, t_k174), (23, t_k166), (29, t_k167), (39, t_k175), (49, t_k174), (53, t_k167)]
def l_k195 : LNL := []
theorem k_k195 (g : Nat) : KOK Yt (PSt g) t_k195 := verK_ok (PSt_ok g) (PSt_ax g) (dk := 2) (AN := anOf a_k195) (anOf_ok ⟨k_k175 g, ⟨k_k167 g, ⟨k_k174 g, ⟨k_k166 g, ⟨k_k167 g, ⟨k_k175 g, ⟨k_k174 g, ⟨k_k167 g, trivial⟩⟩⟩⟩⟩⟩⟩⟩) (LN := lnOf l_k195) (lnOf_ok trivial) (cuts := c_k195) (f := 3000) (by decide +kernel)
def t_k196 : KT := ((196, 2, 0, 0), [(2, 0, 40, 0), (1, 1, 0, 0), (1, 2, 0, 0)], [(0, 0), (0, 143), (0, 3)], [], (1, -284, 287), [], [], ([], []), ([], []))
def c_k196 : List CUT := []
def a_k196 : List (Nat × KT) := [(27, t_k167)]
def l_k196 : LNL := []
theorem k_k196 (g : Nat) : KOK Yt (PSt g) t_k196 := verK_ok (PSt_ok g) (PSt_ax g) (dk := 1) (AN := anOf a_k196) (anOf_ok ⟨k_k167 g, trivial⟩) (LN := lnOf l_k196) (lnOf_ok trivial) (cuts := c_k196) (f := 3000) (by decide +kernel)
def t_k198 : KT := ((198, 3, 0, 0), [(2, 0, 40, 0), (1, 1, 0, 0), (1, 2, 0, 0)], [(0, 0), (0, 143), (0, 143)], [], (1, -2147483648, 2147483647), [], [], ([], []), ([], []))
def c_k198 : List CUT := []
def a_k198 : List (Nat × KT) := [(3, t_k174), (6, t_k174), (8, t_k176), (12, t_k175), (15, t_k175), (17, t_k176)]
def l_k198 : LNL := []
theorem k_k198 (g : Nat) : KOK Yt (PSt g) t_k198 := verK_ok (PSt_ok g) (PSt_ax g) (dk := 2) (AN := anOf a_k198) (anOf_ok ⟨k_k174 g, ⟨k_k174 g, ⟨k_k176 g, ⟨k_k175 g, ⟨k_k175 g, ⟨k_k176 g, trivial⟩⟩⟩⟩⟩⟩) (LN := lnOf l_k198) (lnOf_ok trivial) (cuts := c_k198) (f := 3000) (by decide +kernel)
def t_k205 : KT := ((205, 4, 0, 0), [(2, 0, 40, 0), (1, 1, 0, 0)], [(0, 0), (-2147483648, 2147483647)], [], (2, 0, 1), [], [], ([(1, 0, 143)], []), ([], []))
def c_k205 : List CUT := []
def a_k205 : List (Nat × KT) := [(2, t_k169), (6, t_k174), (8, t_k166), (14, t_k175), (16, t_k167)]
def l_k205 : LNL := []
theorem k_k205 (g : Nat) : KOK Yt (PSt g) t_k205 := verK_ok (PSt_ok g) (PSt_ax g) (dk := 3) (AN := anOf a_k205) (anOf_ok ⟨k_k169 g, ⟨k_k174 g, ⟨k_k166 g, ⟨k_k175 g, ⟨k_k167 g, trivial⟩⟩⟩⟩⟩) (LN := lnOf l_k205) (lnOf_ok trivial) (cuts := c_k205) (f := 3000) (by decide +kernel)
def t_k206 : KT := ((206, 5, 0, 0), [(2, 0, 40, 0), (1, 1, 0, 0)], [(0, 0), (0, 155)], [], (1, -1, 1), [], [], ([], []), ([], []))
def c_k206 : List CUT := []
def a_k206 : List (Nat × KT) := [(2, t_k205), (12, t_k167), (17, t_k172), (21, t_k172), (25, t_k172), (31, t_k172), (38, t_k178), (44, t_k178), (51, t_k178), (56, t_k178)]
def l_k206 : LNL := []
theorem k_k206 (g : Nat) : KOK Yt (PSt g) t_k206 := verK_ok (PSt_ok g) (PSt_ax g) (dk := 4) (AN := anOf a_k206) (anOf_ok ⟨k_k205 g, ⟨k_k167 g, ⟨k_k172 g, ⟨k_k172 g, ⟨k_k172 g, ⟨k_k172 g, ⟨k_k178 g, ⟨k_k178 g, ⟨k_k178 g, ⟨k_k178 g, trivial⟩⟩⟩⟩⟩⟩⟩⟩⟩⟩) (LN := lnOf l_k206) (lnOf_ok trivial) (cuts := c_k206) (f := 3000) (by decide +kernel)
def t_k199 : KT := ((199, 6, 0, 0), [(2, 0, 40, 0), (1, 1, 0, 0)], [(0, 0), (0, 143)], [], (1, -2147483648, 2147483647), [], [], ([], []), ([], []))
def c_k199 : List CUT := [(4, [0, 1, 2, 3], [(2, 0, 40, 0), (1, 1, 0, 0), (1, 2, 0, 0), (1, 3, 0, 0)], [(0, 0), (0, 143), (-2147483648, 2147483647), (0, 144)], [(2, 0, 40, 0), (1, 1, 0, 0), (1, 2, 0, 0), (1, 3, 0, 0)], [(0, [(2, 0, 40, 0), (1, 1, 0, 0)])], (0, 0), [(0, 0, 1), (1, 3, 144)])]
def a_k199 : List (Nat × KT) := [(6, t_k168), (10, t_k206), (16, t_k198), (24, t_k198)]
def l_k199 : LNL := []
theorem k_k199 (g : Nat) : KOK Yt (PSt g) t_k199 := verK_ok (PSt_ok g) (PSt_ax g) (dk := 5) (AN := anOf a_k199) (anOf_ok ⟨k_k168 g, ⟨k_k206 g, ⟨k_k198 g, ⟨k_k198 g, trivial⟩⟩⟩⟩) (LN := lnOf l_k199) (lnOf_ok trivial) (cuts := c_k199) (f := 3000) (by decide +kernel)
def t_k165_0 : KT := ((165, 1, 0, 0), [(2, 0, 40, 0), (1, 1, 0, 0), (1, 2, 0, 0), (1, 3, 0, 0)], [(0, 0), (-2147483648, 2147483647), (0, 0), (2, 2)], [], (2, 0, 1), [], [], ([(1, 0, 2)], []), ([], []))
def c_k165_0 : List CUT := []
def a_k165_0 : List (Nat × KT) := []
def l_k165_0 : LNL := []
theorem k_k165_0 (g : Nat) : KOK Yt (PSt g) t_k165_0 := verK_ok (PSt_ok g) (PSt_ax g) (dk := 0) (AN := anOf a_k165_0) (anOf_ok trivial) (LN := lnOf l_k165_0) (lnOf_ok trivial) (cuts := c_k165_0) (f := 3000) (by decide +kernel)
def t_k165_1 : KT := ((165, 1, 0, 0), [(2, 0, 40, 0), (1, 1, 0, 0), (1, 2, 0, 0), (1, 3, 0, 0)], [(0, 0), (-2147483648, 2147483647), (-999, -999), (999, 999)], [], (2, 0, 1), [], [], ([(1, -999, 999)], []), ([], []))
def c_k165_1 : List CUT := []
def a_k165_1 : List (Nat × KT) := []
def l_k165_1 : LNL := []
theorem k_k165_1 (g : Nat) : KOK Yt (PSt g) t_k165_1 := verK_ok (PSt_ok g) (PSt_ax g) (dk := 0) (AN := anOf a_k165_1) (anOf_ok trivial) (LN := lnOf l_k165_1) (lnOf_ok trivial) (cuts := c_k165_1) (f := 3000) (by decide +kernel)
def t_k202 : KT := ((202, 1, 0, 0), [(2, 0, 40, 0), (1, 1, 0, 0)], [(0, 0), (1, 144)], [], (1, 0, 143), [(40, 3, 4)], [], ([], []), ([], []))
def c_k202 : List CUT := []
def a_k202 : List (Nat × KT) := []
def l_k202 : LNL := []
theorem k_k202 (g : Nat) : KOK Yt (PSt g) t_k202 := verK_ok (PSt_ok g) (PSt_ax g) (dk := 0) (AN := anOf a_k202) (anOf_ok trivial) (LN := lnOf l_k202) (lnOf_ok trivial) (cuts := c_k202) (f := 3000) (by decide +kernel)
def t_k165_2 : KT := ((165, 1, 0, 0), [(2, 0, 40, 0), (1, 1, 0, 0), (1, 2, 0, 0), (1, 3, 0, 0)], [(0, 0), (-2147483648, 2147483647), (1, 1), (60, 60)], [], (2, 0, 1), [], [], ([(1, 1, 60)], []), ([], []))
def c_k165_2 : List CUT := []
def a_k165_2 : List (Nat × KT) := []
def l_k165_2 : LNL := []
theorem k_k165_2 (g : Nat) : KOK Yt (PSt g) t_k165_2 := verK_ok (PSt_ok g) (PSt_ax g) (dk := 0) (AN := anOf a_k165_2) (anOf_ok trivial) (LN := lnOf l_k165_2) (lnOf_ok trivial) (cuts := c_k165_2) (f := 3000) (by decide +kernel)
def t_k204 : KT := ((204, 1, 0, 0), [(2, 0, 40, 0), (1, 1, 0, 0)], [(0, 0), (-2147483648, 2147483647)], [], (1, -2147483648, 2147483647), [(40, 0, 1), (40, 3, 4)], [], ([], []), ([], []))
def c_k204 : List CUT := []
def a_k204 : List (Nat × KT) := []
def l_k204 : LNL := []
theorem k_k204 (g : Nat) : KOK Yt (PSt g) t_k204 := verK_ok (PSt_ok g) (PSt_ax g) (dk := 0) (AN := anOf a_k204) (anOf_ok trivial) (LN := lnOf l_k204) (lnOf_ok trivial) (cuts := c_k204) (f := 3000) (by decide +kernel)
def t_k207 : KT := ((207, 3, 0, 0), [(2, 0, 40, 0), (1, 1, 0, 0), (1, 2, 0, 0)], [(0, 0), (0, 143), (0, 3)], [], (1, -76, 78), [], [], ([], []), ([], []))
def c_k207 : List CUT := []
def a_k207 : List (Nat × KT) := [(4, t_k174), (12, t_k166), (17, t_k174), (25, t_k175), (30, t_k167), (35, t_k175)]
def l_k207 : LNL := []
theorem k_k207 (g : Nat) : KOK Yt (PSt g) t_k207 := verK_ok (PSt_ok g) (PSt_ax g) (dk := 2) (AN := anOf a_k207) (anOf_ok ⟨k_k174 g, ⟨k_k166 g, ⟨k_k174 g, ⟨k_k175 g, ⟨k_k167 g, ⟨k_k175 g, trivial⟩⟩⟩⟩⟩⟩) (LN := lnOf l_k207) (lnOf_ok trivial) (cuts := c_k207) (f := 3000) (by decide +kernel)
def t_k208 : KT := ((208, 4, 0, 0), [(2, 0, 40, 0), (1, 1, 0, 0)], [(0, 0), (0, 143)], [], (1, 0, 3), [], [], ([], []), ([], []))
def c_k208 : List CUT := [(4, [0, 1, 2, 3], [(2, 0, 40, 0), (1, 1, 0, 0), (1, 2, 0, 0), (1, 3, 0, 0)], [(0, 0), (0, 143), (0, 3), (1, 4)], [(2, 0, 40, 0), (1, 1, 0, 0), (1, 2, 0, 0), (1, 3, 0, 0)], [(0, [(2, 0, 40, 0), (1, 1, 0, 0)])], (0, 0), [(0, 0, 1), (1, 3, 4)])]
def a_k208 : List (Nat × KT) := [(10, t_k207), (14, t_k207)]
def l_k208 : LNL := []
theorem k_k208 (g : Nat) : KOK Yt (PSt g) t_k208 := verK_ok (PSt_ok g) (PSt_ax g) (dk := 3) (AN := anOf a_k208) (anOf_ok ⟨k_k207 g, ⟨k_k207 g, trivial⟩⟩) (LN := lnOf l_k208) (lnOf_ok trivial) (cuts := c_k208) (f := 3000) (by decide +kernel)
def t_k209 : KT := ((209, 5, 0, 0), [(2, 0, 40, 0), (1, 1, 0, 0)], [(0, 0), (0, 143)], [], (1, -76, 78), [], [], ([], []), ([], []))
def c_k209 : List CUT := []
def a_k209 : List (Nat × KT) := [(4, t_k208), (5, t_k207)]
def l_k209 : LNL := []
theorem k_k209 (g : Nat) : KOK Yt (PSt g) t_k209 := verK_ok (PSt_ok g) (PSt_ax g) (dk := 4) (AN := anOf a_k209) (anOf_ok ⟨k_k208 g, ⟨k_k207 g, trivial⟩⟩) (LN := lnOf l_k209) (lnOf_ok trivial) (cuts := c_k209) (f := 3000) (by decide +kernel)
def t_k211 : KT := ((211, 6, 0, 0), [(2, 0, 40, 0), (1, 1, 0, 0), (1, 2, 0, 0)], [(0, 0), (0, 143), (0, 143)], [], (2, 0, 1), [], [], ([], []), ([], []))
def c_k211 : List CUT := []
def a_k211 : List (Nat × KT) := [(5, t_k206), (11, t_k206)]
def l_k211 : LNL := []
theorem k_k211 (g : Nat) : KOK Yt (PSt g) t_k211 := verK_ok (PSt_ok g) (PSt_ax g) (dk := 5) (AN := anOf a_k211) (anOf_ok ⟨k_k206 g, ⟨k_k206 g, trivial⟩⟩) (LN := lnOf l_k211) (lnOf_ok trivial) (cuts := c_k211) (f := 3000) (by decide +kernel)
def t_k215 : KT := ((215, 1, 0, 0), [(2, 0, 40, 0), (1, 1, 0, 0)], [(0, 0), (0, 287)], [], (0, 0, 0), [(41, 0, 2314)], [], ([], []), ([], []))
def c_k215 : List CUT := []
def a_k215 : List (Nat × KT) := []
def l_k215 : LNL := []
theorem k_k215 (g : Nat) : KOK Yt (PSt g) t_k215 := verK_ok (PSt_ok g) (PSt_ax g) (dk := 0) (AN := anOf a_k215) (anOf_ok trivial) (LN := lnOf l_k215) (lnOf_ok trivial) (cuts := c_k215) (f := 3000) (by decide +kernel)
def t_k222 : KT := ((222, 3, 0, 0), [(2, 0, 40, 0)], [(0, 0)], [], (1, -2147483648, 2147483647), [], [], ([], []), ([], []))
def c_k222 : List CUT := [(4, [0, 1, 2], [(2, 0, 40, 0), (1, 1, 0, 0), (1, 2, 0, 0)], [(0, 0), (-2147483648, 2147483647), (0, 144)], [(2, 0, 40, 0), (1, 1, 0, 0), (1, 2, 0, 0)], [(0, [(2, 0, 40, 0)])], (0, 0), [(0, 0, 1), (1, 2, 144)])]
def a_k222 : List (Nat × KT) := [(6, t_k168), (10, t_k172), (14, t_k173)]
def l_k222 : LNL := []
theorem k_k222 (g : Nat) : KOK Yt (PSt g) t_k222 := verK_ok (PSt_ok g) (PSt_ax g) (dk := 2) (AN := anOf a_k222) (anOf_ok ⟨k_k168 g, ⟨k_k172 g, ⟨k_k173 g, trivial⟩⟩⟩) (LN := lnOf l_k222) (lnOf_ok trivial) (cuts := c_k222) (f := 3000) (by decide +kernel)
def t_k223 : KT := ((223, 1, 0, 0), [(2, 0, 40, 0), (1, 1, 0, 0), (1, 2, 0, 0), (1, 3, 0, 0), (1, 4, 0, 0)], [(0, 0), (0, 143), (-2147483648, 2147483647), (-1, 143), (0, 143)], [], (0, 0, 0), [(41, 0, 2314)], [], ([], []), ([], []))
def c_k223 : List CUT := []
def a_k223 : List (Nat × KT) := []
def l_k223 : LNL := []
theorem k_k223 (g : Nat) : KOK Yt (PSt g) t_k223 := verK_ok (PSt_ok g) (PSt_ax g) (dk := 0) (AN := anOf a_k223) (anOf_ok trivial) (LN := lnOf l_k223) (lnOf_ok trivial) (cuts := c_k223) (f := 3000) (by decide +kernel)
def t_k228 : KT := ((228, 3, 0, 0), [(2, 0, 40, 0), (1, 1, 0, 0)], [(0, 0), (0, 287)], [], (2, 0, 1), [], [], ([], []), ([], []))
def c_k228 : List CUT := []
def a_k228 : List (Nat × KT) := [(5, t_k181), (14, t_k180), (24, t_k180), (27, t_k181), (28, t_k178)]
def l_k228 : LNL := []
theorem k_k228 (g : Nat) : KOK Yt (PSt g) t_k228 := verK_ok (PSt_ok g) (PSt_ax g) (dk := 2) (AN := anOf a_k228) (anOf_ok ⟨k_k181 g, ⟨k_k180 g, ⟨k_k180 g, ⟨k_k181 g, ⟨k_k178 g, trivial⟩⟩⟩⟩⟩) (LN := lnOf l_k228) (lnOf_ok trivial) (cuts := c_k228) (f := 3000) (by decide +kernel)
def t_k229 : KT := ((229, 4, 0, 0), [(2, 0, 40, 0), (1, 1, 0, 0)], [(0, 0), (-2147483648, 2147483647)], [], (2, 0, 1), [], [], ([(1, 0, 287)], []), ([], []))
def c_k229 : List CUT := []
def a_k229 : List (Nat × KT) := [(2, t_k179), (6, t_k182), (11, t_k180), (12, t_k173), (17, t_k181), (18, t_k173)]
def l_k229 : LNL := []
theorem k_k229 (g : Nat) : KOK Yt (PSt g) t_k229 := verK_ok (PSt_ok g) (PSt_ax g) (dk := 3) (AN := anOf a_k229) (anOf_ok ⟨k_k179 g, ⟨k_k182 g, ⟨k_k180 g, ⟨k_k173 g, ⟨k_k181 g, ⟨k_k173 g, trivial⟩⟩⟩⟩⟩⟩) (LN := lnOf l_k229) (lnOf_ok trivial) (cuts := c_k229) (f := 3000) (by decide +kernel)
def t_k230 : KT := ((230, 5, 0, 0), [(2, 0, 40, 0), (1, 1, 0, 0)], [(0, 0), (-2147483648, 2147483647)], [], (2, 0, 1), [], [], ([(1, 0, 287)], []), ([], []))
def c_k230 : List CUT := []
def a_k230 : List (Nat × KT) := [(2, t_k229), (6, t_k183), (10, t_k228)]
def l_k230 : LNL := []
theorem k_k230 (g : Nat) : KOK Yt (PSt g) t_k230 := verK_ok (PSt_ok g) (PSt_ax g) (dk := 4) (AN := anOf a_k230) (anOf_ok ⟨k_k229 g, ⟨k_k183 g, ⟨k_k228 g, trivial⟩⟩⟩) (LN := lnOf l_k230) (lnOf_ok trivial) (cuts := c_k230) (f := 3000) (by decide +kernel)
def t_k231 : KT := ((231, 5, 0, 0), [(2, 0, 40, 0), (1, 1, 0, 0)], [(0, 0), (-2147483648, 2147483647)], [], (2, 0, 1), [], [], ([(1, 0, 287)], []), ([], []))
def c_k231 : List CUT := []
def a_k231 : List (Nat × KT) := [(2, t_k229), (6, t_k183), (13, t_k180), (21, t_k181), (27, t_k228)]
def l_k231 : LNL := []
theorem k_k231 (g : Nat) : KOK Yt (PSt g) t_k231 := verK_ok (PSt_ok g) (PSt_ax g) (dk := 4) (AN := anOf a_k231) (anOf_ok ⟨k_k229 g, ⟨k_k183 g, ⟨k_k180 g, ⟨k_k181 g, ⟨k_k228 g, trivial⟩⟩⟩⟩⟩) (LN := lnOf l_k231) (lnOf_ok trivial) (cuts := c_k231) (f := 3000) (by decide +kernel)
def t_k232 : KT := ((232, 6, 0, 0), [(2, 0, 40, 0)], [(0, 0)], [], (1, -2147483648, 2147483647), [], [], ([], []), ([], []))
def c_k232 : List CUT := [(4, [0, 1, 2], [(2, 0, 40, 0), (1, 1, 0, 0), (1, 2, 0, 0)], [(0, 0), (-2147483648, 2147483647), (0, 288)], [(2, 0, 40, 0), (1, 1, 0, 0), (1, 2, 0, 0)], [(0, [(2, 0, 40, 0)])], (0, 0), [(0, 0, 1), (1, 2, 288)])]
def a_k232 : List (Nat × KT) := [(7, t_k168), (12, t_k230)]
def l_k232 : LNL := []
theorem k_k232 (g : Nat) : KOK Yt (PSt g) t_k232 := verK_ok (PSt_ok g) (PSt_ax g) (dk := 5) (AN := anOf a_k232) (anOf_ok ⟨k_k168 g, ⟨k_k230 g, trivial⟩⟩) (LN := lnOf l_k232) (lnOf_ok trivial) (cuts := c_k232) (f := 3000) (by decide +kernel)
def t_k233 : KT := ((233, 6, 0, 0), [(2, 0, 40, 0)], [(0, 0)], [], (1, -2147483648, 2147483647), [], [], ([], []), ([], []))
def c_k233 : List CUT := [(4, [0, 1, 2], [(2, 0, 40, 0), (1, 1, 0, 0), (1, 2, 0, 0)], [(0, 0), (-2147483648, 2147483647), (0, 288)], [(2, 0, 40, 0), (1, 1, 0, 0), (1, 2, 0, 0)], [(0, [(2, 0, 40, 0)])], (0, 0), [(0, 0, 1), (1, 2, 288)])]
def a_k233 : List (Nat × KT) := [(7, t_k168), (12, t_k231)]
def l_k233 : LNL := []
theorem k_k233 (g : Nat) : KOK Yt (PSt g) t_k233 := verK_ok (PSt_ok g) (PSt_ax g) (dk := 5) (AN := anOf a_k233) (anOf_ok ⟨k_k168 g, ⟨k_k231 g, trivial⟩⟩) (LN := lnOf l_k233) (lnOf_ok trivial) (cuts := c_k233) (f := 3000) (by decide +kernel)
def t_k234 : KT := ((234, 1, 0, 0), [(2, 0, 40, 0), (1, 1, 0, 0)], [(0, 0), (-2147483648, 2147483647)], [], (2, 0, 1), [], [], ([(1, 0, 143)], []), ([], []))
def c_k234 : List CUT := []
def a_k234 : List (Nat × KT) := []
def l_k234 : LNL := []
theorem k_k234 (g : Nat) : KOK Yt (PSt g) t_k234 := verK_ok (PSt_ok g) (PSt_ax g) (dk := 0) (AN := anOf a_k234) (anOf_ok trivial) (LN := lnOf l_k234) (lnOf_ok trivial) (cuts := c_k234) (f := 3000) (by decide +kernel)
def t_k235 : KT := ((235, 3, 0, 0), [(2, 0, 40, 0), (1, 1, 0, 0), (1, 2, 0, 0)], [(0, 0), (-2147483648, 2147483647), (-2147483648, 2147483647)], [], (2, 0, 1), [], [], ([], []), ([], []))
def c_k235 : List CUT := [(2, [0, 1, 2, 3], [(2, 0, 40, 0), (1, 1, 0, 0), (1, 2, 0, 0), (1, 3, 0, 0)], [(0, 0), (-2147483648, 2147483647), (-2147483648, 2147483647), (0, 144)], [(2, 0, 40, 0), (1, 1, 0, 0), (1, 2, 0, 0), (1, 3, 0, 0), (7, 0, 0, 0), (7, 0, 0, 0)], [(0, [(2, 0, 40, 0), (1, 1, 0, 0), (1, 2, 0, 0)])], (0, 0), [(0, 0, 1), (1, 3, 144)])]
def a_k235 : List (Nat × KT) := [(4, t_k168), (8, t_k173)]
def l_k235 : LNL := []
theorem k_k235 (g : Nat) : KOK Yt (PSt g) t_k235 := verK_ok (PSt_ok g) (PSt_ax g) (dk := 2) (AN := anOf a_k235) (anOf_ok ⟨k_k168 g, ⟨k_k173 g, trivial⟩⟩) (LN := lnOf l_k235) (lnOf_ok trivial) (cuts := c_k235) (f := 3000) (by decide +kernel)
def t_k236 : KT := ((236, 3, 0, 0), [(2, 0, 40, 0), (1, 1, 0, 0), (1, 2, 0, 0)], [(0, 0), (0, 143), (-2147483648, 2147483647)], [], (0, 0, 0), [(41, 0, 2314)], [], ([], []), ([], []))
def c_k236 : List CUT := [(2, [0, 1, 2, 3], [(2, 0, 40, 0), (1, 1, 0, 0), (1, 2, 0, 0), (1, 3, 0, 0)], [(0, 0), (0, 143), (-2147483648, 2147483647), (0, 144)], [(2, 0, 40, 0), (1, 1, 0, 0), (1, 2, 0, 0), (1, 3, 0, 0)], [(0, [(2, 0, 40, 0), (1, 1, 0, 0), (1, 2, 0, 0)])], (0, 0), [(0, 0, 1), (1, 3, 144)])]
def a_k236 : List (Nat × KT) := [(4, t_k168), (8, t_k173)]
def l_k236 : LNL := []
theorem k_k236 (g : Nat) : KOK Yt (PSt g) t_k236 := verK_ok (PSt_ok g) (PSt_ax g) (dk := 2) (AN := anOf a_k236) (anOf_ok ⟨k_k168 g, ⟨k_k173 g, trivial⟩⟩) (LN := lnOf l_k236) (lnOf_ok trivial) (cuts := c_k236) (f := 3000) (by decide +kernel)
def t_k238 : KT := ((238, 3, 0, 0), [(2, 0, 40, 0), (1, 1, 0, 0), (1, 2, 0, 0)], [(0, 0), (0, 287), (-2147483648, 2147483647)], [], (1, -2147483648, 2147483647), [], [], ([], []), ([], []))
def c_k238 : List CUT := []
def a_k238 : List (Nat × KT) := [(5, t_k180), (12, t_k180), (16, t_k181), (21, t_k180), (25, t_k181), (29, t_k180), (34, t_k178)]
def l_k238 : LNL := []
theorem k_k238 (g : Nat) : KOK Yt (PSt g) t_k238 := verK_ok (PSt_ok g) (PSt_ax g) (dk := 2) (AN := anOf a_k238) (anOf_ok ⟨k_k180 g, ⟨k_k180 g, ⟨k_k181 g, ⟨k_k180 g, ⟨k_k181 g, ⟨k_k180 g, ⟨k_k178 g, trivial⟩⟩⟩⟩⟩⟩⟩) (LN := lnOf l_k238) (lnOf_ok trivial) (cuts := c_k238) (f := 3000) (by decide +kernel)
def t_k239 : KT := ((239, 5, 0, 0), [(2, 0, 40, 0), (1, 1, 0, 0), (1, 2, 0, 0), (1, 3, 0, 0)], [(0, 0), (-2147483648, 2147483647), (-2147483648, 2147483647), (-2147483648, 2147483647)], [], (2, 0, 1), [], [], ([(1, 0, 287)], []), ([], []))
def c_k239 : List CUT := []
def a_k239 : List (Nat × KT) := [(2, t_k229), (11, t_k180), (20, t_k181)]
def l_k239 : LNL := []
theorem k_k239 (g : Nat) : KOK Yt (PSt g) t_k239 := verK_ok (PSt_ok g) (PSt_ax g) (dk := 4) (AN := anOf a_k239) (anOf_ok ⟨k_k229 g, ⟨k_k180 g, ⟨k_k181 g, trivial⟩⟩⟩) (LN := lnOf l_k239) (lnOf_ok trivial) (cuts := c_k239) (f := 3000) (by decide +kernel)
def t_k240 : KT := ((240, 1, 0, 0), [(2, 0, 40, 0), (1, 1, 0, 0), (1, 2, 0, 0)], [(0, 0), (-2147483648, 2147483647), (-2147483648, 2147483647)], [], (2, 0, 1), [], [], ([], []), ([], []))
def c_k240 : List CUT := []
def a_k240 : List (Nat × KT) := []
def l_k240 : LNL := []
theorem k_k240 (g : Nat) : KOK Yt (PSt g) t_k240 := verK_ok (PSt_ok g) (PSt_ax g) (dk := 0) (AN := anOf a_k240) (anOf_ok trivial) (LN := lnOf l_k240) (lnOf_ok trivial) (cuts := c_k240) (f := 3000) (by decide +kernel)
def t_k241 : KT := ((241, 6, 0, 0), [(2, 0, 40, 0), (1, 1, 0, 0), (1, 2, 0, 0)], [(0, 0), (-2147483648, 2147483647), (-2147483648, 2147483647)], [], (2, 0, 1), [(40, 12, 13), (40, 13, 14)], [], ([], []), ([], []))
def c_k241 : List CUT := [(5, [0, 1, 2, 3, 1013], [(2, 0, 40, 0), (1, 1, 0, 0), (1, 2, 0, 0), (1, 3, 0, 0), (1, 4, 0, 0)], [(0, 0), (-2147483648, 2147483647), (-2147483648, 2147483647), (0, 288), (0, 2147483647)], [(2, 0, 40, 0), (1, 1, 0, 0), (1, 2, 0, 0), (1, 3, 0, 0), (7, 0, 0, 0), (7, 0, 0, 0), (7, 0, 0, 0)], [(0, [(2, 0, 40, 0), (1, 1, 0, 0), (1, 2, 0, 0)])], (0, 0), [(0, 0, 1), (1, 3, 288), (0, 0, 99), (0, 0, 0)]), (27, [0, 1, 2, 3, 4, 5, 6, 1013], [(2, 0, 40, 0), (1, 1, 0, 0), (1, 2, 0, 0), (1, 3, 0, 0), (1, 4, 0, 0), (1, 5, 0, 0), (1, 6, 0, 0), (1, 7, 0, 0)], [(0, 0), (-2147483648, 2147483647), (-2147483648, 2147483647), (0, 287), (-2147483648, 2147483647), (-2147483648, 2147483647), (0, 288), (0, 2147483647)], [(2, 0, 40, 0), (1, 1, 0, 0), (1, 2, 0, 0), (1, 3, 0, 0), (1, 4, 0, 0), (1, 5, 0, 0), (1, 6, 0, 0)], [(0, [(2, 0, 40, 0), (1, 1, 0, 0), (1, 2, 0, 0)])], (0, 0), [(0, 0, 1), (1, 3, 288), (0, 0, 1), (1, 6, 288)])]
def a_k241 : List (Nat × KT) := [(8, t_k168), (15, t_k239), (21, t_k238), (30, t_k168), (37, t_k239), (42, t_k238), (63, t_k240)]
def l_k241 : LNL := []
theorem k_k241 (g : Nat) : KOK Yt (PSt g) t_k241 := verK_ok (PSt_ok g) (PSt_ax g) (dk := 5) (AN := anOf a_k241) (anOf_ok ⟨k_k168 g, ⟨k_k239 g, ⟨k_k238 g, ⟨k_k168 g, ⟨k_k239 g, ⟨k_k238 g, ⟨k_k240 g, trivial⟩⟩⟩⟩⟩⟩⟩) (LN := lnOf l_k241) (lnOf_ok trivial) (cuts := c_k241) (f := 3000) (by decide +kernel)
def t_k249 : KT := ((249, 1, 0, 0), [(2, 0, 40, 0), (1, 1, 0, 0)], [(0, 0), (-2147483648, 2147483647)], [], (1, -1, 15), [], [], ([], []), ([], []))
def c_k249 : List CUT := []
def a_k249 : List (Nat × KT) := []
def l_k249 : LNL := []
theorem k_k249 (g : Nat) : KOK Yt (PSt g) t_k249 := verK_ok (PSt_ok g) (PSt_ax g) (dk := 0) (AN := anOf a_k249) (anOf_ok trivial) (LN := lnOf l_k249) (lnOf_ok trivial) (cuts := c_k249) (f := 3000) (by decide +kernel)
def t_k165_3 : KT := ((165, 1, 0, 0), [(2, 0, 40, 0), (1, 1, 0, 0), (1, 2, 0, 0), (1, 3, 0, 0)], [(0, 0), (-2147483648, 2147483647), (0, 0), (6, 6)], [], (2, 0, 1), [], [], ([(1, 0, 6)], []), ([], []))
def c_k165_3 : List CUT := []
def a_k165_3 : List (Nat × KT) := []
def l_k165_3 : LNL := []
theorem k_k165_3 (g : Nat) : KOK Yt (PSt g) t_k165_3 := verK_ok (PSt_ok g) (PSt_ax g) (dk := 0) (AN := anOf a_k165_3) (anOf_ok trivial) (LN := lnOf l_k165_3) (lnOf_ok trivial) (cuts := c_k165_3) (f := 3000) (by decide +kernel)
def t_k256 : KT := ((256, 6, 0, 0), [(2, 0, 40, 0), (1, 1, 0, 0), (1, 2, 0, 0)], [(0, 0), (-2147483648, 2147483647), (-2147483648, 2147483647)], [], (1, -2147483648, 2147483647), [(40, 0, 1)], [], ([], []), ([], []))
def c_k256 : List CUT := []
def a_k256 : List (Nat × KT) := [(5, t_k179), (11, t_k165_3), (20, t_k180), (23, t_k181), (24, t_k178), (31, t_k182), (62, t_k230), (73, t_k231), (81, t_k184)]
def l_k256 : LNL := []
theorem k_k256 (g : Nat) : KOK Yt (PSt g) t_k256 := verK_ok (PSt_ok g) (PSt_ax g) (dk := 5) (AN := anOf a_k256) (anOf_ok ⟨k_k179 g, ⟨k_k165_3 g, ⟨k_k180 g, ⟨k_k181 g, ⟨k_k178 g, ⟨k_k182 g, ⟨k_k230 g, ⟨k_k231 g, ⟨k_k184 g, trivial⟩⟩⟩⟩⟩⟩⟩⟩⟩) (LN := lnOf l_k256) (lnOf_ok trivial) (cuts := c_k256) (f := 3000) (by decide +kernel)
def t_k257 : KT := ((257, 6, 0, 0), [(2, 0, 40, 0), (1, 1, 0, 0)], [(0, 0), (-2147483648, 2147483647)], [], (1, -1000, 1), [(40, 0, 1)], [], ([], []), ([], []))
def c_k257 : List CUT := []
def a_k257 : List (Nat × KT) := [(5, t_k205), (9, t_k206)]
def l_k257 : LNL := []
theorem k_k257 (g : Nat) : KOK Yt (PSt g) t_k257 := verK_ok (PSt_ok g) (PSt_ax g) (dk := 5) (AN := anOf a_k257) (anOf_ok ⟨k_k205 g, ⟨k_k206 g, trivial⟩⟩) (LN := lnOf l_k257) (lnOf_ok trivial) (cuts := c_k257) (f := 3000) (by decide +kernel)
def t_k259 : KT := ((259, 6, 0, 0), [(2, 0, 40, 0), (1, 1, 0, 0), (1, 2, 0, 0)], [(0, 0), (-2147483648, 2147483647), (-2147483648, 2147483647)], [], (1, -2147483648, 2147483647), [(40, 0, 1)], [], ([], []), ([], []))
def c_k259 : List CUT := []
def a_k259 : List (Nat × KT) := [(5, t_k205), (12, t_k205), (21, t_k209), (26, t_k198)]
def l_k259 : LNL := []
theorem k_k259 (g : Nat) : KOK Yt (PSt g) t_k259 := verK_ok (PSt_ok g) (PSt_ax g) (dk := 5) (AN := anOf a_k259) (anOf_ok ⟨k_k205 g, ⟨k_k205 g, ⟨k_k209 g, ⟨k_k198 g, trivial⟩⟩⟩⟩) (LN := lnOf l_k259) (lnOf_ok trivial) (cuts := c_k259) (f := 3000) (by decide +kernel)
def t_k165_4 : KT := ((165, 1, 0, 0), [(2, 0, 40, 0), (1, 1, 0, 0), (1, 2, 0, 0), (1, 3, 0, 0)], [(0, 0), (-2147483648, 2147483647), (0, 0), (-1, 143)], [], (2, 0, 1), [], [], ([(1, 0, 143), (3, 0, 143)], []), ([], []))
def c_k165_4 : List CUT := []
def a_k165_4 : List (Nat × KT) := []
def l_k165_4 : LNL := []
theorem k_k165_4 (g : Nat) : KOK Yt (PSt g) t_k165_4 := verK_ok (PSt_ok g) (PSt_ax g) (dk := 0) (AN := anOf a_k165_4) (anOf_ok trivial) (LN := lnOf l_k165_4) (lnOf_ok trivial) (cuts := c_k165_4) (f := 3000) (by decide +kernel)
def t_k260 : KT := ((260, 2, 0, 0), [(2, 0, 40, 0), (1, 1, 0, 0), (1, 2, 0, 0)], [(0, 0), (-2147483648, 2147483647), (-2147483648, 2147483647)], [], (1, -2147483648, 2147483647), [(40, 0, 1)], [], ([], []), ([], []))
def c_k260 : List CUT := []
def a_k260 : List (Nat × KT) := [(20, t_k165_4), (26, t_k165_0)]
def l_k260 : LNL := []
theorem k_k260 (g : Nat) : KOK Yt (PSt g) t_k260 := verK_ok (PSt_ok g) (PSt_ax g) (dk := 1) (AN := anOf a_k260) (anOf_ok ⟨k_k165_4 g, ⟨k_k165_0 g, trivial⟩⟩) (LN := lnOf l_k260) (lnOf_ok trivial) (cuts := c_k260) (f := 3000) (by decide +kernel)
def t_k261 : KT := ((261, 3, 0, 0), [(2, 0, 40, 0), (1, 1, 0, 0)], [(0, 0), (-2147483648, 2147483647)], [], (1, -2147483648, 2147483647), [], [], ([], []), ([], []))
def c_k261 : List CUT := [(4, [0, 1, 2, 3], [(2, 0, 40, 0), (1, 1, 0, 0), (1, 2, 0, 0), (1, 3, 0, 0)], [(0, 0), (-2147483648, 2147483647), (-2147483648, 2147483647), (0, 144)], [(2, 0, 40, 0), (1, 1, 0, 0), (1, 2, 0, 0), (1, 3, 0, 0)], [(0, [(2, 0, 40, 0), (1, 1, 0, 0)])], (0, 0), [(0, 0, 1), (1, 3, 144)])]
def a_k261 : List (Nat × KT) := [(6, t_k168), (10, t_k173)]
def l_k261 : LNL := []
theorem k_k261 (g : Nat) : KOK Yt (PSt g) t_k261 := verK_ok (PSt_ok g) (PSt_ax g) (dk := 2) (AN := anOf a_k261) (anOf_ok ⟨k_k168 g, ⟨k_k173 g, trivial⟩⟩) (LN := lnOf l_k261) (lnOf_ok trivial) (cuts := c_k261) (f := 3000) (by decide +kernel)
def t_k262 : KT := ((262, 5, 0, 0), [(2, 0, 40, 0), (1, 1, 0, 0)], [(0, 0), (-2147483648, 2147483647)], [], (1, -2147483648, 2147483647), [], [], ([], []), ([], []))
def c_k262 : List CUT := [(4, [0, 1, 2, 3], [(2, 0, 40, 0), (1, 1, 0, 0), (1, 2, 0, 0), (1, 3, 0, 0)], [(0, 0), (-2147483648, 2147483647), (-2147483648, 2147483647), (0, 288)], [(2, 0, 40, 0), (1, 1, 0, 0), (1, 2, 0, 0), (1, 3, 0, 0), (7, 0, 0, 0), (7, 0, 0, 0)], [(0, [(2, 0, 40, 0), (1, 1, 0, 0)])], (0, 0), [(0, 0, 1), (1, 3, 288)])]
def a_k262 : List (Nat × KT) := [(7, t_k168), (12, t_k229), (20, t_k180), (34, t_k181)]
def l_k262 : LNL := []
theorem k_k262 (g : Nat) : KOK Yt (PSt g) t_k262 := verK_ok (PSt_ok g) (PSt_ax g) (dk := 4) (AN := anOf a_k262) (anOf_ok ⟨k_k168 g, ⟨k_k229 g, ⟨k_k180 g, ⟨k_k181 g, trivial⟩⟩⟩⟩) (LN := lnOf l_k262) (lnOf_ok trivial) (cuts := c_k262) (f := 3000) (by decide +kernel)
def t_k263 : KT := ((263, 6, 0, 0), [(2, 0, 40, 0), (1, 1, 0, 0), (1, 2, 0, 0)], [(0, 0), (-2147483648, 2147483647), (-2147483648, 2147483647)], [], (1, -2147483648, 2147483647), [(40, 0, 1)], [], ([], []), ([], []))
def c_k263 : List CUT := []
def a_k263 : List (Nat × KT) := [(5, t_k234), (23, t_k261), (40, t_k262)]
def l_k263 : LNL := []
theorem k_k263 (g : Nat) : KOK Yt (PSt g) t_k263 := verK_ok (PSt_ok g) (PSt_ax g) (dk := 5) (AN := anOf a_k263) (anOf_ok ⟨k_k234 g, ⟨k_k261 g, ⟨k_k262 g, trivial⟩⟩⟩) (LN := lnOf l_k263) (lnOf_ok trivial) (cuts := c_k263) (f := 3000) (by decide +kernel)
def t_k165_5 : KT := ((165, 1, 0, 0), [(2, 0, 40, 0), (1, 1, 0, 0), (1, 2, 0, 0), (1, 3, 0, 0)], [(0, 0), (-2147483648, 2147483647), (0, 0), (1, 11)], [], (2, 0, 1), [], [], ([(1, 0, 11)], []), ([], []))
def c_k165_5 : List CUT := []
def a_k165_5 : List (Nat × KT) := []
def l_k165_5 : LNL := []
theorem k_k165_5 (g : Nat) : KOK Yt (PSt g) t_k165_5 := verK_ok (PSt_ok g) (PSt_ax g) (dk := 0) (AN := anOf a_k165_5) (anOf_ok trivial) (LN := lnOf l_k165_5) (lnOf_ok trivial) (cuts := c_k165_5) (f := 3000) (by decide +kernel)
def t_k165_6 : KT := ((165, 1, 0, 0), [(2, 0, 40, 0), (1, 1, 0, 0), (1, 2, 0, 0), (1, 3, 0, 0)], [(0, 0), (-2147483648, 2147483647), (1, 12), (1, 11)], [], (2, 0, 1), [], [], ([(1, 1, 11)], []), ([], []))
def c_k165_6 : List CUT := []
def a_k165_6 : List (Nat × KT) := []
def l_k165_6 : LNL := []
theorem k_k165_6 (g : Nat) : KOK Yt (PSt g) t_k165_6 := verK_ok (PSt_ok g) (PSt_ax g) (dk := 0) (AN := anOf a_k165_6) (anOf_ok trivial) (LN := lnOf l_k165_6) (lnOf_ok trivial) (cuts := c_k165_6) (f := 3000) (by decide +kernel)
def t_k264 : KT := ((264, 3, 0, 0), [(2, 0, 40, 0), (1, 1, 0, 0), (1, 2, 0, 0), (1, 3, 0, 0), (1, 4, 0, 0)], [(0, 0), (-2147483648, 2147483647), (-2147483648, 2147483647), (-2147483648, 2147483647), (-2147483648, 2147483647)], [], (1, -8421504, 8421504), [(40, 0, 1)], [], ([], []), ([], []))
def c_k264 : List CUT := [(49, [0, 1, 2, 3, 4, 5, 6, 1000], [(2, 0, 40, 0), (1, 1, 0, 0), (1, 2, 0, 0), (1, 3, 0, 0), (1, 4, 0, 0), (1, 5, 0, 0), (1, 6, 0, 0), (1, 7, 0, 0)], [(0, 0), (0, 11), (1, 11), (0, 11), (1, 11), (-2147483648, 2147483647), (0, 12), (0, 0)], [(2, 0, 40, 0), (1, 1, 0, 0), (1, 2, 0, 0), (1, 3, 0, 0), (1, 4, 0, 0), (1, 5, 0, 0), (1, 6, 0, 0), (7, 0, 0, 0), (7, 0, 0, 0)], [(0, [(2, 0, 40, 0), (1, 1, 0, 0), (1, 2, 0, 0), (1, 3, 0, 0), (1, 4, 0, 0)])], (0, 0), [(0, 0, 2), (1, 6, 12)]), (99, [0, 1, 2, 3, 4, 5, 6, 1000], [(2, 0, 40, 0), (1, 1, 0, 0), (1, 2, 0, 0), (1, 3, 0, 0), (1, 4, 0, 0), (1, 5, 0, 0), (1, 6, 0, 0), (1, 7, 0, 0)], [(0, 0), (0, 11), (1, 11), (0, 11), (1, 11), (-2147483648, 2147483647), (0, 12), (0, 0)], [(2, 0, 40, 0), (1, 1, 0, 0), (1, 2, 0, 0), (1, 3, 0, 0), (1, 4, 0, 0), (1, 5, 0, 0), (1, 6, 0, 0), (7, 0, 0, 0), (7, 0, 0, 0)], [(0, [(2, 0, 40, 0), (1, 1, 0, 0), (1, 2, 0, 0), (1, 3, 0, 0), (1, 4, 0, 0)])], (0, 0), [(0, 0, 1), (1, 6, 12)])]
def a_k264 : List (Nat × KT) := [(7, t_k166), (10, t_k165_5), (18, t_k166), (21, t_k165_6), (27, t_k167), (30, t_k165_5), (38, t_k167), (41, t_k165_6), (54, t_k167), (61, t_k167), (68, t_k172), (72, t_k172), (85, t_k178), (92, t_k178), (104, t_k167), (111, t_k167), (118, t_k172), (122, t_k172), (134, t_k167), (136, t_k178), (141, t_k167), (144, t_k178)]
def l_k264 : LNL := []
theorem k_k264 (g : Nat) : KOK Yt (PSt g) t_k264 := verK_ok (PSt_ok g) (PSt_ax g) (dk := 2) (AN := anOf a_k264) (anOf_ok ⟨k_k166 g, ⟨k_k165_5 g, ⟨k_k166 g, ⟨k_k165_6 g, ⟨k_k167 g, ⟨k_k165_5 g, ⟨k_k167 g, ⟨k_k165_6 g, ⟨k_k167 g, ⟨k_k167 g, ⟨k_k172 g, ⟨k_k172 g, ⟨k_k178 g, ⟨k_k178 g, ⟨k_k167 g, ⟨k_k167 g, ⟨k_k172 g, ⟨k_k172 g, ⟨k_k167 g, ⟨k_k178 g, ⟨k_k167 g, ⟨k_k178 g, trivial⟩⟩⟩⟩⟩⟩⟩⟩⟩⟩⟩⟩⟩⟩⟩⟩⟩⟩⟩⟩⟩⟩) (LN := lnOf l_k264) (lnOf_ok trivial) (cuts := c_k264) (f := 3000) (by decide +kernel)
def t_k265 : KT := ((265, 3, 0, 0), [(2, 0, 40, 0), (1, 1, 0, 0)], [(0, 0), (-2147483648, 2147483647)], [], (3, 0, 0), [(40, 0, 1)], [], ([], []), ([], []))
def c_k265 : List CUT := [(13, [0, 1, 4, 1000], [(2, 0, 40, 0), (1, 1, 0, 0), (1, 2, 0, 0), (1, 3, 0, 0)], [(0, 0), (0, 143), (0, 144), (0, 0)], [(2, 0, 40, 0), (1, 1, 0, 0), (4, 0, 0, 0), (7, 0, 0, 0), (1, 2, 0, 0)], [(0, [(2, 0, 40, 0), (1, 1, 0, 0)])], (0, 0), [(0, 0, 1), (1, 4, 144)])]
def a_k265 : List (Nat × KT) := [(5, t_k234), (15, t_k168), (19, t_k173)]
def l_k265 : LNL := []
theorem k_k265 (g : Nat) : KOK Yt (PSt g) t_k265 := verK_ok (PSt_ok g) (PSt_ax g) (dk := 2) (AN := anOf a_k265) (anOf_ok ⟨k_k234 g, ⟨k_k168 g, ⟨k_k173 g, trivial⟩⟩⟩) (LN := lnOf l_k265) (lnOf_ok trivial) (cuts := c_k265) (f := 3000) (by decide +kernel)
def t_k267 : KT := ((267, 3, 0, 0), [(2, 0, 40, 0), (1, 1, 0, 0)], [(0, 0), (0, 1)], [], (1, -1, 143), [], [], ([], []), ([], []))
def c_k267 : List CUT := [(4, [0, 1, 2, 3], [(2, 0, 40, 0), (1, 1, 0, 0), (1, 2, 0, 0), (1, 3, 0, 0)], [(0, 0), (0, 1), (-1, 143), (0, 144)], [(2, 0, 40, 0), (1, 1, 0, 0), (1, 2, 0, 0), (1, 3, 0, 0)], [(0, [(2, 0, 40, 0), (1, 1, 0, 0)])], (0, 0), [(0, 0, 1), (1, 3, 144)])]
def a_k267 : List (Nat × KT) := [(6, t_k168), (10, t_k173)]
def l_k267 : LNL := []
theorem k_k267 (g : Nat) : KOK Yt (PSt g) t_k267 := verK_ok (PSt_ok g) (PSt_ax g) (dk := 2) (AN := anOf a_k267) (anOf_ok ⟨k_k168 g, ⟨k_k173 g, trivial⟩⟩) (LN := lnOf l_k267) (lnOf_ok trivial) (cuts := c_k267) (f := 3000) (by decide +kernel)
def t_k165_7 : KT := ((165, 1, 0, 0), [(2, 0, 40, 0), (1, 1, 0, 0), (1, 2, 0, 0), (1, 3, 0, 0)], [(0, 0), (-2147483648, 2147483647), (0, 0), (3, 3)], [], (2, 0, 1), [], [], ([(1, 0, 3)], []), ([], []))
def c_k165_7 : List CUT := []
def a_k165_7 : List (Nat × KT) := []
def l_k165_7 : LNL := []
theorem k_k165_7 (g : Nat) : KOK Yt (PSt g) t_k165_7 := verK_ok (PSt_ok g) (PSt_ax g) (dk := 0) (AN := anOf a_k165_7) (anOf_ok trivial) (LN := lnOf l_k165_7) (lnOf_ok trivial) (cuts := c_k165_7) (f := 3000) (by decide +kernel)
def t_k268 : KT := ((268, 4, 0, 0), [(2, 0, 40, 0), (1, 1, 0, 0)], [(0, 0), (-2147483648, 2147483647)], [], (1, -2147483648, 2147483647), [(40, 0, 1)], [], ([], []), ([], []))
def c_k268 : List CUT := []
def a_k268 : List (Nat × KT) := [(7, t_k165_7), (20, t_k267)]
def l_k268 : LNL := []
theorem k_k268 (g : Nat) : KOK Yt (PSt g) t_k268 := verK_ok (PSt_ok g) (PSt_ax g) (dk := 3) (AN := anOf a_k268) (anOf_ok ⟨k_k165_7 g, ⟨k_k267 g, trivial⟩⟩) (LN := lnOf l_k268) (lnOf_ok trivial) (cuts := c_k268) (f := 3000) (by decide +kernel)
def t_k165_8 : KT := ((165, 1, 0, 0), [(2, 0, 40, 0), (1, 1, 0, 0), (1, 2, 0, 0), (1, 3, 0, 0)], [(0, 0), (-2147483648, 2147483647), (-2147483648, 2147483647), (-2147483648, 2147483647)], [], (2, 0, 1), [], [], ([], []), ([], []))
def c_k165_8 : List CUT := []
def a_k165_8 : List (Nat × KT) := []
def l_k165_8 : LNL := []
theorem k_k165_8 (g : Nat) : KOK Yt (PSt g) t_k165_8 := verK_ok (PSt_ok g) (PSt_ax g) (dk := 0) (AN := anOf a_k165_8) (anOf_ok trivial) (LN := lnOf l_k165_8) (lnOf_ok trivial) (cuts := c_k165_8) (f := 3000) (by decide +kernel)
def t_k269 : KT := ((269, 3, 0, 0), [(2, 0, 40, 0), (1, 1, 0, 0), (1, 2, 0, 0)], [(0, 0), (-2147483648, 2147483647), (-2147483648, 2147483647)], [], (1, -2147483648, 2147483647), [(40, 0, 1)], [], ([], []), ([], []))
def c_k269 : List CUT := [(7, [0, 1, 2, 3, 4, 1000], [(2, 0, 40, 0), (1, 1, 0, 0), (1, 2, 0, 0), (1, 3, 0, 0), (1, 4, 0, 0), (1, 5, 0, 0)], [(0, 0), (-2147483648, 2147483647), (-2147483648, 2147483647), (-2147483648, 2147483647), (0, 144), (0, 0)], [(2, 0, 40, 0), (1, 1, 0, 0), (1, 2, 0, 0), (1, 3, 0, 0), (1, 4, 0, 0)], [(0, [(2, 0, 40, 0), (1, 1, 0, 0), (1, 2, 0, 0)])], (0, 0), [(0, 0, 1), (1, 4, 144)])]
def a_k269 : List (Nat × KT) := [(9, t_k168), (13, t_k173), (24, t_k165_8)]
def l_k269 : LNL := []
theorem k_k269 (g : Nat) : KOK Yt (PSt g) t_k269 := verK_ok (PSt_ok g) (PSt_ax g) (dk := 2) (AN := anOf a_k269) (anOf_ok ⟨k_k168 g, ⟨k_k173 g, ⟨k_k165_8 g, trivial⟩⟩⟩) (LN := lnOf l_k269) (lnOf_ok trivial) (cuts := c_k269) (f := 3000) (by decide +kernel)
def t_k270 : KT := ((270, 2, 0, 0), [(2, 0, 40, 0), (1, 1, 0, 0), (1, 2, 0, 0)], [(0, 0), (0, 143), (-2147483648, 2147483647)], [], (2, 0, 1), [], [], ([], []), ([], []))
def c_k270 : List CUT := []
def a_k270 : List (Nat × KT) := [(2, t_k173)]
def l_k270 : LNL := []
theorem k_k270 (g : Nat) : KOK Yt (PSt g) t_k270 := verK_ok (PSt_ok g) (PSt_ax g) (dk := 1) (AN := anOf a_k270) (anOf_ok ⟨k_k173 g, trivial⟩) (LN := lnOf l_k270) (lnOf_ok trivial) (cuts := c_k270) (f := 3000) (by decide +kernel)
def t_k272 : KT := ((272, 3, 0, 0), [(2, 0, 40, 0), (1, 1, 0, 0), (1, 2, 0, 0)], [(0, 0), (-2147483648, 2147483647), (-2147483648, 2147483647)], [], (1, -2147483648, 2147483647), [], [], ([], []), ([], []))
def c_k272 : List CUT := [(4, [0, 1, 2, 3, 4], [(2, 0, 40, 0), (1, 1, 0, 0), (1, 2, 0, 0), (1, 3, 0, 0), (1, 4, 0, 0)], [(0, 0), (-2147483648, 2147483647), (-2147483648, 2147483647), (-2147483648, 2147483647), (0, 144)], [(2, 0, 40, 0), (1, 1, 0, 0), (1, 2, 0, 0), (1, 3, 0, 0), (1, 4, 0, 0)], [(0, [(2, 0, 40, 0), (1, 1, 0, 0), (1, 2, 0, 0)])], (0, 0), [(0, 0, 1), (1, 4, 144)])]
def a_k272 : List (Nat × KT) := [(6, t_k168), (11, t_k270)]
def l_k272 : LNL := []
theorem k_k272 (g : Nat) : KOK Yt (PSt g) t_k272 := verK_ok (PSt_ok g) (PSt_ax g) (dk := 2) (AN := anOf a_k272) (anOf_ok ⟨k_k168 g, ⟨k_k270 g, trivial⟩⟩) (LN := lnOf l_k272) (lnOf_ok trivial) (cuts := c_k272) (f := 3000) (by decide +kernel)
def t_k274 : KT := ((274, 4, 0, 0), [(2, 0, 40, 0), (1, 1, 0, 0)], [(0, 0), (0, 143)], [], (2, 0, 1), [], [], ([], []), ([], []))
def c_k274 : List CUT := [(8, [0, 1, 2], [(2, 0, 40, 0), (1, 1, 0, 0), (1, 2, 0, 0)], [(0, 0), (0, 143), (0, 4)], [(2, 0, 40, 0), (1, 1, 0, 0), (1, 2, 0, 0), (7, 0, 0, 0)], [(0, [(2, 0, 40, 0), (1, 1, 0, 0)])], (0, 0), [(0, 0, 1), (1, 2, 4)])]
def a_k274 : List (Nat × KT) := [(2, t_k173), (14, t_k195), (21, t_k172), (25, t_k173)]
def l_k274 : LNL := []
theorem k_k274 (g : Nat) : KOK Yt (PSt g) t_k274 := verK_ok (PSt_ok g) (PSt_ax g) (dk := 3) (AN := anOf a_k274) (anOf_ok ⟨k_k173 g, ⟨k_k195 g, ⟨k_k172 g, ⟨k_k173 g, trivial⟩⟩⟩⟩) (LN := lnOf l_k274) (lnOf_ok trivial) (cuts := c_k274) (f := 3000) (by decide +kernel)
def t_k275 : KT := ((275, 5, 0, 0), [(2, 0, 40, 0), (1, 1, 0, 0)], [(0, 0), (-2147483648, 2147483647)], [], (1, -2147483648, 2147483647), [(40, 0, 1)], [], ([], []), ([], []))
def c_k275 : List CUT := [(7, [0, 1, 2, 3, 1000], [(2, 0, 40, 0), (1, 1, 0, 0), (1, 2, 0, 0), (1, 3, 0, 0), (1, 4, 0, 0)], [(0, 0), (-2147483648, 2147483647), (-2147483648, 2147483647), (0, 144), (0, 0)], [(2, 0, 40, 0), (1, 1, 0, 0), (1, 2, 0, 0), (1, 3, 0, 0)], [(0, [(2, 0, 40, 0), (1, 1, 0, 0)])], (0, 0), [(0, 0, 1), (1, 3, 144)])]
def a_k275 : List (Nat × KT) := [(9, t_k168), (13, t_k274)]
def l_k275 : LNL := []
theorem k_k275 (g : Nat) : KOK Yt (PSt g) t_k275 := verK_ok (PSt_ok g) (PSt_ax g) (dk := 4) (AN := anOf a_k275) (anOf_ok ⟨k_k168 g, ⟨k_k274 g, trivial⟩⟩) (LN := lnOf l_k275) (lnOf_ok trivial) (cuts := c_k275) (f := 3000) (by decide +kernel)
def t_k276 : KT := ((276, 4, 0, 0), [(2, 0, 40, 0), (1, 1, 0, 0), (1, 2, 0, 0)], [(0, 0), (-2147483648, 2147483647), (-2147483648, 2147483647)], [], (1, -1, 143), [(40, 0, 1)], [], ([], []), ([], []))
def c_k276 : List CUT := [(19, [0, 1, 2, 3, 4, 1000], [(2, 0, 40, 0), (1, 1, 0, 0), (1, 2, 0, 0), (1, 3, 0, 0), (1, 4, 0, 0), (1, 5, 0, 0)], [(0, 0), (0, 143), (0, 2147483647), (-1, 143), (0, 2147483647), (0, 0)], [(2, 0, 40, 0), (1, 1, 0, 0), (1, 2, 0, 0), (1, 3, 0, 0), (1, 4, 0, 0)], [(0, [(2, 0, 40, 0), (1, 1, 0, 0), (1, 2, 0, 0)])], (0, 0), [(0, 0, 1), (1, 4, 2147483647)])]
def a_k276 : List (Nat × KT) := [(5, t_k169), (9, t_k173)]
def l_k276 : LNL := []
theorem k_k276 (g : Nat) : KOK Yt (PSt g) t_k276 := verK_ok (PSt_ok g) (PSt_ax g) (dk := 3) (AN := anOf a_k276) (anOf_ok ⟨k_k169 g, ⟨k_k173 g, trivial⟩⟩) (LN := lnOf l_k276) (lnOf_ok trivial) (cuts := c_k276) (f := 3000) (by decide +kernel)
def t_k283 : KT := ((283, 1, 0, 0), [(2, 0, 40, 0), (1, 1, 0, 0), (1, 2, 0, 0)], [(0, 0), (298, 298), (0, 144)], [], (1, -2147483648, 2147483647), [], [], ([], []), ([], []))
def c_k283 : List CUT := [(4, [0, 1, 2, 3, 4], [(2, 0, 40, 0), (1, 1, 0, 0), (1, 2, 0, 0), (1, 3, 0, 0), (1, 4, 0, 0)], [(0, 0), (298, 298), (0, 144), (-2147483648, 2147483647), (0, 144)], [(2, 0, 40, 0), (1, 1, 0, 0), (1, 2, 0, 0), (1, 3, 0, 0), (1, 4, 0, 0)], [(0, [(2, 0, 40, 0), (1, 1, 0, 0), (1, 2, 0, 0)])], (0, 0), [(0, 0, 1), (1, 4, 144)])]
def a_k283 : List (Nat × KT) := []
def l_k283 : LNL := []
theorem k_k283 (g : Nat) : KOK Yt (PSt g) t_k283 := verK_ok (PSt_ok g) (PSt_ax g) (dk := 0) (AN := anOf a_k283) (anOf_ok trivial) (LN := lnOf l_k283) (lnOf_ok trivial) (cuts := c_k283) (f := 3000) (by decide +kernel)
def t_k284 : KT := ((284, 6, 0, 0), [(2, 0, 40, 0)], [(0, 0)], [], (1, -2147483648, 2147483647), [], [], ([], []), ([], []))
def c_k284 : List CUT := [(4, [0, 1, 2], [(2, 0, 40, 0), (1, 1, 0, 0), (1, 2, 0, 0)], [(0, 0), (-2147483648, 2147483647), (0, 144)], [(2, 0, 40, 0), (1, 1, 0, 0), (1, 2, 0, 0)], [(0, [(2, 0, 40, 0)])], (0, 0), [(0, 0, 1), (1, 2, 144)])]
def a_k284 : List (Nat × KT) := [(6, t_k168), (11, t_k206)]
def l_k284 : LNL := []
theorem k_k284 (g : Nat) : KOK Yt (PSt g) t_k284 := verK_ok (PSt_ok g) (PSt_ax g) (dk := 5) (AN := anOf a_k284) (anOf_ok ⟨k_k168 g, ⟨k_k206 g, trivial⟩⟩) (LN := lnOf l_k284) (lnOf_ok trivial) (cuts := c_k284) (f := 3000) (by decide +kernel)
def t_k285 : KT := ((285, 4, 0, 0), [(2, 0, 40, 0)], [(0, 0)], [], (1, -2147483648, 2147483647), [], [], ([], []), ([], []))
def c_k285 : List CUT := [(4, [0, 1, 2], [(2, 0, 40, 0), (1, 1, 0, 0), (1, 2, 0, 0)], [(0, 0), (-2147483648, 2147483647), (0, 288)], [(2, 0, 40, 0), (1, 1, 0, 0), (1, 2, 0, 0)], [(0, [(2, 0, 40, 0)])], (0, 0), [(0, 0, 1), (1, 2, 288)])]
def a_k285 : List (Nat × KT) := [(7, t_k168), (12, t_k179), (16, t_k183)]
def l_k285 : LNL := []
theorem k_k285 (g : Nat) : KOK Yt (PSt g) t_k285 := verK_ok (PSt_ok g) (PSt_ax g) (dk := 3) (AN := anOf a_k285) (anOf_ok ⟨k_k168 g, ⟨k_k179 g, ⟨k_k183 g, trivial⟩⟩⟩) (LN := lnOf l_k285) (lnOf_ok trivial) (cuts := c_k285) (f := 3000) (by decide +kernel)
def t_k286 : KT := ((286, 3, 0, 0), [(2, 0, 40, 0)], [(0, 0)], [], (1, -2147483648, 2147483647), [], [], ([], []), ([], []))
def c_k286 : List CUT := [(4, [0, 1, 2], [(2, 0, 40, 0), (1, 1, 0, 0), (1, 2, 0, 0)], [(0, 0), (-2147483648, 2147483647), (0, 144)], [(2, 0, 40, 0), (1, 1, 0, 0), (1, 2, 0, 0)], [(0, [(2, 0, 40, 0)])], (0, 0), [(0, 0, 1), (1, 2, 144)])]
def a_k286 : List (Nat × KT) := [(6, t_k168), (10, t_k173)]
def l_k286 : LNL := []
theorem k_k286 (g : Nat) : KOK Yt (PSt g) t_k286 := verK_ok (PSt_ok g) (PSt_ax g) (dk := 2) (AN := anOf a_k286) (anOf_ok ⟨k_k168 g, ⟨k_k173 g, trivial⟩⟩) (LN := lnOf l_k286) (lnOf_ok trivial) (cuts := c_k286) (f := 3000) (by decide +kernel)
def t_k165_9 : KT := ((165, 1, 0, 0), [(2, 0, 40, 0), (1, 1, 0, 0), (1, 2, 0, 0), (1, 3, 0, 0)], [(0, 0), (-2147483648, 2147483647), (0, 0), (0, 400)], [], (2, 0, 1), [], [], ([(1, 0, 400)], []), ([], []))
def c_k165_9 : List CUT := []
def a_k165_9 : List (Nat × KT) := []
def l_k165_9 : LNL := []
theorem k_k165_9 (g : Nat) : KOK Yt (PSt g) t_k165_9 := verK_ok (PSt_ok g) (PSt_ax g) (dk := 0) (AN := anOf a_k165_9) (anOf_ok trivial) (LN := lnOf l_k165_9) (lnOf_ok trivial) (cuts := c_k165_9) (f := 3000) (by decide +kernel)
def t_k248 : KT := ((248, 2, 0, 0), [(2, 0, 40, 0), (1, 1, 0, 0)], [(0, 0), (-2147483648, 2147483647)], [], (2, 0, 1), [(40, 0, 1), (40, 16, 17)], [], ([(1, 0, 400)], []), ([], []))
def c_k248 : List CUT := []
def a_k248 : List (Nat × KT) := [(8, t_k165_9)]
def l_k248 : LNL := []
theorem k_k248 (g : Nat) : KOK Yt (PSt g) t_k248 := verK_ok (PSt_ok g) (PSt_ax g) (dk := 1) (AN := anOf a_k248) (anOf_ok ⟨k_k165_9 g, trivial⟩) (LN := lnOf l_k248) (lnOf_ok trivial) (cuts := c_k248) (f := 3000) (by decide +kernel)
def t_k252 : KT := ((252, 1, 0, 0), [(2, 0, 40, 0)], [(0, 0)], [], (1, -1, 400), [(40, 0, 1)], [], ([], []), ([], []))
def c_k252 : List CUT := []
def a_k252 : List (Nat × KT) := []
def l_k252 : LNL := []
theorem k_k252 (g : Nat) : KOK Yt (PSt g) t_k252 := verK_ok (PSt_ok g) (PSt_ax g) (dk := 0) (AN := anOf a_k252) (anOf_ok trivial) (LN := lnOf l_k252) (lnOf_ok trivial) (cuts := c_k252) (f := 3000) (by decide +kernel)
def t_k165_10 : KT := ((165, 1, 0, 0), [(2, 0, 40, 0), (1, 1, 0, 0), (1, 2, 0, 0), (1, 3, 0, 0)], [(0, 0), (-2147483648, 2147483647), (0, 0), (7, 7)], [], (2, 0, 1), [], [], ([(1, 0, 7)], []), ([], []))
def c_k165_10 : List CUT := []
def a_k165_10 : List (Nat × KT) := []
def l_k165_10 : LNL := []
theorem k_k165_10 (g : Nat) : KOK Yt (PSt g) t_k165_10 := verK_ok (PSt_ok g) (PSt_ax g) (dk := 0) (AN := anOf a_k165_10) (anOf_ok trivial) (LN := lnOf l_k165_10) (lnOf_ok trivial) (cuts := c_k165_10) (f := 3000) (by decide +kernel)
def t_k255 : KT := ((255, 4, 0, 0), [(2, 0, 40, 0), (1, 1, 0, 0)], [(0, 0), (-2147483648, 2147483647)], [], (1, -2147483648, 2147483647), [(40, 0, 1)], [], ([], []), ([], []))
def c_k255 : List CUT := []
def a_k255 : List (Nat × KT) := [(5, t_k169), (9, t_k173)]
def l_k255 : LNL := []
theorem k_k255 (g : Nat) : KOK Yt (PSt g) t_k255 := verK_ok (PSt_ok g) (PSt_ax g) (dk := 3) (AN := anOf a_k255) (anOf_ok ⟨k_k169 g, ⟨k_k173 g, trivial⟩⟩) (LN := lnOf l_k255) (lnOf_ok trivial) (cuts := c_k255) (f := 3000) (by decide +kernel)
def t_k226 : KT := ((226, 4, 0, 0), [(2, 0, 40, 0)], [(0, 0)], [], (1, -2147483648, 2147483647), [(40, 0, 1), (41, 0, 2314)], [], ([], []), ([], []))
def c_k226 : List CUT := []
def a_k226 : List (Nat × KT) := [(4, t_k187), (6, t_k222)]
def l_k226 : LNL := []
theorem k_k226 (g : Nat) : KOK Yt (PSt g) t_k226 := verK_ok (PSt_ok g) (PSt_ax g) (dk := 3) (AN := anOf a_k226) (anOf_ok ⟨k_k187 g, ⟨k_k222 g, trivial⟩⟩) (LN := lnOf l_k226) (lnOf_ok trivial) (cuts := c_k226) (f := 3000) (by decide +kernel)
def t_k165_11 : KT := ((165, 1, 0, 0), [(2, 0, 40, 0), (1, 1, 0, 0), (1, 2, 0, 0), (1, 3, 0, 0)], [(0, 0), (-2147483648, 2147483647), (0, 0), (99, 99)], [], (2, 0, 1), [], [], ([(1, 0, 99)], []), ([], []))
def c_k165_11 : List CUT := []
def a_k165_11 : List (Nat × KT) := []
def l_k165_11 : LNL := []
theorem k_k165_11 (g : Nat) : KOK Yt (PSt g) t_k165_11 := verK_ok (PSt_ok g) (PSt_ax g) (dk := 0) (AN := anOf a_k165_11) (anOf_ok trivial) (LN := lnOf l_k165_11) (lnOf_ok trivial) (cuts := c_k165_11) (f := 3000) (by decide +kernel)
