/-! the class: contracts that bounds alone bear -/
def t_k11 : KT := ((11, 1, 0, 0), [(2, 0, 1, 0), (1, 1, 0, 0)], [(0, 0), (0, 143)], [], (1, 0, 71), [], [], ([], []), ([], []))
def c_k11 : List CUT := []
def a_k11 : List (Nat × KT) := []
def l_k11 : LNL := []
theorem k_k11 (g : Nat) : KOK Yt (PSt g) t_k11 := verK_ok (PSt_ok g) (PSt_ax g) (dk := 0) (AN := anOf a_k11) (anOf_ok trivial) (LN := lnOf l_k11) (lnOf_ok trivial) (cuts := c_k11) (f := 3000) (by decide +kernel)
def t_k12 : KT := ((12, 1, 0, 0), [(2, 0, 1, 0), (1, 1, 0, 0)], [(0, 0), (0, 143)], [], (1, 0, 11), [], [], ([], []), ([], []))
def c_k12 : List CUT := []
def a_k12 : List (Nat × KT) := []
def l_k12 : LNL := []
theorem k_k12 (g : Nat) : KOK Yt (PSt g) t_k12 := verK_ok (PSt_ok g) (PSt_ax g) (dk := 0) (AN := anOf a_k12) (anOf_ok trivial) (LN := lnOf l_k12) (lnOf_ok trivial) (cuts := c_k12) (f := 3000) (by decide +kernel)
def t_k13 : KT := ((13, 2, 0, 0), [(2, 0, 1, 0), (1, 1, 0, 0)], [(0, 0), (-2147483648, 2147483647)], [], (2, 0, 1), [], [], ([(1, 0, 143)], [(2, [(2, 0, 1, 0), (1, 1, 0, 0)])]), ([], []))
def c_k13 : List CUT := []
def a_k13 : List (Nat × KT) := [(4, t_k10)]
def l_k13 : LNL := []
theorem k_k13 (g : Nat) : KOK Yt (PSt g) t_k13 := verK_ok (PSt_ok g) (PSt_ax g) (dk := 1) (AN := anOf a_k13) (anOf_ok ⟨k_k10 g, trivial⟩) (LN := lnOf l_k13) (lnOf_ok trivial) (cuts := c_k13) (f := 3000) (by decide +kernel)
def t_k14 : KT := ((14, 2, 0, 0), [(2, 0, 1, 0), (1, 1, 0, 0)], [(0, 0), (-2147483648, 2147483647)], [], (2, 0, 1), [], [], ([(1, 0, 287)], []), ([], []))
def c_k14 : List CUT := []
def a_k14 : List (Nat × KT) := [(5, t_k10), (20, t_k12), (32, t_k11)]
def l_k14 : LNL := []
theorem k_k14 (g : Nat) : KOK Yt (PSt g) t_k14 := verK_ok (PSt_ok g) (PSt_ax g) (dk := 1) (AN := anOf a_k14) (anOf_ok ⟨k_k10 g, ⟨k_k12 g, ⟨k_k11 g, trivial⟩⟩⟩) (LN := lnOf l_k14) (lnOf_ok trivial) (cuts := c_k14) (f := 3000) (by decide +kernel)
def t_k15 : KT := ((15, 3, 0, 0), [(2, 0, 1, 0), (1, 1, 0, 0)], [(0, 0), (-2147483648, 2147483647)], [], (2, 0, 1), [], [], ([(1, 0, 143)], [(2, [(2, 0, 1, 0), (1, 1, 0, 0)])]), ([], []))
def c_k15 : List CUT := []
def a_k15 : List (Nat × KT) := [(2, t_k13), (6, t_k11), (14, t_k12)]
def l_k15 : LNL := []
theorem k_k15 (g : Nat) : KOK Yt (PSt g) t_k15 := verK_ok (PSt_ok g) (PSt_ax g) (dk := 2) (AN := anOf a_k15) (anOf_ok ⟨k_k13 g, ⟨k_k11 g, ⟨k_k12 g, trivial⟩⟩⟩) (LN := lnOf l_k15) (lnOf_ok trivial) (cuts := c_k15) (f := 3000) (by decide +kernel)
def t_k16 : KT := ((16, 1, 0, 0), [(2, 0, 1, 0), (1, 1, 0, 0)], [(0, 0), (0, 287)], [], (1, 0, 143), [], [], ([], []), ([], []))
def c_k16 : List CUT := []
def a_k16 : List (Nat × KT) := []
def l_k16 : LNL := []
theorem k_k16 (g : Nat) : KOK Yt (PSt g) t_k16 := verK_ok (PSt_ok g) (PSt_ax g) (dk := 0) (AN := anOf a_k16) (anOf_ok trivial) (LN := lnOf l_k16) (lnOf_ok trivial) (cuts := c_k16) (f := 3000) (by decide +kernel)
def t_k19 : KT := ((19, 1, 0, 0), [(1, 0, 0, 0)], [(-2147483648, 2147483647)], [], (1, -127, 127), [], [], ([], []), ([], []))
def c_k19 : List CUT := []
def a_k19 : List (Nat × KT) := []
def l_k19 : LNL := []
theorem k_k19 (g : Nat) : KOK Yt (PSt g) t_k19 := verK_ok (PSt_ok g) (PSt_ax g) (dk := 0) (AN := anOf a_k19) (anOf_ok trivial) (LN := lnOf l_k19) (lnOf_ok trivial) (cuts := c_k19) (f := 3000) (by decide +kernel)
def t_k20 : KT := ((20, 2, 0, 0), [(2, 0, 1, 0), (1, 1, 0, 0), (1, 2, 0, 0)], [(0, 0), (0, 143), (0, 143)], [], (1, -127, 127), [], [], ([], []), ([], []))
def c_k20 : List CUT := []
def a_k20 : List (Nat × KT) := [(9, t_k19)]
def l_k20 : LNL := []
theorem k_k20 (g : Nat) : KOK Yt (PSt g) t_k20 := verK_ok (PSt_ok g) (PSt_ax g) (dk := 1) (AN := anOf a_k20) (anOf_ok ⟨k_k19 g, trivial⟩) (LN := lnOf l_k20) (lnOf_ok trivial) (cuts := c_k20) (f := 3000) (by decide +kernel)
def t_k24 : KT := ((24, 2, 0, 0), [(2, 0, 1, 0)], [(0, 0)], [], (1, -2147483648, 2147483647), [], [], ([], []), ([], []))
def c_k24 : List CUT := [(4, [0, 1, 2], [(2, 0, 1, 0), (1, 1, 0, 0), (1, 2, 0, 0)], [(0, 0), (-2147483648, 2147483647), (0, 144)], [(2, 0, 1, 0), (1, 1, 0, 0), (1, 2, 0, 0)], [(0, [(2, 0, 1, 0)])], (0, 0), [(0, 0, 1), (1, 2, 144)])]
def a_k24 : List (Nat × KT) := [(6, t_k10)]
def l_k24 : LNL := []
theorem k_k24 (g : Nat) : KOK Yt (PSt g) t_k24 := verK_ok (PSt_ok g) (PSt_ax g) (dk := 1) (AN := anOf a_k24) (anOf_ok ⟨k_k10 g, trivial⟩) (LN := lnOf l_k24) (lnOf_ok trivial) (cuts := c_k24) (f := 3000) (by decide +kernel)
def t_k27 : KT := ((27, 2, 0, 0), [(2, 0, 1, 0), (1, 1, 0, 0), (1, 2, 0, 0)], [(0, 0), (0, 143), (0, 143)], [], (1, 0, 82), [], [], ([], []), ([], []))
def c_k27 : List CUT := []
def a_k27 : List (Nat × KT) := [(2, t_k11), (5, t_k11), (10, t_k12), (13, t_k12)]
def l_k27 : LNL := []
theorem k_k27 (g : Nat) : KOK Yt (PSt g) t_k27 := verK_ok (PSt_ok g) (PSt_ax g) (dk := 1) (AN := anOf a_k27) (anOf_ok ⟨k_k11 g, ⟨k_k11 g, ⟨k_k12 g, ⟨k_k12 g, trivial⟩⟩⟩⟩) (LN := lnOf l_k27) (lnOf_ok trivial) (cuts := c_k27) (f := 3000) (by decide +kernel)
def t_k28 : KT := ((28, 2, 0, 0), [(2, 0, 1, 0), (1, 1, 0, 0)], [(0, 0), (0, 143)], [], (1, -70, 11), [], [], ([], []), ([], []))
def c_k28 : List CUT := []
def a_k28 : List (Nat × KT) := [(2, t_k11), (6, t_k12)]
def l_k28 : LNL := []
theorem k_k28 (g : Nat) : KOK Yt (PSt g) t_k28 := verK_ok (PSt_ok g) (PSt_ax g) (dk := 1) (AN := anOf a_k28) (anOf_ok ⟨k_k11 g, ⟨k_k12 g, trivial⟩⟩) (LN := lnOf l_k28) (lnOf_ok trivial) (cuts := c_k28) (f := 3000) (by decide +kernel)
def t_k29 : KT := ((29, 3, 0, 0), [(2, 0, 1, 0), (1, 1, 0, 0), (1, 2, 0, 0)], [(0, 0), (0, 143), (-1, 143)], [], (1, -70, 82), [], [], ([], []), ([], []))
def c_k29 : List CUT := []
def a_k29 : List (Nat × KT) := [(5, t_k28), (10, t_k27)]
def l_k29 : LNL := []
theorem k_k29 (g : Nat) : KOK Yt (PSt g) t_k29 := verK_ok (PSt_ok g) (PSt_ax g) (dk := 2) (AN := anOf a_k29) (anOf_ok ⟨k_k28 g, ⟨k_k27 g, trivial⟩⟩) (LN := lnOf l_k29) (lnOf_ok trivial) (cuts := c_k29) (f := 3000) (by decide +kernel)
def t_k23 : KT := ((23, 1, 0, 0), [(2, 0, 1, 0), (1, 1, 0, 0), (1, 2, 0, 0)], [(0, 0), (0, 143), (-2147483648, 2147483647)], [], (1, -284, 287), [], [], ([], []), ([], []))
def c_k23 : List CUT := []
def a_k23 : List (Nat × KT) := []
def l_k23 : LNL := []
theorem k_k23 (g : Nat) : KOK Yt (PSt g) t_k23 := verK_ok (PSt_ok g) (PSt_ax g) (dk := 0) (AN := anOf a_k23) (anOf_ok trivial) (LN := lnOf l_k23) (lnOf_ok trivial) (cuts := c_k23) (f := 3000) (by decide +kernel)
def t_k8 : KT := ((8, 1, 0, 0), [(2, 0, 1, 0), (1, 1, 0, 0), (1, 2, 0, 0)], [(0, 0), (2, 12), (2, 12)], [], (0, 0, 0), [(1, 0, 1), (1, 1, 2), (2, 0, 144), (3, 0, 144), (4, 0, 144), (5, 0, 288)], [], ([], []), ([], []))
def c_k8 : List CUT := [(8, [0, 1, 2, 3, 1000, 1001], [(2, 0, 1, 0), (1, 1, 0, 0), (1, 2, 0, 0), (1, 3, 0, 0), (1, 4, 0, 0), (1, 5, 0, 0)], [(0, 0), (2, 12), (2, 12), (0, 144), (2, 12), (2, 12)], [(2, 0, 1, 0), (1, 1, 0, 0), (1, 2, 0, 0), (1, 3, 0, 0)], [(0, [(2, 0, 1, 0), (1, 1, 0, 0), (1, 2, 0, 0)])], (0, 0), [(0, 0, 2), (1, 3, 144)]), (30, [0, 1, 2, 3, 1000, 1001], [(2, 0, 1, 0), (1, 1, 0, 0), (1, 2, 0, 0), (1, 3, 0, 0), (1, 4, 0, 0), (1, 5, 0, 0)], [(0, 0), (2, 12), (2, 12), (0, 288), (2, 12), (2, 12)], [(2, 0, 1, 0), (1, 1, 0, 0), (1, 2, 0, 0), (1, 3, 0, 0)], [(0, [(2, 0, 1, 0), (1, 1, 0, 0), (1, 2, 0, 0)])], (0, 0), [(0, 0, 1), (1, 3, 288)])]
def a_k8 : List (Nat × KT) := []
def l_k8 : LNL := []
theorem k_k8 (g : Nat) : KOK Yt (PSt g) t_k8 := verK_ok (PSt_ok g) (PSt_ax g) (dk := 0) (AN := anOf a_k8) (anOf_ok trivial) (LN := lnOf l_k8) (lnOf_ok trivial) (cuts := c_k8) (f := 3000) (by decide +kernel)
def t_k56 : KT := ((56, 1, 0, 0), [(2, 0, 10, 0), (1, 1, 0, 0)], [(0, 0), (0, 143)], [], (2, 0, 1), [], [], ([], []), ([], []))
def c_k56 : List CUT := []
def a_k56 : List (Nat × KT) := []
def l_k56 : LNL := []
theorem k_k56 (g : Nat) : KOK Yt (PSt g) t_k56 := verK_ok (PSt_ok g) (PSt_ax g) (dk := 0) (AN := anOf a_k56) (anOf_ok trivial) (LN := lnOf l_k56) (lnOf_ok trivial) (cuts := c_k56) (f := 3000) (by decide +kernel)
def t_k57 : KT := ((57, 1, 0, 0), [(2, 0, 10, 0), (1, 1, 0, 0)], [(0, 0), (-2147483648, 2147483647)], [], (2, 0, 1), [], [], ([(1, 0, 143)], []), ([], []))
def c_k57 : List CUT := []
def a_k57 : List (Nat × KT) := []
def l_k57 : LNL := []
theorem k_k57 (g : Nat) : KOK Yt (PSt g) t_k57 := verK_ok (PSt_ok g) (PSt_ax g) (dk := 0) (AN := anOf a_k57) (anOf_ok trivial) (LN := lnOf l_k57) (lnOf_ok trivial) (cuts := c_k57) (f := 3000) (by decide +kernel)
def t_k58 : KT := ((58, 2, 0, 0), [(2, 0, 10, 0), (2, 1, 1, 0), (1, 2, 0, 0)], [(0, 0), (0, 0), (-2147483648, 2147483647)], [], (1, -2147483648, 2147483647), [], [], ([], []), ([], []))
def c_k58 : List CUT := [(4, [0, 1, 2, 3, 4], [(2, 0, 10, 0), (2, 1, 1, 0), (1, 2, 0, 0), (1, 3, 0, 0), (1, 4, 0, 0)], [(0, 0), (0, 0), (-2147483648, 2147483647), (-2147483648, 2147483647), (0, 144)], [(2, 0, 10, 0), (2, 1, 1, 0), (1, 2, 0, 0), (1, 3, 0, 0), (1, 4, 0, 0)], [(0, [(2, 0, 10, 0), (2, 1, 1, 0), (1, 2, 0, 0)])], (0, 0), [(0, 0, 1), (1, 4, 144)])]
def a_k58 : List (Nat × KT) := [(6, t_k10)]
def l_k58 : LNL := []
theorem k_k58 (g : Nat) : KOK Yt (PSt g) t_k58 := verK_ok (PSt_ok g) (PSt_ax g) (dk := 1) (AN := anOf a_k58) (anOf_ok ⟨k_k10 g, trivial⟩) (LN := lnOf l_k58) (lnOf_ok trivial) (cuts := c_k58) (f := 3000) (by decide +kernel)
def t_k59 : KT := ((59, 2, 0, 0), [(2, 0, 10, 0), (1, 1, 0, 0)], [(0, 0), (0, 143)], [], (1, -1, 144), [], [], ([], []), ([], []))
def c_k59 : List CUT := [(13, [0, 1, 2, 3], [(2, 0, 10, 0), (1, 1, 0, 0), (1, 2, 0, 0), (1, 3, 0, 0)], [(0, 0), (0, 143), (0, 144), (-1, 143)], [(2, 0, 10, 0), (1, 1, 0, 0), (1, 2, 0, 0), (1, 3, 0, 0)], [(0, [(2, 0, 10, 0), (1, 1, 0, 0)])], (0, 0), [(0, 0, 1), (1, 2, 144)])]
def a_k59 : List (Nat × KT) := [(2, t_k56)]
def l_k59 : LNL := []
theorem k_k59 (g : Nat) : KOK Yt (PSt g) t_k59 := verK_ok (PSt_ok g) (PSt_ax g) (dk := 1) (AN := anOf a_k59) (anOf_ok ⟨k_k56 g, trivial⟩) (LN := lnOf l_k59) (lnOf_ok trivial) (cuts := c_k59) (f := 3000) (by decide +kernel)
def t_k60 : KT := ((60, 2, 0, 0), [(2, 0, 10, 0), (2, 1, 1, 0), (1, 2, 0, 0), (1, 3, 0, 0)], [(0, 0), (0, 0), (-2147483648, 2147483647), (-2147483648, 2147483647)], [], (2, 0, 1), [], [], ([], []), ([], []))
def c_k60 : List CUT := [(2, [0, 1, 2, 3, 4], [(2, 0, 10, 0), (2, 1, 1, 0), (1, 2, 0, 0), (1, 3, 0, 0), (1, 4, 0, 0)], [(0, 0), (0, 0), (-2147483648, 2147483647), (-2147483648, 2147483647), (0, 144)], [(2, 0, 10, 0), (2, 1, 1, 0), (1, 2, 0, 0), (1, 3, 0, 0), (1, 4, 0, 0), (7, 0, 0, 0), (7, 0, 0, 0)], [(0, [(2, 0, 10, 0), (2, 1, 1, 0), (1, 2, 0, 0), (1, 3, 0, 0)])], (0, 0), [(0, 0, 1), (1, 4, 144)])]
def a_k60 : List (Nat × KT) := [(4, t_k10)]
def l_k60 : LNL := []
theorem k_k60 (g : Nat) : KOK Yt (PSt g) t_k60 := verK_ok (PSt_ok g) (PSt_ax g) (dk := 1) (AN := anOf a_k60) (anOf_ok ⟨k_k10 g, trivial⟩) (LN := lnOf l_k60) (lnOf_ok trivial) (cuts := c_k60) (f := 3000) (by decide +kernel)
def t_k61 : KT := ((61, 2, 0, 0), [(2, 0, 10, 0), (2, 1, 1, 0), (1, 2, 0, 0), (1, 3, 0, 0)], [(0, 0), (0, 0), (0, 143), (-2147483648, 2147483647)], [], (0, 0, 0), [(11, 0, 144), (16, 0, 144)], [], ([], []), ([], []))
def c_k61 : List CUT := [(2, [0, 1, 2, 3, 4], [(2, 0, 10, 0), (2, 1, 1, 0), (1, 2, 0, 0), (1, 3, 0, 0), (1, 4, 0, 0)], [(0, 0), (0, 0), (0, 143), (-2147483648, 2147483647), (0, 144)], [(2, 0, 10, 0), (2, 1, 1, 0), (1, 2, 0, 0), (1, 3, 0, 0), (1, 4, 0, 0)], [(0, [(2, 0, 10, 0), (2, 1, 1, 0), (1, 2, 0, 0), (1, 3, 0, 0)])], (0, 0), [(0, 0, 1), (1, 4, 144)])]
def a_k61 : List (Nat × KT) := [(4, t_k10)]
def l_k61 : LNL := []
theorem k_k61 (g : Nat) : KOK Yt (PSt g) t_k61 := verK_ok (PSt_ok g) (PSt_ax g) (dk := 1) (AN := anOf a_k61) (anOf_ok ⟨k_k10 g, trivial⟩) (LN := lnOf l_k61) (lnOf_ok trivial) (cuts := c_k61) (f := 3000) (by decide +kernel)
def t_k62 : KT := ((62, 2, 0, 0), [(2, 0, 10, 0), (2, 1, 1, 0), (1, 2, 0, 0)], [(0, 0), (0, 0), (-2147483648, 2147483647)], [], (3, 0, 0), [], [], ([], []), ([], []))
def c_k62 : List CUT := [(4, [0, 1, 2, 5], [(2, 0, 10, 0), (2, 1, 1, 0), (1, 2, 0, 0), (1, 3, 0, 0)], [(0, 0), (0, 0), (-2147483648, 2147483647), (0, 144)], [(2, 0, 10, 0), (2, 1, 1, 0), (1, 2, 0, 0), (4, 0, 0, 0), (7, 0, 0, 0), (1, 3, 0, 0), (7, 0, 0, 0), (7, 0, 0, 0)], [(0, [(2, 0, 10, 0), (2, 1, 1, 0), (1, 2, 0, 0)])], (0, 0), [(0, 0, 1), (1, 5, 144)])]
def a_k62 : List (Nat × KT) := [(6, t_k10), (10, t_k56)]
def l_k62 : LNL := []
theorem k_k62 (g : Nat) : KOK Yt (PSt g) t_k62 := verK_ok (PSt_ok g) (PSt_ax g) (dk := 1) (AN := anOf a_k62) (anOf_ok ⟨k_k10 g, ⟨k_k56 g, trivial⟩⟩) (LN := lnOf l_k62) (lnOf_ok trivial) (cuts := c_k62) (f := 3000) (by decide +kernel)
def t_k63 : KT := ((63, 2, 0, 0), [(2, 0, 10, 0), (2, 1, 1, 0)], [(0, 0), (0, 0)], [], (1, -1, 143), [], [], ([], []), ([], []))
def c_k63 : List CUT := [(4, [0, 1, 2, 3], [(2, 0, 10, 0), (2, 1, 1, 0), (1, 2, 0, 0), (1, 3, 0, 0)], [(0, 0), (0, 0), (-1, 143), (0, 144)], [(2, 0, 10, 0), (2, 1, 1, 0), (1, 2, 0, 0), (1, 3, 0, 0)], [(0, [(2, 0, 10, 0), (2, 1, 1, 0)])], (0, 0), [(0, 0, 1), (1, 3, 144)])]
def a_k63 : List (Nat × KT) := [(6, t_k10), (10, t_k56)]
def l_k63 : LNL := []
theorem k_k63 (g : Nat) : KOK Yt (PSt g) t_k63 := verK_ok (PSt_ok g) (PSt_ax g) (dk := 1) (AN := anOf a_k63) (anOf_ok ⟨k_k10 g, ⟨k_k56 g, trivial⟩⟩) (LN := lnOf l_k63) (lnOf_ok trivial) (cuts := c_k63) (f := 3000) (by decide +kernel)
def t_k64 : KT := ((64, 2, 0, 0), [(2, 0, 10, 0), (2, 1, 1, 0)], [(0, 0), (0, 0)], [], (1, -1, 143), [], [], ([], []), ([], []))
def c_k64 : List CUT := [(4, [0, 1, 2, 3], [(2, 0, 10, 0), (2, 1, 1, 0), (1, 2, 0, 0), (1, 3, 0, 0)], [(0, 0), (0, 0), (-1, 143), (0, 144)], [(2, 0, 10, 0), (2, 1, 1, 0), (1, 2, 0, 0), (1, 3, 0, 0)], [(0, [(2, 0, 10, 0), (2, 1, 1, 0)])], (0, 0), [(0, 0, 1), (1, 3, 144)])]
def a_k64 : List (Nat × KT) := [(6, t_k10), (10, t_k56)]
def l_k64 : LNL := []
theorem k_k64 (g : Nat) : KOK Yt (PSt g) t_k64 := verK_ok (PSt_ok g) (PSt_ax g) (dk := 1) (AN := anOf a_k64) (anOf_ok ⟨k_k10 g, ⟨k_k56 g, trivial⟩⟩) (LN := lnOf l_k64) (lnOf_ok trivial) (cuts := c_k64) (f := 3000) (by decide +kernel)
def t_k66 : KT := ((66, 2, 0, 0), [(2, 0, 10, 0), (2, 1, 1, 0), (2, 2, 10, 0)], [(0, 0), (0, 0), (0, 0)], [], (1, -2147483648, 2147483647), [], [], ([], []), ([], []))
def c_k66 : List CUT := [(4, [0, 1, 2, 3, 4], [(2, 0, 10, 0), (2, 1, 1, 0), (2, 2, 10, 0), (1, 3, 0, 0), (1, 4, 0, 0)], [(0, 0), (0, 0), (0, 0), (-2147483648, 2147483647), (0, 144)], [(2, 0, 10, 0), (2, 1, 1, 0), (2, 2, 10, 0), (1, 3, 0, 0), (1, 4, 0, 0)], [(0, [(2, 0, 10, 0), (2, 1, 1, 0), (2, 2, 10, 0)])], (0, 0), [(0, 0, 1), (1, 4, 144)])]
def a_k66 : List (Nat × KT) := [(6, t_k10), (10, t_k56)]
def l_k66 : LNL := []
theorem k_k66 (g : Nat) : KOK Yt (PSt g) t_k66 := verK_ok (PSt_ok g) (PSt_ax g) (dk := 1) (AN := anOf a_k66) (anOf_ok ⟨k_k10 g, ⟨k_k56 g, trivial⟩⟩) (LN := lnOf l_k66) (lnOf_ok trivial) (cuts := c_k66) (f := 3000) (by decide +kernel)
def t_k55 : KT := ((55, 2, 0, 0), [(2, 0, 10, 0), (2, 1, 1, 0)], [(0, 0), (0, 0)], [], (1, -1, 143), [], [], ([], []), ([], []))
def c_k55 : List CUT := [(4, [0, 1, 2, 3], [(2, 0, 10, 0), (2, 1, 1, 0), (1, 2, 0, 0), (1, 3, 0, 0)], [(0, 0), (0, 0), (-1, 143), (0, 144)], [(2, 0, 10, 0), (2, 1, 1, 0), (1, 2, 0, 0), (1, 3, 0, 0)], [(0, [(2, 0, 10, 0), (2, 1, 1, 0)])], (0, 0), [(0, 0, 1), (1, 3, 144)])]
def a_k55 : List (Nat × KT) := [(6, t_k10), (10, t_k56)]
def l_k55 : LNL := []
theorem k_k55 (g : Nat) : KOK Yt (PSt g) t_k55 := verK_ok (PSt_ok g) (PSt_ax g) (dk := 1) (AN := anOf a_k55) (anOf_ok ⟨k_k10 g, ⟨k_k56 g, trivial⟩⟩) (LN := lnOf l_k55) (lnOf_ok trivial) (cuts := c_k55) (f := 3000) (by decide +kernel)
def t_k70 : KT := ((70, 1, 0, 0), [(2, 0, 17, 0), (1, 1, 0, 0)], [(0, 0), (-2147483648, 2147483647)], [], (2, 0, 1), [], [], ([(1, 0, 59)], []), ([], []))
def c_k70 : List CUT := []
def a_k70 : List (Nat × KT) := []
def l_k70 : LNL := []
theorem k_k70 (g : Nat) : KOK Yt (PSt g) t_k70 := verK_ok (PSt_ok g) (PSt_ax g) (dk := 0) (AN := anOf a_k70) (anOf_ok trivial) (LN := lnOf l_k70) (lnOf_ok trivial) (cuts := c_k70) (f := 3000) (by decide +kernel)
def t_k69 : KT := ((69, 1, 0, 0), [(2, 0, 17, 0), (1, 1, 0, 0), (1, 2, 0, 0), (1, 3, 0, 0)], [(0, 0), (-2147483648, 2147483647), (-2147483648, 2147483647), (-2147483648, 2147483647)], [(1188, [(2, 0, 17, 0), (0, 0, 0, 0), (0, 0, 0, 999999)])], (0, 0, 0), [(17, 0, 1), (18, 0, 180)], [], ([], []), ([], []))
def c_k69 : List CUT := []
def a_k69 : List (Nat × KT) := []
def l_k69 : LNL := []
theorem k_k69 (g : Nat) : KOK Yt (PSt g) t_k69 := verK_ok (PSt_ok g) (PSt_ax g) (dk := 0) (AN := anOf a_k69) (anOf_ok trivial) (LN := lnOf l_k69) (lnOf_ok trivial) (cuts := c_k69) (f := 3000) (by decide +kernel)
def t_k83 : KT := ((83, 1, 0, 0), [(1, 0, 0, 0), (1, 1, 0, 0)], [(-2147483648, 2147483647), (-2147483648, 2147483647)], [], (2, 0, 1), [], [], ([], []), ([], []))
def c_k83 : List CUT := []
def a_k83 : List (Nat × KT) := []
def l_k83 : LNL := []
theorem k_k83 (g : Nat) : KOK Yt (PSt g) t_k83 := verK_ok (PSt_ok g) (PSt_ax g) (dk := 0) (AN := anOf a_k83) (anOf_ok trivial) (LN := lnOf l_k83) (lnOf_ok trivial) (cuts := c_k83) (f := 3000) (by decide +kernel)
def t_k84 : KT := ((84, 1, 0, 0), [(1, 0, 0, 0), (1, 1, 0, 0)], [(-2147483648, 2147483647), (-2147483648, 2147483647)], [], (1, -2147483648, 2147483647), [], [], ([], []), ([], []))
def c_k84 : List CUT := []
def a_k84 : List (Nat × KT) := []
def l_k84 : LNL := []
theorem k_k84 (g : Nat) : KOK Yt (PSt g) t_k84 := verK_ok (PSt_ok g) (PSt_ax g) (dk := 0) (AN := anOf a_k84) (anOf_ok trivial) (LN := lnOf l_k84) (lnOf_ok trivial) (cuts := c_k84) (f := 3000) (by decide +kernel)
def t_k74 : KT := ((74, 3, 0, 0), [(2, 0, 21, 0), (2, 1, 1, 0), (1, 2, 0, 0)], [(0, 0), (0, 0), (0, 143)], [], (1, 0, 99), [], [], ([], []), ([], []))
def c_k74 : List CUT := [(4, [0, 1, 2, 3, 4], [(2, 0, 21, 0), (2, 1, 1, 0), (1, 2, 0, 0), (1, 3, 0, 0), (1, 4, 0, 0)], [(0, 0), (0, 0), (0, 143), (0, 99), (0, 121)], [(2, 0, 21, 0), (2, 1, 1, 0), (1, 2, 0, 0), (1, 3, 0, 0), (1, 4, 0, 0)], [(0, [(2, 0, 21, 0), (2, 1, 1, 0), (1, 2, 0, 0)])], (0, 0), [(0, 0, 1), (1, 4, 121)])]
def a_k74 : List (Nat × KT) := [(15, t_k27)]
def l_k74 : LNL := []
theorem k_k74 (g : Nat) : KOK Yt (PSt g) t_k74 := verK_ok (PSt_ok g) (PSt_ax g) (dk := 2) (AN := anOf a_k74) (anOf_ok ⟨k_k27 g, trivial⟩) (LN := lnOf l_k74) (lnOf_ok trivial) (cuts := c_k74) (f := 3000) (by decide +kernel)
def t_k89 : KT := ((89, 1, 0, 0), [(1, 0, 0, 0), (1, 1, 0, 0)], [(0, 143), (0, 143)], [], (1, 0, 20735), [], [], ([], []), ([], []))
def c_k89 : List CUT := []
def a_k89 : List (Nat × KT) := []
def l_k89 : LNL := []
theorem k_k89 (g : Nat) : KOK Yt (PSt g) t_k89 := verK_ok (PSt_ok g) (PSt_ax g) (dk := 0) (AN := anOf a_k89) (anOf_ok trivial) (LN := lnOf l_k89) (lnOf_ok trivial) (cuts := c_k89) (f := 3000) (by decide +kernel)
def t_k94 : KT := ((94, 1, 0, 0), [(1, 0, 0, 0), (1, 1, 0, 0)], [(-2147483648, 2147483647), (-2147483648, 2147483647)], [], (2, 0, 1), [], [], ([], []), ([], []))
def c_k94 : List CUT := []
def a_k94 : List (Nat × KT) := []
def l_k94 : LNL := []
theorem k_k94 (g : Nat) : KOK Yt (PSt g) t_k94 := verK_ok (PSt_ok g) (PSt_ax g) (dk := 0) (AN := anOf a_k94) (anOf_ok trivial) (LN := lnOf l_k94) (lnOf_ok trivial) (cuts := c_k94) (f := 3000) (by decide +kernel)
def t_k92 : KT := ((92, 1, 0, 0), [(2, 0, 31, 0), (1, 1, 0, 0), (1, 2, 0, 0)], [(0, 0), (0, 288), (-2147483648, 2147483647)], [], (1, 0, 288), [], [], ([], []), ([], []))
def c_k92 : List CUT := [(2, [0, 1, 2, 3], [(2, 0, 31, 0), (1, 1, 0, 0), (1, 2, 0, 0), (1, 3, 0, 0)], [(0, 0), (0, 288), (-2147483648, 2147483647), (0, 288)], [(2, 0, 31, 0), (1, 1, 0, 0), (1, 2, 0, 0), (1, 3, 0, 0)], [(0, [(2, 0, 31, 0), (1, 1, 0, 0), (1, 2, 0, 0)])], (0, 0), [(0, 0, 1), (1, 3, 288)])]
def a_k92 : List (Nat × KT) := []
def l_k92 : LNL := []
theorem k_k92 (g : Nat) : KOK Yt (PSt g) t_k92 := verK_ok (PSt_ok g) (PSt_ax g) (dk := 0) (AN := anOf a_k92) (anOf_ok trivial) (LN := lnOf l_k92) (lnOf_ok trivial) (cuts := c_k92) (f := 3000) (by decide +kernel)
def t_k93 : KT := ((93, 2, 0, 0), [(2, 0, 31, 0), (1, 1, 0, 0), (1, 2, 0, 0), (1, 3, 0, 0)], [(0, 0), (0, 288), (0, 288), (-1, 1)], [], (0, 0, 0), [(31, 0, 1), (31, 1, 2)], [], ([], []), ([], []))
def c_k93 : List CUT := [(13, [0, 1, 2, 3, 4, 1000, 1001], [(2, 0, 31, 0), (1, 1, 0, 0), (1, 2, 0, 0), (1, 3, 0, 0), (1, 4, 0, 0), (1, 5, 0, 0), (1, 6, 0, 0)], [(0, 0), (0, 288), (0, 288), (-1, 1), (0, 288), (-2147483648, 2147483647), (-1, 2147483647)], [(2, 0, 31, 0), (1, 1, 0, 0), (1, 2, 0, 0), (1, 3, 0, 0), (1, 4, 0, 0), (7, 0, 0, 0), (7, 0, 0, 0)], [(0, [(2, 0, 31, 0), (1, 1, 0, 0), (1, 2, 0, 0), (1, 3, 0, 0)])], (0, 0), [(0, 0, 1), (1, 4, 288), (0, 0, 99), (0, 0, 0)]), (20, [0, 1, 2, 3, 4, 5, 6, 1000, 1001], [(2, 0, 31, 0), (1, 1, 0, 0), (1, 2, 0, 0), (1, 3, 0, 0), (1, 4, 0, 0), (1, 5, 0, 0), (1, 6, 0, 0), (1, 7, 0, 0), (1, 8, 0, 0)], [(0, 0), (0, 288), (1, 288), (-1, 1), (0, 287), (-2147483648, 2147483647), (0, 288), (-2147483648, 2147483647), (-1, 2147483647)], [(2, 0, 31, 0), (1, 1, 0, 0), (1, 2, 0, 0), (1, 3, 0, 0), (1, 4, 0, 0), (1, 5, 0, 0), (1, 6, 0, 0)], [(0, [(2, 0, 31, 0), (1, 1, 0, 0), (1, 2, 0, 0), (1, 3, 0, 0)])], (0, 0), [(0, 0, 1), (1, 4, 288), (0, 0, 1), (1, 6, 288)])]
def a_k93 : List (Nat × KT) := [(61, t_k94)]
def l_k93 : LNL := []
theorem k_k93 (g : Nat) : KOK Yt (PSt g) t_k93 := verK_ok (PSt_ok g) (PSt_ax g) (dk := 1) (AN := anOf a_k93) (anOf_ok ⟨k_k94 g, trivial⟩) (LN := lnOf l_k93) (lnOf_ok trivial) (cuts := c_k93) (f := 3000) (by decide +kernel)
def t_k88 : KT := ((88, 1, 0, 0), [(2, 0, 31, 0), (1, 1, 0, 0), (1, 2, 0, 0)], [(0, 0), (0, 20735), (-2147483648, 2147483647)], [], (0, 0, 0), [(31, 2, 3), (32, 0, 288), (33, 0, 288)], [], ([], []), ([], []))
def c_k88 : List CUT := [(8, [0, 1, 2, 3, 1002], [(2, 0, 31, 0), (1, 1, 0, 0), (1, 2, 0, 0), (1, 3, 0, 0), (1, 4, 0, 0)], [(0, 0), (0, 20735), (-2147483648, 2147483647), (0, 287), (0, 287)], [(2, 0, 31, 0), (1, 1, 0, 0), (1, 2, 0, 0), (1, 3, 0, 0)], [(0, [(2, 0, 31, 0), (1, 1, 0, 0), (1, 2, 0, 0)])], (0, 0), [(0, 0, 1), (2, 3, 0)])]
def a_k88 : List (Nat × KT) := []
def l_k88 : LNL := []
theorem k_k88 (g : Nat) : KOK Yt (PSt g) t_k88 := verK_ok (PSt_ok g) (PSt_ax g) (dk := 0) (AN := anOf a_k88) (anOf_ok trivial) (LN := lnOf l_k88) (lnOf_ok trivial) (cuts := c_k88) (f := 3000) (by decide +kernel)
def t_k91 : KT := ((91, 3, 0, 0), [(2, 0, 31, 0), (1, 1, 0, 0), (1, 2, 0, 0)], [(0, 0), (0, 143), (0, 143)], [], (0, 0, 0), [(31, 0, 1), (31, 1, 2)], [], ([], []), ([], []))
def c_k91 : List CUT := [(10, [0, 1, 2, 3, 4], [(2, 0, 31, 0), (1, 1, 0, 0), (1, 2, 0, 0), (1, 3, 0, 0), (1, 4, 0, 0)], [(0, 0), (0, 143), (0, 143), (0, 20735), (0, 288)], [(2, 0, 31, 0), (1, 1, 0, 0), (1, 2, 0, 0), (1, 3, 0, 0), (1, 4, 0, 0)], [(0, [(2, 0, 31, 0), (1, 1, 0, 0), (1, 2, 0, 0)])], (0, 0), [(0, 0, 1), (1, 4, 288)])]
def a_k91 : List (Nat × KT) := [(6, t_k89), (27, t_k92), (34, t_k93)]
def l_k91 : LNL := []
theorem k_k91 (g : Nat) : KOK Yt (PSt g) t_k91 := verK_ok (PSt_ok g) (PSt_ax g) (dk := 2) (AN := anOf a_k91) (anOf_ok ⟨k_k89 g, ⟨k_k92 g, ⟨k_k93 g, trivial⟩⟩⟩) (LN := lnOf l_k91) (lnOf_ok trivial) (cuts := c_k91) (f := 3000) (by decide +kernel)
def t_k90 : KT := ((90, 3, 0, 0), [(2, 0, 1, 0), (2, 1, 10, 0), (1, 2, 0, 0), (1, 3, 0, 0)], [(0, 0), (0, 0), (0, 143), (0, 143)], [], (1, -2147483648, 2147483647), [], [], ([], []), ([], []))
def c_k90 : List CUT := []
def a_k90 : List (Nat × KT) := [(3, t_k20)]
def l_k90 : LNL := []
theorem k_k90 (g : Nat) : KOK Yt (PSt g) t_k90 := verK_ok (PSt_ok g) (PSt_ax g) (dk := 2) (AN := anOf a_k90) (anOf_ok ⟨k_k20 g, trivial⟩) (LN := lnOf l_k90) (lnOf_ok trivial) (cuts := c_k90) (f := 3000) (by decide +kernel)
def t_k98 : KT := ((98, 1, 0, 0), [(2, 0, 31, 0), (2, 1, 10, 0), (1, 2, 0, 0), (1, 3, 0, 0)], [(0, 0), (0, 0), (0, 143), (-2147483648, 2147483647)], [], (0, 0, 0), [(34, 0, 144)], [], ([], []), ([], []))
def c_k98 : List CUT := [(2, [0, 1, 2, 3, 4], [(2, 0, 31, 0), (2, 1, 10, 0), (1, 2, 0, 0), (1, 3, 0, 0), (1, 4, 0, 0)], [(0, 0), (0, 0), (0, 143), (-2147483648, 2147483647), (0, 144)], [(2, 0, 31, 0), (2, 1, 10, 0), (1, 2, 0, 0), (1, 3, 0, 0), (1, 4, 0, 0)], [(0, [(2, 0, 31, 0), (2, 1, 10, 0), (1, 2, 0, 0), (1, 3, 0, 0)])], (0, 0), [(0, 0, 1), (1, 4, 144)])]
def a_k98 : List (Nat × KT) := []
def l_k98 : LNL := []
theorem k_k98 (g : Nat) : KOK Yt (PSt g) t_k98 := verK_ok (PSt_ok g) (PSt_ax g) (dk := 0) (AN := anOf a_k98) (anOf_ok trivial) (LN := lnOf l_k98) (lnOf_ok trivial) (cuts := c_k98) (f := 3000) (by decide +kernel)
def t_k97 : KT := ((97, 3, 0, 0), [(2, 0, 31, 0), (2, 1, 1, 0), (2, 2, 10, 0), (1, 3, 0, 0)], [(0, 0), (0, 0), (0, 0), (-2147483648, 2147483647)], [], (2, 0, 1), [(11, 0, 144), (16, 0, 144)], [], ([], []), ([], []))
def c_k97 : List CUT := [(2, [0, 1, 2, 3, 4], [(2, 0, 31, 0), (2, 1, 1, 0), (2, 2, 10, 0), (1, 3, 0, 0), (1, 4, 0, 0)], [(0, 0), (0, 0), (0, 0), (-2147483648, 2147483647), (0, 144)], [(2, 0, 31, 0), (2, 1, 1, 0), (2, 2, 10, 0), (1, 3, 0, 0), (1, 4, 0, 0)], [(0, [(2, 0, 31, 0), (2, 1, 1, 0), (2, 2, 10, 0), (1, 3, 0, 0)])], (0, 0), [(0, 0, 1), (1, 4, 144)])]
def a_k97 : List (Nat × KT) := [(17, t_k60), (26, t_k61)]
def l_k97 : LNL := []
theorem k_k97 (g : Nat) : KOK Yt (PSt g) t_k97 := verK_ok (PSt_ok g) (PSt_ax g) (dk := 2) (AN := anOf a_k97) (anOf_ok ⟨k_k60 g, ⟨k_k61 g, trivial⟩⟩) (LN := lnOf l_k97) (lnOf_ok trivial) (cuts := c_k97) (f := 3000) (by decide +kernel)
def t_k96 : KT := ((96, 3, 0, 0), [(2, 0, 31, 0)], [(0, 0)], [], (1, -1, 287), [(31, 0, 1), (31, 1, 2)], [], ([], []), ([], []))
def c_k96 : List CUT := [(8, [0, 1, 2, 3, 4], [(2, 0, 31, 0), (1, 1, 0, 0), (1, 2, 0, 0), (1, 3, 0, 0), (1, 4, 0, 0)], [(0, 0), (-1, 287), (-1, 2147483647), (-2147483648, 2147483647), (0, 288)], [(2, 0, 31, 0), (1, 1, 0, 0), (1, 2, 0, 0), (1, 3, 0, 0), (1, 4, 0, 0), (7, 0, 0, 0)], [(0, [(2, 0, 31, 0)])], (0, 0), [(0, 0, 1), (1, 4, 288)])]
def a_k96 : List (Nat × KT) := [(58, t_k92), (60, t_k93)]
def l_k96 : LNL := []
theorem k_k96 (g : Nat) : KOK Yt (PSt g) t_k96 := verK_ok (PSt_ok g) (PSt_ax g) (dk := 2) (AN := anOf a_k96) (anOf_ok ⟨k_k92 g, ⟨k_k93 g, trivial⟩⟩) (LN := lnOf l_k96) (lnOf_ok trivial) (cuts := c_k96) (f := 3000) (by decide +kernel)
def t_k102 : KT := ((102, 1, 0, 0), [(1, 0, 0, 0), (1, 1, 0, 0)], [(-2147483648, 2147483647), (-2147483648, 2147483647)], [], (2, 0, 1), [], [], ([(0, 4, 2147483647), (1, 0, 2147483647)], []), ([], []))
def c_k102 : List CUT := []
def a_k102 : List (Nat × KT) := []
def l_k102 : LNL := []
theorem k_k102 (g : Nat) : KOK Yt (PSt g) t_k102 := verK_ok (PSt_ok g) (PSt_ax g) (dk := 0) (AN := anOf a_k102) (anOf_ok trivial) (LN := lnOf l_k102) (lnOf_ok trivial) (cuts := c_k102) (f := 3000) (by decide +kernel)
def t_k104 : KT := ((104, 1, 0, 0), [(1, 0, 0, 0)], [(-2147483648, 2147483647)], [], (1, -1, 15), [], [], ([], []), ([], []))
def c_k104 : List CUT := []
def a_k104 : List (Nat × KT) := []
def l_k104 : LNL := []
theorem k_k104 (g : Nat) : KOK Yt (PSt g) t_k104 := verK_ok (PSt_ok g) (PSt_ax g) (dk := 0) (AN := anOf a_k104) (anOf_ok trivial) (LN := lnOf l_k104) (lnOf_ok trivial) (cuts := c_k104) (f := 3000) (by decide +kernel)
def t_k100 : KT := ((100, 1, 0, 0), [(2, 0, 19, 0), (1, 1, 0, 0)], [(0, 0), (-2147483648, 2147483647)], [], (0, 0, 0), [(19, 0, 1), (20, 0, 400)], [], ([], []), ([], []))
def c_k100 : List CUT := [(2, [0, 1, 2], [(2, 0, 19, 0), (1, 1, 0, 0), (1, 2, 0, 0)], [(0, 0), (-2147483648, 2147483647), (-127, 24)], [(2, 0, 19, 0), (1, 1, 0, 0), (1, 2, 0, 0)], [(0, [(2, 0, 19, 0), (1, 1, 0, 0)])], (0, 0), [(0, 0, 1), (2, 2, -127)])]
def a_k100 : List (Nat × KT) := []
def l_k100 : LNL := []
theorem k_k100 (g : Nat) : KOK Yt (PSt g) t_k100 := verK_ok (PSt_ok g) (PSt_ax g) (dk := 0) (AN := anOf a_k100) (anOf_ok trivial) (LN := lnOf l_k100) (lnOf_ok trivial) (cuts := c_k100) (f := 3000) (by decide +kernel)
def t_k103 : KT := ((103, 2, 0, 0), [(2, 0, 19, 0), (1, 1, 0, 0), (1, 2, 0, 0)], [(0, 0), (0, 399), (-2147483648, 2147483647)], [], (2, 0, 1), [], [], ([], []), ([], []))
def c_k103 : List CUT := []
def a_k103 : List (Nat × KT) := [(4, t_k104)]
def l_k103 : LNL := []
theorem k_k103 (g : Nat) : KOK Yt (PSt g) t_k103 := verK_ok (PSt_ok g) (PSt_ax g) (dk := 1) (AN := anOf a_k103) (anOf_ok ⟨k_k104 g, trivial⟩) (LN := lnOf l_k103) (lnOf_ok trivial) (cuts := c_k103) (f := 3000) (by decide +kernel)
def t_k101 : KT := ((101, 3, 0, 0), [(2, 0, 19, 0)], [(0, 0)], [], (1, -1, 400), [(19, 1, 2), (19, 2, 3)], [], ([], []), ([], []))
def c_k101 : List CUT := [(8, [0, 1, 2, 3, 4], [(2, 0, 19, 0), (1, 1, 0, 0), (1, 2, 0, 0), (1, 3, 0, 0), (1, 4, 0, 0)], [(0, 0), (0, 11), (0, 2147483647), (-2147483648, 2147483647), (0, 400)], [(2, 0, 19, 0), (1, 1, 0, 0), (1, 2, 0, 0), (1, 3, 0, 0), (1, 4, 0, 0)], [(0, [(2, 0, 19, 0)])], (0, 0), [(0, 0, 1), (1, 4, 400)])]
def a_k101 : List (Nat × KT) := [(20, t_k102), (39, t_k103), (48, t_k102)]
def l_k101 : LNL := []
theorem k_k101 (g : Nat) : KOK Yt (PSt g) t_k101 := verK_ok (PSt_ok g) (PSt_ax g) (dk := 2) (AN := anOf a_k101) (anOf_ok ⟨k_k102 g, ⟨k_k103 g, ⟨k_k102 g, trivial⟩⟩⟩) (LN := lnOf l_k101) (lnOf_ok trivial) (cuts := c_k101) (f := 3000) (by decide +kernel)
def t_k39 : KT := ((39, 1, 0, 0), [(2, 0, 26, 0), (1, 1, 0, 0), (1, 2, 0, 0)], [(0, 0), (0, 143), (0, 143)], [], (2, 0, 1), [], [], ([], []), ([], []))
def c_k39 : List CUT := []
def a_k39 : List (Nat × KT) := []
def l_k39 : LNL := []
theorem k_k39 (g : Nat) : KOK Yt (PSt g) t_k39 := verK_ok (PSt_ok g) (PSt_ax g) (dk := 0) (AN := anOf a_k39) (anOf_ok trivial) (LN := lnOf l_k39) (lnOf_ok trivial) (cuts := c_k39) (f := 3000) (by decide +kernel)
def t_k38a : KT := ((38, 1, 0, 0), [(2, 0, 26, 0)], [(0, 0)], [(1768, [(2, 0, 26, 0), (0, 0, 0, 0), (0, 0, 0, 0)])], (1, -1, 143), [], [], ([], []), ([], []))
def c_k38a : List CUT := [(4, [0, 1, 2], [(2, 0, 26, 0), (1, 1, 0, 0), (1, 2, 0, 0)], [(0, 0), (-1, -1), (0, 0)], [(2, 0, 26, 0), (1, 1, 0, 0), (1, 2, 0, 0)], [(0, [(2, 0, 26, 0)]), (1768, [(2, 0, 26, 0), (0, 0, 0, 0), (0, 0, 0, 0)])], (0, 0), [(0, 0, 1), (1, 2, 0)])]
def a_k38a : List (Nat × KT) := []
def l_k38a : LNL := []
theorem k_k38a (g : Nat) : KOK Yt (PSt g) t_k38a := verK_ok (PSt_ok g) (PSt_ax g) (dk := 0) (AN := anOf a_k38a) (anOf_ok trivial) (LN := lnOf l_k38a) (lnOf_ok trivial) (cuts := c_k38a) (f := 3000) (by decide +kernel)
def t_k38b : KT := ((38, 2, 0, 0), [(2, 0, 26, 0)], [(0, 0)], [(1768, [(2, 0, 26, 0), (0, 0, 0, 1), (0, 0, 0, 144)])], (1, -1, 143), [(26, 4, 5), (30, 0, 144)], [], ([], []), ([], []))
def c_k38b : List CUT := [(4, [0, 1, 2], [(2, 0, 26, 0), (1, 1, 0, 0), (1, 2, 0, 0)], [(0, 0), (-1, 143), (0, 144)], [(2, 0, 26, 0), (1, 1, 0, 0), (1, 2, 0, 0)], [(0, [(2, 0, 26, 0)]), (1768, [(2, 0, 26, 0), (0, 0, 0, 1), (0, 0, 0, 144)])], (0, 0), [(0, 0, 1), (1, 2, 144)])]
def a_k38b : List (Nat × KT) := [(20, t_k39)]
def l_k38b : LNL := []
theorem k_k38b (g : Nat) : KOK Yt (PSt g) t_k38b := verK_ok (PSt_ok g) (PSt_ax g) (dk := 1) (AN := anOf a_k38b) (anOf_ok ⟨k_k39 g, trivial⟩) (LN := lnOf l_k38b) (lnOf_ok trivial) (cuts := c_k38b) (f := 3000) (by decide +kernel)
def t_k38 : KT := ((38, 2, 0, 0), [(2, 0, 26, 0)], [(0, 0)], [], (1, -1, 143), [(26, 4, 5), (30, 0, 144)], [], ([], []), ([], []))
theorem k_k38 (g : Nat) : KOK Yt (PSt g) t_k38 := by
  intro d ρ α Γ M as hd hT hB hA _
  obtain ⟨m, t, rfl, h1, h2⟩ := ARs.cons (show ARs ρ α Γ [(2, 0, 26, 0)] as from hA)
  obtain ⟨-, g1, -⟩ := h1.ref rfl
  have g1 : Γ (α 0) = 26 := g1
  have hb := (hT (α 0) (by rw [g1]; decide)).2.2.1 (4, 5, 0, 144) (by rw [g1]; exact List.mem_cons_self) 4 (Nat.le_refl _) (by decide)
  have hb : 0 ≤ M.2.2.2.2 (α 0) 4 ∧ M.2.2.2.2 (α 0) 4 ≤ 144 := hb
  by_cases hc : M.2.2.2.2 (α 0) 4 ≤ 0
  · refine (k_k38a g d ρ α Γ M _ (Nat.le_trans (by decide) hd) hT hB hA (fun p hp => ?_)).imp fun r M2 q => ?_
    · cases List.mem_singleton.mp hp
      exact (fId_eq g 26 4 (α 0) 0 0 Γ M (by decide)).mpr ⟨g1, by decide, hb.1, hc⟩
    · obtain ⟨Γ2, q1, q2, q3, q4, q5, q6⟩ := q
      exact ⟨Γ2, q1, FRM_weak q2 (fun e he => absurd he List.not_mem_nil), q3, q4, q5, q6⟩
  · refine (k_k38b g d ρ α Γ M _ hd hT hB hA (fun p hp => ?_)).imp fun r M2 q => q
    cases List.mem_singleton.mp hp
    exact (fId_eq g 26 4 (α 0) 1 144 Γ M (by decide)).mpr ⟨g1, by decide, by omega, hb.2⟩
def t_k37 : KT := ((37, 1, 0, 0), [(2, 0, 26, 0), (1, 1, 0, 0), (1, 2, 0, 0), (1, 3, 0, 0)], [(0, 0), (0, 143), (0, 143), (0, 99)], [], (0, 0, 0), [(26, 4, 5), (28, 0, 144), (29, 0, 144), (30, 0, 144)], [], ([], []), ([], []))
def c_k37 : List CUT := []
def a_k37 : List (Nat × KT) := []
def l_k37 : LNL := []
theorem k_k37 (g : Nat) : KOK Yt (PSt g) t_k37 := verK_ok (PSt_ok g) (PSt_ax g) (dk := 0) (AN := anOf a_k37) (anOf_ok trivial) (LN := lnOf l_k37) (lnOf_ok trivial) (cuts := c_k37) (f := 3000) (by decide +kernel)
def t_k289_0 : KT := ((289, 1, 0, 0), [(2, 0, 9, 0), (1, 1, 0, 0)], [(0, 0), (0, 0)], [], (0, 0, 0), [(9, 0, 288)], [], ([], []), ([], []))
def c_k289_0 : List CUT := [(5, [0, 1, 2, 3], [(2, 0, 9, 0), (1, 1, 0, 0), (1, 2, 0, 0), (1, 3, 0, 0)], [(0, 0), (0, 0), (0, 288), (288, 288)], [(2, 0, 9, 0), (1, 1, 0, 0), (1, 2, 0, 0), (1, 3, 0, 0)], [(0, [(2, 0, 9, 0), (1, 1, 0, 0)])], (0, 0), [(0, 0, 1), (1, 2, 288)])]
def a_k289_0 : List (Nat × KT) := []
def l_k289_0 : LNL := []
theorem k_k289_0 (g : Nat) : KOK Yt (PSt g) t_k289_0 := verK_ok (PSt_ok g) (PSt_ax g) (dk := 0) (AN := anOf a_k289_0) (anOf_ok trivial) (LN := lnOf l_k289_0) (lnOf_ok trivial) (cuts := c_k289_0) (f := 3000) (by decide +kernel)
def t_k41 : KT := ((41, 2, 0, 0), [(2, 0, 6, 0)], [(0, 0)], [], (0, 0, 0), [(6, 0, 1), (6, 1, 2), (9, 0, 288)], [], ([], []), ([], []))
def c_k41 : List CUT := []
def a_k41 : List (Nat × KT) := [(9, t_k289_0)]
def l_k41 : LNL := []
theorem k_k41 (g : Nat) : KOK Yt (PSt g) t_k41 := verK_ok (PSt_ok g) (PSt_ax g) (dk := 1) (AN := anOf a_k41) (anOf_ok ⟨k_k289_0 g, trivial⟩) (LN := lnOf l_k41) (lnOf_ok trivial) (cuts := c_k41) (f := 3000) (by decide +kernel)
def t_k42 : KT := ((42, 1, 0, 0), [(2, 0, 6, 0), (2, 1, 6, 0)], [(0, 0), (0, 0)], [], (0, 0, 0), [(6, 0, 1), (6, 1, 2), (7, 0, 121), (8, 0, 121), (9, 0, 288)], [], ([], []), ([], []))
def c_k42 : List CUT := []
def a_k42 : List (Nat × KT) := []
def l_k42 : LNL := []
theorem k_k42 (g : Nat) : KOK Yt (PSt g) t_k42 := verK_ok (PSt_ok g) (PSt_ax g) (dk := 0) (AN := anOf a_k42) (anOf_ok trivial) (LN := lnOf l_k42) (lnOf_ok trivial) (cuts := c_k42) (f := 3000) (by decide +kernel)
def t_k46 : KT := ((46, 1, 0, 0), [(2, 0, 6, 0), (2, 1, 1, 0), (1, 2, 0, 0), (1, 3, 0, 0), (1, 4, 0, 0)], [(0, 0), (0, 0), (0, 11), (0, 11), (-1, 11)], [], (0, 0, 0), [(9, 0, 288)], [], ([], []), ([], []))
def c_k46 : List CUT := [(2, [0, 1, 2, 3, 4, 5], [(2, 0, 6, 0), (2, 1, 1, 0), (1, 2, 0, 0), (1, 3, 0, 0), (1, 4, 0, 0), (1, 5, 0, 0)], [(0, 0), (0, 0), (0, 11), (0, 11), (-1, 11), (0, 12)], [(2, 0, 6, 0), (2, 1, 1, 0), (1, 2, 0, 0), (1, 3, 0, 0), (1, 4, 0, 0), (1, 5, 0, 0)], [(0, [(2, 0, 6, 0), (2, 1, 1, 0), (1, 2, 0, 0), (1, 3, 0, 0), (1, 4, 0, 0)])], (0, 0), [(0, 0, 1), (1, 5, 12)])]
def a_k46 : List (Nat × KT) := []
def l_k46 : LNL := []
theorem k_k46 (g : Nat) : KOK Yt (PSt g) t_k46 := verK_ok (PSt_ok g) (PSt_ax g) (dk := 0) (AN := anOf a_k46) (anOf_ok trivial) (LN := lnOf l_k46) (lnOf_ok trivial) (cuts := c_k46) (f := 3000) (by decide +kernel)
def t_k47 : KT := ((47, 1, 0, 0), [(2, 0, 6, 0), (2, 1, 1, 0), (1, 2, 0, 0), (1, 3, 0, 0), (1, 4, 0, 0)], [(0, 0), (0, 0), (0, 11), (0, 11), (-1, 11)], [], (0, 0, 0), [(9, 0, 288)], [], ([], []), ([], []))
def c_k47 : List CUT := [(2, [0, 1, 2, 3, 4, 5], [(2, 0, 6, 0), (2, 1, 1, 0), (1, 2, 0, 0), (1, 3, 0, 0), (1, 4, 0, 0), (1, 5, 0, 0)], [(0, 0), (0, 0), (0, 11), (0, 11), (-1, 11), (0, 12)], [(2, 0, 6, 0), (2, 1, 1, 0), (1, 2, 0, 0), (1, 3, 0, 0), (1, 4, 0, 0), (1, 5, 0, 0)], [(0, [(2, 0, 6, 0), (2, 1, 1, 0), (1, 2, 0, 0), (1, 3, 0, 0), (1, 4, 0, 0)])], (0, 0), [(0, 0, 1), (1, 5, 12)])]
def a_k47 : List (Nat × KT) := []
def l_k47 : LNL := []
theorem k_k47 (g : Nat) : KOK Yt (PSt g) t_k47 := verK_ok (PSt_ok g) (PSt_ax g) (dk := 0) (AN := anOf a_k47) (anOf_ok trivial) (LN := lnOf l_k47) (lnOf_ok trivial) (cuts := c_k47) (f := 3000) (by decide +kernel)
def t_k289_1 : KT := ((289, 1, 0, 0), [(2, 0, 13, 0), (1, 1, 0, 0)], [(0, 0), (-1, -1)], [], (0, 0, 0), [(13, 0, 144)], [], ([], []), ([], []))
def c_k289_1 : List CUT := [(5, [0, 1, 2, 3], [(2, 0, 13, 0), (1, 1, 0, 0), (1, 2, 0, 0), (1, 3, 0, 0)], [(0, 0), (-1, -1), (0, 144), (144, 144)], [(2, 0, 13, 0), (1, 1, 0, 0), (1, 2, 0, 0), (1, 3, 0, 0)], [(0, [(2, 0, 13, 0), (1, 1, 0, 0)])], (0, 0), [(0, 0, 1), (1, 2, 144)])]
def a_k289_1 : List (Nat × KT) := []
def l_k289_1 : LNL := []
theorem k_k289_1 (g : Nat) : KOK Yt (PSt g) t_k289_1 := verK_ok (PSt_ok g) (PSt_ax g) (dk := 0) (AN := anOf a_k289_1) (anOf_ok trivial) (LN := lnOf l_k289_1) (lnOf_ok trivial) (cuts := c_k289_1) (f := 3000) (by decide +kernel)
def t_k49 : KT := ((49, 2, 0, 0), [(2, 0, 10, 0)], [(0, 0)], [], (0, 0, 0), [(10, 0, 1), (10, 1, 2), (10, 2, 3), (10, 3, 4), (13, 0, 144)], [], ([], []), ([], []))
def c_k49 : List CUT := []
def a_k49 : List (Nat × KT) := [(15, t_k289_1)]
def l_k49 : LNL := []
theorem k_k49 (g : Nat) : KOK Yt (PSt g) t_k49 := verK_ok (PSt_ok g) (PSt_ax g) (dk := 1) (AN := anOf a_k49) (anOf_ok ⟨k_k289_1 g, trivial⟩) (LN := lnOf l_k49) (lnOf_ok trivial) (cuts := c_k49) (f := 3000) (by decide +kernel)
def t_k50 : KT := ((50, 1, 0, 0), [(2, 0, 10, 0), (2, 1, 10, 0)], [(0, 0), (0, 0)], [], (0, 0, 0), [(10, 0, 1), (10, 1, 2), (10, 2, 3), (10, 3, 4), (11, 0, 144), (12, 0, 144), (13, 0, 144), (14, 0, 144), (15, 0, 144), (16, 0, 144)], [], ([], []), ([], []))
def c_k50 : List CUT := []
def a_k50 : List (Nat × KT) := []
def l_k50 : LNL := []
theorem k_k50 (g : Nat) : KOK Yt (PSt g) t_k50 := verK_ok (PSt_ok g) (PSt_ax g) (dk := 0) (AN := anOf a_k50) (anOf_ok trivial) (LN := lnOf l_k50) (lnOf_ok trivial) (cuts := c_k50) (f := 3000) (by decide +kernel)
def t_k51 : KT := ((51, 3, 0, 0), [(2, 0, 10, 0), (2, 1, 1, 0)], [(0, 0), (0, 0)], [], (0, 0, 0), [(10, 0, 1), (10, 1, 2), (10, 2, 3), (10, 3, 4), (13, 0, 144)], [], ([], []), ([], []))
def c_k51 : List CUT := []
def a_k51 : List (Nat × KT) := [(1, t_k49), (4, t_k10), (6, t_k24)]
def l_k51 : LNL := []
theorem k_k51 (g : Nat) : KOK Yt (PSt g) t_k51 := verK_ok (PSt_ok g) (PSt_ax g) (dk := 2) (AN := anOf a_k51) (anOf_ok ⟨k_k49 g, ⟨k_k10 g, ⟨k_k24 g, trivial⟩⟩⟩) (LN := lnOf l_k51) (lnOf_ok trivial) (cuts := c_k51) (f := 3000) (by decide +kernel)
def t_k9 : KT := ((9, 1, 0, 0), [(2, 0, 1, 0), (2, 1, 1, 0)], [(0, 0), (0, 0)], [], (0, 0, 0), [(1, 0, 1), (1, 1, 2), (2, 0, 144), (3, 0, 144), (4, 0, 144), (5, 0, 288)], [], ([], []), ([], []))
def c_k9 : List CUT := []
def a_k9 : List (Nat × KT) := []
def l_k9 : LNL := []
theorem k_k9 (g : Nat) : KOK Yt (PSt g) t_k9 := verK_ok (PSt_ok g) (PSt_ax g) (dk := 0) (AN := anOf a_k9) (anOf_ok trivial) (LN := lnOf l_k9) (lnOf_ok trivial) (cuts := c_k9) (f := 3000) (by decide +kernel)
def t_k68 : KT := ((68, 1, 0, 0), [(2, 0, 17, 0), (2, 1, 17, 0)], [(0, 0), (0, 0)], [], (0, 0, 0), [(17, 0, 1), (18, 0, 180)], [], ([], []), ([], []))
def c_k68 : List CUT := []
def a_k68 : List (Nat × KT) := []
def l_k68 : LNL := []
theorem k_k68 (g : Nat) : KOK Yt (PSt g) t_k68 := verK_ok (PSt_ok g) (PSt_ax g) (dk := 0) (AN := anOf a_k68) (anOf_ok trivial) (LN := lnOf l_k68) (lnOf_ok trivial) (cuts := c_k68) (f := 3000) (by decide +kernel)
def t_k107 : KT := ((107, 2, 0, 0), [(2, 0, 38, 0), (2, 1, 38, 0)], [(0, 0), (0, 0)], [], (0, 0, 0), [(1, 0, 1), (1, 1, 2), (2, 0, 144), (3, 0, 144), (4, 0, 144), (5, 0, 288), (6, 0, 1), (6, 1, 2), (7, 0, 121), (8, 0, 121), (9, 0, 288), (10, 0, 1), (10, 1, 2), (10, 2, 3), (10, 3, 4), (11, 0, 144), (12, 0, 144), (13, 0, 144), (14, 0, 144), (15, 0, 144), (16, 0, 144)], [], ([], []), ([], []))
def c_k107 : List CUT := []
def a_k107 : List (Nat × KT) := [(4, t_k9), (9, t_k42), (14, t_k50)]
def l_k107 : LNL := []
theorem k_k107 (g : Nat) : KOK Yt (PSt g) t_k107 := verK_ok (PSt_ok g) (PSt_ax g) (dk := 1) (AN := anOf a_k107) (anOf_ok ⟨k_k9 g, ⟨k_k42 g, ⟨k_k50 g, trivial⟩⟩⟩) (LN := lnOf l_k107) (lnOf_ok trivial) (cuts := c_k107) (f := 3000) (by decide +kernel)
def t_k108 : KT := ((108, 3, 0, 0), [(2, 0, 38, 0), (1, 1, 0, 0), (1, 2, 0, 0)], [(0, 0), (2, 12), (2, 12)], [], (0, 0, 0), [(1, 0, 1), (1, 1, 2), (2, 0, 144), (3, 0, 144), (4, 0, 144), (5, 0, 288), (6, 0, 1), (6, 1, 2), (9, 0, 288), (10, 0, 1), (10, 1, 2), (10, 2, 3), (10, 3, 4), (13, 0, 144)], [], ([], []), ([], []))
def c_k108 : List CUT := []
def a_k108 : List (Nat × KT) := [(4, t_k8), (7, t_k41), (10, t_k49)]
def l_k108 : LNL := []
theorem k_k108 (g : Nat) : KOK Yt (PSt g) t_k108 := verK_ok (PSt_ok g) (PSt_ax g) (dk := 2) (AN := anOf a_k108) (anOf_ok ⟨k_k8 g, ⟨k_k41 g, ⟨k_k49 g, trivial⟩⟩⟩) (LN := lnOf l_k108) (lnOf_ok trivial) (cuts := c_k108) (f := 3000) (by decide +kernel)
def t_k6 : KT := ((6, 1, 0, 0), [(2, 0, 35, 0), (1, 1, 0, 0)], [(0, 0), (0, 143)], [], (0, 0, 0), [(35, 5, 6), (36, 0, 144), (37, 0, 144)], [], ([], []), ([], []))
def c_k6 : List CUT := []
def a_k6 : List (Nat × KT) := []
def l_k6 : LNL := []
theorem k_k6 (g : Nat) : KOK Yt (PSt g) t_k6 := verK_ok (PSt_ok g) (PSt_ax g) (dk := 0) (AN := anOf a_k6) (anOf_ok trivial) (LN := lnOf l_k6) (lnOf_ok trivial) (cuts := c_k6) (f := 3000) (by decide +kernel)
def t_k109 : KT := ((109, 1, 0, 0), [(2, 0, 38, 0), (1, 1, 0, 0)], [(0, 0), (0, 287)], [], (2, 0, 1), [], [], ([], []), ([], []))
def c_k109 : List CUT := []
def a_k109 : List (Nat × KT) := []
def l_k109 : LNL := []
theorem k_k109 (g : Nat) : KOK Yt (PSt g) t_k109 := verK_ok (PSt_ok g) (PSt_ax g) (dk := 0) (AN := anOf a_k109) (anOf_ok trivial) (LN := lnOf l_k109) (lnOf_ok trivial) (cuts := c_k109) (f := 3000) (by decide +kernel)
def t_k110 : KT := ((110, 2, 0, 0), [(2, 0, 38, 0)], [(0, 0)], [], (1, -2147483648, 2147483647), [], [], ([], []), ([], []))
def c_k110 : List CUT := [(4, [0, 1, 2], [(2, 0, 38, 0), (1, 1, 0, 0), (1, 2, 0, 0)], [(0, 0), (-2147483648, 2147483647), (0, 288)], [(2, 0, 38, 0), (1, 1, 0, 0), (1, 2, 0, 0)], [(0, [(2, 0, 38, 0)])], (0, 0), [(0, 0, 1), (1, 2, 288)])]
def a_k110 : List (Nat × KT) := [(8, t_k10), (13, t_k109)]
def l_k110 : LNL := []
theorem k_k110 (g : Nat) : KOK Yt (PSt g) t_k110 := verK_ok (PSt_ok g) (PSt_ax g) (dk := 1) (AN := anOf a_k110) (anOf_ok ⟨k_k10 g, ⟨k_k109 g, trivial⟩⟩) (LN := lnOf l_k110) (lnOf_ok trivial) (cuts := c_k110) (f := 3000) (by decide +kernel)
def t_k53 : KT := ((53, 3, 0, 0), [(2, 0, 10, 0), (2, 1, 1, 0), (1, 2, 0, 0), (1, 3, 0, 0)], [(0, 0), (0, 0), (0, 143), (0, 143)], [], (0, 0, 0), [(11, 0, 144), (12, 0, 144), (13, 0, 144)], [], ([], []), ([], []))
def c_k53 : List CUT := []
def a_k53 : List (Nat × KT) := [(10, t_k20)]
def l_k53 : LNL := []
theorem k_k53 (g : Nat) : KOK Yt (PSt g) t_k53 := verK_ok (PSt_ok g) (PSt_ax g) (dk := 2) (AN := anOf a_k53) (anOf_ok ⟨k_k20 g, trivial⟩) (LN := lnOf l_k53) (lnOf_ok trivial) (cuts := c_k53) (f := 3000) (by decide +kernel)
def t_k54 : KT := ((54, 1, 0, 0), [(2, 0, 10, 0), (2, 1, 1, 0), (1, 2, 0, 0)], [(0, 0), (0, 0), (0, 143)], [(743, [(2, 0, 10, 0), (0, 0, 0, 0), (0, 0, 0, 143)])], (0, 0, 0), [(10, 3, 4), (11, 0, 144), (12, 0, 144), (13, 0, 144), (15, 0, 144), (16, 0, 144)], [], ([], []), ([], []))
def c_k54 : List CUT := []
def a_k54 : List (Nat × KT) := []
def l_k54 : LNL := []
theorem k_k54 (g : Nat) : KOK Yt (PSt g) t_k54 := verK_ok (PSt_ok g) (PSt_ax g) (dk := 0) (AN := anOf a_k54) (anOf_ok trivial) (LN := lnOf l_k54) (lnOf_ok trivial) (cuts := c_k54) (f := 3000) (by decide +kernel)
def t_k159 : KT := ((159, 1, 0, 0), [(1, 0, 0, 0)], [(-2147483648, 2147483647)], [], (2, 0, 1), [], [], ([(0, 2, 12)], []), ([], []))
def c_k159 : List CUT := []
def a_k159 : List (Nat × KT) := []
def l_k159 : LNL := []
theorem k_k159 (g : Nat) : KOK Yt (PSt g) t_k159 := verK_ok (PSt_ok g) (PSt_ax g) (dk := 0) (AN := anOf a_k159) (anOf_ok trivial) (LN := lnOf l_k159) (lnOf_ok trivial) (cuts := c_k159) (f := 3000) (by decide +kernel)
