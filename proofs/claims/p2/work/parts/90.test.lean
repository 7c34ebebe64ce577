def tVac : KT := ((0, 0, 0, 0), [], [(1, 0)], [], (0, 0, 0), [], [], ([], []), ([], []))
theorem vac_ok (Y : Nat → TYE) (PS : PST) : KOK Y PS tVac := by
  intro d ρ α Γ M as _ _ hB _ _
  have := hB 0
  have h : (1 : Int) ≤ ρ 0 ∧ ρ 0 ≤ 0 := this
  omega
def PS0 : PST := fun _ _ _ _ => True
def dep0 : Nat → List EF := fun _ => []
def Yt : Nat → TYE := fun τ => match τ with
  | 1 => (2, 0, [(0, 1, 2, 12), (1, 2, 2, 12)], [])
  | _ => (99, 0, [], [])
theorem PS0_ok : PSok Yt PS0 dep0 := fun _ _ _ _ _ _ _ _ _ _ _ _ _ => trivial
def t10 : KT := ((10, 1, 0, 0), [(2, 0, 1, 0)], [(0, 0)], [], (1, 4, 144), [], [], ([], []), ([], []))
theorem k10 : KOK Yt PS0 t10 := verK_ok PS0_ok (dk := 0) (AN := fun _ => tVac) (fun _ => vac_ok _ _) (cuts := []) (f := 1000) (by decide +kernel)
def t19 : KT := ((19, 1, 0, 0), [(1, 0, 0, 0)], [(-2147483648, 2147483647)], [], (1, -127, 127), [], [], ([], []), ([], []))
theorem k19 : KOK Yt PS0 t19 := verK_ok PS0_ok (dk := 0) (AN := fun _ => tVac) (fun _ => vac_ok _ _) (cuts := []) (f := 1000) (by decide +kernel)
def t13 : KT := ((13, 2, 0, 0), [(2, 0, 1, 0), (1, 1, 0, 0)], [(0, 0), (-2147483648, 2147483647)], [], (2, 0, 1), [], [], ([(1, 0, 143)], []), ([], []))
theorem k13 : KOK Yt PS0 t13 := verK_ok PS0_ok (dk := 1) (AN := fun _ => t10) (fun _ => k10) (cuts := []) (f := 1000) (by decide +kernel)
