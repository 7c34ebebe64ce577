/-! what facts of the reference tell of one another -/
def t_mcol : KT := ((0, 0, 0, 0), [(2, 0, 40, 0), (2, 1, 41, 0), (1, 2, 0, 0)], [(0, 0), (0, 0), (-2147483648, 2147483647)], [(11, [(2, 0, 40, 0), (0, 0, 0, 1), (2, 1, 41, 0)]), (10, [(2, 1, 41, 0), (0, 0, 0, 1), (1, 2, 0, -4)])], (0, 0, 0), [], [], ([], [(8, [(2, 0, 40, 0), (1, 2, 0, 0)])]), ([], []))
theorem l_mcol (g : GG) : LOK Yt (PSt g) t_mcol := by
  intro ρ α Γ M as hT hB hA hP
  have g0 : Γ (α 0) = 40 := tyAt hA (i := 0) rfl
  have g1 : Γ (α 1) = 41 := tyAt hA (i := 1) rfl
  have b2 : -2147483648 ≤ ρ 2 ∧ ρ 2 ≤ 2147483647 := hB 2
  have h0 : 0 ≤ (1 : Int) ∧ M.2.2.2.1 (α 0) (1 : Int).toNat = some (α 1) := hP _ (List.mem_of_getElem? (i := 0) rfl)
  have h1 : 0 ≤ (1 : Int) ∧ M.2.2.2.2 (α 1) (1 : Int).toNat = ρ 2 + (-4) := hP _ (List.mem_of_getElem? (i := 1) rfl)
  try simp only [Int.add_zero] at h0 h1
  have key : (nwE Γ M (α 0) fun r c => ρ 2 + 0 = c) ∧ True := by
    try simp only [Int.add_zero]
    have e : M.2.2.2.2 (α 1) 1 = ρ 2 + (-4) := h1.2
    exact ⟨⟨g0, α 1, h0.2, g1, by omega⟩, trivial⟩
  exact ⟨nB, qB (key.1) (nB)⟩
def t_mrow : KT := ((0, 0, 0, 0), [(2, 0, 40, 0), (2, 1, 41, 0), (1, 2, 0, 0)], [(0, 0), (0, 0), (-2147483648, 2147483647)], [(11, [(2, 0, 40, 0), (0, 0, 0, 1), (2, 1, 41, 0)]), (10, [(2, 1, 41, 0), (0, 0, 0, 0), (1, 2, 0, -4)])], (0, 0, 0), [], [], ([], [(93, [(2, 0, 40, 0), (1, 2, 0, 0)])]), ([], []))
theorem l_mrow (g : GG) : LOK Yt (PSt g) t_mrow := by
  intro ρ α Γ M as hT hB hA hP
  have g0 : Γ (α 0) = 40 := tyAt hA (i := 0) rfl
  have g1 : Γ (α 1) = 41 := tyAt hA (i := 1) rfl
  have b2 : -2147483648 ≤ ρ 2 ∧ ρ 2 ≤ 2147483647 := hB 2
  have h0 : 0 ≤ (1 : Int) ∧ M.2.2.2.1 (α 0) (1 : Int).toNat = some (α 1) := hP _ (List.mem_of_getElem? (i := 0) rfl)
  have h1 : 0 ≤ (0 : Int) ∧ M.2.2.2.2 (α 1) (0 : Int).toNat = ρ 2 + (-4) := hP _ (List.mem_of_getElem? (i := 1) rfl)
  try simp only [Int.add_zero] at h0 h1
  have key : (nwE Γ M (α 0) fun r c => ρ 2 + 0 = r) ∧ True := by
    try simp only [Int.add_zero]
    have e : M.2.2.2.2 (α 1) 0 = ρ 2 + (-4) := h1.2
    exact ⟨⟨g0, α 1, h0.2, g1, by omega⟩, trivial⟩
  exact ⟨nB, qB (key.1) (nB)⟩
def t_mman : KT := ((0, 0, 0, 0), [(2, 0, 40, 0), (1, 1, 0, 0), (1, 2, 0, 0), (1, 3, 0, 0)], [(0, 0), (2, 12), (2, 12), (-2147483648, 2147483647)], [(93, [(2, 0, 40, 0), (1, 1, 0, 0)]), (8, [(2, 0, 40, 0), (1, 2, 0, 0)]), (25, [(1, 1, 0, 0), (1, 2, 0, 0), (1, 3, 0, 0)])], (0, 0, 0), [], [], ([(3, 4, 144)], [(94, [(2, 0, 40, 0), (1, 3, 0, 0)])]), ([], []))
theorem l_mman (g : GG) : LOK Yt (PSt g) t_mman := by
  intro ρ α Γ M as hT hB hA hP
  have g0 : Γ (α 0) = 40 := tyAt hA (i := 0) rfl
  have b1 : 2 ≤ ρ 1 ∧ ρ 1 ≤ 12 := hB 1
  have b2 : 2 ≤ ρ 2 ∧ ρ 2 ≤ 12 := hB 2
  have b3 : -2147483648 ≤ ρ 3 ∧ ρ 3 ≤ 2147483647 := hB 3
  have h0 : nwE Γ M (α 0) fun r c => ρ 1 + 0 = r := hP _ (List.mem_of_getElem? (i := 0) rfl)
  have h1 : nwE Γ M (α 0) fun r c => ρ 2 + 0 = c := hP _ (List.mem_of_getElem? (i := 1) rfl)
  have h2 : ρ 3 + 0 = wI ((ρ 1 + 0) * (ρ 2 + 0)) := hP _ (List.mem_of_getElem? (i := 2) rfl)
  try simp only [Int.add_zero] at h0 h1 h2
  have key : (4 ≤ ρ 3 ∧ ρ 3 ≤ 144) ∧ (nwE Γ M (α 0) fun r c => ρ 3 + 0 = r * c) ∧ True := by
    try simp only [Int.add_zero]
    have l := rc_bd b1 b2
    rw [wI_id (by unfold inI; omega)] at h2
    exact ⟨by omega, (h0.and h1).imp fun r c q => by rw [← q.1, ← q.2]; exact h2, trivial⟩
  exact ⟨qB (key.1) (nB), qB (key.2.1) (nB)⟩
def t_mpx : KT := ((0, 0, 0, 0), [(2, 0, 40, 0), (1, 1, 0, 0), (1, 2, 0, 0)], [(0, 0), (0, 2147483647), (-2147483648, 2147483647)], [(94, [(2, 0, 40, 0), (1, 2, 0, 0)]), (21, [(1, 1, 0, 0), (1, 2, 0, 0)])], (0, 0, 0), [], [], ([(1, 0, 143)], [(95, [(2, 0, 40, 0), (1, 1, 0, 0)])]), ([], []))
theorem l_mpx (g : GG) : LOK Yt (PSt g) t_mpx := by
  intro ρ α Γ M as hT hB hA hP
  have g0 : Γ (α 0) = 40 := tyAt hA (i := 0) rfl
  have b1 : 0 ≤ ρ 1 ∧ ρ 1 ≤ 2147483647 := hB 1
  have b2 : -2147483648 ≤ ρ 2 ∧ ρ 2 ≤ 2147483647 := hB 2
  have h0 : nwE Γ M (α 0) fun r c => ρ 2 + 0 = r * c := hP _ (List.mem_of_getElem? (i := 0) rfl)
  have h1 : ρ 1 + 0 < ρ 2 + 0 := hP _ (List.mem_of_getElem? (i := 1) rfl)
  try simp only [Int.add_zero] at h0 h1
  have key : (0 ≤ ρ 1 ∧ ρ 1 ≤ 143) ∧ (nwE Γ M (α 0) fun r c => isPx r c (ρ 1 + 0)) ∧ True := by
    try simp only [Int.add_zero]
    have e : ρ 1 < 144 := (nw1 hT h0).out fun r c ⟨hr, hc, q⟩ => by have := rc_bd hr hc; omega
    exact ⟨⟨b1.1, by omega⟩, h0.imp fun r c q => ⟨b1.1, by rw [← q]; exact h1⟩, trivial⟩
  exact ⟨qB (key.1) (nB), qB (key.2.1) (nB)⟩
def t_mrw : KT := ((0, 0, 0, 0), [(2, 0, 40, 0), (1, 1, 0, 0), (1, 2, 0, 0), (1, 3, 0, 0)], [(0, 0), (0, 2147483647), (-2147483648, 2147483647), (-2147483648, 2147483647)], [(8, [(2, 0, 40, 0), (1, 2, 0, 0)]), (26, [(1, 1, 0, 0), (1, 2, 0, 0), (1, 3, 0, 0)])], (0, 0, 0), [], [], ([], [(9, [(2, 0, 40, 0), (1, 1, 0, 0), (1, 3, 0, 0)])]), ([], []))
theorem l_mrw (g : GG) : LOK Yt (PSt g) t_mrw := by
  intro ρ α Γ M as hT hB hA hP
  have g0 : Γ (α 0) = 40 := tyAt hA (i := 0) rfl
  have b1 : 0 ≤ ρ 1 ∧ ρ 1 ≤ 2147483647 := hB 1
  have b2 : -2147483648 ≤ ρ 2 ∧ ρ 2 ≤ 2147483647 := hB 2
  have b3 : -2147483648 ≤ ρ 3 ∧ ρ 3 ≤ 2147483647 := hB 3
  have h0 : nwE Γ M (α 0) fun r c => ρ 2 + 0 = c := hP _ (List.mem_of_getElem? (i := 0) rfl)
  have h1 : ρ 3 + 0 = wI ((ρ 1 + 0 : Int).tdiv (ρ 2 + 0)) := hP _ (List.mem_of_getElem? (i := 1) rfl)
  try simp only [Int.add_zero] at h0 h1
  have key : (nwE Γ M (α 0) fun r c => ρ 3 + 0 = (ρ 1 + 0) / c) ∧ True := by
    try simp only [Int.add_zero]
    exact ⟨(nw1 hT h0).imp fun r c ⟨hr, hc, q⟩ => by
      subst q
      obtain ⟨d1, d2, d3, d4, d5, d6, d7⟩ := dm b1.1 (show 0 < ρ 2 by omega)
      rw [d1] at h1
      rw [wI_id (by unfold inI; omega)] at h1
      exact h1, trivial⟩
  exact ⟨nB, qB (key.1) (nB)⟩
def t_mcl : KT := ((0, 0, 0, 0), [(2, 0, 40, 0), (1, 1, 0, 0), (1, 2, 0, 0), (1, 3, 0, 0)], [(0, 0), (0, 2147483647), (-2147483648, 2147483647), (-2147483648, 2147483647)], [(8, [(2, 0, 40, 0), (1, 2, 0, 0)]), (27, [(1, 1, 0, 0), (1, 2, 0, 0), (1, 3, 0, 0)])], (0, 0, 0), [], [], ([], [(96, [(2, 0, 40, 0), (1, 1, 0, 0), (1, 3, 0, 0)])]), ([], []))
theorem l_mcl (g : GG) : LOK Yt (PSt g) t_mcl := by
  intro ρ α Γ M as hT hB hA hP
  have g0 : Γ (α 0) = 40 := tyAt hA (i := 0) rfl
  have b1 : 0 ≤ ρ 1 ∧ ρ 1 ≤ 2147483647 := hB 1
  have b2 : -2147483648 ≤ ρ 2 ∧ ρ 2 ≤ 2147483647 := hB 2
  have b3 : -2147483648 ≤ ρ 3 ∧ ρ 3 ≤ 2147483647 := hB 3
  have h0 : nwE Γ M (α 0) fun r c => ρ 2 + 0 = c := hP _ (List.mem_of_getElem? (i := 0) rfl)
  have h1 : ρ 3 + 0 = (ρ 1 + 0 : Int).tmod (ρ 2 + 0) := hP _ (List.mem_of_getElem? (i := 1) rfl)
  try simp only [Int.add_zero] at h0 h1
  have key : (nwE Γ M (α 0) fun r c => ρ 3 + 0 = (ρ 1 + 0) % c) ∧ True := by
    try simp only [Int.add_zero]
    exact ⟨(nw1 hT h0).imp fun r c ⟨hr, hc, q⟩ => by
      subst q
      obtain ⟨d1, d2, d3, d4, d5, d6, d7⟩ := dm b1.1 (show 0 < ρ 2 by omega)
      rw [d2] at h1
      exact h1, trivial⟩
  exact ⟨nB, qB (key.1) (nB)⟩
def t_nbn : KT := ((0, 0, 0, 0), [(2, 0, 40, 0), (1, 1, 0, 0), (1, 2, 0, 0)], [(0, 0), (0, 143), (-2147483648, 2147483647)], [], (0, 0, 0), [], [], ([], [(20, [(2, 0, 40, 0), (1, 1, 0, 0), (1, 2, 0, 0), (0, 0, 0, -1)])]), ([], []))
theorem l_nbn (g : GG) : LOK Yt (PSt g) t_nbn := by
  intro ρ α Γ M as hT hB hA hP
  have g0 : Γ (α 0) = 40 := tyAt hA (i := 0) rfl
  have b1 : 0 ≤ ρ 1 ∧ ρ 1 ≤ 143 := hB 1
  have b2 : -2147483648 ≤ ρ 2 ∧ ρ 2 ≤ 2147483647 := hB 2
  have key : (nwE Γ M (α 0) fun r c => (-1) ≠ -1 → isPx r c ((-1)) ∧ nbQ r c (ρ 1 + 0) (ρ 2 + 0)) ∧ True := by
    try simp only [Int.add_zero]
    exact ⟨(nw_ex hT g0).imp fun r c _ h => absurd rfl h, trivial⟩
  exact ⟨nB, qB (key.1) (nB)⟩
def t_nb0 : KT := ((0, 0, 0, 0), [(2, 0, 40, 0), (1, 1, 0, 0), (1, 2, 0, 0), (1, 3, 0, 0), (1, 4, 0, 0)], [(0, 0), (0, 143), (0, 0), (-2147483648, 2147483647), (-2147483648, 2147483647)], [(95, [(2, 0, 40, 0), (1, 1, 0, 0)]), (96, [(2, 0, 40, 0), (1, 1, 0, 0), (1, 3, 0, 0)]), (21, [(1, 3, 0, 0), (1, 4, 0, -1)]), (8, [(2, 0, 40, 0), (1, 4, 0, 0)])], (0, 0, 0), [], [], ([(1, 0, 142)], [(20, [(2, 0, 40, 0), (1, 1, 0, 0), (1, 2, 0, 0), (1, 1, 0, 1)])]), ([], []))
theorem l_nb0 (g : GG) : LOK Yt (PSt g) t_nb0 := by
  intro ρ α Γ M as hT hB hA hP
  have g0 : Γ (α 0) = 40 := tyAt hA (i := 0) rfl
  have b1 : 0 ≤ ρ 1 ∧ ρ 1 ≤ 143 := hB 1
  have b2 : 0 ≤ ρ 2 ∧ ρ 2 ≤ 0 := hB 2
  have b3 : -2147483648 ≤ ρ 3 ∧ ρ 3 ≤ 2147483647 := hB 3
  have b4 : -2147483648 ≤ ρ 4 ∧ ρ 4 ≤ 2147483647 := hB 4
  have h0 : nwE Γ M (α 0) fun r c => isPx r c (ρ 1 + 0) := hP _ (List.mem_of_getElem? (i := 0) rfl)
  have h1 : nwE Γ M (α 0) fun r c => ρ 3 + 0 = (ρ 1 + 0) % c := hP _ (List.mem_of_getElem? (i := 1) rfl)
  have h2 : ρ 3 + 0 < ρ 4 + (-1) := hP _ (List.mem_of_getElem? (i := 2) rfl)
  have h3 : nwE Γ M (α 0) fun r c => ρ 4 + 0 = c := hP _ (List.mem_of_getElem? (i := 3) rfl)
  try simp only [Int.add_zero] at h0 h1 h2 h3
  have key : (0 ≤ ρ 1 ∧ ρ 1 ≤ 142) ∧ (nwE Γ M (α 0) fun r c => ρ 1 + 1 ≠ -1 → isPx r c (ρ 1 + 1) ∧ nbQ r c (ρ 1 + 0) (ρ 2 + 0)) ∧ True := by
    try simp only [Int.add_zero]
    have key2 : nwE Γ M (α 0) fun r c => ρ 1 + 1 < 144 ∧ (isPx r c (ρ 1 + 1) ∧ nbQ r c (ρ 1) (ρ 2)) := (nw1 hT ((h0.and h1).and h3)).imp fun r c ⟨hr, hc, ⟨⟨q1, q2⟩, q3⟩, q4⟩ => by
      subst q4
      obtain ⟨-, -, y3, y4, y5, y6, y7⟩ := dm (p := ρ 1) b1.1 (show 0 < ρ 4 by omega)
      have z := row_lt (show 0 < ρ 4 by omega) q2
      have l := low_lt (k := 0) b1.1 (show 0 < ρ 4 by omega) (show ρ 1 / ρ 4 ≤ r - 1 - 0 by omega) (by decide)
      have hrc := rc_bd hr hc
      exact ⟨by omega, ⟨by omega, by omega⟩, fun _ => by omega, fun h => by omega, fun h => by omega, fun h => by omega⟩
    have e : ρ 1 + 1 < 144 := key2.out fun r c q => q.1
    exact ⟨⟨b1.1, by omega⟩, key2.imp fun r c q _ => q.2, trivial⟩
  exact ⟨qB (key.1) (nB), qB (key.2.1) (nB)⟩
def t_nb1 : KT := ((0, 0, 0, 0), [(2, 0, 40, 0), (1, 1, 0, 0), (1, 2, 0, 0), (1, 3, 0, 0), (1, 4, 0, 0), (1, 5, 0, 0), (1, 6, 0, 0)], [(0, 0), (0, 143), (1, 1), (-2147483648, 2147483647), (-2147483648, 2147483647), (2, 12), (-2147483648, 2147483647)], [(95, [(2, 0, 40, 0), (1, 1, 0, 0)]), (9, [(2, 0, 40, 0), (1, 1, 0, 0), (1, 3, 0, 0)]), (21, [(1, 3, 0, 0), (1, 4, 0, -1)]), (93, [(2, 0, 40, 0), (1, 4, 0, 0)]), (8, [(2, 0, 40, 0), (1, 5, 0, 0)]), (23, [(1, 1, 0, 0), (1, 5, 0, 0), (1, 6, 0, 0)])], (0, 0, 0), [], [], ([(6, 0, 143)], [(20, [(2, 0, 40, 0), (1, 1, 0, 0), (1, 2, 0, 0), (1, 6, 0, 0)])]), ([], []))
theorem l_nb1 (g : GG) : LOK Yt (PSt g) t_nb1 := by
  intro ρ α Γ M as hT hB hA hP
  have g0 : Γ (α 0) = 40 := tyAt hA (i := 0) rfl
  have b1 : 0 ≤ ρ 1 ∧ ρ 1 ≤ 143 := hB 1
  have b2 : 1 ≤ ρ 2 ∧ ρ 2 ≤ 1 := hB 2
  have b3 : -2147483648 ≤ ρ 3 ∧ ρ 3 ≤ 2147483647 := hB 3
  have b4 : -2147483648 ≤ ρ 4 ∧ ρ 4 ≤ 2147483647 := hB 4
  have b5 : 2 ≤ ρ 5 ∧ ρ 5 ≤ 12 := hB 5
  have b6 : -2147483648 ≤ ρ 6 ∧ ρ 6 ≤ 2147483647 := hB 6
  have h0 : nwE Γ M (α 0) fun r c => isPx r c (ρ 1 + 0) := hP _ (List.mem_of_getElem? (i := 0) rfl)
  have h1 : nwE Γ M (α 0) fun r c => ρ 3 + 0 = (ρ 1 + 0) / c := hP _ (List.mem_of_getElem? (i := 1) rfl)
  have h2 : ρ 3 + 0 < ρ 4 + (-1) := hP _ (List.mem_of_getElem? (i := 2) rfl)
  have h3 : nwE Γ M (α 0) fun r c => ρ 4 + 0 = r := hP _ (List.mem_of_getElem? (i := 3) rfl)
  have h4 : nwE Γ M (α 0) fun r c => ρ 5 + 0 = c := hP _ (List.mem_of_getElem? (i := 4) rfl)
  have h5 : ρ 6 + 0 = wI ((ρ 1 + 0) + (ρ 5 + 0)) := hP _ (List.mem_of_getElem? (i := 5) rfl)
  try simp only [Int.add_zero] at h0 h1 h2 h3 h4 h5
  have key : (0 ≤ ρ 6 ∧ ρ 6 ≤ 143) ∧ (nwE Γ M (α 0) fun r c => ρ 6 + 0 ≠ -1 → isPx r c (ρ 6 + 0) ∧ nbQ r c (ρ 1 + 0) (ρ 2 + 0)) ∧ True := by
    try simp only [Int.add_zero]
    rw [wI_id (by unfold inI; omega)] at h5
    have key2 : nwE Γ M (α 0) fun r c => ρ 6 < 144 ∧ (isPx r c (ρ 6) ∧ nbQ r c (ρ 1) (ρ 2)) := (nw1 hT (((h0.and h1).and h3).and h4)).imp fun r c ⟨hr, hc, ⟨⟨⟨q1, q2⟩, q3⟩, q4⟩, q5⟩ => by
      subst q5
      subst q4
      obtain ⟨-, -, y3, y4, y5, y6, y7⟩ := dm (p := ρ 1) b1.1 (show 0 < ρ 5 by omega)
      have l := low_lt (r := ρ 4) (k := 1) b1.1 (show 0 < ρ 5 by omega) (show ρ 1 / ρ 5 ≤ ρ 4 - 1 - 1 by omega) (by decide)
      have hrc := rc_bd hr hc
      exact ⟨by omega, ⟨by omega, by omega⟩, fun h => by omega, fun _ => by omega, fun h => by omega, fun h => by omega⟩
    have e : ρ 6 < 144 := key2.out fun r c q => q.1
    exact ⟨⟨by omega, by omega⟩, key2.imp fun r c q _ => q.2, trivial⟩
  exact ⟨qB (key.1) (nB), qB (key.2.1) (nB)⟩
def t_nb2 : KT := ((0, 0, 0, 0), [(2, 0, 40, 0), (1, 1, 0, 0), (1, 2, 0, 0), (1, 3, 0, 0)], [(0, 0), (0, 143), (2, 2), (1, 2147483647)], [(95, [(2, 0, 40, 0), (1, 1, 0, 0)]), (96, [(2, 0, 40, 0), (1, 1, 0, 0), (1, 3, 0, 0)])], (0, 0, 0), [], [], ([(1, 1, 143)], [(20, [(2, 0, 40, 0), (1, 1, 0, 0), (1, 2, 0, 0), (1, 1, 0, -1)])]), ([], []))
theorem l_nb2 (g : GG) : LOK Yt (PSt g) t_nb2 := by
  intro ρ α Γ M as hT hB hA hP
  have g0 : Γ (α 0) = 40 := tyAt hA (i := 0) rfl
  have b1 : 0 ≤ ρ 1 ∧ ρ 1 ≤ 143 := hB 1
  have b2 : 2 ≤ ρ 2 ∧ ρ 2 ≤ 2 := hB 2
  have b3 : 1 ≤ ρ 3 ∧ ρ 3 ≤ 2147483647 := hB 3
  have h0 : nwE Γ M (α 0) fun r c => isPx r c (ρ 1 + 0) := hP _ (List.mem_of_getElem? (i := 0) rfl)
  have h1 : nwE Γ M (α 0) fun r c => ρ 3 + 0 = (ρ 1 + 0) % c := hP _ (List.mem_of_getElem? (i := 1) rfl)
  try simp only [Int.add_zero] at h0 h1
  have key : (1 ≤ ρ 1 ∧ ρ 1 ≤ 143) ∧ (nwE Γ M (α 0) fun r c => ρ 1 + (-1) ≠ -1 → isPx r c (ρ 1 + (-1)) ∧ nbQ r c (ρ 1 + 0) (ρ 2 + 0)) ∧ True := by
    try simp only [Int.add_zero]
    have key2 : nwE Γ M (α 0) fun r c => 1 ≤ ρ 1 ∧ (isPx r c (ρ 1 + (-1)) ∧ nbQ r c (ρ 1) (ρ 2)) := (nw1 hT (h0.and h1)).imp fun r c ⟨hr, hc, ⟨q1, q2⟩, q3⟩ => by
      obtain ⟨-, -, y3, y4, y5, y6, y7⟩ := dm (p := ρ 1) b1.1 (show 0 < c by omega)
      have hp : 1 ≤ ρ 1 := by
        by_cases h : ρ 1 = 0
        · rw [h, Int.zero_emod] at q3
          omega
        · omega
      exact ⟨hp, ⟨by omega, by omega⟩, fun h => by omega, fun h => by omega, fun _ => by omega, fun h => by omega⟩
    have e : 1 ≤ ρ 1 := key2.out fun r c q => q.1
    exact ⟨⟨e, b1.2⟩, key2.imp fun r c q _ => q.2, trivial⟩
  exact ⟨qB (key.1) (nB), qB (key.2.1) (nB)⟩
def t_nb3 : KT := ((0, 0, 0, 0), [(2, 0, 40, 0), (1, 1, 0, 0), (1, 2, 0, 0), (1, 3, 0, 0), (1, 4, 0, 0), (1, 5, 0, 0)], [(0, 0), (0, 143), (3, 3), (1, 2147483647), (2, 12), (-2147483648, 2147483647)], [(95, [(2, 0, 40, 0), (1, 1, 0, 0)]), (9, [(2, 0, 40, 0), (1, 1, 0, 0), (1, 3, 0, 0)]), (8, [(2, 0, 40, 0), (1, 4, 0, 0)]), (24, [(1, 1, 0, 0), (1, 4, 0, 0), (1, 5, 0, 0)])], (0, 0, 0), [], [], ([(5, 0, 143)], [(20, [(2, 0, 40, 0), (1, 1, 0, 0), (1, 2, 0, 0), (1, 5, 0, 0)])]), ([], []))
theorem l_nb3 (g : GG) : LOK Yt (PSt g) t_nb3 := by
  intro ρ α Γ M as hT hB hA hP
  have g0 : Γ (α 0) = 40 := tyAt hA (i := 0) rfl
  have b1 : 0 ≤ ρ 1 ∧ ρ 1 ≤ 143 := hB 1
  have b2 : 3 ≤ ρ 2 ∧ ρ 2 ≤ 3 := hB 2
  have b3 : 1 ≤ ρ 3 ∧ ρ 3 ≤ 2147483647 := hB 3
  have b4 : 2 ≤ ρ 4 ∧ ρ 4 ≤ 12 := hB 4
  have b5 : -2147483648 ≤ ρ 5 ∧ ρ 5 ≤ 2147483647 := hB 5
  have h0 : nwE Γ M (α 0) fun r c => isPx r c (ρ 1 + 0) := hP _ (List.mem_of_getElem? (i := 0) rfl)
  have h1 : nwE Γ M (α 0) fun r c => ρ 3 + 0 = (ρ 1 + 0) / c := hP _ (List.mem_of_getElem? (i := 1) rfl)
  have h2 : nwE Γ M (α 0) fun r c => ρ 4 + 0 = c := hP _ (List.mem_of_getElem? (i := 2) rfl)
  have h3 : ρ 5 + 0 = wI ((ρ 1 + 0) - (ρ 4 + 0)) := hP _ (List.mem_of_getElem? (i := 3) rfl)
  try simp only [Int.add_zero] at h0 h1 h2 h3
  have key : (0 ≤ ρ 5 ∧ ρ 5 ≤ 143) ∧ (nwE Γ M (α 0) fun r c => ρ 5 + 0 ≠ -1 → isPx r c (ρ 5 + 0) ∧ nbQ r c (ρ 1 + 0) (ρ 2 + 0)) ∧ True := by
    try simp only [Int.add_zero]
    rw [wI_id (by unfold inI; omega)] at h3
    have key2 : nwE Γ M (α 0) fun r c => ρ 4 ≤ ρ 1 ∧ (isPx r c (ρ 5) ∧ nbQ r c (ρ 1) (ρ 2)) := (nw1 hT ((h0.and h1).and h2)).imp fun r c ⟨hr, hc, ⟨⟨q1, q2⟩, q3⟩, q4⟩ => by
      subst q4
      obtain ⟨-, -, y3, y4, y5, y6, y7⟩ := dm (p := ρ 1) b1.1 (show 0 < ρ 4 by omega)
      have l : ρ 4 * 1 ≤ ρ 4 * (ρ 1 / ρ 4) := Int.mul_le_mul_of_nonneg_left (by omega) (by omega)
      exact ⟨by omega, ⟨by omega, by omega⟩, fun h => by omega, fun h => by omega, fun h => by omega, fun _ => by omega⟩
    have e : ρ 4 ≤ ρ 1 := key2.out fun r c q => q.1
    exact ⟨⟨by omega, by omega⟩, key2.imp fun r c q _ => q.2, trivial⟩
  exact ⟨qB (key.1) (nB), qB (key.2.1) (nB)⟩
def t_et2 : KT := ((0, 0, 0, 0), [(2, 0, 40, 0), (1, 1, 0, 0), (1, 2, 0, 0)], [(0, 0), (0, 143), (2, 2)], [(28, [(2, 0, 40, 0), (1, 1, 0, 0), (1, 2, 0, 0)])], (0, 0, 0), [], [], ([(1, 1, 143)], []), ([], []))
theorem l_et2 (g : GG) : LOK Yt (PSt g) t_et2 := by
  intro ρ α Γ M as hT hB hA hP
  have g0 : Γ (α 0) = 40 := tyAt hA (i := 0) rfl
  have b1 : 0 ≤ ρ 1 ∧ ρ 1 ≤ 143 := hB 1
  have b2 : 2 ≤ ρ 2 ∧ ρ 2 ≤ 2 := hB 2
  have h0 : nwE Γ M (α 0) fun r c => nbQ r c (ρ 1 + 0) (ρ 2 + 0) := hP _ (List.mem_of_getElem? (i := 0) rfl)
  try simp only [Int.add_zero] at h0
  have key : (1 ≤ ρ 1 ∧ ρ 1 ≤ 143) ∧ True := by
    try simp only [Int.add_zero]
    have e : 1 ≤ ρ 1 := (nw1 hT h0).out fun r c ⟨hr, hc, q1, q2, q3, q4⟩ => by
      have q3 := q3 (by omega)
      by_cases h : ρ 1 = 0
      · rw [h, Int.zero_emod] at q3
        omega
      · omega
    exact ⟨⟨e, b1.2⟩, trivial⟩
  exact ⟨qB (key.1) (nB), nB⟩
def t_et3 : KT := ((0, 0, 0, 0), [(2, 0, 40, 0), (1, 1, 0, 0), (1, 2, 0, 0), (1, 3, 0, 0), (1, 4, 0, 0)], [(0, 0), (0, 143), (3, 3), (2, 12), (-2147483648, 2147483647)], [(28, [(2, 0, 40, 0), (1, 1, 0, 0), (1, 2, 0, 0)]), (8, [(2, 0, 40, 0), (1, 3, 0, 0)]), (24, [(1, 1, 0, 0), (1, 3, 0, 0), (1, 4, 0, 0)])], (0, 0, 0), [], [], ([(4, 0, 143)], []), ([], []))
theorem l_et3 (g : GG) : LOK Yt (PSt g) t_et3 := by
  intro ρ α Γ M as hT hB hA hP
  have g0 : Γ (α 0) = 40 := tyAt hA (i := 0) rfl
  have b1 : 0 ≤ ρ 1 ∧ ρ 1 ≤ 143 := hB 1
  have b2 : 3 ≤ ρ 2 ∧ ρ 2 ≤ 3 := hB 2
  have b3 : 2 ≤ ρ 3 ∧ ρ 3 ≤ 12 := hB 3
  have b4 : -2147483648 ≤ ρ 4 ∧ ρ 4 ≤ 2147483647 := hB 4
  have h0 : nwE Γ M (α 0) fun r c => nbQ r c (ρ 1 + 0) (ρ 2 + 0) := hP _ (List.mem_of_getElem? (i := 0) rfl)
  have h1 : nwE Γ M (α 0) fun r c => ρ 3 + 0 = c := hP _ (List.mem_of_getElem? (i := 1) rfl)
  have h2 : ρ 4 + 0 = wI ((ρ 1 + 0) - (ρ 3 + 0)) := hP _ (List.mem_of_getElem? (i := 2) rfl)
  try simp only [Int.add_zero] at h0 h1 h2
  have key : (0 ≤ ρ 4 ∧ ρ 4 ≤ 143) ∧ True := by
    try simp only [Int.add_zero]
    rw [wI_id (by unfold inI; omega)] at h2
    have e : ρ 3 ≤ ρ 1 := (h0.and h1).out fun r c ⟨⟨q1, q2, q3, q4⟩, q5⟩ => by have := q4 (by omega); omega
    exact ⟨⟨by omega, by omega⟩, trivial⟩
  exact ⟨qB (key.1) (nB), nB⟩
def t_lebr : KT := ((0, 0, 0, 0), [(1, 0, 0, 0), (1, 1, 0, 0)], [(-2147483648, 2147483647), (0, 143)], [(6, [(1, 0, 0, 0), (1, 1, 0, 0)])], (0, 0, 0), [], [], ([(0, -2147483648, 143)], []), ([], []))
theorem l_lebr (g : GG) : LOK Yt (PSt g) t_lebr := by
  intro ρ α Γ M as hT hB hA hP
  have b0 : -2147483648 ≤ ρ 0 ∧ ρ 0 ≤ 2147483647 := hB 0
  have b1 : 0 ≤ ρ 1 ∧ ρ 1 ≤ 143 := hB 1
  have h0 : ρ 0 + 0 ≤ ρ 1 + 0 := hP _ (List.mem_of_getElem? (i := 0) rfl)
  try simp only [Int.add_zero] at h0
  have key : (-2147483648 ≤ ρ 0 ∧ ρ 0 ≤ 143) ∧ True := by
    try simp only [Int.add_zero]
    exact ⟨⟨b0.1, by omega⟩, trivial⟩
  exact ⟨qB (key.1) (nB), nB⟩
def t_acto : KT := ((0, 0, 0, 0), [(1, 0, 0, 0), (1, 1, 0, 0), (1, 2, 0, 0), (1, 3, 0, 0), (1, 4, 0, 0)], [(0, 11), (-2147483648, 2147483647), (0, 2313), (-2147483648, 2147483647), (-2147483648, 2147483647)], [(25, [(1, 0, 0, 0), (0, 0, 0, 2314), (1, 1, 0, 0)]), (23, [(1, 1, 0, 0), (1, 2, 0, 0), (1, 3, 0, 0)]), (7, [(0, 0, 0, 41), (1, 2, 0, 0), (1, 4, 0, 0)])], (0, 0, 0), [], [], ([(3, 0, 27767)], [(7, [(0, 0, 0, 43), (1, 3, 0, 0), (1, 4, 0, 0)])]), ([], []))
theorem l_acto (g : GG) : LOK Yt (PSt g) t_acto := by
  intro ρ α Γ M as hT hB hA hP
  have b0 : 0 ≤ ρ 0 ∧ ρ 0 ≤ 11 := hB 0
  have b1 : -2147483648 ≤ ρ 1 ∧ ρ 1 ≤ 2147483647 := hB 1
  have b2 : 0 ≤ ρ 2 ∧ ρ 2 ≤ 2313 := hB 2
  have b3 : -2147483648 ≤ ρ 3 ∧ ρ 3 ≤ 2147483647 := hB 3
  have b4 : -2147483648 ≤ ρ 4 ∧ ρ 4 ≤ 2147483647 := hB 4
  have h0 : ρ 1 + 0 = wI ((ρ 0 + 0) * (2314)) := hP _ (List.mem_of_getElem? (i := 0) rfl)
  have h1 : ρ 3 + 0 = wI ((ρ 1 + 0) + (ρ 2 + 0)) := hP _ (List.mem_of_getElem? (i := 1) rfl)
  have h2 : 0 ≤ (41 : Int) ∧ ∀ r ∈ (Yt (41 : Int).toNat).2.2.1, (r.1 : Int) ≤ ρ 2 + 0 → ρ 2 + 0 < (r.2.1 : Int) → r.2.2.1 ≤ ρ 4 + 0 ∧ ρ 4 + 0 ≤ r.2.2.2 := hP _ (List.mem_of_getElem? (i := 2) rfl)
  try simp only [Int.add_zero] at h0 h1 h2
  have key : (0 ≤ ρ 3 ∧ ρ 3 ≤ 27767) ∧ (0 ≤ (43 : Int) ∧ ∀ r ∈ (Yt (43 : Int).toNat).2.2.1, (r.1 : Int) ≤ ρ 3 + 0 → ρ 3 + 0 < (r.2.1 : Int) → r.2.2.1 ≤ ρ 4 + 0 ∧ ρ 4 + 0 ≤ r.2.2.2) ∧ True := by
    try simp only [Int.add_zero]
    rw [wI_id (by unfold inI; omega)] at h0
    rw [h0, wI_id (by unfold inI; omega)] at h1
    exact ⟨⟨by omega, by omega⟩, ⟨by decide, ac_to b0 b2 h1 h2.2⟩, trivial⟩
  exact ⟨qB (key.1) (nB), qB (key.2.1) (nB)⟩
def t_acfr0 : KT := ((0, 0, 0, 0), [(1, 0, 0, 0), (1, 1, 0, 0), (1, 2, 0, 0), (1, 3, 0, 0)], [(0, 11), (-2147483648, 2147483647), (0, 2313), (-2147483648, 2147483647)], [(25, [(1, 0, 0, 0), (0, 0, 0, 2314), (1, 1, 0, 0)]), (23, [(1, 1, 0, 0), (1, 2, 0, 0), (1, 3, 0, 0)])], (0, 0, 0), [], [], ([(3, 0, 27767)], []), ([], []))
theorem l_acfr0 (g : GG) : LOK Yt (PSt g) t_acfr0 := by
  intro ρ α Γ M as hT hB hA hP
  have b0 : 0 ≤ ρ 0 ∧ ρ 0 ≤ 11 := hB 0
  have b1 : -2147483648 ≤ ρ 1 ∧ ρ 1 ≤ 2147483647 := hB 1
  have b2 : 0 ≤ ρ 2 ∧ ρ 2 ≤ 2313 := hB 2
  have b3 : -2147483648 ≤ ρ 3 ∧ ρ 3 ≤ 2147483647 := hB 3
  have h0 : ρ 1 + 0 = wI ((ρ 0 + 0) * (2314)) := hP _ (List.mem_of_getElem? (i := 0) rfl)
  have h1 : ρ 3 + 0 = wI ((ρ 1 + 0) + (ρ 2 + 0)) := hP _ (List.mem_of_getElem? (i := 1) rfl)
  try simp only [Int.add_zero] at h0 h1
  have key : (0 ≤ ρ 3 ∧ ρ 3 ≤ 27767) ∧ True := by
    try simp only [Int.add_zero]
    rw [wI_id (by unfold inI; omega)] at h0
    rw [h0, wI_id (by unfold inI; omega)] at h1
    exact ⟨⟨by omega, by omega⟩, trivial⟩
  exact ⟨qB (key.1) (nB), nB⟩
def t_acfr : KT := ((0, 0, 0, 0), [(1, 0, 0, 0), (1, 1, 0, 0), (1, 2, 0, 0), (1, 3, 0, 0), (1, 4, 0, 0)], [(0, 11), (-2147483648, 2147483647), (0, 2313), (-2147483648, 2147483647), (-2147483648, 2147483647)], [(25, [(1, 0, 0, 0), (0, 0, 0, 2314), (1, 1, 0, 0)]), (23, [(1, 1, 0, 0), (1, 2, 0, 0), (1, 3, 0, 0)]), (7, [(0, 0, 0, 43), (1, 3, 0, 0), (1, 4, 0, 0)])], (0, 0, 0), [], [], ([], [(7, [(0, 0, 0, 41), (1, 2, 0, 0), (1, 4, 0, 0)])]), ([], []))
theorem l_acfr (g : GG) : LOK Yt (PSt g) t_acfr := by
  intro ρ α Γ M as hT hB hA hP
  have b0 : 0 ≤ ρ 0 ∧ ρ 0 ≤ 11 := hB 0
  have b1 : -2147483648 ≤ ρ 1 ∧ ρ 1 ≤ 2147483647 := hB 1
  have b2 : 0 ≤ ρ 2 ∧ ρ 2 ≤ 2313 := hB 2
  have b3 : -2147483648 ≤ ρ 3 ∧ ρ 3 ≤ 2147483647 := hB 3
  have b4 : -2147483648 ≤ ρ 4 ∧ ρ 4 ≤ 2147483647 := hB 4
  have h0 : ρ 1 + 0 = wI ((ρ 0 + 0) * (2314)) := hP _ (List.mem_of_getElem? (i := 0) rfl)
  have h1 : ρ 3 + 0 = wI ((ρ 1 + 0) + (ρ 2 + 0)) := hP _ (List.mem_of_getElem? (i := 1) rfl)
  have h2 : 0 ≤ (43 : Int) ∧ ∀ r ∈ (Yt (43 : Int).toNat).2.2.1, (r.1 : Int) ≤ ρ 3 + 0 → ρ 3 + 0 < (r.2.1 : Int) → r.2.2.1 ≤ ρ 4 + 0 ∧ ρ 4 + 0 ≤ r.2.2.2 := hP _ (List.mem_of_getElem? (i := 2) rfl)
  try simp only [Int.add_zero] at h0 h1 h2
  have key : (0 ≤ (41 : Int) ∧ ∀ r ∈ (Yt (41 : Int).toNat).2.2.1, (r.1 : Int) ≤ ρ 2 + 0 → ρ 2 + 0 < (r.2.1 : Int) → r.2.2.1 ≤ ρ 4 + 0 ∧ ρ 4 + 0 ≤ r.2.2.2) ∧ True := by
    try simp only [Int.add_zero]
    rw [wI_id (by unfold inI; omega)] at h0
    rw [h0, wI_id (by unfold inI; omega)] at h1
    exact ⟨⟨by decide, ac_from b0 b2 b4 h1 h2.2⟩, trivial⟩
  exact ⟨nB, qB (key.1) (nB)⟩
def t_ml0 : KT := ((0, 0, 0, 0), [(2, 0, 40, 0), (1, 1, 0, 0), (1, 2, 0, 0)], [(0, 0), (0, 1000), (0, 2147483647)], [(77, [(2, 0, 40, 0), (1, 1, 0, 0), (0, 0, 0, 0)]), (78, [(0, 0, 0, 0)]), (10, [(2, 0, 40, 0), (0, 0, 0, 5), (1, 2, 0, 0)])], (0, 0, 0), [], [], ([(2, 0, 999999)], [(59, [(1, 2, 0, 0), (1, 1, 0, 0)])]), ([], []))
theorem l_ml0 (g : GG) : LOK Yt (PSt g) t_ml0 := by
  intro ρ α Γ M as hT hB hA hP
  have g0 : Γ (α 0) = 40 := tyAt hA (i := 0) rfl
  have b1 : 0 ≤ ρ 1 ∧ ρ 1 ≤ 1000 := hB 1
  have b2 : 0 ≤ ρ 2 ∧ ρ 2 ≤ 2147483647 := hB 2
  have h0 : Γ (α 0) = 40 ∧ M.2.2.2.2 (α 0) 5 ≤ (g.2.1 : Int) + (ρ 1 + 0) := hP _ (List.mem_of_getElem? (i := 0) rfl)
  have h1 : (0 : Int) = 0 ∧ (g.2.1 : Int) ≤ 900000 := hP _ (List.mem_of_getElem? (i := 1) rfl)
  have h2 : 0 ≤ (5 : Int) ∧ M.2.2.2.2 (α 0) (5 : Int).toNat = ρ 2 + 0 := hP _ (List.mem_of_getElem? (i := 2) rfl)
  try simp only [Int.add_zero] at h0 h1 h2
  have key : (0 ≤ ρ 2 ∧ ρ 2 ≤ 999999) ∧ (ρ 2 + 0 ≤ (g.2.1 : Int) + (ρ 1 + 0)) ∧ True := by
    try simp only [Int.add_zero]
    have e : M.2.2.2.2 (α 0) 5 = ρ 2 := h2.2
    have h0 := h0.2
    have h1 : (g.2.1 : Int) ≤ 900000 := (show P78 g [vi 0] Γ M from hP _ (List.mem_of_getElem? (i := 1) rfl)).2
    exact ⟨⟨b2.1, by omega⟩, by omega, trivial⟩
  exact ⟨qB (key.1) (nB), qB (key.2.1) (nB)⟩
def t_ml1 : KT := ((0, 0, 0, 0), [(2, 0, 40, 0), (1, 1, 0, 0), (1, 2, 0, 0)], [(0, 0), (0, 1000), (0, 2147483647)], [(59, [(1, 2, 0, -1), (1, 1, 0, 0)]), (10, [(2, 0, 40, 0), (0, 0, 0, 5), (1, 2, 0, 0)])], (0, 0, 0), [], [], ([], [(77, [(2, 0, 40, 0), (1, 1, 0, 1), (0, 0, 0, 0)])]), ([], []))
theorem l_ml1 (g : GG) : LOK Yt (PSt g) t_ml1 := by
  intro ρ α Γ M as hT hB hA hP
  have g0 : Γ (α 0) = 40 := tyAt hA (i := 0) rfl
  have b1 : 0 ≤ ρ 1 ∧ ρ 1 ≤ 1000 := hB 1
  have b2 : 0 ≤ ρ 2 ∧ ρ 2 ≤ 2147483647 := hB 2
  have h0 : ρ 2 + (-1) ≤ (g.2.1 : Int) + (ρ 1 + 0) := hP _ (List.mem_of_getElem? (i := 0) rfl)
  have h1 : 0 ≤ (5 : Int) ∧ M.2.2.2.2 (α 0) (5 : Int).toNat = ρ 2 + 0 := hP _ (List.mem_of_getElem? (i := 1) rfl)
  try simp only [Int.add_zero] at h0 h1
  have key : (Γ (α 0) = 40 ∧ M.2.2.2.2 (α 0) 5 ≤ (g.2.1 : Int) + (ρ 1 + 1)) ∧ True := by
    try simp only [Int.add_zero]
    have e : M.2.2.2.2 (α 0) 5 = ρ 2 := h1.2
    exact ⟨⟨g0, by omega⟩, trivial⟩
  exact ⟨nB, qB (key.1) (nB)⟩
def t_mw77 : KT := ((0, 0, 0, 0), [(2, 0, 40, 0), (1, 1, 0, 0)], [(0, 0), (0, 150)], [(77, [(2, 0, 40, 0), (1, 1, 0, 0), (0, 0, 0, 0)])], (0, 0, 0), [], [], ([], [(77, [(2, 0, 40, 0), (0, 0, 0, 150), (0, 0, 0, 0)])]), ([], []))
theorem l_mw77 (g : GG) : LOK Yt (PSt g) t_mw77 := by
  intro ρ α Γ M as hT hB hA hP
  have g0 : Γ (α 0) = 40 := tyAt hA (i := 0) rfl
  have b1 : 0 ≤ ρ 1 ∧ ρ 1 ≤ 150 := hB 1
  have h0 : Γ (α 0) = 40 ∧ M.2.2.2.2 (α 0) 5 ≤ (g.2.1 : Int) + (ρ 1 + 0) := hP _ (List.mem_of_getElem? (i := 0) rfl)
  try simp only [Int.add_zero] at h0
  have key : (Γ (α 0) = 40 ∧ M.2.2.2.2 (α 0) 5 ≤ (g.2.1 : Int) + (150)) ∧ True := by
    try simp only [Int.add_zero]
    obtain ⟨-, h4⟩ := h0
    exact ⟨⟨g0, by omega⟩, trivial⟩
  exact ⟨nB, qB (key.1) (nB)⟩
def t_r76 : KT := ((0, 0, 0, 0), [(2, 0, 40, 0), (1, 1, 0, 0), (1, 2, 0, 0)], [(0, 0), (0, 2147483647), (-2147483648, 2147483647)], [(95, [(2, 0, 40, 0), (1, 1, 0, 0)]), (9, [(2, 0, 40, 0), (1, 1, 0, 0), (1, 2, 0, 0)])], (0, 0, 0), [], [], ([], [(76, [(2, 0, 40, 0), (1, 2, 0, 0)])]), ([], []))
theorem l_r76 (g : GG) : LOK Yt (PSt g) t_r76 := by
  intro ρ α Γ M as hT hB hA hP
  have g0 : Γ (α 0) = 40 := tyAt hA (i := 0) rfl
  have b1 : 0 ≤ ρ 1 ∧ ρ 1 ≤ 2147483647 := hB 1
  have b2 : -2147483648 ≤ ρ 2 ∧ ρ 2 ≤ 2147483647 := hB 2
  have h0 : nwE Γ M (α 0) fun r c => isPx r c (ρ 1 + 0) := hP _ (List.mem_of_getElem? (i := 0) rfl)
  have h1 : nwE Γ M (α 0) fun r c => ρ 2 + 0 = (ρ 1 + 0) / c := hP _ (List.mem_of_getElem? (i := 1) rfl)
  try simp only [Int.add_zero] at h0 h1
  have key : (nwE Γ M (α 0) fun r c => ρ 2 + 0 < r) ∧ True := by
    try simp only [Int.add_zero]
    exact ⟨(nw1 hT (h0.and h1)).imp fun r c ⟨hr, hc, ⟨q1, q2⟩, q3⟩ => by
      rw [q3]
      exact row_lt (by omega) q2, trivial⟩
  exact ⟨nB, qB (key.1) (nB)⟩
def t_r76k : KT := ((0, 0, 0, 0), [(2, 0, 40, 0), (1, 1, 0, 0), (1, 2, 0, 0)], [(0, 0), (-2147483648, 2147483647), (-2147483648, 2147483647)], [(21, [(1, 1, 0, 0), (1, 2, 0, 0)]), (93, [(2, 0, 40, 0), (1, 2, 0, 0)])], (0, 0, 0), [], [], ([], [(76, [(2, 0, 40, 0), (1, 1, 0, 0)])]), ([], []))
theorem l_r76k (g : GG) : LOK Yt (PSt g) t_r76k := by
  intro ρ α Γ M as hT hB hA hP
  have g0 : Γ (α 0) = 40 := tyAt hA (i := 0) rfl
  have b1 : -2147483648 ≤ ρ 1 ∧ ρ 1 ≤ 2147483647 := hB 1
  have b2 : -2147483648 ≤ ρ 2 ∧ ρ 2 ≤ 2147483647 := hB 2
  have h0 : ρ 1 + 0 < ρ 2 + 0 := hP _ (List.mem_of_getElem? (i := 0) rfl)
  have h1 : nwE Γ M (α 0) fun r c => ρ 2 + 0 = r := hP _ (List.mem_of_getElem? (i := 1) rfl)
  try simp only [Int.add_zero] at h0 h1
  have key : (nwE Γ M (α 0) fun r c => ρ 1 + 0 < r) ∧ True := by
    try simp only [Int.add_zero]
    exact ⟨h1.imp fun r c q => by omega, trivial⟩
  exact ⟨nB, qB (key.1) (nB)⟩
def t_r76d : KT := ((0, 0, 0, 0), [(2, 0, 40, 0), (1, 1, 0, 0)], [(0, 0), (-2147483648, 2147483647)], [(76, [(2, 0, 40, 0), (1, 1, 0, 1)])], (0, 0, 0), [], [], ([], [(76, [(2, 0, 40, 0), (1, 1, 0, 0)])]), ([], []))
theorem l_r76d (g : GG) : LOK Yt (PSt g) t_r76d := by
  intro ρ α Γ M as hT hB hA hP
  have g0 : Γ (α 0) = 40 := tyAt hA (i := 0) rfl
  have b1 : -2147483648 ≤ ρ 1 ∧ ρ 1 ≤ 2147483647 := hB 1
  have h0 : nwE Γ M (α 0) fun r c => ρ 1 + 1 < r := hP _ (List.mem_of_getElem? (i := 0) rfl)
  try simp only [Int.add_zero] at h0
  have key : (nwE Γ M (α 0) fun r c => ρ 1 + 0 < r) ∧ True := by
    try simp only [Int.add_zero]
    exact ⟨h0.imp fun r c q => by omega, trivial⟩
  exact ⟨nB, qB (key.1) (nB)⟩
def t_r76b : KT := ((0, 0, 0, 0), [(2, 0, 40, 0), (1, 1, 0, 0), (1, 2, 0, 0), (1, 3, 0, 0)], [(0, 0), (0, 2147483647), (-2147483648, 2147483647), (-2147483648, 2147483647)], [(95, [(2, 0, 40, 0), (1, 1, 0, 0)]), (9, [(2, 0, 40, 0), (1, 1, 0, 0), (1, 2, 0, 0)]), (21, [(1, 3, 0, 0), (1, 2, 0, 0)])], (0, 0, 0), [], [], ([], [(76, [(2, 0, 40, 0), (1, 3, 0, 1)])]), ([], []))
theorem l_r76b (g : GG) : LOK Yt (PSt g) t_r76b := by
  intro ρ α Γ M as hT hB hA hP
  have g0 : Γ (α 0) = 40 := tyAt hA (i := 0) rfl
  have b1 : 0 ≤ ρ 1 ∧ ρ 1 ≤ 2147483647 := hB 1
  have b2 : -2147483648 ≤ ρ 2 ∧ ρ 2 ≤ 2147483647 := hB 2
  have b3 : -2147483648 ≤ ρ 3 ∧ ρ 3 ≤ 2147483647 := hB 3
  have h0 : nwE Γ M (α 0) fun r c => isPx r c (ρ 1 + 0) := hP _ (List.mem_of_getElem? (i := 0) rfl)
  have h1 : nwE Γ M (α 0) fun r c => ρ 2 + 0 = (ρ 1 + 0) / c := hP _ (List.mem_of_getElem? (i := 1) rfl)
  have h2 : ρ 3 + 0 < ρ 2 + 0 := hP _ (List.mem_of_getElem? (i := 2) rfl)
  try simp only [Int.add_zero] at h0 h1 h2
  have key : (nwE Γ M (α 0) fun r c => ρ 3 + 1 < r) ∧ True := by
    try simp only [Int.add_zero]
    exact ⟨(nw1 hT (h0.and h1)).imp fun r c ⟨hr, hc, ⟨q1, q2⟩, q3⟩ => by
      have := row_lt (show 0 < c by omega) q2
      omega, trivial⟩
  exact ⟨nB, qB (key.1) (nB)⟩
def t_c21 : KT := ((0, 0, 0, 0), [(2, 0, 40, 0), (1, 1, 0, 0), (1, 2, 0, 0), (1, 3, 0, 0)], [(0, 0), (0, 2147483647), (-2147483648, 2147483647), (-2147483648, 2147483647)], [(96, [(2, 0, 40, 0), (1, 1, 0, 0), (1, 2, 0, 0)]), (8, [(2, 0, 40, 0), (1, 3, 0, 0)])], (0, 0, 0), [], [], ([], [(21, [(1, 2, 0, 0), (1, 3, 0, 0)])]), ([], []))
theorem l_c21 (g : GG) : LOK Yt (PSt g) t_c21 := by
  intro ρ α Γ M as hT hB hA hP
  have g0 : Γ (α 0) = 40 := tyAt hA (i := 0) rfl
  have b1 : 0 ≤ ρ 1 ∧ ρ 1 ≤ 2147483647 := hB 1
  have b2 : -2147483648 ≤ ρ 2 ∧ ρ 2 ≤ 2147483647 := hB 2
  have b3 : -2147483648 ≤ ρ 3 ∧ ρ 3 ≤ 2147483647 := hB 3
  have h0 : nwE Γ M (α 0) fun r c => ρ 2 + 0 = (ρ 1 + 0) % c := hP _ (List.mem_of_getElem? (i := 0) rfl)
  have h1 : nwE Γ M (α 0) fun r c => ρ 3 + 0 = c := hP _ (List.mem_of_getElem? (i := 1) rfl)
  try simp only [Int.add_zero] at h0 h1
  have key : (ρ 2 + 0 < ρ 3 + 0) ∧ True := by
    try simp only [Int.add_zero]
    exact ⟨(nw1 hT (h0.and h1)).out fun r c ⟨hr, hc, q1, q2⟩ => by
      rw [q1, q2]
      exact Int.emod_lt_of_pos _ (by omega), trivial⟩
  exact ⟨nB, qB (key.1) (nB)⟩
def t_ltd : KT := ((0, 0, 0, 0), [(1, 0, 0, 0), (1, 1, 0, 0)], [(-2147483648, 2147483647), (-2147483648, 2147483647)], [(21, [(1, 0, 0, 1), (1, 1, 0, 0)])], (0, 0, 0), [], [], ([], [(21, [(1, 0, 0, 0), (1, 1, 0, 0)])]), ([], []))
theorem l_ltd (g : GG) : LOK Yt (PSt g) t_ltd := by
  intro ρ α Γ M as hT hB hA hP
  have b0 : -2147483648 ≤ ρ 0 ∧ ρ 0 ≤ 2147483647 := hB 0
  have b1 : -2147483648 ≤ ρ 1 ∧ ρ 1 ≤ 2147483647 := hB 1
  have h0 : ρ 0 + 1 < ρ 1 + 0 := hP _ (List.mem_of_getElem? (i := 0) rfl)
  try simp only [Int.add_zero] at h0
  have key : (ρ 0 + 0 < ρ 1 + 0) ∧ True := by
    try simp only [Int.add_zero]
    exact ⟨by omega, trivial⟩
  exact ⟨nB, qB (key.1) (nB)⟩
def t_rc : KT := ((0, 0, 0, 0), [(2, 0, 40, 0), (1, 1, 0, 0), (1, 2, 0, 0), (1, 3, 0, 0), (1, 4, 0, 0), (1, 5, 0, 0)], [(0, 0), (-2147483648, 2147483647), (0, 2147483647), (0, 2147483647), (-2147483648, 2147483647), (-2147483648, 2147483647)], [(76, [(2, 0, 40, 0), (1, 2, 0, 0)]), (8, [(2, 0, 40, 0), (1, 1, 0, 0)]), (21, [(1, 3, 0, 0), (1, 1, 0, 0)]), (25, [(1, 2, 0, 0), (1, 1, 0, 0), (1, 4, 0, 0)]), (23, [(1, 4, 0, 0), (1, 3, 0, 0), (1, 5, 0, 0)])], (0, 0, 0), [], [], ([(5, 0, 143)], [(95, [(2, 0, 40, 0), (1, 5, 0, 0)])]), ([], []))
theorem l_rc (g : GG) : LOK Yt (PSt g) t_rc := by
  intro ρ α Γ M as hT hB hA hP
  have g0 : Γ (α 0) = 40 := tyAt hA (i := 0) rfl
  have b1 : -2147483648 ≤ ρ 1 ∧ ρ 1 ≤ 2147483647 := hB 1
  have b2 : 0 ≤ ρ 2 ∧ ρ 2 ≤ 2147483647 := hB 2
  have b3 : 0 ≤ ρ 3 ∧ ρ 3 ≤ 2147483647 := hB 3
  have b4 : -2147483648 ≤ ρ 4 ∧ ρ 4 ≤ 2147483647 := hB 4
  have b5 : -2147483648 ≤ ρ 5 ∧ ρ 5 ≤ 2147483647 := hB 5
  have h0 : nwE Γ M (α 0) fun r c => ρ 2 + 0 < r := hP _ (List.mem_of_getElem? (i := 0) rfl)
  have h1 : nwE Γ M (α 0) fun r c => ρ 1 + 0 = c := hP _ (List.mem_of_getElem? (i := 1) rfl)
  have h2 : ρ 3 + 0 < ρ 1 + 0 := hP _ (List.mem_of_getElem? (i := 2) rfl)
  have h3 : ρ 4 + 0 = wI ((ρ 2 + 0) * (ρ 1 + 0)) := hP _ (List.mem_of_getElem? (i := 3) rfl)
  have h4 : ρ 5 + 0 = wI ((ρ 4 + 0) + (ρ 3 + 0)) := hP _ (List.mem_of_getElem? (i := 4) rfl)
  try simp only [Int.add_zero] at h0 h1 h2 h3 h4
  have key : (0 ≤ ρ 5 ∧ ρ 5 ≤ 143) ∧ (nwE Γ M (α 0) fun r c => isPx r c (ρ 5 + 0)) ∧ True := by
    try simp only [Int.add_zero]
    have key2 : nwE Γ M (α 0) fun r c => (0 ≤ ρ 5 ∧ ρ 5 ≤ 143) ∧ isPx r c (ρ 5) := (nw1 hT (h0.and h1)).imp fun r c ⟨hr, hc, q1, q2⟩ => by
      subst q2
      have l1 : 0 ≤ ρ 2 * ρ 1 := Int.mul_nonneg b2.1 (by omega)
      have l2 : ρ 2 * ρ 1 ≤ (r - 1) * ρ 1 := Int.mul_le_mul_of_nonneg_right (by omega) (by omega)
      have l3 : (r - 1) * ρ 1 = r * ρ 1 - ρ 1 := by rw [Int.sub_mul, Int.one_mul]
      have hrc := rc_bd hr hc
      have e4 : ρ 4 = ρ 2 * ρ 1 := by rw [h3, wI_id (by unfold inI; omega)]
      have e5 : ρ 5 = ρ 4 + ρ 3 := by rw [h4, wI_id (by unfold inI; omega)]
      exact ⟨⟨by omega, by omega⟩, by omega, by omega⟩
    exact ⟨key2.out fun _ _ q => q.1, key2.imp fun _ _ q => q.2, trivial⟩
  exact ⟨qB (key.1) (nB), qB (key.2.1) (nB)⟩
def t_rc1 : KT := ((0, 0, 0, 0), [(2, 0, 40, 0), (1, 1, 0, 0), (1, 2, 0, 0), (1, 3, 0, 0), (1, 4, 0, 0), (1, 5, 0, 0), (1, 6, 0, 0), (1, 7, 0, 0)], [(0, 0), (-2147483648, 2147483647), (0, 2147483647), (0, 2147483647), (0, 2147483647), (-2147483648, 2147483647), (-2147483648, 2147483647), (-2147483648, 2147483647)], [(76, [(2, 0, 40, 0), (1, 2, 0, 0)]), (8, [(2, 0, 40, 0), (1, 1, 0, 0)]), (96, [(2, 0, 40, 0), (1, 4, 0, 0), (1, 5, 0, 0)]), (21, [(1, 3, 0, 0), (1, 5, 0, 0)]), (25, [(1, 2, 0, 0), (1, 1, 0, 0), (1, 6, 0, 0)]), (23, [(1, 6, 0, 0), (1, 3, 0, 0), (1, 7, 0, 0)])], (0, 0, 0), [], [], ([(7, 0, 142)], []), ([], []))
theorem l_rc1 (g : GG) : LOK Yt (PSt g) t_rc1 := by
  intro ρ α Γ M as hT hB hA hP
  have g0 : Γ (α 0) = 40 := tyAt hA (i := 0) rfl
  have b1 : -2147483648 ≤ ρ 1 ∧ ρ 1 ≤ 2147483647 := hB 1
  have b2 : 0 ≤ ρ 2 ∧ ρ 2 ≤ 2147483647 := hB 2
  have b3 : 0 ≤ ρ 3 ∧ ρ 3 ≤ 2147483647 := hB 3
  have b4 : 0 ≤ ρ 4 ∧ ρ 4 ≤ 2147483647 := hB 4
  have b5 : -2147483648 ≤ ρ 5 ∧ ρ 5 ≤ 2147483647 := hB 5
  have b6 : -2147483648 ≤ ρ 6 ∧ ρ 6 ≤ 2147483647 := hB 6
  have b7 : -2147483648 ≤ ρ 7 ∧ ρ 7 ≤ 2147483647 := hB 7
  have h0 : nwE Γ M (α 0) fun r c => ρ 2 + 0 < r := hP _ (List.mem_of_getElem? (i := 0) rfl)
  have h1 : nwE Γ M (α 0) fun r c => ρ 1 + 0 = c := hP _ (List.mem_of_getElem? (i := 1) rfl)
  have h2 : nwE Γ M (α 0) fun r c => ρ 5 + 0 = (ρ 4 + 0) % c := hP _ (List.mem_of_getElem? (i := 2) rfl)
  have h3 : ρ 3 + 0 < ρ 5 + 0 := hP _ (List.mem_of_getElem? (i := 3) rfl)
  have h4 : ρ 6 + 0 = wI ((ρ 2 + 0) * (ρ 1 + 0)) := hP _ (List.mem_of_getElem? (i := 4) rfl)
  have h5 : ρ 7 + 0 = wI ((ρ 6 + 0) + (ρ 3 + 0)) := hP _ (List.mem_of_getElem? (i := 5) rfl)
  try simp only [Int.add_zero] at h0 h1 h2 h3 h4 h5
  have key : (0 ≤ ρ 7 ∧ ρ 7 ≤ 142) ∧ True := by
    try simp only [Int.add_zero]
    have key2 : nwE Γ M (α 0) fun r c => (0 ≤ ρ 7 ∧ ρ 7 ≤ 142) := (nw1 hT ((h0.and h1).and h2)).imp fun r c ⟨hr, hc, ⟨q1, q2⟩, q3⟩ => by
      subst q2
      have l0 := Int.emod_lt_of_pos (ρ 4) (show 0 < ρ 1 by omega)
      have l1 : 0 ≤ ρ 2 * ρ 1 := Int.mul_nonneg b2.1 (by omega)
      have l2 : ρ 2 * ρ 1 ≤ (r - 1) * ρ 1 := Int.mul_le_mul_of_nonneg_right (by omega) (by omega)
      have l3 : (r - 1) * ρ 1 = r * ρ 1 - ρ 1 := by rw [Int.sub_mul, Int.one_mul]
      have hrc := rc_bd hr hc
      have e4 : ρ 6 = ρ 2 * ρ 1 := by rw [h4, wI_id (by unfold inI; omega)]
      have e5 : ρ 7 = ρ 6 + ρ 3 := by rw [h5, wI_id (by unfold inI; omega)]
      exact ⟨by omega, by omega⟩
    exact ⟨key2.out fun _ _ q => q, trivial⟩
  exact ⟨qB (key.1) (nB), nB⟩
def t_gs2 : KT := ((0, 0, 0, 0), [(1, 0, 0, 0), (1, 1, 0, 0), (1, 2, 0, 0), (1, 3, 0, 0)], [(-2147483648, 2147483647), (0, 127), (-2147483648, 2147483647), (1, 5)], [(19, [(1, 0, 0, 0), (1, 3, 0, -1)]), (23, [(1, 0, 0, 0), (1, 1, 0, 0), (1, 2, 0, 0)])], (0, 0, 0), [], [], ([(2, 0, 635)], [(19, [(1, 2, 0, 0), (1, 3, 0, 0)])]), ([], []))
theorem l_gs2 (g : GG) : LOK Yt (PSt g) t_gs2 := by
  intro ρ α Γ M as hT hB hA hP
  have b0 : -2147483648 ≤ ρ 0 ∧ ρ 0 ≤ 2147483647 := hB 0
  have b1 : 0 ≤ ρ 1 ∧ ρ 1 ≤ 127 := hB 1
  have b2 : -2147483648 ≤ ρ 2 ∧ ρ 2 ≤ 2147483647 := hB 2
  have b3 : 1 ≤ ρ 3 ∧ ρ 3 ≤ 5 := hB 3
  have h0 : 0 ≤ (ρ 0 + 0) ∧ (ρ 0 + 0) ≤ 127 * (ρ 3 + (-1)) := hP _ (List.mem_of_getElem? (i := 0) rfl)
  have h1 : ρ 2 + 0 = wI ((ρ 0 + 0) + (ρ 1 + 0)) := hP _ (List.mem_of_getElem? (i := 1) rfl)
  try simp only [Int.add_zero] at h0 h1
  have key : (0 ≤ ρ 2 ∧ ρ 2 ≤ 635) ∧ (0 ≤ (ρ 2 + 0) ∧ (ρ 2 + 0) ≤ 127 * (ρ 3 + 0)) ∧ True := by
    try simp only [Int.add_zero]
    rw [wI_id (by unfold inI; omega)] at h1
    exact ⟨⟨by omega, by omega⟩, ⟨by omega, by omega⟩, trivial⟩
  exact ⟨qB (key.1) (nB), qB (key.2.1) (nB)⟩
def t_rd0 : KT := ((0, 0, 0, 0), [(1, 0, 0, 0), (1, 1, 0, 0), (1, 2, 0, 0)], [(0, 0), (0, 0), (0, 0)], [], (0, 0, 0), [], [], ([], [(14, [(1, 0, 0, 0), (1, 1, 0, 0), (1, 2, 0, 0)])]), ([], []))
theorem l_rd0 (g : GG) : LOK Yt (PSt g) t_rd0 := by
  intro ρ α Γ M as hT hB hA hP
  have b0 : 0 ≤ ρ 0 ∧ ρ 0 ≤ 0 := hB 0
  have b1 : 0 ≤ ρ 1 ∧ ρ 1 ≤ 0 := hB 1
  have b2 : 0 ≤ ρ 2 ∧ ρ 2 ≤ 0 := hB 2
  have key : (2 * (ρ 0 + 0) ≤ 24 * (ρ 1 + 0) + (ρ 2 + 0)) ∧ True := by
    try simp only [Int.add_zero]
    exact ⟨by omega, trivial⟩
  exact ⟨nB, qB (key.1) (nB)⟩
def t_rd1 : KT := ((0, 0, 0, 0), [(1, 0, 0, 0), (1, 1, 0, 0), (1, 2, 0, 0)], [(-2147483648, 2147483647), (0, 11), (0, 23)], [(14, [(1, 0, 0, 0), (1, 1, 0, 0), (1, 2, 0, 0)])], (0, 0, 0), [], [], ([(0, -2147483648, 143)], []), ([], []))
theorem l_rd1 (g : GG) : LOK Yt (PSt g) t_rd1 := by
  intro ρ α Γ M as hT hB hA hP
  have b0 : -2147483648 ≤ ρ 0 ∧ ρ 0 ≤ 2147483647 := hB 0
  have b1 : 0 ≤ ρ 1 ∧ ρ 1 ≤ 11 := hB 1
  have b2 : 0 ≤ ρ 2 ∧ ρ 2 ≤ 23 := hB 2
  have h0 : 2 * (ρ 0 + 0) ≤ 24 * (ρ 1 + 0) + (ρ 2 + 0) := hP _ (List.mem_of_getElem? (i := 0) rfl)
  try simp only [Int.add_zero] at h0
  have key : (-2147483648 ≤ ρ 0 ∧ ρ 0 ≤ 143) ∧ True := by
    try simp only [Int.add_zero]
    exact ⟨⟨b0.1, by omega⟩, trivial⟩
  exact ⟨qB (key.1) (nB), nB⟩
def t_rd2 : KT := ((0, 0, 0, 0), [(1, 0, 0, 0), (1, 1, 0, 0), (1, 2, 0, 0), (1, 3, 0, 0)], [(-2147483648, 2147483647), (-2147483648, 2147483647), (0, 2147483647), (1, 1)], [(14, [(1, 0, 0, 0), (1, 1, 0, 0), (1, 2, 0, 0)]), (27, [(1, 2, 0, 0), (0, 0, 0, 2), (1, 3, 0, 0)])], (0, 0, 0), [], [], ([], [(14, [(1, 0, 0, 1), (1, 1, 0, 0), (1, 2, 0, 1)])]), ([], []))
theorem l_rd2 (g : GG) : LOK Yt (PSt g) t_rd2 := by
  intro ρ α Γ M as hT hB hA hP
  have b0 : -2147483648 ≤ ρ 0 ∧ ρ 0 ≤ 2147483647 := hB 0
  have b1 : -2147483648 ≤ ρ 1 ∧ ρ 1 ≤ 2147483647 := hB 1
  have b2 : 0 ≤ ρ 2 ∧ ρ 2 ≤ 2147483647 := hB 2
  have b3 : 1 ≤ ρ 3 ∧ ρ 3 ≤ 1 := hB 3
  have h0 : 2 * (ρ 0 + 0) ≤ 24 * (ρ 1 + 0) + (ρ 2 + 0) := hP _ (List.mem_of_getElem? (i := 0) rfl)
  have h1 : ρ 3 + 0 = (ρ 2 + 0 : Int).tmod (2) := hP _ (List.mem_of_getElem? (i := 1) rfl)
  try simp only [Int.add_zero] at h0 h1
  have key : (2 * (ρ 0 + 1) ≤ 24 * (ρ 1 + 0) + (ρ 2 + 1)) ∧ True := by
    try simp only [Int.add_zero]
    obtain ⟨d1, d2, d3, d4, d5, d6, d7⟩ := dm b2.1 (show (0 : Int) < 2 by decide)
    rw [d2] at h1
    exact ⟨by omega, trivial⟩
  exact ⟨nB, qB (key.1) (nB)⟩
def t_rd3 : KT := ((0, 0, 0, 0), [(1, 0, 0, 0), (1, 1, 0, 0), (1, 2, 0, 0)], [(-2147483648, 2147483647), (-2147483648, 2147483647), (-2147483648, 2147483647)], [(14, [(1, 0, 0, 0), (1, 1, 0, 0), (1, 2, 0, 0)])], (0, 0, 0), [], [], ([], [(14, [(1, 0, 0, 0), (1, 1, 0, 0), (1, 2, 0, 1)])]), ([], []))
theorem l_rd3 (g : GG) : LOK Yt (PSt g) t_rd3 := by
  intro ρ α Γ M as hT hB hA hP
  have b0 : -2147483648 ≤ ρ 0 ∧ ρ 0 ≤ 2147483647 := hB 0
  have b1 : -2147483648 ≤ ρ 1 ∧ ρ 1 ≤ 2147483647 := hB 1
  have b2 : -2147483648 ≤ ρ 2 ∧ ρ 2 ≤ 2147483647 := hB 2
  have h0 : 2 * (ρ 0 + 0) ≤ 24 * (ρ 1 + 0) + (ρ 2 + 0) := hP _ (List.mem_of_getElem? (i := 0) rfl)
  try simp only [Int.add_zero] at h0
  have key : (2 * (ρ 0 + 0) ≤ 24 * (ρ 1 + 0) + (ρ 2 + 1)) ∧ True := by
    try simp only [Int.add_zero]
    exact ⟨by omega, trivial⟩
  exact ⟨nB, qB (key.1) (nB)⟩
def t_rd4 : KT := ((0, 0, 0, 0), [(1, 0, 0, 0), (1, 1, 0, 0), (1, 2, 0, 0)], [(-2147483648, 2147483647), (-2147483648, 2147483647), (0, 24)], [(14, [(1, 0, 0, 0), (1, 1, 0, 0), (1, 2, 0, 0)])], (0, 0, 0), [], [], ([], [(14, [(1, 0, 0, 0), (1, 1, 0, 1), (0, 0, 0, 0)])]), ([], []))
theorem l_rd4 (g : GG) : LOK Yt (PSt g) t_rd4 := by
  intro ρ α Γ M as hT hB hA hP
  have b0 : -2147483648 ≤ ρ 0 ∧ ρ 0 ≤ 2147483647 := hB 0
  have b1 : -2147483648 ≤ ρ 1 ∧ ρ 1 ≤ 2147483647 := hB 1
  have b2 : 0 ≤ ρ 2 ∧ ρ 2 ≤ 24 := hB 2
  have h0 : 2 * (ρ 0 + 0) ≤ 24 * (ρ 1 + 0) + (ρ 2 + 0) := hP _ (List.mem_of_getElem? (i := 0) rfl)
  try simp only [Int.add_zero] at h0
  have key : (2 * (ρ 0 + 0) ≤ 24 * (ρ 1 + 1) + (0)) ∧ True := by
    try simp only [Int.add_zero]
    exact ⟨by omega, trivial⟩
  exact ⟨nB, qB (key.1) (nB)⟩
def t_rd5 : KT := ((0, 0, 0, 0), [(2, 0, 40, 0), (1, 1, 0, 0), (1, 2, 0, 0)], [(0, 0), (2, 12), (2, 12)], [(10, [(2, 0, 40, 0), (0, 0, 0, 20), (1, 1, 0, 0)]), (10, [(2, 0, 40, 0), (0, 0, 0, 21), (1, 2, 0, 0)])], (0, 0, 0), [], [], ([], [(18, [(2, 0, 40, 0), (0, 0, 0, -1), (0, 0, 0, 0)])]), ([], []))
theorem l_rd5 (g : GG) : LOK Yt (PSt g) t_rd5 := by
  intro ρ α Γ M as hT hB hA hP
  have g0 : Γ (α 0) = 40 := tyAt hA (i := 0) rfl
  have b1 : 2 ≤ ρ 1 ∧ ρ 1 ≤ 12 := hB 1
  have b2 : 2 ≤ ρ 2 ∧ ρ 2 ≤ 12 := hB 2
  have h0 : 0 ≤ (20 : Int) ∧ M.2.2.2.2 (α 0) (20 : Int).toNat = ρ 1 + 0 := hP _ (List.mem_of_getElem? (i := 0) rfl)
  have h1 : 0 ≤ (21 : Int) ∧ M.2.2.2.2 (α 0) (21 : Int).toNat = ρ 2 + 0 := hP _ (List.mem_of_getElem? (i := 1) rfl)
  try simp only [Int.add_zero] at h0 h1
  have key : (Γ (α 0) = 40 ∧ ((-1) = -1 → (2 ≤ M.2.2.2.2 (α 0) 20 ∧ M.2.2.2.2 (α 0) 20 ≤ 12) ∧ 2 ≤ M.2.2.2.2 (α 0) 21 ∧ M.2.2.2.2 (α 0) 21 ≤ 12)) ∧ True := by
    try simp only [Int.add_zero]
    have e : M.2.2.2.2 (α 0) 20 = ρ 1 := h0.2
    have e2 : M.2.2.2.2 (α 0) 21 = ρ 2 := h1.2
    exact ⟨⟨g0, fun _ => by omega⟩, trivial⟩
  exact ⟨nB, qB (key.1) (nB)⟩
def t_rd6 : KT := ((0, 0, 0, 0), [(2, 0, 40, 0), (1, 1, 0, 0)], [(0, 0), (0, 2147483647)], [], (0, 0, 0), [], [], ([], [(18, [(2, 0, 40, 0), (1, 1, 0, 0), (0, 0, 0, 0)])]), ([], []))
theorem l_rd6 (g : GG) : LOK Yt (PSt g) t_rd6 := by
  intro ρ α Γ M as hT hB hA hP
  have g0 : Γ (α 0) = 40 := tyAt hA (i := 0) rfl
  have b1 : 0 ≤ ρ 1 ∧ ρ 1 ≤ 2147483647 := hB 1
  have key : (Γ (α 0) = 40 ∧ (ρ 1 + 0 = -1 → (2 ≤ M.2.2.2.2 (α 0) 20 ∧ M.2.2.2.2 (α 0) 20 ≤ 12) ∧ 2 ≤ M.2.2.2.2 (α 0) 21 ∧ M.2.2.2.2 (α 0) 21 ≤ 12)) ∧ True := by
    try simp only [Int.add_zero]
    exact ⟨⟨g0, fun _ => by omega⟩, trivial⟩
  exact ⟨nB, qB (key.1) (nB)⟩
def t_rd7 : KT := ((0, 0, 0, 0), [(2, 0, 40, 0), (1, 1, 0, 0), (1, 2, 0, 0)], [(0, 0), (-2147483648, 2147483647), (-2147483648, 2147483647)], [(6, [(1, 1, 0, 0), (1, 2, 0, 0)]), (21, [(1, 2, 0, 0), (1, 1, 0, 0)])], (0, 0, 0), [], [], ([], [(18, [(2, 0, 40, 0), (0, 0, 0, -1), (0, 0, 0, 0)])]), ([], []))
theorem l_rd7 (g : GG) : LOK Yt (PSt g) t_rd7 := by
  intro ρ α Γ M as hT hB hA hP
  have g0 : Γ (α 0) = 40 := tyAt hA (i := 0) rfl
  have b1 : -2147483648 ≤ ρ 1 ∧ ρ 1 ≤ 2147483647 := hB 1
  have b2 : -2147483648 ≤ ρ 2 ∧ ρ 2 ≤ 2147483647 := hB 2
  have h0 : ρ 1 + 0 ≤ ρ 2 + 0 := hP _ (List.mem_of_getElem? (i := 0) rfl)
  have h1 : ρ 2 + 0 < ρ 1 + 0 := hP _ (List.mem_of_getElem? (i := 1) rfl)
  try simp only [Int.add_zero] at h0 h1
  have key : (Γ (α 0) = 40 ∧ ((-1) = -1 → (2 ≤ M.2.2.2.2 (α 0) 20 ∧ M.2.2.2.2 (α 0) 20 ≤ 12) ∧ 2 ≤ M.2.2.2.2 (α 0) 21 ∧ M.2.2.2.2 (α 0) 21 ≤ 12)) ∧ True := by
    try simp only [Int.add_zero]
    exact ⟨⟨g0, fun _ => by omega⟩, trivial⟩
  exact ⟨nB, qB (key.1) (nB)⟩
def t_rd8 : KT := ((0, 0, 0, 0), [(1, 0, 0, 0), (1, 1, 0, 0)], [(-2147483648, 2147483647), (-2147483648, 2147483647)], [(21, [(1, 0, 0, 0), (1, 1, 0, 0)])], (0, 0, 0), [], [], ([], [(6, [(1, 0, 0, 1), (1, 1, 0, 0)])]), ([], []))
theorem l_rd8 (g : GG) : LOK Yt (PSt g) t_rd8 := by
  intro ρ α Γ M as hT hB hA hP
  have b0 : -2147483648 ≤ ρ 0 ∧ ρ 0 ≤ 2147483647 := hB 0
  have b1 : -2147483648 ≤ ρ 1 ∧ ρ 1 ≤ 2147483647 := hB 1
  have h0 : ρ 0 + 0 < ρ 1 + 0 := hP _ (List.mem_of_getElem? (i := 0) rfl)
  try simp only [Int.add_zero] at h0
  have key : (ρ 0 + 1 ≤ ρ 1 + 0) ∧ True := by
    try simp only [Int.add_zero]
    exact ⟨by omega, trivial⟩
  exact ⟨nB, qB (key.1) (nB)⟩
def t_rd9 : KT := ((0, 0, 0, 0), [(1, 0, 0, 0), (1, 1, 0, 0)], [(-2147483648, 2147483647), (-2147483648, 2147483647)], [(6, [(1, 0, 0, 0), (1, 1, 0, 0)]), (6, [(1, 1, 0, 0), (1, 0, 0, 0)]), (99, [(1, 0, 0, 0), (1, 1, 0, 0), (0, 0, 0, 0)])], (0, 0, 0), [], [], ([], [(6, [(1, 0, 0, 1), (1, 1, 0, 0)])]), ([], []))
theorem l_rd9 (g : GG) : LOK Yt (PSt g) t_rd9 := by
  intro ρ α Γ M as hT hB hA hP
  have b0 : -2147483648 ≤ ρ 0 ∧ ρ 0 ≤ 2147483647 := hB 0
  have b1 : -2147483648 ≤ ρ 1 ∧ ρ 1 ≤ 2147483647 := hB 1
  have h0 : ρ 0 + 0 ≤ ρ 1 + 0 := hP _ (List.mem_of_getElem? (i := 0) rfl)
  have h1 : ρ 1 + 0 ≤ ρ 0 + 0 := hP _ (List.mem_of_getElem? (i := 1) rfl)
  have h2 : (ρ 0 + 0 : Int) ≠ ρ 1 + 0 := hP _ (List.mem_of_getElem? (i := 2) rfl)
  try simp only [Int.add_zero] at h0 h1 h2
  have key : (ρ 0 + 1 ≤ ρ 1 + 0) ∧ True := by
    try simp only [Int.add_zero]
    exact absurd (show ρ 0 = ρ 1 by omega) (show ρ 0 ≠ ρ 1 from h2)
  exact ⟨nB, qB (key.1) (nB)⟩
def t_rdt : KT := ((0, 0, 0, 0), [(2, 0, 40, 0), (1, 1, 0, 0), (1, 2, 0, 0), (1, 3, 0, 0)], [(0, 0), (-2147483648, 2147483647), (-2147483648, 2147483647), (-1, -1)], [(18, [(2, 0, 40, 0), (1, 3, 0, 0), (0, 0, 0, 0)]), (10, [(2, 0, 40, 0), (0, 0, 0, 20), (1, 1, 0, 0)]), (10, [(2, 0, 40, 0), (0, 0, 0, 21), (1, 2, 0, 0)])], (0, 0, 0), [], [], ([(1, 2, 12), (2, 2, 12)], []), ([], []))
theorem l_rdt (g : GG) : LOK Yt (PSt g) t_rdt := by
  intro ρ α Γ M as hT hB hA hP
  have g0 : Γ (α 0) = 40 := tyAt hA (i := 0) rfl
  have b1 : -2147483648 ≤ ρ 1 ∧ ρ 1 ≤ 2147483647 := hB 1
  have b2 : -2147483648 ≤ ρ 2 ∧ ρ 2 ≤ 2147483647 := hB 2
  have b3 : -1 ≤ ρ 3 ∧ ρ 3 ≤ -1 := hB 3
  have h0 : Γ (α 0) = 40 ∧ (ρ 3 + 0 = -1 → (2 ≤ M.2.2.2.2 (α 0) 20 ∧ M.2.2.2.2 (α 0) 20 ≤ 12) ∧ 2 ≤ M.2.2.2.2 (α 0) 21 ∧ M.2.2.2.2 (α 0) 21 ≤ 12) := hP _ (List.mem_of_getElem? (i := 0) rfl)
  have h1 : 0 ≤ (20 : Int) ∧ M.2.2.2.2 (α 0) (20 : Int).toNat = ρ 1 + 0 := hP _ (List.mem_of_getElem? (i := 1) rfl)
  have h2 : 0 ≤ (21 : Int) ∧ M.2.2.2.2 (α 0) (21 : Int).toNat = ρ 2 + 0 := hP _ (List.mem_of_getElem? (i := 2) rfl)
  try simp only [Int.add_zero] at h0 h1 h2
  have key : (2 ≤ ρ 1 ∧ ρ 1 ≤ 12) ∧ (2 ≤ ρ 2 ∧ ρ 2 ≤ 12) ∧ True := by
    try simp only [Int.add_zero]
    obtain ⟨-, h⟩ := h0
    have h := h (by omega)
    have e : M.2.2.2.2 (α 0) 20 = ρ 1 := h1.2
    have e2 : M.2.2.2.2 (α 0) 21 = ρ 2 := h2.2
    rw [e, e2] at h
    exact ⟨h.1, h.2, trivial⟩
  exact ⟨qB (key.1) (qB (key.2.1) (nB)), nB⟩
def t_lg : KT := ((0, 0, 0, 0), [(1, 0, 0, 0), (1, 1, 0, 0), (1, 2, 0, 0)], [(0, 2147483647), (-2147483648, 2147483647), (-2147483648, 2147483647)], [(21, [(1, 0, 0, 0), (1, 1, 0, 0)]), (24, [(1, 1, 0, -1), (1, 0, 0, 0), (1, 2, 0, 0)])], (0, 0, 0), [], [], ([(2, 0, 2147483647)], []), ([], []))
theorem l_lg (g : GG) : LOK Yt (PSt g) t_lg := by
  intro ρ α Γ M as hT hB hA hP
  have b0 : 0 ≤ ρ 0 ∧ ρ 0 ≤ 2147483647 := hB 0
  have b1 : -2147483648 ≤ ρ 1 ∧ ρ 1 ≤ 2147483647 := hB 1
  have b2 : -2147483648 ≤ ρ 2 ∧ ρ 2 ≤ 2147483647 := hB 2
  have h0 : ρ 0 + 0 < ρ 1 + 0 := hP _ (List.mem_of_getElem? (i := 0) rfl)
  have h1 : ρ 2 + 0 = wI ((ρ 1 + (-1)) - (ρ 0 + 0)) := hP _ (List.mem_of_getElem? (i := 1) rfl)
  try simp only [Int.add_zero] at h0 h1
  have key : (0 ≤ ρ 2 ∧ ρ 2 ≤ 2147483647) ∧ True := by
    try simp only [Int.add_zero]
    rw [wI_id (by unfold inI; omega)] at h1
    exact ⟨⟨by omega, by omega⟩, trivial⟩
  exact ⟨qB (key.1) (nB), nB⟩
def t_le0n : KT := ((0, 0, 0, 0), [(1, 0, 0, 0), (1, 1, 0, 0)], [(0, 0), (0, 2147483647)], [], (0, 0, 0), [], [], ([], [(6, [(1, 0, 0, 0), (1, 1, 0, 0)])]), ([], []))
theorem l_le0n (g : GG) : LOK Yt (PSt g) t_le0n := by
  intro ρ α Γ M as hT hB hA hP
  have b0 : 0 ≤ ρ 0 ∧ ρ 0 ≤ 0 := hB 0
  have b1 : 0 ≤ ρ 1 ∧ ρ 1 ≤ 2147483647 := hB 1
  have key : (ρ 0 + 0 ≤ ρ 1 + 0) ∧ True := by
    try simp only [Int.add_zero]
    exact ⟨by omega, trivial⟩
  exact ⟨nB, qB (key.1) (nB)⟩
def t_medh : KT := ((0, 0, 0, 0), [(2, 0, 40, 0), (1, 1, 0, 0), (1, 2, 0, 0), (1, 3, 0, 0), (1, 4, 0, 0), (1, 5, 0, 0), (1, 6, 0, 0), (1, 7, 0, 0)], [(0, 0), (0, 2147483647), (-2147483648, 2147483647), (-2147483648, 2147483647), (-2147483648, 2147483647), (-2147483648, 2147483647), (-2147483648, 2147483647), (0, 0)], [(26, [(1, 1, 0, 0), (0, 0, 0, 2), (1, 2, 0, 0)]), (27, [(1, 1, 0, 0), (0, 0, 0, 2), (1, 7, 0, 0)]), (96, [(2, 0, 40, 0), (1, 2, 0, 0), (1, 3, 0, 0)]), (21, [(1, 3, 0, 0), (1, 4, 0, -1)]), (8, [(2, 0, 40, 0), (1, 4, 0, 0)]), (94, [(2, 0, 40, 0), (1, 5, 0, 0)]), (25, [(0, 0, 0, 2), (1, 5, 0, 0), (1, 6, 0, 0)]), (21, [(1, 1, 0, 0), (1, 6, 0, 0)])], (0, 0, 0), [], [], ([(1, 0, 287)], [(97, [(2, 0, 40, 0), (1, 1, 0, 0)])]), ([], []))
theorem l_medh (g : GG) : LOK Yt (PSt g) t_medh := by
  intro ρ α Γ M as hT hB hA hP
  have g0 : Γ (α 0) = 40 := tyAt hA (i := 0) rfl
  have b1 : 0 ≤ ρ 1 ∧ ρ 1 ≤ 2147483647 := hB 1
  have b2 : -2147483648 ≤ ρ 2 ∧ ρ 2 ≤ 2147483647 := hB 2
  have b3 : -2147483648 ≤ ρ 3 ∧ ρ 3 ≤ 2147483647 := hB 3
  have b4 : -2147483648 ≤ ρ 4 ∧ ρ 4 ≤ 2147483647 := hB 4
  have b5 : -2147483648 ≤ ρ 5 ∧ ρ 5 ≤ 2147483647 := hB 5
  have b6 : -2147483648 ≤ ρ 6 ∧ ρ 6 ≤ 2147483647 := hB 6
  have b7 : 0 ≤ ρ 7 ∧ ρ 7 ≤ 0 := hB 7
  have h0 : ρ 2 + 0 = wI ((ρ 1 + 0 : Int).tdiv (2)) := hP _ (List.mem_of_getElem? (i := 0) rfl)
  have h1 : ρ 7 + 0 = (ρ 1 + 0 : Int).tmod (2) := hP _ (List.mem_of_getElem? (i := 1) rfl)
  have h2 : nwE Γ M (α 0) fun r c => ρ 3 + 0 = (ρ 2 + 0) % c := hP _ (List.mem_of_getElem? (i := 2) rfl)
  have h3 : ρ 3 + 0 < ρ 4 + (-1) := hP _ (List.mem_of_getElem? (i := 3) rfl)
  have h4 : nwE Γ M (α 0) fun r c => ρ 4 + 0 = c := hP _ (List.mem_of_getElem? (i := 4) rfl)
  have h5 : nwE Γ M (α 0) fun r c => ρ 5 + 0 = r * c := hP _ (List.mem_of_getElem? (i := 5) rfl)
  have h6 : ρ 6 + 0 = wI ((2) * (ρ 5 + 0)) := hP _ (List.mem_of_getElem? (i := 6) rfl)
  have h7 : ρ 1 + 0 < ρ 6 + 0 := hP _ (List.mem_of_getElem? (i := 7) rfl)
  try simp only [Int.add_zero] at h0 h1 h2 h3 h4 h5 h6 h7
  have key : (0 ≤ ρ 1 ∧ ρ 1 ≤ 287) ∧ (nwE Γ M (α 0) fun r c => edP r c (ρ 1 + 0)) ∧ True := by
    try simp only [Int.add_zero]
    have key2 : nwE Γ M (α 0) fun r c => ρ 1 ≤ 287 ∧ edP r c (ρ 1) := (nw1 hT (((h2.and h4).and h5))).imp fun r c ⟨hr, hc, ⟨q1, q2⟩, q3⟩ => by
      have hrc := rc_bd hr hc
      obtain ⟨d1, d2, d3, d4, d5, d6, d7⟩ := dm (p := ρ 1) b1.1 (show (0 : Int) < 2 by decide)
      have h0 := h0
      have h1 := h1
      have h6 := h6
      rw [d1, wI_id (by unfold inI; omega)] at h0
      rw [d2] at h1
      rw [q3, wI_id (by unfold inI; omega)] at h6
      have q1 := q1
      rw [h0] at q1
      subst q2
      exact ⟨by omega, b1.1, by omega, fun _ => by rw [← q1]; omega, fun hn => absurd (show ρ 1 % 2 = 0 by omega) hn⟩
    exact ⟨⟨b1.1, key2.out fun _ _ q => q.1⟩, key2.imp fun _ _ q => q.2, trivial⟩
  exact ⟨qB (key.1) (nB), qB (key.2.1) (nB)⟩
def t_medv : KT := ((0, 0, 0, 0), [(2, 0, 40, 0), (1, 1, 0, 0), (1, 2, 0, 0), (1, 3, 0, 0), (1, 4, 0, 0), (1, 5, 0, 0), (1, 6, 0, 0), (1, 7, 0, 0)], [(0, 0), (0, 2147483647), (-2147483648, 2147483647), (-2147483648, 2147483647), (-2147483648, 2147483647), (-2147483648, 2147483647), (-2147483648, 2147483647), (1, 1)], [(26, [(1, 1, 0, 0), (0, 0, 0, 2), (1, 2, 0, 0)]), (27, [(1, 1, 0, 0), (0, 0, 0, 2), (1, 7, 0, 0)]), (9, [(2, 0, 40, 0), (1, 2, 0, 0), (1, 3, 0, 0)]), (21, [(1, 3, 0, 0), (1, 4, 0, -1)]), (93, [(2, 0, 40, 0), (1, 4, 0, 0)]), (94, [(2, 0, 40, 0), (1, 5, 0, 0)]), (25, [(0, 0, 0, 2), (1, 5, 0, 0), (1, 6, 0, 0)]), (21, [(1, 1, 0, 0), (1, 6, 0, 0)])], (0, 0, 0), [], [], ([(1, 0, 287)], [(97, [(2, 0, 40, 0), (1, 1, 0, 0)])]), ([], []))
theorem l_medv (g : GG) : LOK Yt (PSt g) t_medv := by
  intro ρ α Γ M as hT hB hA hP
  have g0 : Γ (α 0) = 40 := tyAt hA (i := 0) rfl
  have b1 : 0 ≤ ρ 1 ∧ ρ 1 ≤ 2147483647 := hB 1
  have b2 : -2147483648 ≤ ρ 2 ∧ ρ 2 ≤ 2147483647 := hB 2
  have b3 : -2147483648 ≤ ρ 3 ∧ ρ 3 ≤ 2147483647 := hB 3
  have b4 : -2147483648 ≤ ρ 4 ∧ ρ 4 ≤ 2147483647 := hB 4
  have b5 : -2147483648 ≤ ρ 5 ∧ ρ 5 ≤ 2147483647 := hB 5
  have b6 : -2147483648 ≤ ρ 6 ∧ ρ 6 ≤ 2147483647 := hB 6
  have b7 : 1 ≤ ρ 7 ∧ ρ 7 ≤ 1 := hB 7
  have h0 : ρ 2 + 0 = wI ((ρ 1 + 0 : Int).tdiv (2)) := hP _ (List.mem_of_getElem? (i := 0) rfl)
  have h1 : ρ 7 + 0 = (ρ 1 + 0 : Int).tmod (2) := hP _ (List.mem_of_getElem? (i := 1) rfl)
  have h2 : nwE Γ M (α 0) fun r c => ρ 3 + 0 = (ρ 2 + 0) / c := hP _ (List.mem_of_getElem? (i := 2) rfl)
  have h3 : ρ 3 + 0 < ρ 4 + (-1) := hP _ (List.mem_of_getElem? (i := 3) rfl)
  have h4 : nwE Γ M (α 0) fun r c => ρ 4 + 0 = r := hP _ (List.mem_of_getElem? (i := 4) rfl)
  have h5 : nwE Γ M (α 0) fun r c => ρ 5 + 0 = r * c := hP _ (List.mem_of_getElem? (i := 5) rfl)
  have h6 : ρ 6 + 0 = wI ((2) * (ρ 5 + 0)) := hP _ (List.mem_of_getElem? (i := 6) rfl)
  have h7 : ρ 1 + 0 < ρ 6 + 0 := hP _ (List.mem_of_getElem? (i := 7) rfl)
  try simp only [Int.add_zero] at h0 h1 h2 h3 h4 h5 h6 h7
  have key : (0 ≤ ρ 1 ∧ ρ 1 ≤ 287) ∧ (nwE Γ M (α 0) fun r c => edP r c (ρ 1 + 0)) ∧ True := by
    try simp only [Int.add_zero]
    have key2 : nwE Γ M (α 0) fun r c => ρ 1 ≤ 287 ∧ edP r c (ρ 1) := (nw1 hT (((h2.and h4).and h5))).imp fun r c ⟨hr, hc, ⟨q1, q2⟩, q3⟩ => by
      have hrc := rc_bd hr hc
      obtain ⟨d1, d2, d3, d4, d5, d6, d7⟩ := dm (p := ρ 1) b1.1 (show (0 : Int) < 2 by decide)
      have h0 := h0
      have h1 := h1
      have h6 := h6
      rw [d1, wI_id (by unfold inI; omega)] at h0
      rw [d2] at h1
      rw [q3, wI_id (by unfold inI; omega)] at h6
      have q1 := q1
      rw [h0] at q1
      subst q2
      exact ⟨by omega, b1.1, by omega, fun hn => absurd hn (show ¬ ρ 1 % 2 = 0 by omega), fun _ => by rw [← q1]; omega⟩
    exact ⟨⟨b1.1, key2.out fun _ _ q => q.1⟩, key2.imp fun _ _ q => q.2, trivial⟩
  exact ⟨qB (key.1) (nB), qB (key.2.1) (nB)⟩
def t_mg0 : KT := ((0, 0, 0, 0), [(2, 0, 40, 0), (1, 1, 0, 0), (1, 2, 0, 0), (1, 3, 0, 0)], [(0, 0), (0, 287), (-2147483648, 2147483647), (0, 0)], [(97, [(2, 0, 40, 0), (1, 1, 0, 0)]), (26, [(1, 1, 0, 0), (0, 0, 0, 2), (1, 2, 0, 0)]), (27, [(1, 1, 0, 0), (0, 0, 0, 2), (1, 3, 0, 0)])], (0, 0, 0), [], [], ([(2, 0, 142)], [(95, [(2, 0, 40, 0), (1, 2, 0, 0)]), (95, [(2, 0, 40, 0), (1, 2, 0, 1)])]), ([], []))
theorem l_mg0 (g : GG) : LOK Yt (PSt g) t_mg0 := by
  intro ρ α Γ M as hT hB hA hP
  have g0 : Γ (α 0) = 40 := tyAt hA (i := 0) rfl
  have b1 : 0 ≤ ρ 1 ∧ ρ 1 ≤ 287 := hB 1
  have b2 : -2147483648 ≤ ρ 2 ∧ ρ 2 ≤ 2147483647 := hB 2
  have b3 : 0 ≤ ρ 3 ∧ ρ 3 ≤ 0 := hB 3
  have h0 : nwE Γ M (α 0) fun r c => edP r c (ρ 1 + 0) := hP _ (List.mem_of_getElem? (i := 0) rfl)
  have h1 : ρ 2 + 0 = wI ((ρ 1 + 0 : Int).tdiv (2)) := hP _ (List.mem_of_getElem? (i := 1) rfl)
  have h2 : ρ 3 + 0 = (ρ 1 + 0 : Int).tmod (2) := hP _ (List.mem_of_getElem? (i := 2) rfl)
  try simp only [Int.add_zero] at h0 h1 h2
  have key : (0 ≤ ρ 2 ∧ ρ 2 ≤ 142) ∧ (nwE Γ M (α 0) fun r c => isPx r c (ρ 2 + 0)) ∧ (nwE Γ M (α 0) fun r c => isPx r c (ρ 2 + 1)) ∧ True := by
    try simp only [Int.add_zero]
    obtain ⟨d1, d2, d3, d4, d5, d6, d7⟩ := dm (p := ρ 1) b1.1 (show (0 : Int) < 2 by decide)
    rw [d1] at h1
    rw [wI_id (by unfold inI; omega)] at h1
    rw [d2] at h2
    have key2 : nwE Γ M (α 0) fun r c => ρ 2 ≤ 142 ∧ isPx r c (ρ 2) ∧ isPx r c (ρ 2 + 1) := (nw1 hT h0).imp fun r c ⟨hr, hc, x1, x2, x3, _⟩ => by
      have hrc := rc_bd hr hc
      have x3 := x3 (by omega)
      rw [← h1] at x3 d6
      have y7 := row_lt (r := r) (p := ρ 2) (show 0 < c by omega) (by omega)
      have l := low_lt (k := 0) d6 (show 0 < c by omega) (show ρ 2 / c ≤ r - 1 - 0 by omega) (by decide)
      exact ⟨by omega, ⟨by omega, by omega⟩, by omega, by omega⟩
    exact ⟨⟨by omega, key2.out fun _ _ q => q.1⟩, key2.imp fun _ _ q => q.2.1, key2.imp fun _ _ q => q.2.2, trivial⟩
  exact ⟨qB (key.1) (nB), qB (key.2.1) (qB (key.2.2.1) (nB))⟩
def t_mg1 : KT := ((0, 0, 0, 0), [(2, 0, 40, 0), (1, 1, 0, 0), (1, 2, 0, 0), (1, 3, 0, 0), (1, 4, 0, 0), (1, 5, 0, 0)], [(0, 0), (0, 287), (-2147483648, 2147483647), (1, 2147483647), (-2147483648, 2147483647), (-2147483648, 2147483647)], [(97, [(2, 0, 40, 0), (1, 1, 0, 0)]), (26, [(1, 1, 0, 0), (0, 0, 0, 2), (1, 2, 0, 0)]), (27, [(1, 1, 0, 0), (0, 0, 0, 2), (1, 3, 0, 0)]), (8, [(2, 0, 40, 0), (1, 4, 0, 0)]), (23, [(1, 2, 0, 0), (1, 4, 0, 0), (1, 5, 0, 0)])], (0, 0, 0), [], [], ([(5, 0, 143)], [(95, [(2, 0, 40, 0), (1, 5, 0, 0)])]), ([], []))
theorem l_mg1 (g : GG) : LOK Yt (PSt g) t_mg1 := by
  intro ρ α Γ M as hT hB hA hP
  have g0 : Γ (α 0) = 40 := tyAt hA (i := 0) rfl
  have b1 : 0 ≤ ρ 1 ∧ ρ 1 ≤ 287 := hB 1
  have b2 : -2147483648 ≤ ρ 2 ∧ ρ 2 ≤ 2147483647 := hB 2
  have b3 : 1 ≤ ρ 3 ∧ ρ 3 ≤ 2147483647 := hB 3
  have b4 : -2147483648 ≤ ρ 4 ∧ ρ 4 ≤ 2147483647 := hB 4
  have b5 : -2147483648 ≤ ρ 5 ∧ ρ 5 ≤ 2147483647 := hB 5
  have h0 : nwE Γ M (α 0) fun r c => edP r c (ρ 1 + 0) := hP _ (List.mem_of_getElem? (i := 0) rfl)
  have h1 : ρ 2 + 0 = wI ((ρ 1 + 0 : Int).tdiv (2)) := hP _ (List.mem_of_getElem? (i := 1) rfl)
  have h2 : ρ 3 + 0 = (ρ 1 + 0 : Int).tmod (2) := hP _ (List.mem_of_getElem? (i := 2) rfl)
  have h3 : nwE Γ M (α 0) fun r c => ρ 4 + 0 = c := hP _ (List.mem_of_getElem? (i := 3) rfl)
  have h4 : ρ 5 + 0 = wI ((ρ 2 + 0) + (ρ 4 + 0)) := hP _ (List.mem_of_getElem? (i := 4) rfl)
  try simp only [Int.add_zero] at h0 h1 h2 h3 h4
  have key : (0 ≤ ρ 5 ∧ ρ 5 ≤ 143) ∧ (nwE Γ M (α 0) fun r c => isPx r c (ρ 5 + 0)) ∧ True := by
    try simp only [Int.add_zero]
    obtain ⟨d1, d2, d3, d4, d5, d6, d7⟩ := dm (p := ρ 1) b1.1 (show (0 : Int) < 2 by decide)
    rw [d1] at h1
    rw [wI_id (by unfold inI; omega)] at h1
    rw [d2] at h2
    have key2 : nwE Γ M (α 0) fun r c => (0 ≤ ρ 5 ∧ ρ 5 ≤ 143) ∧ isPx r c (ρ 5) := (nw1 hT (h0.and h3)).imp fun r c ⟨hr, hc, ⟨x1, x2, _, x3⟩, q⟩ => by
      subst q
      have hrc := rc_bd hr hc
      have x3 := x3 (by omega)
      rw [← h1] at x3 d6
      have h4 := h4
      rw [wI_id (by unfold inI; omega)] at h4
      obtain ⟨-, -, y3, y4, y5, y6, y7⟩ := dm (p := ρ 2) d6 (show 0 < ρ 4 by omega)
      have l := low_lt (r := r) (k := 1) d6 (show 0 < ρ 4 by omega) (show ρ 2 / ρ 4 ≤ r - 1 - 1 by omega) (by decide)
      exact ⟨by omega, by omega, by omega⟩
    exact ⟨key2.out fun _ _ q => q.1, key2.imp fun _ _ q => q.2, trivial⟩
  exact ⟨qB (key.1) (nB), qB (key.2.1) (nB)⟩
def t_tn0 : KT := ((0, 0, 0, 0), [(2, 0, 40, 0), (1, 1, 0, 0)], [(0, 0), (0, 0)], [(10, [(2, 0, 40, 0), (0, 0, 0, 9), (1, 1, 0, 0)])], (0, 0, 0), [], [], ([], [(91, [(2, 0, 40, 0)])]), ([], []))
theorem l_tn0 (g : GG) : LOK Yt (PSt g) t_tn0 := by
  intro ρ α Γ M as hT hB hA hP
  have g0 : Γ (α 0) = 40 := tyAt hA (i := 0) rfl
  have b1 : 0 ≤ ρ 1 ∧ ρ 1 ≤ 0 := hB 1
  have h0 : 0 ≤ (9 : Int) ∧ M.2.2.2.2 (α 0) (9 : Int).toNat = ρ 1 + 0 := hP _ (List.mem_of_getElem? (i := 0) rfl)
  try simp only [Int.add_zero] at h0
  have key : (Γ (α 0) = 40 ∧ ∃ a, M.2.2.2.1 (α 0) 8 = some a ∧ Γ a = 44 ∧ nwE Γ M (α 0) fun r c => ∀ j : Nat, (j : Int) < M.2.2.2.2 (α 0) 9 → isPx r c (M.2.2.2.2 a j)) ∧ True := by
    try simp only [Int.add_zero]
    obtain ⟨a, h1, h2⟩ := tyR hT g0 (by decide) (j := 8) (τ2 := 44) (by decide)
    have e : M.2.2.2.2 (α 0) 9 = ρ 1 := h0.2
    exact ⟨⟨g0, a, h1, h2, (nw_ex hT g0).imp fun r c _ j hj => by omega⟩, trivial⟩
  exact ⟨nB, qB (key.1) (nB)⟩
def t_tn1 : KT := ((0, 0, 0, 0), [(2, 0, 40, 0), (2, 1, 44, 0), (1, 2, 0, 0)], [(0, 0), (0, 0), (-2147483648, 2147483647)], [(91, [(2, 0, 40, 0)]), (11, [(2, 0, 40, 0), (0, 0, 0, 8), (2, 1, 44, 0)]), (10, [(2, 0, 40, 0), (0, 0, 0, 9), (1, 2, 0, 0)])], (0, 0, 0), [], [], ([], [(89, [(2, 1, 44, 0), (1, 2, 0, 0), (2, 0, 40, 0)])]), ([], []))
theorem l_tn1 (g : GG) : LOK Yt (PSt g) t_tn1 := by
  intro ρ α Γ M as hT hB hA hP
  have g0 : Γ (α 0) = 40 := tyAt hA (i := 0) rfl
  have g1 : Γ (α 1) = 44 := tyAt hA (i := 1) rfl
  have b2 : -2147483648 ≤ ρ 2 ∧ ρ 2 ≤ 2147483647 := hB 2
  have h0 : Γ (α 0) = 40 ∧ ∃ a, M.2.2.2.1 (α 0) 8 = some a ∧ Γ a = 44 ∧ nwE Γ M (α 0) fun r c => ∀ j : Nat, (j : Int) < M.2.2.2.2 (α 0) 9 → isPx r c (M.2.2.2.2 a j) := hP _ (List.mem_of_getElem? (i := 0) rfl)
  have h1 : 0 ≤ (8 : Int) ∧ M.2.2.2.1 (α 0) (8 : Int).toNat = some (α 1) := hP _ (List.mem_of_getElem? (i := 1) rfl)
  have h2 : 0 ≤ (9 : Int) ∧ M.2.2.2.2 (α 0) (9 : Int).toNat = ρ 2 + 0 := hP _ (List.mem_of_getElem? (i := 2) rfl)
  try simp only [Int.add_zero] at h0 h1 h2
  have key : (Γ (α 0) = 40 ∧ M.2.2.2.1 (α 0) 8 = some (α 1) ∧ Γ (α 1) = 44 ∧ M.2.2.2.2 (α 0) 9 = ρ 2 + 0 ∧ nwE Γ M (α 0) fun r c => ∀ j : Nat, (j : Int) < ρ 2 + 0 → isPx r c (M.2.2.2.2 (α 1) j)) ∧ True := by
    try simp only [Int.add_zero]
    obtain ⟨-, a, x1, x2, x3⟩ := h0
    have e1 : M.2.2.2.1 (α 0) 8 = some (α 1) := h1.2
    rw [e1] at x1
    cases x1
    have e : M.2.2.2.2 (α 0) 9 = ρ 2 := h2.2
    exact ⟨⟨g0, e1, x2, e, x3.imp fun r c q j hj => q j (by rw [e]; exact hj)⟩, trivial⟩
  exact ⟨nB, qB (key.1) (nB)⟩
def t_tn2 : KT := ((0, 0, 0, 0), [(2, 0, 40, 0), (2, 1, 44, 0), (1, 2, 0, 0), (1, 3, 0, 0)], [(0, 0), (0, 0), (0, 143), (0, 143)], [(89, [(2, 1, 44, 0), (1, 2, 0, 0), (2, 0, 40, 0)]), (10, [(2, 1, 44, 0), (1, 2, 0, 0), (1, 3, 0, 0)]), (95, [(2, 0, 40, 0), (1, 3, 0, 0)])], (0, 0, 0), [], [], ([], [(90, [(2, 0, 40, 0), (0, 0, 0, 9), (2, 1, 44, 0), (1, 2, 0, 1)])]), ([], []))
theorem l_tn2 (g : GG) : LOK Yt (PSt g) t_tn2 := by
  intro ρ α Γ M as hT hB hA hP
  have g0 : Γ (α 0) = 40 := tyAt hA (i := 0) rfl
  have g1 : Γ (α 1) = 44 := tyAt hA (i := 1) rfl
  have b2 : 0 ≤ ρ 2 ∧ ρ 2 ≤ 143 := hB 2
  have b3 : 0 ≤ ρ 3 ∧ ρ 3 ≤ 143 := hB 3
  have h0 : Γ (α 0) = 40 ∧ M.2.2.2.1 (α 0) 8 = some (α 1) ∧ Γ (α 1) = 44 ∧ M.2.2.2.2 (α 0) 9 = ρ 2 + 0 ∧ nwE Γ M (α 0) fun r c => ∀ j : Nat, (j : Int) < ρ 2 + 0 → isPx r c (M.2.2.2.2 (α 1) j) := hP _ (List.mem_of_getElem? (i := 0) rfl)
  have h1 : 0 ≤ (ρ 2 + 0 : Int) ∧ M.2.2.2.2 (α 1) (ρ 2 + 0 : Int).toNat = ρ 3 + 0 := hP _ (List.mem_of_getElem? (i := 1) rfl)
  have h2 : nwE Γ M (α 0) fun r c => isPx r c (ρ 3 + 0) := hP _ (List.mem_of_getElem? (i := 2) rfl)
  try simp only [Int.add_zero] at h0 h1 h2
  have key : ((9 : Int) = 9 ∧ ρ 2 + 1 ≤ 144 ∧ Γ (α 0) = 40 ∧ M.2.2.2.1 (α 0) 8 = some (α 1) ∧ Γ (α 1) = 44 ∧ nwE Γ M (α 0) fun r c => ∀ j : Nat, (j : Int) < ρ 2 + 1 → isPx r c (M.2.2.2.2 (α 1) j)) ∧ True := by
    try simp only [Int.add_zero]
    obtain ⟨-, e1, x2, e, x3⟩ := h0
    refine ⟨⟨by trivial, by omega, g0, e1, x2, (x3.and h2).imp fun r c q j hj => ?_⟩, trivial⟩
    by_cases hj2 : (j : Int) < ρ 2
    · exact q.1 j hj2
    · have hq : j = (ρ 2).toNat := by omega
      rw [hq, h1.2]
      exact q.2
  exact ⟨nB, qB (key.1) (nB)⟩
def t_tn3 : KT := ((0, 0, 0, 0), [(2, 0, 40, 0), (2, 1, 44, 0), (1, 2, 0, 0)], [(0, 0), (0, 0), (-2147483648, 2147483647)], [(90, [(2, 0, 40, 0), (0, 0, 0, 9), (2, 1, 44, 0), (1, 2, 0, 0)]), (10, [(2, 0, 40, 0), (0, 0, 0, 9), (1, 2, 0, 0)])], (0, 0, 0), [], [], ([], [(91, [(2, 0, 40, 0)])]), ([], []))
theorem l_tn3 (g : GG) : LOK Yt (PSt g) t_tn3 := by
  intro ρ α Γ M as hT hB hA hP
  have g0 : Γ (α 0) = 40 := tyAt hA (i := 0) rfl
  have g1 : Γ (α 1) = 44 := tyAt hA (i := 1) rfl
  have b2 : -2147483648 ≤ ρ 2 ∧ ρ 2 ≤ 2147483647 := hB 2
  have h0 : (9 : Int) = 9 ∧ ρ 2 + 0 ≤ 144 ∧ Γ (α 0) = 40 ∧ M.2.2.2.1 (α 0) 8 = some (α 1) ∧ Γ (α 1) = 44 ∧ nwE Γ M (α 0) fun r c => ∀ j : Nat, (j : Int) < ρ 2 + 0 → isPx r c (M.2.2.2.2 (α 1) j) := hP _ (List.mem_of_getElem? (i := 0) rfl)
  have h1 : 0 ≤ (9 : Int) ∧ M.2.2.2.2 (α 0) (9 : Int).toNat = ρ 2 + 0 := hP _ (List.mem_of_getElem? (i := 1) rfl)
  try simp only [Int.add_zero] at h0 h1
  have key : (Γ (α 0) = 40 ∧ ∃ a, M.2.2.2.1 (α 0) 8 = some a ∧ Γ a = 44 ∧ nwE Γ M (α 0) fun r c => ∀ j : Nat, (j : Int) < M.2.2.2.2 (α 0) 9 → isPx r c (M.2.2.2.2 a j)) ∧ True := by
    try simp only [Int.add_zero]
    obtain ⟨-, -, -, e1, x2, x3⟩ := h0
    have e : M.2.2.2.2 (α 0) 9 = ρ 2 := h1.2
    exact ⟨⟨g0, α 1, e1, x2, x3.imp fun r c q j hj => q j (by rw [e] at hj; exact hj)⟩, trivial⟩
  exact ⟨nB, qB (key.1) (nB)⟩
