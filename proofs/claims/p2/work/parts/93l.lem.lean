/-! what facts of the reference tell of one another -/
def t_mcol : KT := ((0, 0, 0, 0), [(2, 0, 40, 0), (2, 1, 41, 0), (1, 2, 0, 0)], [(0, 0), (0, 0), (-2147483648, 2147483647)], [(11, [(2, 0, 40, 0), (0, 0, 0, 1), (2, 1, 41, 0)]), (10, [(2, 1, 41, 0), (0, 0, 0, 1), (1, 2, 0, -4)])], (0, 0, 0), [], [], ([], [(8, [(2, 0, 40, 0), (1, 2, 0, 0)])]), ([], []))
theorem l_mcol (g : GG) : LOK Yt (PSt g) t_mcol := by
  intro ρ α Γ M as hT hB hA hP
  have g0 : Γ (α 0) = 40 := tyAt hA (i := 0) rfl
  have g1 : Γ (α 1) = 41 := tyAt hA (i := 1) rfl
  have b2 : -2147483648 ≤ ρ 2 ∧ ρ 2 ≤ 2147483647 := hB 2
  have h0 : 0 ≤ (1 : Int) ∧ M.2.2.2.1 (α 0) (1 : Int).toNat = some (α 1) := hP _ (List.mem_of_getElem? (i := 0) rfl)
  have h1 : 0 ≤ (1 : Int) ∧ M.2.2.2.2 (α 1) (1 : Int).toNat = ρ 2 + (-4) := hP _ (List.mem_of_getElem? (i := 1) rfl)
  try simp only [Int.add_zero] at h0 h1
  have key : (nwE Γ M (α 0) fun r c => ρ 2 + 0 = c) ∧ True := by
    try simp only [Int.add_zero]
    have e : M.2.2.2.2 (α 1) 1 = ρ 2 + (-4) := h1.2
    exact ⟨⟨g0, α 1, h0.2, g1, by omega⟩, trivial⟩
  exact ⟨nB, qB (key.1) (nB)⟩
def t_mrow : KT := ((0, 0, 0, 0), [(2, 0, 40, 0), (2, 1, 41, 0), (1, 2, 0, 0)], [(0, 0), (0, 0), (-2147483648, 2147483647)], [(11, [(2, 0, 40, 0), (0, 0, 0, 1), (2, 1, 41, 0)]), (10, [(2, 1, 41, 0), (0, 0, 0, 0), (1, 2, 0, -4)])], (0, 0, 0), [], [], ([], [(93, [(2, 0, 40, 0), (1, 2, 0, 0)])]), ([], []))
theorem l_mrow (g : GG) : LOK Yt (PSt g) t_mrow := by
  intro ρ α Γ M as hT hB hA hP
  have g0 : Γ (α 0) = 40 := tyAt hA (i := 0) rfl
  have g1 : Γ (α 1) = 41 := tyAt hA (i := 1) rfl
  have b2 : -2147483648 ≤ ρ 2 ∧ ρ 2 ≤ 2147483647 := hB 2
  have h0 : 0 ≤ (1 : Int) ∧ M.2.2.2.1 (α 0) (1 : Int).toNat = some (α 1) := hP _ (List.mem_of_getElem? (i := 0) rfl)
  have h1 : 0 ≤ (0 : Int) ∧ M.2.2.2.2 (α 1) (0 : Int).toNat = ρ 2 + (-4) := hP _ (List.mem_of_getElem? (i := 1) rfl)
  try simp only [Int.add_zero] at h0 h1
  have key : (nwE Γ M (α 0) fun r c => ρ 2 + 0 = r) ∧ True := by
    try simp only [Int.add_zero]
    have e : M.2.2.2.2 (α 1) 0 = ρ 2 + (-4) := h1.2
    exact ⟨⟨g0, α 1, h0.2, g1, by omega⟩, trivial⟩
  exact ⟨nB, qB (key.1) (nB)⟩
def t_mman : KT := ((0, 0, 0, 0), [(2, 0, 40, 0), (1, 1, 0, 0), (1, 2, 0, 0), (1, 3, 0, 0)], [(0, 0), (2, 12), (2, 12), (-2147483648, 2147483647)], [(93, [(2, 0, 40, 0), (1, 1, 0, 0)]), (8, [(2, 0, 40, 0), (1, 2, 0, 0)]), (25, [(1, 1, 0, 0), (1, 2, 0, 0), (1, 3, 0, 0)])], (0, 0, 0), [], [], ([(3, 4, 144)], [(94, [(2, 0, 40, 0), (1, 3, 0, 0)])]), ([], []))
theorem l_mman (g : GG) : LOK Yt (PSt g) t_mman := by
  intro ρ α Γ M as hT hB hA hP
  have g0 : Γ (α 0) = 40 := tyAt hA (i := 0) rfl
  have b1 : 2 ≤ ρ 1 ∧ ρ 1 ≤ 12 := hB 1
  have b2 : 2 ≤ ρ 2 ∧ ρ 2 ≤ 12 := hB 2
  have b3 : -2147483648 ≤ ρ 3 ∧ ρ 3 ≤ 2147483647 := hB 3
  have h0 : nwE Γ M (α 0) fun r c => ρ 1 + 0 = r := hP _ (List.mem_of_getElem? (i := 0) rfl)
  have h1 : nwE Γ M (α 0) fun r c => ρ 2 + 0 = c := hP _ (List.mem_of_getElem? (i := 1) rfl)
  have h2 : ρ 3 + 0 = wI ((ρ 1 + 0) * (ρ 2 + 0)) := hP _ (List.mem_of_getElem? (i := 2) rfl)
  try simp only [Int.add_zero] at h0 h1 h2
  have key : (4 ≤ ρ 3 ∧ ρ 3 ≤ 144) ∧ (nwE Γ M (α 0) fun r c => ρ 3 + 0 = r * c) ∧ True := by
    try simp only [Int.add_zero]
    have l := rc_bd b1 b2
    rw [wI_id (by unfold inI; omega)] at h2
    exact ⟨by omega, (h0.and h1).imp fun r c q => by rw [← q.1, ← q.2]; exact h2, trivial⟩
  exact ⟨qB (key.1) (nB), qB (key.2.1) (nB)⟩
def t_mpx : KT := ((0, 0, 0, 0), [(2, 0, 40, 0), (1, 1, 0, 0), (1, 2, 0, 0)], [(0, 0), (0, 2147483647), (-2147483648, 2147483647)], [(94, [(2, 0, 40, 0), (1, 2, 0, 0)]), (21, [(1, 1, 0, 0), (1, 2, 0, 0)])], (0, 0, 0), [], [], ([(1, 0, 143)], [(95, [(2, 0, 40, 0), (1, 1, 0, 0)])]), ([], []))
theorem l_mpx (g : GG) : LOK Yt (PSt g) t_mpx := by
  intro ρ α Γ M as hT hB hA hP
  have g0 : Γ (α 0) = 40 := tyAt hA (i := 0) rfl
  have b1 : 0 ≤ ρ 1 ∧ ρ 1 ≤ 2147483647 := hB 1
  have b2 : -2147483648 ≤ ρ 2 ∧ ρ 2 ≤ 2147483647 := hB 2
  have h0 : nwE Γ M (α 0) fun r c => ρ 2 + 0 = r * c := hP _ (List.mem_of_getElem? (i := 0) rfl)
  have h1 : ρ 1 + 0 < ρ 2 + 0 := hP _ (List.mem_of_getElem? (i := 1) rfl)
  try simp only [Int.add_zero] at h0 h1
  have key : (0 ≤ ρ 1 ∧ ρ 1 ≤ 143) ∧ (nwE Γ M (α 0) fun r c => isPx r c (ρ 1 + 0)) ∧ True := by
    try simp only [Int.add_zero]
    have e : ρ 1 < 144 := (nw1 hT h0).out fun r c ⟨hr, hc, q⟩ => by have := rc_bd hr hc; omega
    exact ⟨⟨b1.1, by omega⟩, h0.imp fun r c q => ⟨b1.1, by rw [← q]; exact h1⟩, trivial⟩
  exact ⟨qB (key.1) (nB), qB (key.2.1) (nB)⟩
def t_mrw : KT := ((0, 0, 0, 0), [(2, 0, 40, 0), (1, 1, 0, 0), (1, 2, 0, 0), (1, 3, 0, 0)], [(0, 0), (0, 2147483647), (-2147483648, 2147483647), (-2147483648, 2147483647)], [(8, [(2, 0, 40, 0), (1, 2, 0, 0)]), (26, [(1, 1, 0, 0), (1, 2, 0, 0), (1, 3, 0, 0)])], (0, 0, 0), [], [], ([], [(9, [(2, 0, 40, 0), (1, 1, 0, 0), (1, 3, 0, 0)])]), ([], []))
theorem l_mrw (g : GG) : LOK Yt (PSt g) t_mrw := by
  intro ρ α Γ M as hT hB hA hP
  have g0 : Γ (α 0) = 40 := tyAt hA (i := 0) rfl
  have b1 : 0 ≤ ρ 1 ∧ ρ 1 ≤ 2147483647 := hB 1
  have b2 : -2147483648 ≤ ρ 2 ∧ ρ 2 ≤ 2147483647 := hB 2
  have b3 : -2147483648 ≤ ρ 3 ∧ ρ 3 ≤ 2147483647 := hB 3
  have h0 : nwE Γ M (α 0) fun r c => ρ 2 + 0 = c := hP _ (List.mem_of_getElem? (i := 0) rfl)
  have h1 : ρ 3 + 0 = wI ((ρ 1 + 0 : Int).tdiv (ρ 2 + 0)) := hP _ (List.mem_of_getElem? (i := 1) rfl)
  try simp only [Int.add_zero] at h0 h1
  have key : (nwE Γ M (α 0) fun r c => ρ 3 + 0 = (ρ 1 + 0) / c) ∧ True := by
    try simp only [Int.add_zero]
    exact ⟨(nw1 hT h0).imp fun r c ⟨hr, hc, q⟩ => by
      subst q
      obtain ⟨d1, d2, d3, d4, d5, d6, d7⟩ := dm b1.1 (show 0 < ρ 2 by omega)
      rw [d1] at h1
      rw [wI_id (by unfold inI; omega)] at h1
      exact h1, trivial⟩
  exact ⟨nB, qB (key.1) (nB)⟩
def t_mcl : KT := ((0, 0, 0, 0), [(2, 0, 40, 0), (1, 1, 0, 0), (1, 2, 0, 0), (1, 3, 0, 0)], [(0, 0), (0, 2147483647), (-2147483648, 2147483647), (-2147483648, 2147483647)], [(8, [(2, 0, 40, 0), (1, 2, 0, 0)]), (27, [(1, 1, 0, 0), (1, 2, 0, 0), (1, 3, 0, 0)])], (0, 0, 0), [], [], ([], [(96, [(2, 0, 40, 0), (1, 1, 0, 0), (1, 3, 0, 0)])]), ([], []))
theorem l_mcl (g : GG) : LOK Yt (PSt g) t_mcl := by
  intro ρ α Γ M as hT hB hA hP
  have g0 : Γ (α 0) = 40 := tyAt hA (i := 0) rfl
  have b1 : 0 ≤ ρ 1 ∧ ρ 1 ≤ 2147483647 := hB 1
  have b2 : -2147483648 ≤ ρ 2 ∧ ρ 2 ≤ 2147483647 := hB 2
  have b3 : -2147483648 ≤ ρ 3 ∧ ρ 3 ≤ 2147483647 := hB 3
  have h0 : nwE Γ M (α 0) fun r c => ρ 2 + 0 = c := hP _ (List.mem_of_getElem? (i := 0) rfl)
  have h1 : ρ 3 + 0 = (ρ 1 + 0 : Int).tmod (ρ 2 + 0) := hP _ (List.mem_of_getElem? (i := 1) rfl)
  try simp only [Int.add_zero] at h0 h1
  have key : (nwE Γ M (α 0) fun r c => ρ 3 + 0 = (ρ 1 + 0) % c) ∧ True := by
    try simp only [Int.add_zero]
    exact ⟨(nw1 hT h0).imp fun r c ⟨hr, hc, q⟩ => by
      subst q
      obtain ⟨d1, d2, d3, d4, d5, d6, d7⟩ := dm b1.1 (show 0 < ρ 2 by omega)
      rw [d2] at h1
      exact h1, trivial⟩
  exact ⟨nB, qB (key.1) (nB)⟩
def t_nbn : KT := ((0, 0, 0, 0), [(2, 0, 40, 0), (1, 1, 0, 0), (1, 2, 0, 0)], [(0, 0), (0, 143), (-2147483648, 2147483647)], [], (0, 0, 0), [], [], ([], [(20, [(2, 0, 40, 0), (1, 1, 0, 0), (1, 2, 0, 0), (0, 0, 0, -1)])]), ([], []))
theorem l_nbn (g : GG) : LOK Yt (PSt g) t_nbn := by
  intro ρ α Γ M as hT hB hA hP
  have g0 : Γ (α 0) = 40 := tyAt hA (i := 0) rfl
  have b1 : 0 ≤ ρ 1 ∧ ρ 1 ≤ 143 := hB 1
  have b2 : -2147483648 ≤ ρ 2 ∧ ρ 2 ≤ 2147483647 := hB 2
  have key : (nwE Γ M (α 0) fun r c => (-1) ≠ -1 → isPx r c ((-1)) ∧ nbQ r c (ρ 1 + 0) (ρ 2 + 0)) ∧ True := by
    try simp only [Int.add_zero]
    exact ⟨(nw_ex hT g0).imp fun r c _ h => absurd rfl h, trivial⟩
  exact ⟨nB, qB (key.1) (nB)⟩
def t_nb0 : KT := ((0, 0, 0, 0), [(2, 0, 40, 0), (1, 1, 0, 0), (1, 2, 0, 0), (1, 3, 0, 0), (1, 4, 0, 0)], [(0, 0), (0, 143), (0, 0), (-2147483648, 2147483647), (-2147483648, 2147483647)], [(95, [(2, 0, 40, 0), (1, 1, 0, 0)]), (96, [(2, 0, 40, 0), (1, 1, 0, 0), (1, 3, 0, 0)]), (21, [(1, 3, 0, 0), (1, 4, 0, -1)]), (8, [(2, 0, 40, 0), (1, 4, 0, 0)])], (0, 0, 0), [], [], ([(1, 0, 142)], [(20, [(2, 0, 40, 0), (1, 1, 0, 0), (1, 2, 0, 0), (1, 1, 0, 1)])]), ([], []))
theorem l_nb0 (g : GG) : LOK Yt (PSt g) t_nb0 := by
  intro ρ α Γ M as hT hB hA hP
  have g0 : Γ (α 0) = 40 := tyAt hA (i := 0) rfl
  have b1 : 0 ≤ ρ 1 ∧ ρ 1 ≤ 143 := hB 1
  have b2 : 0 ≤ ρ 2 ∧ ρ 2 ≤ 0 := hB 2
  have b3 : -2147483648 ≤ ρ 3 ∧ ρ 3 ≤ 2147483647 := hB 3
  have b4 : -2147483648 ≤ ρ 4 ∧ ρ 4 ≤ 2147483647 := hB 4
  have h0 : nwE Γ M (α 0) fun r c => isPx r c (ρ 1 + 0) := hP _ (List.mem_of_getElem? (i := 0) rfl)
  have h1 : nwE Γ M (α 0) fun r c => ρ 3 + 0 = (ρ 1 + 0) % c := hP _ (List.mem_of_getElem? (i := 1) rfl)
  have h2 : ρ 3 + 0 < ρ 4 + (-1) := hP _ (List.mem_of_getElem? (i := 2) rfl)
  have h3 : nwE Γ M (α 0) fun r c => ρ 4 + 0 = c := hP _ (List.mem_of_getElem? (i := 3) rfl)
  try simp only [Int.add_zero] at h0 h1 h2 h3
  have key : (0 ≤ ρ 1 ∧ ρ 1 ≤ 142) ∧ (nwE Γ M (α 0) fun r c => ρ 1 + 1 ≠ -1 → isPx r c (ρ 1 + 1) ∧ nbQ r c (ρ 1 + 0) (ρ 2 + 0)) ∧ True := by
    try simp only [Int.add_zero]
    have key2 : nwE Γ M (α 0) fun r c => ρ 1 + 1 < 144 ∧ (isPx r c (ρ 1 + 1) ∧ nbQ r c (ρ 1) (ρ 2)) := (nw1 hT ((h0.and h1).and h3)).imp fun r c ⟨hr, hc, ⟨⟨q1, q2⟩, q3⟩, q4⟩ => by
      subst q4
      obtain ⟨-, -, y3, y4, y5, y6, y7⟩ := dm (p := ρ 1) b1.1 (show 0 < ρ 4 by omega)
      have z := row_lt (show 0 < ρ 4 by omega) q2
      have l := low_lt (k := 0) b1.1 (show 0 < ρ 4 by omega) (show ρ 1 / ρ 4 ≤ r - 1 - 0 by omega) (by decide)
      have hrc := rc_bd hr hc
      exact ⟨by omega, ⟨by omega, by omega⟩, fun _ => by omega, fun h => by omega, fun h => by omega, fun h => by omega⟩
    have e : ρ 1 + 1 < 144 := key2.out fun r c q => q.1
    exact ⟨⟨b1.1, by omega⟩, key2.imp fun r c q _ => q.2, trivial⟩
  exact ⟨qB (key.1) (nB), qB (key.2.1) (nB)⟩
def t_nb1 : KT := ((0, 0, 0, 0), [(2, 0, 40, 0), (1, 1, 0, 0), (1, 2, 0, 0), (1, 3, 0, 0), (1, 4, 0, 0), (1, 5, 0, 0), (1, 6, 0, 0)], [(0, 0), (0, 143), (1, 1), (-2147483648, 2147483647), (-2147483648, 2147483647), (2, 12), (-2147483648, 2147483647)], [(95, [(2, 0, 40, 0), (1, 1, 0, 0)]), (9, [(2, 0, 40, 0), (1, 1, 0, 0), (1, 3, 0, 0)]), (21, [(1, 3, 0, 0), (1, 4, 0, -1)]), (93, [(2, 0, 40, 0), (1, 4, 0, 0)]), (8, [(2, 0, 40, 0), (1, 5, 0, 0)]), (23, [(1, 1, 0, 0), (1, 5, 0, 0), (1, 6, 0, 0)])], (0, 0, 0), [], [], ([(6, 0, 143)], [(20, [(2, 0, 40, 0), (1, 1, 0, 0), (1, 2, 0, 0), (1, 6, 0, 0)])]), ([], []))
theorem l_nb1 (g : GG) : LOK Yt (PSt g) t_nb1 := by
  intro ρ α Γ M as hT hB hA hP
  have g0 : Γ (α 0) = 40 := tyAt hA (i := 0) rfl
  have b1 : 0 ≤ ρ 1 ∧ ρ 1 ≤ 143 := hB 1
  have b2 : 1 ≤ ρ 2 ∧ ρ 2 ≤ 1 := hB 2
  have b3 : -2147483648 ≤ ρ 3 ∧ ρ 3 ≤ 2147483647 := hB 3
  have b4 : -2147483648 ≤ ρ 4 ∧ ρ 4 ≤ 2147483647 := hB 4
  have b5 : 2 ≤ ρ 5 ∧ ρ 5 ≤ 12 := hB 5
  have b6 : -2147483648 ≤ ρ 6 ∧ ρ 6 ≤ 2147483647 := hB 6
  have h0 : nwE Γ M (α 0) fun r c => isPx r c (ρ 1 + 0) := hP _ (List.mem_of_getElem? (i := 0) rfl)
  have h1 : nwE Γ M (α 0) fun r c => ρ 3 + 0 = (ρ 1 + 0) / c := hP _ (List.mem_of_getElem? (i := 1) rfl)
  have h2 : ρ 3 + 0 < ρ 4 + (-1) := hP _ (List.mem_of_getElem? (i := 2) rfl)
  have h3 : nwE Γ M (α 0) fun r c => ρ 4 + 0 = r := hP _ (List.mem_of_getElem? (i := 3) rfl)
  have h4 : nwE Γ M (α 0) fun r c => ρ 5 + 0 = c := hP _ (List.mem_of_getElem? (i := 4) rfl)
  have h5 : ρ 6 + 0 = wI ((ρ 1 + 0) + (ρ 5 + 0)) := hP _ (List.mem_of_getElem? (i := 5) rfl)
  try simp only [Int.add_zero] at h0 h1 h2 h3 h4 h5
  have key : (0 ≤ ρ 6 ∧ ρ 6 ≤ 143) ∧ (nwE Γ M (α 0) fun r c => ρ 6 + 0 ≠ -1 → isPx r c (ρ 6 + 0) ∧ nbQ r c (ρ 1 + 0) (ρ 2 + 0)) ∧ True := by
    try simp only [Int.add_zero]
    rw [wI_id (by unfold inI; omega)] at h5
    have key2 : nwE Γ M (α 0) fun r c => ρ 6 < 144 ∧ (isPx r c (ρ 6) ∧ nbQ r c (ρ 1) (ρ 2)) := (nw1 hT (((h0.and h1).and h3).and h4)).imp fun r c ⟨hr, hc, ⟨⟨⟨q1, q2⟩, q3⟩, q4⟩, q5⟩ => by
      subst q5
      subst q4
      obtain ⟨-, -, y3, y4, y5, y6, y7⟩ := dm (p := ρ 1) b1.1 (show 0 < ρ 5 by omega)
      have l := low_lt (r := ρ 4) (k := 1) b1.1 (show 0 < ρ 5 by omega) (show ρ 1 / ρ 5 ≤ ρ 4 - 1 - 1 by omega) (by decide)
      have hrc := rc_bd hr hc
      exact ⟨by omega, ⟨by omega, by omega⟩, fun h => by omega, fun _ => by omega, fun h => by omega, fun h => by omega⟩
    have e : ρ 6 < 144 := key2.out fun r c q => q.1
    exact ⟨⟨by omega, by omega⟩, key2.imp fun r c q _ => q.2, trivial⟩
  exact ⟨qB (key.1) (nB), qB (key.2.1) (nB)⟩
def t_nb2 : KT := ((0, 0, 0, 0), [(2, 0, 40, 0), (1, 1, 0, 0), (1, 2, 0, 0), (1, 3, 0, 0)], [(0, 0), (0, 143), (2, 2), (1, 2147483647)], [(95, [(2, 0, 40, 0), (1, 1, 0, 0)]), (96, [(2, 0, 40, 0), (1, 1, 0, 0), (1, 3, 0, 0)])], (0, 0, 0), [], [], ([(1, 1, 143)], [(20, [(2, 0, 40, 0), (1, 1, 0, 0), (1, 2, 0, 0), (1, 1, 0, -1)])]), ([], []))
theorem l_nb2 (g : GG) : LOK Yt (PSt g) t_nb2 := by
  intro ρ α Γ M as hT hB hA hP
  have g0 : Γ (α 0) = 40 := tyAt hA (i := 0) rfl
  have b1 : 0 ≤ ρ 1 ∧ ρ 1 ≤ 143 := hB 1
  have b2 : 2 ≤ ρ 2 ∧ ρ 2 ≤ 2 := hB 2
  have b3 : 1 ≤ ρ 3 ∧ ρ 3 ≤ 2147483647 := hB 3
  have h0 : nwE Γ M (α 0) fun r c => isPx r c (ρ 1 + 0) := hP _ (List.mem_of_getElem? (i := 0) rfl)
  have h1 : nwE Γ M (α 0) fun r c => ρ 3 + 0 = (ρ 1 + 0) % c := hP _ (List.mem_of_getElem? (i := 1) rfl)
  try simp only [Int.add_zero] at h0 h1
  have key : (1 ≤ ρ 1 ∧ ρ 1 ≤ 143) ∧ (nwE Γ M (α 0) fun r c => ρ 1 + (-1) ≠ -1 → isPx r c (ρ 1 + (-1)) ∧ nbQ r c (ρ 1 + 0) (ρ 2 + 0)) ∧ True := by
    try simp only [Int.add_zero]
    have key2 : nwE Γ M (α 0) fun r c => 1 ≤ ρ 1 ∧ (isPx r c (ρ 1 + (-1)) ∧ nbQ r c (ρ 1) (ρ 2)) := (nw1 hT (h0.and h1)).imp fun r c ⟨hr, hc, ⟨q1, q2⟩, q3⟩ => by
      obtain ⟨-, -, y3, y4, y5, y6, y7⟩ := dm (p := ρ 1) b1.1 (show 0 < c by omega)
      have hp : 1 ≤ ρ 1 := by
        by_cases h : ρ 1 = 0
        · rw [h, Int.zero_emod] at q3
          omega
        · omega
      exact ⟨hp, ⟨by omega, by omega⟩, fun h => by omega, fun h => by omega, fun _ => by omega, fun h => by omega⟩
    have e : 1 ≤ ρ 1 := key2.out fun r c q => q.1
    exact ⟨⟨e, b1.2⟩, key2.imp fun r c q _ => q.2, trivial⟩
  exact ⟨qB (key.1) (nB), qB (key.2.1) (nB)⟩
def t_nb3 : KT := ((0, 0, 0, 0), [(2, 0, 40, 0), (1, 1, 0, 0), (1, 2, 0, 0), (1, 3, 0, 0), (1, 4, 0, 0), (1, 5, 0, 0)], [(0, 0), (0, 143), (3, 3), (1, 2147483647), (2, 12), (-2147483648, 2147483647)], [(95, [(2, 0, 40, 0), (1, 1, 0, 0)]), (9, [(2, 0, 40, 0), (1, 1, 0, 0), (1, 3, 0, 0)]), (8, [(2, 0, 40, 0), (1, 4, 0, 0)]), (24, [(1, 1, 0, 0), (1, 4, 0, 0), (1, 5, 0, 0)])], (0, 0, 0), [], [], ([(5, 0, 143)], [(20, [(2, 0, 40, 0), (1, 1, 0, 0), (1, 2, 0, 0), (1, 5, 0, 0)])]), ([], []))
theorem l_nb3 (g : GG) : LOK Yt (PSt g) t_nb3 := by
  intro ρ α Γ M as hT hB hA hP
  have g0 : Γ (α 0) = 40 := tyAt hA (i := 0) rfl
  have b1 : 0 ≤ ρ 1 ∧ ρ 1 ≤ 143 := hB 1
  have b2 : 3 ≤ ρ 2 ∧ ρ 2 ≤ 3 := hB 2
  have b3 : 1 ≤ ρ 3 ∧ ρ 3 ≤ 2147483647 := hB 3
  have b4 : 2 ≤ ρ 4 ∧ ρ 4 ≤ 12 := hB 4
  have b5 : -2147483648 ≤ ρ 5 ∧ ρ 5 ≤ 2147483647 := hB 5
  have h0 : nwE Γ M (α 0) fun r c => isPx r c (ρ 1 + 0) := hP _ (List.mem_of_getElem? (i := 0) rfl)
  have h1 : nwE Γ M (α 0) fun r c => ρ 3 + 0 = (ρ 1 + 0) / c := hP _ (List.mem_of_getElem? (i := 1) rfl)
  have h2 : nwE Γ M (α 0) fun r c => ρ 4 + 0 = c := hP _ (List.mem_of_getElem? (i := 2) rfl)
  have h3 : ρ 5 + 0 = wI ((ρ 1 + 0) - (ρ 4 + 0)) := hP _ (List.mem_of_getElem? (i := 3) rfl)
  try simp only [Int.add_zero] at h0 h1 h2 h3
  have key : (0 ≤ ρ 5 ∧ ρ 5 ≤ 143) ∧ (nwE Γ M (α 0) fun r c => ρ 5 + 0 ≠ -1 → isPx r c (ρ 5 + 0) ∧ nbQ r c (ρ 1 + 0) (ρ 2 + 0)) ∧ True := by
    try simp only [Int.add_zero]
    rw [wI_id (by unfold inI; omega)] at h3
    have key2 : nwE Γ M (α 0) fun r c => ρ 4 ≤ ρ 1 ∧ (isPx r c (ρ 5) ∧ nbQ r c (ρ 1) (ρ 2)) := (nw1 hT ((h0.and h1).and h2)).imp fun r c ⟨hr, hc, ⟨⟨q1, q2⟩, q3⟩, q4⟩ => by
      subst q4
      obtain ⟨-, -, y3, y4, y5, y6, y7⟩ := dm (p := ρ 1) b1.1 (show 0 < ρ 4 by omega)
      have l : ρ 4 * 1 ≤ ρ 4 * (ρ 1 / ρ 4) := Int.mul_le_mul_of_nonneg_left (by omega) (by omega)
      exact ⟨by omega, ⟨by omega, by omega⟩, fun h => by omega, fun h => by omega, fun h => by omega, fun _ => by omega⟩
    have e : ρ 4 ≤ ρ 1 := key2.out fun r c q => q.1
    exact ⟨⟨by omega, by omega⟩, key2.imp fun r c q _ => q.2, trivial⟩
  exact ⟨qB (key.1) (nB), qB (key.2.1) (nB)⟩
def t_nbe : KT := ((0, 0, 0, 0), [(2, 0, 40, 0), (1, 1, 0, 0), (1, 2, 0, 0), (1, 3, 0, 0)], [(0, 0), (0, 143), (-2147483648, 2147483647), (0, 2147483647)], [(20, [(2, 0, 40, 0), (1, 1, 0, 0), (1, 2, 0, 0), (1, 3, 0, 0)])], (0, 0, 0), [], [], ([], [(28, [(2, 0, 40, 0), (1, 1, 0, 0), (1, 2, 0, 0)])]), ([], []))
theorem l_nbe (g : GG) : LOK Yt (PSt g) t_nbe := by
  intro ρ α Γ M as hT hB hA hP
  have g0 : Γ (α 0) = 40 := tyAt hA (i := 0) rfl
  have b1 : 0 ≤ ρ 1 ∧ ρ 1 ≤ 143 := hB 1
  have b2 : -2147483648 ≤ ρ 2 ∧ ρ 2 ≤ 2147483647 := hB 2
  have b3 : 0 ≤ ρ 3 ∧ ρ 3 ≤ 2147483647 := hB 3
  have h0 : nwE Γ M (α 0) fun r c => ρ 3 + 0 ≠ -1 → isPx r c (ρ 3 + 0) ∧ nbQ r c (ρ 1 + 0) (ρ 2 + 0) := hP _ (List.mem_of_getElem? (i := 0) rfl)
  try simp only [Int.add_zero] at h0
  have key : (nwE Γ M (α 0) fun r c => nbQ r c (ρ 1 + 0) (ρ 2 + 0)) ∧ True := by
    try simp only [Int.add_zero]
    exact ⟨h0.imp fun r c q => (q (by omega)).2, trivial⟩
  exact ⟨nB, qB (key.1) (nB)⟩
def t_et2 : KT := ((0, 0, 0, 0), [(2, 0, 40, 0), (1, 1, 0, 0), (1, 2, 0, 0)], [(0, 0), (0, 143), (2, 2)], [(28, [(2, 0, 40, 0), (1, 1, 0, 0), (1, 2, 0, 0)])], (0, 0, 0), [], [], ([(1, 1, 143)], []), ([], []))
theorem l_et2 (g : GG) : LOK Yt (PSt g) t_et2 := by
  intro ρ α Γ M as hT hB hA hP
  have g0 : Γ (α 0) = 40 := tyAt hA (i := 0) rfl
  have b1 : 0 ≤ ρ 1 ∧ ρ 1 ≤ 143 := hB 1
  have b2 : 2 ≤ ρ 2 ∧ ρ 2 ≤ 2 := hB 2
  have h0 : nwE Γ M (α 0) fun r c => nbQ r c (ρ 1 + 0) (ρ 2 + 0) := hP _ (List.mem_of_getElem? (i := 0) rfl)
  try simp only [Int.add_zero] at h0
  have key : (1 ≤ ρ 1 ∧ ρ 1 ≤ 143) ∧ True := by
    try simp only [Int.add_zero]
    have e : 1 ≤ ρ 1 := (nw1 hT h0).out fun r c ⟨hr, hc, q1, q2, q3, q4⟩ => by
      have q3 := q3 (by omega)
      by_cases h : ρ 1 = 0
      · rw [h, Int.zero_emod] at q3
        omega
      · omega
    exact ⟨⟨e, b1.2⟩, trivial⟩
  exact ⟨qB (key.1) (nB), nB⟩
def t_et3 : KT := ((0, 0, 0, 0), [(2, 0, 40, 0), (1, 1, 0, 0), (1, 2, 0, 0), (1, 3, 0, 0), (1, 4, 0, 0)], [(0, 0), (0, 143), (3, 3), (2, 12), (-2147483648, 2147483647)], [(28, [(2, 0, 40, 0), (1, 1, 0, 0), (1, 2, 0, 0)]), (8, [(2, 0, 40, 0), (1, 3, 0, 0)]), (24, [(1, 1, 0, 0), (1, 3, 0, 0), (1, 4, 0, 0)])], (0, 0, 0), [], [], ([(4, 0, 143)], []), ([], []))
theorem l_et3 (g : GG) : LOK Yt (PSt g) t_et3 := by
  intro ρ α Γ M as hT hB hA hP
  have g0 : Γ (α 0) = 40 := tyAt hA (i := 0) rfl
  have b1 : 0 ≤ ρ 1 ∧ ρ 1 ≤ 143 := hB 1
  have b2 : 3 ≤ ρ 2 ∧ ρ 2 ≤ 3 := hB 2
  have b3 : 2 ≤ ρ 3 ∧ ρ 3 ≤ 12 := hB 3
  have b4 : -2147483648 ≤ ρ 4 ∧ ρ 4 ≤ 2147483647 := hB 4
  have h0 : nwE Γ M (α 0) fun r c => nbQ r c (ρ 1 + 0) (ρ 2 + 0) := hP _ (List.mem_of_getElem? (i := 0) rfl)
  have h1 : nwE Γ M (α 0) fun r c => ρ 3 + 0 = c := hP _ (List.mem_of_getElem? (i := 1) rfl)
  have h2 : ρ 4 + 0 = wI ((ρ 1 + 0) - (ρ 3 + 0)) := hP _ (List.mem_of_getElem? (i := 2) rfl)
  try simp only [Int.add_zero] at h0 h1 h2
  have key : (0 ≤ ρ 4 ∧ ρ 4 ≤ 143) ∧ True := by
    try simp only [Int.add_zero]
    rw [wI_id (by unfold inI; omega)] at h2
    have e : ρ 3 ≤ ρ 1 := (h0.and h1).out fun r c ⟨⟨q1, q2, q3, q4⟩, q5⟩ => by have := q4 (by omega); omega
    exact ⟨⟨by omega, by omega⟩, trivial⟩
  exact ⟨qB (key.1) (nB), nB⟩
def t_np0 : KT := ((0, 0, 0, 0), [(1, 0, 0, 0), (1, 1, 0, 0)], [(-1, -1), (-2147483648, 2147483647)], [], (0, 0, 0), [], [], ([], [(99, [(1, 0, 0, 0), (1, 1, 0, 0)])]), ([], []))
theorem l_np0 (g : GG) : LOK Yt (PSt g) t_np0 := by
  intro ρ α Γ M as hT hB hA hP
  have b0 : -1 ≤ ρ 0 ∧ ρ 0 ≤ -1 := hB 0
  have b1 : -2147483648 ≤ ρ 1 ∧ ρ 1 ≤ 2147483647 := hB 1
  have key : ((ρ 0 + 0 : Int) = -1 ∨ 0 ≤ ρ 1 + 0) ∧ True := by
    try simp only [Int.add_zero]
    exact ⟨Or.inl (by omega), trivial⟩
  exact ⟨nB, qB (key.1) (nB)⟩
def t_np1 : KT := ((0, 0, 0, 0), [(1, 0, 0, 0), (1, 1, 0, 0)], [(-2147483648, 2147483647), (0, 2147483647)], [], (0, 0, 0), [], [], ([], [(99, [(1, 0, 0, 0), (1, 1, 0, 0)])]), ([], []))
theorem l_np1 (g : GG) : LOK Yt (PSt g) t_np1 := by
  intro ρ α Γ M as hT hB hA hP
  have b0 : -2147483648 ≤ ρ 0 ∧ ρ 0 ≤ 2147483647 := hB 0
  have b1 : 0 ≤ ρ 1 ∧ ρ 1 ≤ 2147483647 := hB 1
  have key : ((ρ 0 + 0 : Int) = -1 ∨ 0 ≤ ρ 1 + 0) ∧ True := by
    try simp only [Int.add_zero]
    exact ⟨Or.inr b1.1, trivial⟩
  exact ⟨nB, qB (key.1) (nB)⟩
def t_np2 : KT := ((0, 0, 0, 0), [(1, 0, 0, 0), (1, 1, 0, 0)], [(0, 2147483647), (-2147483648, 2147483647)], [(99, [(1, 0, 0, 0), (1, 1, 0, 0)])], (0, 0, 0), [], [], ([(1, 0, 2147483647)], []), ([], []))
theorem l_np2 (g : GG) : LOK Yt (PSt g) t_np2 := by
  intro ρ α Γ M as hT hB hA hP
  have b0 : 0 ≤ ρ 0 ∧ ρ 0 ≤ 2147483647 := hB 0
  have b1 : -2147483648 ≤ ρ 1 ∧ ρ 1 ≤ 2147483647 := hB 1
  have h0 : (ρ 0 + 0 : Int) = -1 ∨ 0 ≤ ρ 1 + 0 := hP _ (List.mem_of_getElem? (i := 0) rfl)
  try simp only [Int.add_zero] at h0
  have key : (0 ≤ ρ 1 ∧ ρ 1 ≤ 2147483647) ∧ True := by
    try simp only [Int.add_zero]
    exact ⟨⟨by omega, b1.2⟩, trivial⟩
  exact ⟨qB (key.1) (nB), nB⟩
def t_lebr : KT := ((0, 0, 0, 0), [(1, 0, 0, 0), (1, 1, 0, 0)], [(-2147483648, 2147483647), (0, 143)], [(6, [(1, 0, 0, 0), (1, 1, 0, 0)])], (0, 0, 0), [], [], ([(0, -2147483648, 143)], []), ([], []))
theorem l_lebr (g : GG) : LOK Yt (PSt g) t_lebr := by
  intro ρ α Γ M as hT hB hA hP
  have b0 : -2147483648 ≤ ρ 0 ∧ ρ 0 ≤ 2147483647 := hB 0
  have b1 : 0 ≤ ρ 1 ∧ ρ 1 ≤ 143 := hB 1
  have h0 : ρ 0 + 0 ≤ ρ 1 + 0 := hP _ (List.mem_of_getElem? (i := 0) rfl)
  try simp only [Int.add_zero] at h0
  have key : (-2147483648 ≤ ρ 0 ∧ ρ 0 ≤ 143) ∧ True := by
    try simp only [Int.add_zero]
    exact ⟨⟨b0.1, by omega⟩, trivial⟩
  exact ⟨qB (key.1) (nB), nB⟩
def t_acto : KT := ((0, 0, 0, 0), [(1, 0, 0, 0), (1, 1, 0, 0), (1, 2, 0, 0), (1, 3, 0, 0), (1, 4, 0, 0)], [(0, 11), (-2147483648, 2147483647), (0, 2313), (-2147483648, 2147483647), (-2147483648, 2147483647)], [(25, [(1, 0, 0, 0), (0, 0, 0, 2314), (1, 1, 0, 0)]), (23, [(1, 1, 0, 0), (1, 2, 0, 0), (1, 3, 0, 0)]), (7, [(0, 0, 0, 41), (1, 2, 0, 0), (1, 4, 0, 0)])], (0, 0, 0), [], [], ([(3, 0, 27767)], [(7, [(0, 0, 0, 43), (1, 3, 0, 0), (1, 4, 0, 0)])]), ([], []))
theorem l_acto (g : GG) : LOK Yt (PSt g) t_acto := by
  intro ρ α Γ M as hT hB hA hP
  have b0 : 0 ≤ ρ 0 ∧ ρ 0 ≤ 11 := hB 0
  have b1 : -2147483648 ≤ ρ 1 ∧ ρ 1 ≤ 2147483647 := hB 1
  have b2 : 0 ≤ ρ 2 ∧ ρ 2 ≤ 2313 := hB 2
  have b3 : -2147483648 ≤ ρ 3 ∧ ρ 3 ≤ 2147483647 := hB 3
  have b4 : -2147483648 ≤ ρ 4 ∧ ρ 4 ≤ 2147483647 := hB 4
  have h0 : ρ 1 + 0 = wI ((ρ 0 + 0) * (2314)) := hP _ (List.mem_of_getElem? (i := 0) rfl)
  have h1 : ρ 3 + 0 = wI ((ρ 1 + 0) + (ρ 2 + 0)) := hP _ (List.mem_of_getElem? (i := 1) rfl)
  have h2 : 0 ≤ (41 : Int) ∧ ∀ r ∈ (Yt (41 : Int).toNat).2.2.1, (r.1 : Int) ≤ ρ 2 + 0 → ρ 2 + 0 < (r.2.1 : Int) → r.2.2.1 ≤ ρ 4 + 0 ∧ ρ 4 + 0 ≤ r.2.2.2 := hP _ (List.mem_of_getElem? (i := 2) rfl)
  try simp only [Int.add_zero] at h0 h1 h2
  have key : (0 ≤ ρ 3 ∧ ρ 3 ≤ 27767) ∧ (0 ≤ (43 : Int) ∧ ∀ r ∈ (Yt (43 : Int).toNat).2.2.1, (r.1 : Int) ≤ ρ 3 + 0 → ρ 3 + 0 < (r.2.1 : Int) → r.2.2.1 ≤ ρ 4 + 0 ∧ ρ 4 + 0 ≤ r.2.2.2) ∧ True := by
    try simp only [Int.add_zero]
    rw [wI_id (by unfold inI; omega)] at h0
    rw [h0, wI_id (by unfold inI; omega)] at h1
    exact ⟨⟨by omega, by omega⟩, ⟨by decide, ac_to b0 b2 h1 h2.2⟩, trivial⟩
  exact ⟨qB (key.1) (nB), qB (key.2.1) (nB)⟩
def t_acfr0 : KT := ((0, 0, 0, 0), [(1, 0, 0, 0), (1, 1, 0, 0), (1, 2, 0, 0), (1, 3, 0, 0)], [(0, 11), (-2147483648, 2147483647), (0, 2313), (-2147483648, 2147483647)], [(25, [(1, 0, 0, 0), (0, 0, 0, 2314), (1, 1, 0, 0)]), (23, [(1, 1, 0, 0), (1, 2, 0, 0), (1, 3, 0, 0)])], (0, 0, 0), [], [], ([(3, 0, 27767)], []), ([], []))
theorem l_acfr0 (g : GG) : LOK Yt (PSt g) t_acfr0 := by
  intro ρ α Γ M as hT hB hA hP
  have b0 : 0 ≤ ρ 0 ∧ ρ 0 ≤ 11 := hB 0
  have b1 : -2147483648 ≤ ρ 1 ∧ ρ 1 ≤ 2147483647 := hB 1
  have b2 : 0 ≤ ρ 2 ∧ ρ 2 ≤ 2313 := hB 2
  have b3 : -2147483648 ≤ ρ 3 ∧ ρ 3 ≤ 2147483647 := hB 3
  have h0 : ρ 1 + 0 = wI ((ρ 0 + 0) * (2314)) := hP _ (List.mem_of_getElem? (i := 0) rfl)
  have h1 : ρ 3 + 0 = wI ((ρ 1 + 0) + (ρ 2 + 0)) := hP _ (List.mem_of_getElem? (i := 1) rfl)
  try simp only [Int.add_zero] at h0 h1
  have key : (0 ≤ ρ 3 ∧ ρ 3 ≤ 27767) ∧ True := by
    try simp only [Int.add_zero]
    rw [wI_id (by unfold inI; omega)] at h0
    rw [h0, wI_id (by unfold inI; omega)] at h1
    exact ⟨⟨by omega, by omega⟩, trivial⟩
  exact ⟨qB (key.1) (nB), nB⟩
def t_acfr : KT := ((0, 0, 0, 0), [(1, 0, 0, 0), (1, 1, 0, 0), (1, 2, 0, 0), (1, 3, 0, 0), (1, 4, 0, 0)], [(0, 11), (-2147483648, 2147483647), (0, 2313), (-2147483648, 2147483647), (-2147483648, 2147483647)], [(25, [(1, 0, 0, 0), (0, 0, 0, 2314), (1, 1, 0, 0)]), (23, [(1, 1, 0, 0), (1, 2, 0, 0), (1, 3, 0, 0)]), (7, [(0, 0, 0, 43), (1, 3, 0, 0), (1, 4, 0, 0)])], (0, 0, 0), [], [], ([], [(7, [(0, 0, 0, 41), (1, 2, 0, 0), (1, 4, 0, 0)])]), ([], []))
theorem l_acfr (g : GG) : LOK Yt (PSt g) t_acfr := by
  intro ρ α Γ M as hT hB hA hP
  have b0 : 0 ≤ ρ 0 ∧ ρ 0 ≤ 11 := hB 0
  have b1 : -2147483648 ≤ ρ 1 ∧ ρ 1 ≤ 2147483647 := hB 1
  have b2 : 0 ≤ ρ 2 ∧ ρ 2 ≤ 2313 := hB 2
  have b3 : -2147483648 ≤ ρ 3 ∧ ρ 3 ≤ 2147483647 := hB 3
  have b4 : -2147483648 ≤ ρ 4 ∧ ρ 4 ≤ 2147483647 := hB 4
  have h0 : ρ 1 + 0 = wI ((ρ 0 + 0) * (2314)) := hP _ (List.mem_of_getElem? (i := 0) rfl)
  have h1 : ρ 3 + 0 = wI ((ρ 1 + 0) + (ρ 2 + 0)) := hP _ (List.mem_of_getElem? (i := 1) rfl)
  have h2 : 0 ≤ (43 : Int) ∧ ∀ r ∈ (Yt (43 : Int).toNat).2.2.1, (r.1 : Int) ≤ ρ 3 + 0 → ρ 3 + 0 < (r.2.1 : Int) → r.2.2.1 ≤ ρ 4 + 0 ∧ ρ 4 + 0 ≤ r.2.2.2 := hP _ (List.mem_of_getElem? (i := 2) rfl)
  try simp only [Int.add_zero] at h0 h1 h2
  have key : (0 ≤ (41 : Int) ∧ ∀ r ∈ (Yt (41 : Int).toNat).2.2.1, (r.1 : Int) ≤ ρ 2 + 0 → ρ 2 + 0 < (r.2.1 : Int) → r.2.2.1 ≤ ρ 4 + 0 ∧ ρ 4 + 0 ≤ r.2.2.2) ∧ True := by
    try simp only [Int.add_zero]
    rw [wI_id (by unfold inI; omega)] at h0
    rw [h0, wI_id (by unfold inI; omega)] at h1
    exact ⟨⟨by decide, ac_from b0 b2 b4 h1 h2.2⟩, trivial⟩
  exact ⟨nB, qB (key.1) (nB)⟩
def t_ml0 : KT := ((0, 0, 0, 0), [(2, 0, 40, 0), (1, 1, 0, 0), (1, 2, 0, 0)], [(0, 0), (0, 1000), (0, 2147483647)], [(77, [(2, 0, 40, 0), (1, 1, 0, 0), (0, 0, 0, 0)]), (78, [(0, 0, 0, 0)]), (10, [(2, 0, 40, 0), (0, 0, 0, 5), (1, 2, 0, 0)])], (0, 0, 0), [], [], ([(2, 0, 999999)], [(59, [(1, 2, 0, 0), (1, 1, 0, 0)])]), ([], []))
theorem l_ml0 (g : GG) : LOK Yt (PSt g) t_ml0 := by
  intro ρ α Γ M as hT hB hA hP
  have g0 : Γ (α 0) = 40 := tyAt hA (i := 0) rfl
  have b1 : 0 ≤ ρ 1 ∧ ρ 1 ≤ 1000 := hB 1
  have b2 : 0 ≤ ρ 2 ∧ ρ 2 ≤ 2147483647 := hB 2
  have h0 : Γ (α 0) = 40 ∧ M.2.2.2.2 (α 0) 5 ≤ (g.2.1 : Int) + (ρ 1 + 0) := hP _ (List.mem_of_getElem? (i := 0) rfl)
  have h1 : (0 : Int) = 0 ∧ (g.2.1 : Int) ≤ 900000 := hP _ (List.mem_of_getElem? (i := 1) rfl)
  have h2 : 0 ≤ (5 : Int) ∧ M.2.2.2.2 (α 0) (5 : Int).toNat = ρ 2 + 0 := hP _ (List.mem_of_getElem? (i := 2) rfl)
  try simp only [Int.add_zero] at h0 h1 h2
  have key : (0 ≤ ρ 2 ∧ ρ 2 ≤ 999999) ∧ (ρ 2 + 0 ≤ (g.2.1 : Int) + (ρ 1 + 0)) ∧ True := by
    try simp only [Int.add_zero]
    have e : M.2.2.2.2 (α 0) 5 = ρ 2 := h2.2
    have h0 := h0.2
    have h1 : (g.2.1 : Int) ≤ 900000 := (show P78 g [vi 0] Γ M from hP _ (List.mem_of_getElem? (i := 1) rfl)).2
    exact ⟨⟨b2.1, by omega⟩, by omega, trivial⟩
  exact ⟨qB (key.1) (nB), qB (key.2.1) (nB)⟩
def t_ml1 : KT := ((0, 0, 0, 0), [(2, 0, 40, 0), (1, 1, 0, 0), (1, 2, 0, 0)], [(0, 0), (0, 1000), (0, 2147483647)], [(59, [(1, 2, 0, -1), (1, 1, 0, 0)]), (10, [(2, 0, 40, 0), (0, 0, 0, 5), (1, 2, 0, 0)])], (0, 0, 0), [], [], ([], [(77, [(2, 0, 40, 0), (1, 1, 0, 1), (0, 0, 0, 0)])]), ([], []))
theorem l_ml1 (g : GG) : LOK Yt (PSt g) t_ml1 := by
  intro ρ α Γ M as hT hB hA hP
  have g0 : Γ (α 0) = 40 := tyAt hA (i := 0) rfl
  have b1 : 0 ≤ ρ 1 ∧ ρ 1 ≤ 1000 := hB 1
  have b2 : 0 ≤ ρ 2 ∧ ρ 2 ≤ 2147483647 := hB 2
  have h0 : ρ 2 + (-1) ≤ (g.2.1 : Int) + (ρ 1 + 0) := hP _ (List.mem_of_getElem? (i := 0) rfl)
  have h1 : 0 ≤ (5 : Int) ∧ M.2.2.2.2 (α 0) (5 : Int).toNat = ρ 2 + 0 := hP _ (List.mem_of_getElem? (i := 1) rfl)
  try simp only [Int.add_zero] at h0 h1
  have key : (Γ (α 0) = 40 ∧ M.2.2.2.2 (α 0) 5 ≤ (g.2.1 : Int) + (ρ 1 + 1)) ∧ True := by
    try simp only [Int.add_zero]
    have e : M.2.2.2.2 (α 0) 5 = ρ 2 := h1.2
    exact ⟨⟨g0, by omega⟩, trivial⟩
  exact ⟨nB, qB (key.1) (nB)⟩
def t_mw77 : KT := ((0, 0, 0, 0), [(2, 0, 40, 0), (1, 1, 0, 0)], [(0, 0), (0, 150)], [(77, [(2, 0, 40, 0), (1, 1, 0, 0), (0, 0, 0, 0)])], (0, 0, 0), [], [], ([], [(77, [(2, 0, 40, 0), (0, 0, 0, 150), (0, 0, 0, 0)])]), ([], []))
theorem l_mw77 (g : GG) : LOK Yt (PSt g) t_mw77 := by
  intro ρ α Γ M as hT hB hA hP
  have g0 : Γ (α 0) = 40 := tyAt hA (i := 0) rfl
  have b1 : 0 ≤ ρ 1 ∧ ρ 1 ≤ 150 := hB 1
  have h0 : Γ (α 0) = 40 ∧ M.2.2.2.2 (α 0) 5 ≤ (g.2.1 : Int) + (ρ 1 + 0) := hP _ (List.mem_of_getElem? (i := 0) rfl)
  try simp only [Int.add_zero] at h0
  have key : (Γ (α 0) = 40 ∧ M.2.2.2.2 (α 0) 5 ≤ (g.2.1 : Int) + (150)) ∧ True := by
    try simp only [Int.add_zero]
    obtain ⟨-, h4⟩ := h0
    exact ⟨⟨g0, by omega⟩, trivial⟩
  exact ⟨nB, qB (key.1) (nB)⟩
def t_r76 : KT := ((0, 0, 0, 0), [(2, 0, 40, 0), (1, 1, 0, 0), (1, 2, 0, 0)], [(0, 0), (0, 2147483647), (-2147483648, 2147483647)], [(95, [(2, 0, 40, 0), (1, 1, 0, 0)]), (9, [(2, 0, 40, 0), (1, 1, 0, 0), (1, 2, 0, 0)])], (0, 0, 0), [], [], ([], [(76, [(2, 0, 40, 0), (1, 2, 0, 0)])]), ([], []))
theorem l_r76 (g : GG) : LOK Yt (PSt g) t_r76 := by
  intro ρ α Γ M as hT hB hA hP
  have g0 : Γ (α 0) = 40 := tyAt hA (i := 0) rfl
  have b1 : 0 ≤ ρ 1 ∧ ρ 1 ≤ 2147483647 := hB 1
  have b2 : -2147483648 ≤ ρ 2 ∧ ρ 2 ≤ 2147483647 := hB 2
  have h0 : nwE Γ M (α 0) fun r c => isPx r c (ρ 1 + 0) := hP _ (List.mem_of_getElem? (i := 0) rfl)
  have h1 : nwE Γ M (α 0) fun r c => ρ 2 + 0 = (ρ 1 + 0) / c := hP _ (List.mem_of_getElem? (i := 1) rfl)
  try simp only [Int.add_zero] at h0 h1
  have key : (nwE Γ M (α 0) fun r c => ρ 2 + 0 < r) ∧ True := by
    try simp only [Int.add_zero]
    exact ⟨(nw1 hT (h0.and h1)).imp fun r c ⟨hr, hc, ⟨q1, q2⟩, q3⟩ => by
      rw [q3]
      exact row_lt (by omega) q2, trivial⟩
  exact ⟨nB, qB (key.1) (nB)⟩
def t_r76k : KT := ((0, 0, 0, 0), [(2, 0, 40, 0), (1, 1, 0, 0), (1, 2, 0, 0)], [(0, 0), (-2147483648, 2147483647), (-2147483648, 2147483647)], [(21, [(1, 1, 0, 0), (1, 2, 0, 0)]), (93, [(2, 0, 40, 0), (1, 2, 0, 0)])], (0, 0, 0), [], [], ([], [(76, [(2, 0, 40, 0), (1, 1, 0, 0)])]), ([], []))
theorem l_r76k (g : GG) : LOK Yt (PSt g) t_r76k := by
  intro ρ α Γ M as hT hB hA hP
  have g0 : Γ (α 0) = 40 := tyAt hA (i := 0) rfl
  have b1 : -2147483648 ≤ ρ 1 ∧ ρ 1 ≤ 2147483647 := hB 1
  have b2 : -2147483648 ≤ ρ 2 ∧ ρ 2 ≤ 2147483647 := hB 2
  have h0 : ρ 1 + 0 < ρ 2 + 0 := hP _ (List.mem_of_getElem? (i := 0) rfl)
  have h1 : nwE Γ M (α 0) fun r c => ρ 2 + 0 = r := hP _ (List.mem_of_getElem? (i := 1) rfl)
  try simp only [Int.add_zero] at h0 h1
  have key : (nwE Γ M (α 0) fun r c => ρ 1 + 0 < r) ∧ True := by
    try simp only [Int.add_zero]
    exact ⟨h1.imp fun r c q => by omega, trivial⟩
  exact ⟨nB, qB (key.1) (nB)⟩
def t_r76d : KT := ((0, 0, 0, 0), [(2, 0, 40, 0), (1, 1, 0, 0)], [(0, 0), (-2147483648, 2147483647)], [(76, [(2, 0, 40, 0), (1, 1, 0, 1)])], (0, 0, 0), [], [], ([], [(76, [(2, 0, 40, 0), (1, 1, 0, 0)])]), ([], []))
theorem l_r76d (g : GG) : LOK Yt (PSt g) t_r76d := by
  intro ρ α Γ M as hT hB hA hP
  have g0 : Γ (α 0) = 40 := tyAt hA (i := 0) rfl
  have b1 : -2147483648 ≤ ρ 1 ∧ ρ 1 ≤ 2147483647 := hB 1
  have h0 : nwE Γ M (α 0) fun r c => ρ 1 + 1 < r := hP _ (List.mem_of_getElem? (i := 0) rfl)
  try simp only [Int.add_zero] at h0
  have key : (nwE Γ M (α 0) fun r c => ρ 1 + 0 < r) ∧ True := by
    try simp only [Int.add_zero]
    exact ⟨h0.imp fun r c q => by omega, trivial⟩
  exact ⟨nB, qB (key.1) (nB)⟩
def t_r76b : KT := ((0, 0, 0, 0), [(2, 0, 40, 0), (1, 1, 0, 0), (1, 2, 0, 0), (1, 3, 0, 0)], [(0, 0), (0, 2147483647), (-2147483648, 2147483647), (-2147483648, 2147483647)], [(95, [(2, 0, 40, 0), (1, 1, 0, 0)]), (9, [(2, 0, 40, 0), (1, 1, 0, 0), (1, 2, 0, 0)]), (21, [(1, 3, 0, 0), (1, 2, 0, 0)])], (0, 0, 0), [], [], ([], [(76, [(2, 0, 40, 0), (1, 3, 0, 1)])]), ([], []))
theorem l_r76b (g : GG) : LOK Yt (PSt g) t_r76b := by
  intro ρ α Γ M as hT hB hA hP
  have g0 : Γ (α 0) = 40 := tyAt hA (i := 0) rfl
  have b1 : 0 ≤ ρ 1 ∧ ρ 1 ≤ 2147483647 := hB 1
  have b2 : -2147483648 ≤ ρ 2 ∧ ρ 2 ≤ 2147483647 := hB 2
  have b3 : -2147483648 ≤ ρ 3 ∧ ρ 3 ≤ 2147483647 := hB 3
  have h0 : nwE Γ M (α 0) fun r c => isPx r c (ρ 1 + 0) := hP _ (List.mem_of_getElem? (i := 0) rfl)
  have h1 : nwE Γ M (α 0) fun r c => ρ 2 + 0 = (ρ 1 + 0) / c := hP _ (List.mem_of_getElem? (i := 1) rfl)
  have h2 : ρ 3 + 0 < ρ 2 + 0 := hP _ (List.mem_of_getElem? (i := 2) rfl)
  try simp only [Int.add_zero] at h0 h1 h2
  have key : (nwE Γ M (α 0) fun r c => ρ 3 + 1 < r) ∧ True := by
    try simp only [Int.add_zero]
    exact ⟨(nw1 hT (h0.and h1)).imp fun r c ⟨hr, hc, ⟨q1, q2⟩, q3⟩ => by
      have := row_lt (show 0 < c by omega) q2
      omega, trivial⟩
  exact ⟨nB, qB (key.1) (nB)⟩
def t_c21 : KT := ((0, 0, 0, 0), [(2, 0, 40, 0), (1, 1, 0, 0), (1, 2, 0, 0), (1, 3, 0, 0)], [(0, 0), (0, 2147483647), (-2147483648, 2147483647), (-2147483648, 2147483647)], [(96, [(2, 0, 40, 0), (1, 1, 0, 0), (1, 2, 0, 0)]), (8, [(2, 0, 40, 0), (1, 3, 0, 0)])], (0, 0, 0), [], [], ([], [(21, [(1, 2, 0, 0), (1, 3, 0, 0)])]), ([], []))
theorem l_c21 (g : GG) : LOK Yt (PSt g) t_c21 := by
  intro ρ α Γ M as hT hB hA hP
  have g0 : Γ (α 0) = 40 := tyAt hA (i := 0) rfl
  have b1 : 0 ≤ ρ 1 ∧ ρ 1 ≤ 2147483647 := hB 1
  have b2 : -2147483648 ≤ ρ 2 ∧ ρ 2 ≤ 2147483647 := hB 2
  have b3 : -2147483648 ≤ ρ 3 ∧ ρ 3 ≤ 2147483647 := hB 3
  have h0 : nwE Γ M (α 0) fun r c => ρ 2 + 0 = (ρ 1 + 0) % c := hP _ (List.mem_of_getElem? (i := 0) rfl)
  have h1 : nwE Γ M (α 0) fun r c => ρ 3 + 0 = c := hP _ (List.mem_of_getElem? (i := 1) rfl)
  try simp only [Int.add_zero] at h0 h1
  have key : (ρ 2 + 0 < ρ 3 + 0) ∧ True := by
    try simp only [Int.add_zero]
    exact ⟨(nw1 hT (h0.and h1)).out fun r c ⟨hr, hc, q1, q2⟩ => by
      rw [q1, q2]
      exact Int.emod_lt_of_pos _ (by omega), trivial⟩
  exact ⟨nB, qB (key.1) (nB)⟩
def t_ltd : KT := ((0, 0, 0, 0), [(1, 0, 0, 0), (1, 1, 0, 0)], [(-2147483648, 2147483647), (-2147483648, 2147483647)], [(21, [(1, 0, 0, 1), (1, 1, 0, 0)])], (0, 0, 0), [], [], ([], [(21, [(1, 0, 0, 0), (1, 1, 0, 0)])]), ([], []))
theorem l_ltd (g : GG) : LOK Yt (PSt g) t_ltd := by
  intro ρ α Γ M as hT hB hA hP
  have b0 : -2147483648 ≤ ρ 0 ∧ ρ 0 ≤ 2147483647 := hB 0
  have b1 : -2147483648 ≤ ρ 1 ∧ ρ 1 ≤ 2147483647 := hB 1
  have h0 : ρ 0 + 1 < ρ 1 + 0 := hP _ (List.mem_of_getElem? (i := 0) rfl)
  try simp only [Int.add_zero] at h0
  have key : (ρ 0 + 0 < ρ 1 + 0) ∧ True := by
    try simp only [Int.add_zero]
    exact ⟨by omega, trivial⟩
  exact ⟨nB, qB (key.1) (nB)⟩
def t_rc : KT := ((0, 0, 0, 0), [(2, 0, 40, 0), (1, 1, 0, 0), (1, 2, 0, 0), (1, 3, 0, 0), (1, 4, 0, 0), (1, 5, 0, 0)], [(0, 0), (-2147483648, 2147483647), (0, 2147483647), (0, 2147483647), (-2147483648, 2147483647), (-2147483648, 2147483647)], [(76, [(2, 0, 40, 0), (1, 2, 0, 0)]), (8, [(2, 0, 40, 0), (1, 1, 0, 0)]), (21, [(1, 3, 0, 0), (1, 1, 0, 0)]), (25, [(1, 2, 0, 0), (1, 1, 0, 0), (1, 4, 0, 0)]), (23, [(1, 4, 0, 0), (1, 3, 0, 0), (1, 5, 0, 0)])], (0, 0, 0), [], [], ([(5, 0, 143)], [(95, [(2, 0, 40, 0), (1, 5, 0, 0)])]), ([], []))
theorem l_rc (g : GG) : LOK Yt (PSt g) t_rc := by
  intro ρ α Γ M as hT hB hA hP
  have g0 : Γ (α 0) = 40 := tyAt hA (i := 0) rfl
  have b1 : -2147483648 ≤ ρ 1 ∧ ρ 1 ≤ 2147483647 := hB 1
  have b2 : 0 ≤ ρ 2 ∧ ρ 2 ≤ 2147483647 := hB 2
  have b3 : 0 ≤ ρ 3 ∧ ρ 3 ≤ 2147483647 := hB 3
  have b4 : -2147483648 ≤ ρ 4 ∧ ρ 4 ≤ 2147483647 := hB 4
  have b5 : -2147483648 ≤ ρ 5 ∧ ρ 5 ≤ 2147483647 := hB 5
  have h0 : nwE Γ M (α 0) fun r c => ρ 2 + 0 < r := hP _ (List.mem_of_getElem? (i := 0) rfl)
  have h1 : nwE Γ M (α 0) fun r c => ρ 1 + 0 = c := hP _ (List.mem_of_getElem? (i := 1) rfl)
  have h2 : ρ 3 + 0 < ρ 1 + 0 := hP _ (List.mem_of_getElem? (i := 2) rfl)
  have h3 : ρ 4 + 0 = wI ((ρ 2 + 0) * (ρ 1 + 0)) := hP _ (List.mem_of_getElem? (i := 3) rfl)
  have h4 : ρ 5 + 0 = wI ((ρ 4 + 0) + (ρ 3 + 0)) := hP _ (List.mem_of_getElem? (i := 4) rfl)
  try simp only [Int.add_zero] at h0 h1 h2 h3 h4
  have key : (0 ≤ ρ 5 ∧ ρ 5 ≤ 143) ∧ (nwE Γ M (α 0) fun r c => isPx r c (ρ 5 + 0)) ∧ True := by
    try simp only [Int.add_zero]
    have key2 : nwE Γ M (α 0) fun r c => (0 ≤ ρ 5 ∧ ρ 5 ≤ 143) ∧ isPx r c (ρ 5) := (nw1 hT (h0.and h1)).imp fun r c ⟨hr, hc, q1, q2⟩ => by
      subst q2
      have l1 : 0 ≤ ρ 2 * ρ 1 := Int.mul_nonneg b2.1 (by omega)
      have l2 : ρ 2 * ρ 1 ≤ (r - 1) * ρ 1 := Int.mul_le_mul_of_nonneg_right (by omega) (by omega)
      have l3 : (r - 1) * ρ 1 = r * ρ 1 - ρ 1 := by rw [Int.sub_mul, Int.one_mul]
      have hrc := rc_bd hr hc
      have e4 : ρ 4 = ρ 2 * ρ 1 := by rw [h3, wI_id (by unfold inI; omega)]
      have e5 : ρ 5 = ρ 4 + ρ 3 := by rw [h4, wI_id (by unfold inI; omega)]
      exact ⟨⟨by omega, by omega⟩, by omega, by omega⟩
    exact ⟨key2.out fun _ _ q => q.1, key2.imp fun _ _ q => q.2, trivial⟩
  exact ⟨qB (key.1) (nB), qB (key.2.1) (nB)⟩
def t_rc1 : KT := ((0, 0, 0, 0), [(2, 0, 40, 0), (1, 1, 0, 0), (1, 2, 0, 0), (1, 3, 0, 0), (1, 4, 0, 0), (1, 5, 0, 0), (1, 6, 0, 0), (1, 7, 0, 0)], [(0, 0), (-2147483648, 2147483647), (0, 2147483647), (0, 2147483647), (0, 2147483647), (-2147483648, 2147483647), (-2147483648, 2147483647), (-2147483648, 2147483647)], [(76, [(2, 0, 40, 0), (1, 2, 0, 0)]), (8, [(2, 0, 40, 0), (1, 1, 0, 0)]), (96, [(2, 0, 40, 0), (1, 4, 0, 0), (1, 5, 0, 0)]), (21, [(1, 3, 0, 0), (1, 5, 0, 0)]), (25, [(1, 2, 0, 0), (1, 1, 0, 0), (1, 6, 0, 0)]), (23, [(1, 6, 0, 0), (1, 3, 0, 0), (1, 7, 0, 0)])], (0, 0, 0), [], [], ([(7, 0, 142)], []), ([], []))
theorem l_rc1 (g : GG) : LOK Yt (PSt g) t_rc1 := by
  intro ρ α Γ M as hT hB hA hP
  have g0 : Γ (α 0) = 40 := tyAt hA (i := 0) rfl
  have b1 : -2147483648 ≤ ρ 1 ∧ ρ 1 ≤ 2147483647 := hB 1
  have b2 : 0 ≤ ρ 2 ∧ ρ 2 ≤ 2147483647 := hB 2
  have b3 : 0 ≤ ρ 3 ∧ ρ 3 ≤ 2147483647 := hB 3
  have b4 : 0 ≤ ρ 4 ∧ ρ 4 ≤ 2147483647 := hB 4
  have b5 : -2147483648 ≤ ρ 5 ∧ ρ 5 ≤ 2147483647 := hB 5
  have b6 : -2147483648 ≤ ρ 6 ∧ ρ 6 ≤ 2147483647 := hB 6
  have b7 : -2147483648 ≤ ρ 7 ∧ ρ 7 ≤ 2147483647 := hB 7
  have h0 : nwE Γ M (α 0) fun r c => ρ 2 + 0 < r := hP _ (List.mem_of_getElem? (i := 0) rfl)
  have h1 : nwE Γ M (α 0) fun r c => ρ 1 + 0 = c := hP _ (List.mem_of_getElem? (i := 1) rfl)
  have h2 : nwE Γ M (α 0) fun r c => ρ 5 + 0 = (ρ 4 + 0) % c := hP _ (List.mem_of_getElem? (i := 2) rfl)
  have h3 : ρ 3 + 0 < ρ 5 + 0 := hP _ (List.mem_of_getElem? (i := 3) rfl)
  have h4 : ρ 6 + 0 = wI ((ρ 2 + 0) * (ρ 1 + 0)) := hP _ (List.mem_of_getElem? (i := 4) rfl)
  have h5 : ρ 7 + 0 = wI ((ρ 6 + 0) + (ρ 3 + 0)) := hP _ (List.mem_of_getElem? (i := 5) rfl)
  try simp only [Int.add_zero] at h0 h1 h2 h3 h4 h5
  have key : (0 ≤ ρ 7 ∧ ρ 7 ≤ 142) ∧ True := by
    try simp only [Int.add_zero]
    have key2 : nwE Γ M (α 0) fun r c => (0 ≤ ρ 7 ∧ ρ 7 ≤ 142) := (nw1 hT ((h0.and h1).and h2)).imp fun r c ⟨hr, hc, ⟨q1, q2⟩, q3⟩ => by
      subst q2
      have l0 := Int.emod_lt_of_pos (ρ 4) (show 0 < ρ 1 by omega)
      have l1 : 0 ≤ ρ 2 * ρ 1 := Int.mul_nonneg b2.1 (by omega)
      have l2 : ρ 2 * ρ 1 ≤ (r - 1) * ρ 1 := Int.mul_le_mul_of_nonneg_right (by omega) (by omega)
      have l3 : (r - 1) * ρ 1 = r * ρ 1 - ρ 1 := by rw [Int.sub_mul, Int.one_mul]
      have hrc := rc_bd hr hc
      have e4 : ρ 6 = ρ 2 * ρ 1 := by rw [h4, wI_id (by unfold inI; omega)]
      have e5 : ρ 7 = ρ 6 + ρ 3 := by rw [h5, wI_id (by unfold inI; omega)]
      exact ⟨by omega, by omega⟩
    exact ⟨key2.out fun _ _ q => q, trivial⟩
  exact ⟨qB (key.1) (nB), nB⟩
def t_gs2 : KT := ((0, 0, 0, 0), [(1, 0, 0, 0), (1, 1, 0, 0), (1, 2, 0, 0), (1, 3, 0, 0)], [(-2147483648, 2147483647), (0, 127), (-2147483648, 2147483647), (1, 5)], [(19, [(1, 0, 0, 0), (1, 3, 0, -1)]), (23, [(1, 0, 0, 0), (1, 1, 0, 0), (1, 2, 0, 0)])], (0, 0, 0), [], [], ([(2, 0, 635)], [(19, [(1, 2, 0, 0), (1, 3, 0, 0)])]), ([], []))
theorem l_gs2 (g : GG) : LOK Yt (PSt g) t_gs2 := by
  intro ρ α Γ M as hT hB hA hP
  have b0 : -2147483648 ≤ ρ 0 ∧ ρ 0 ≤ 2147483647 := hB 0
  have b1 : 0 ≤ ρ 1 ∧ ρ 1 ≤ 127 := hB 1
  have b2 : -2147483648 ≤ ρ 2 ∧ ρ 2 ≤ 2147483647 := hB 2
  have b3 : 1 ≤ ρ 3 ∧ ρ 3 ≤ 5 := hB 3
  have h0 : 0 ≤ (ρ 0 + 0) ∧ (ρ 0 + 0) ≤ 127 * (ρ 3 + (-1)) := hP _ (List.mem_of_getElem? (i := 0) rfl)
  have h1 : ρ 2 + 0 = wI ((ρ 0 + 0) + (ρ 1 + 0)) := hP _ (List.mem_of_getElem? (i := 1) rfl)
  try simp only [Int.add_zero] at h0 h1
  have key : (0 ≤ ρ 2 ∧ ρ 2 ≤ 635) ∧ (0 ≤ (ρ 2 + 0) ∧ (ρ 2 + 0) ≤ 127 * (ρ 3 + 0)) ∧ True := by
    try simp only [Int.add_zero]
    rw [wI_id (by unfold inI; omega)] at h1
    exact ⟨⟨by omega, by omega⟩, ⟨by omega, by omega⟩, trivial⟩
  exact ⟨qB (key.1) (nB), qB (key.2.1) (nB)⟩
def t_rd0 : KT := ((0, 0, 0, 0), [(1, 0, 0, 0), (1, 1, 0, 0), (1, 2, 0, 0)], [(0, 0), (0, 0), (0, 0)], [], (0, 0, 0), [], [], ([], [(14, [(1, 0, 0, 0), (1, 1, 0, 0), (1, 2, 0, 0)])]), ([], []))
theorem l_rd0 (g : GG) : LOK Yt (PSt g) t_rd0 := by
  intro ρ α Γ M as hT hB hA hP
  have b0 : 0 ≤ ρ 0 ∧ ρ 0 ≤ 0 := hB 0
  have b1 : 0 ≤ ρ 1 ∧ ρ 1 ≤ 0 := hB 1
  have b2 : 0 ≤ ρ 2 ∧ ρ 2 ≤ 0 := hB 2
  have key : (2 * (ρ 0 + 0) ≤ 24 * (ρ 1 + 0) + (ρ 2 + 0)) ∧ True := by
    try simp only [Int.add_zero]
    exact ⟨by omega, trivial⟩
  exact ⟨nB, qB (key.1) (nB)⟩
def t_rd1 : KT := ((0, 0, 0, 0), [(1, 0, 0, 0), (1, 1, 0, 0), (1, 2, 0, 0)], [(-2147483648, 2147483647), (0, 11), (0, 23)], [(14, [(1, 0, 0, 0), (1, 1, 0, 0), (1, 2, 0, 0)])], (0, 0, 0), [], [], ([(0, -2147483648, 143)], []), ([], []))
theorem l_rd1 (g : GG) : LOK Yt (PSt g) t_rd1 := by
  intro ρ α Γ M as hT hB hA hP
  have b0 : -2147483648 ≤ ρ 0 ∧ ρ 0 ≤ 2147483647 := hB 0
  have b1 : 0 ≤ ρ 1 ∧ ρ 1 ≤ 11 := hB 1
  have b2 : 0 ≤ ρ 2 ∧ ρ 2 ≤ 23 := hB 2
  have h0 : 2 * (ρ 0 + 0) ≤ 24 * (ρ 1 + 0) + (ρ 2 + 0) := hP _ (List.mem_of_getElem? (i := 0) rfl)
  try simp only [Int.add_zero] at h0
  have key : (-2147483648 ≤ ρ 0 ∧ ρ 0 ≤ 143) ∧ True := by
    try simp only [Int.add_zero]
    exact ⟨⟨b0.1, by omega⟩, trivial⟩
  exact ⟨qB (key.1) (nB), nB⟩
def t_rd2 : KT := ((0, 0, 0, 0), [(1, 0, 0, 0), (1, 1, 0, 0), (1, 2, 0, 0), (1, 3, 0, 0)], [(-2147483648, 2147483647), (-2147483648, 2147483647), (0, 2147483647), (1, 1)], [(14, [(1, 0, 0, 0), (1, 1, 0, 0), (1, 2, 0, 0)]), (27, [(1, 2, 0, 0), (0, 0, 0, 2), (1, 3, 0, 0)])], (0, 0, 0), [], [], ([], [(14, [(1, 0, 0, 1), (1, 1, 0, 0), (1, 2, 0, 1)])]), ([], []))
theorem l_rd2 (g : GG) : LOK Yt (PSt g) t_rd2 := by
  intro ρ α Γ M as hT hB hA hP
  have b0 : -2147483648 ≤ ρ 0 ∧ ρ 0 ≤ 2147483647 := hB 0
  have b1 : -2147483648 ≤ ρ 1 ∧ ρ 1 ≤ 2147483647 := hB 1
  have b2 : 0 ≤ ρ 2 ∧ ρ 2 ≤ 2147483647 := hB 2
  have b3 : 1 ≤ ρ 3 ∧ ρ 3 ≤ 1 := hB 3
  have h0 : 2 * (ρ 0 + 0) ≤ 24 * (ρ 1 + 0) + (ρ 2 + 0) := hP _ (List.mem_of_getElem? (i := 0) rfl)
  have h1 : ρ 3 + 0 = (ρ 2 + 0 : Int).tmod (2) := hP _ (List.mem_of_getElem? (i := 1) rfl)
  try simp only [Int.add_zero] at h0 h1
  have key : (2 * (ρ 0 + 1) ≤ 24 * (ρ 1 + 0) + (ρ 2 + 1)) ∧ True := by
    try simp only [Int.add_zero]
    obtain ⟨d1, d2, d3, d4, d5, d6, d7⟩ := dm b2.1 (show (0 : Int) < 2 by decide)
    rw [d2] at h1
    exact ⟨by omega, trivial⟩
  exact ⟨nB, qB (key.1) (nB)⟩
def t_rd3 : KT := ((0, 0, 0, 0), [(1, 0, 0, 0), (1, 1, 0, 0), (1, 2, 0, 0)], [(-2147483648, 2147483647), (-2147483648, 2147483647), (-2147483648, 2147483647)], [(14, [(1, 0, 0, 0), (1, 1, 0, 0), (1, 2, 0, 0)])], (0, 0, 0), [], [], ([], [(14, [(1, 0, 0, 0), (1, 1, 0, 0), (1, 2, 0, 1)])]), ([], []))
theorem l_rd3 (g : GG) : LOK Yt (PSt g) t_rd3 := by
  intro ρ α Γ M as hT hB hA hP
  have b0 : -2147483648 ≤ ρ 0 ∧ ρ 0 ≤ 2147483647 := hB 0
  have b1 : -2147483648 ≤ ρ 1 ∧ ρ 1 ≤ 2147483647 := hB 1
  have b2 : -2147483648 ≤ ρ 2 ∧ ρ 2 ≤ 2147483647 := hB 2
  have h0 : 2 * (ρ 0 + 0) ≤ 24 * (ρ 1 + 0) + (ρ 2 + 0) := hP _ (List.mem_of_getElem? (i := 0) rfl)
  try simp only [Int.add_zero] at h0
  have key : (2 * (ρ 0 + 0) ≤ 24 * (ρ 1 + 0) + (ρ 2 + 1)) ∧ True := by
    try simp only [Int.add_zero]
    exact ⟨by omega, trivial⟩
  exact ⟨nB, qB (key.1) (nB)⟩
def t_rd4 : KT := ((0, 0, 0, 0), [(1, 0, 0, 0), (1, 1, 0, 0), (1, 2, 0, 0)], [(-2147483648, 2147483647), (-2147483648, 2147483647), (0, 24)], [(14, [(1, 0, 0, 0), (1, 1, 0, 0), (1, 2, 0, 0)])], (0, 0, 0), [], [], ([], [(14, [(1, 0, 0, 0), (1, 1, 0, 1), (0, 0, 0, 0)])]), ([], []))
theorem l_rd4 (g : GG) : LOK Yt (PSt g) t_rd4 := by
  intro ρ α Γ M as hT hB hA hP
  have b0 : -2147483648 ≤ ρ 0 ∧ ρ 0 ≤ 2147483647 := hB 0
  have b1 : -2147483648 ≤ ρ 1 ∧ ρ 1 ≤ 2147483647 := hB 1
  have b2 : 0 ≤ ρ 2 ∧ ρ 2 ≤ 24 := hB 2
  have h0 : 2 * (ρ 0 + 0) ≤ 24 * (ρ 1 + 0) + (ρ 2 + 0) := hP _ (List.mem_of_getElem? (i := 0) rfl)
  try simp only [Int.add_zero] at h0
  have key : (2 * (ρ 0 + 0) ≤ 24 * (ρ 1 + 1) + (0)) ∧ True := by
    try simp only [Int.add_zero]
    exact ⟨by omega, trivial⟩
  exact ⟨nB, qB (key.1) (nB)⟩
def t_rd5 : KT := ((0, 0, 0, 0), [(2, 0, 40, 0), (1, 1, 0, 0), (1, 2, 0, 0)], [(0, 0), (2, 12), (2, 12)], [(10, [(2, 0, 40, 0), (0, 0, 0, 20), (1, 1, 0, 0)]), (10, [(2, 0, 40, 0), (0, 0, 0, 21), (1, 2, 0, 0)])], (0, 0, 0), [], [], ([], [(18, [(2, 0, 40, 0), (0, 0, 0, -1), (0, 0, 0, 0)])]), ([], []))
theorem l_rd5 (g : GG) : LOK Yt (PSt g) t_rd5 := by
  intro ρ α Γ M as hT hB hA hP
  have g0 : Γ (α 0) = 40 := tyAt hA (i := 0) rfl
  have b1 : 2 ≤ ρ 1 ∧ ρ 1 ≤ 12 := hB 1
  have b2 : 2 ≤ ρ 2 ∧ ρ 2 ≤ 12 := hB 2
  have h0 : 0 ≤ (20 : Int) ∧ M.2.2.2.2 (α 0) (20 : Int).toNat = ρ 1 + 0 := hP _ (List.mem_of_getElem? (i := 0) rfl)
  have h1 : 0 ≤ (21 : Int) ∧ M.2.2.2.2 (α 0) (21 : Int).toNat = ρ 2 + 0 := hP _ (List.mem_of_getElem? (i := 1) rfl)
  try simp only [Int.add_zero] at h0 h1
  have key : (Γ (α 0) = 40 ∧ ((-1) = -1 → (2 ≤ M.2.2.2.2 (α 0) 20 ∧ M.2.2.2.2 (α 0) 20 ≤ 12) ∧ 2 ≤ M.2.2.2.2 (α 0) 21 ∧ M.2.2.2.2 (α 0) 21 ≤ 12)) ∧ True := by
    try simp only [Int.add_zero]
    have e : M.2.2.2.2 (α 0) 20 = ρ 1 := h0.2
    have e2 : M.2.2.2.2 (α 0) 21 = ρ 2 := h1.2
    exact ⟨⟨g0, fun _ => by omega⟩, trivial⟩
  exact ⟨nB, qB (key.1) (nB)⟩
def t_rd6 : KT := ((0, 0, 0, 0), [(2, 0, 40, 0), (1, 1, 0, 0)], [(0, 0), (0, 2147483647)], [], (0, 0, 0), [], [], ([], [(18, [(2, 0, 40, 0), (1, 1, 0, 0), (0, 0, 0, 0)])]), ([], []))
theorem l_rd6 (g : GG) : LOK Yt (PSt g) t_rd6 := by
  intro ρ α Γ M as hT hB hA hP
  have g0 : Γ (α 0) = 40 := tyAt hA (i := 0) rfl
  have b1 : 0 ≤ ρ 1 ∧ ρ 1 ≤ 2147483647 := hB 1
  have key : (Γ (α 0) = 40 ∧ (ρ 1 + 0 = -1 → (2 ≤ M.2.2.2.2 (α 0) 20 ∧ M.2.2.2.2 (α 0) 20 ≤ 12) ∧ 2 ≤ M.2.2.2.2 (α 0) 21 ∧ M.2.2.2.2 (α 0) 21 ≤ 12)) ∧ True := by
    try simp only [Int.add_zero]
    exact ⟨⟨g0, fun _ => by omega⟩, trivial⟩
  exact ⟨nB, qB (key.1) (nB)⟩
def t_rd7 : KT := ((0, 0, 0, 0), [(2, 0, 40, 0), (1, 1, 0, 0), (1, 2, 0, 0)], [(0, 0), (-2147483648, 2147483647), (-2147483648, 2147483647)], [(6, [(1, 1, 0, 0), (1, 2, 0, 0)]), (21, [(1, 2, 0, 0), (1, 1, 0, 0)])], (0, 0, 0), [], [], ([], [(18, [(2, 0, 40, 0), (0, 0, 0, -1), (0, 0, 0, 0)])]), ([], []))
theorem l_rd7 (g : GG) : LOK Yt (PSt g) t_rd7 := by
  intro ρ α Γ M as hT hB hA hP
  have g0 : Γ (α 0) = 40 := tyAt hA (i := 0) rfl
  have b1 : -2147483648 ≤ ρ 1 ∧ ρ 1 ≤ 2147483647 := hB 1
  have b2 : -2147483648 ≤ ρ 2 ∧ ρ 2 ≤ 2147483647 := hB 2
  have h0 : ρ 1 + 0 ≤ ρ 2 + 0 := hP _ (List.mem_of_getElem? (i := 0) rfl)
  have h1 : ρ 2 + 0 < ρ 1 + 0 := hP _ (List.mem_of_getElem? (i := 1) rfl)
  try simp only [Int.add_zero] at h0 h1
  have key : (Γ (α 0) = 40 ∧ ((-1) = -1 → (2 ≤ M.2.2.2.2 (α 0) 20 ∧ M.2.2.2.2 (α 0) 20 ≤ 12) ∧ 2 ≤ M.2.2.2.2 (α 0) 21 ∧ M.2.2.2.2 (α 0) 21 ≤ 12)) ∧ True := by
    try simp only [Int.add_zero]
    exact ⟨⟨g0, fun _ => by omega⟩, trivial⟩
  exact ⟨nB, qB (key.1) (nB)⟩
def t_rd8 : KT := ((0, 0, 0, 0), [(1, 0, 0, 0), (1, 1, 0, 0)], [(-2147483648, 2147483647), (-2147483648, 2147483647)], [(21, [(1, 0, 0, 0), (1, 1, 0, 0)])], (0, 0, 0), [], [], ([], [(6, [(1, 0, 0, 1), (1, 1, 0, 0)])]), ([], []))
theorem l_rd8 (g : GG) : LOK Yt (PSt g) t_rd8 := by
  intro ρ α Γ M as hT hB hA hP
  have b0 : -2147483648 ≤ ρ 0 ∧ ρ 0 ≤ 2147483647 := hB 0
  have b1 : -2147483648 ≤ ρ 1 ∧ ρ 1 ≤ 2147483647 := hB 1
  have h0 : ρ 0 + 0 < ρ 1 + 0 := hP _ (List.mem_of_getElem? (i := 0) rfl)
  try simp only [Int.add_zero] at h0
  have key : (ρ 0 + 1 ≤ ρ 1 + 0) ∧ True := by
    try simp only [Int.add_zero]
    exact ⟨by omega, trivial⟩
  exact ⟨nB, qB (key.1) (nB)⟩
def t_rd9 : KT := ((0, 0, 0, 0), [(1, 0, 0, 0), (1, 1, 0, 0)], [(-2147483648, 2147483647), (-2147483648, 2147483647)], [(6, [(1, 0, 0, 0), (1, 1, 0, 0)]), (6, [(1, 1, 0, 0), (1, 0, 0, 0)]), (99, [(1, 0, 0, 0), (1, 1, 0, 0), (0, 0, 0, 0)])], (0, 0, 0), [], [], ([], [(6, [(1, 0, 0, 1), (1, 1, 0, 0)])]), ([], []))
theorem l_rd9 (g : GG) : LOK Yt (PSt g) t_rd9 := by
  intro ρ α Γ M as hT hB hA hP
  have b0 : -2147483648 ≤ ρ 0 ∧ ρ 0 ≤ 2147483647 := hB 0
  have b1 : -2147483648 ≤ ρ 1 ∧ ρ 1 ≤ 2147483647 := hB 1
  have h0 : ρ 0 + 0 ≤ ρ 1 + 0 := hP _ (List.mem_of_getElem? (i := 0) rfl)
  have h1 : ρ 1 + 0 ≤ ρ 0 + 0 := hP _ (List.mem_of_getElem? (i := 1) rfl)
  have h2 : (ρ 0 + 0 : Int) ≠ ρ 1 + 0 := hP _ (List.mem_of_getElem? (i := 2) rfl)
  try simp only [Int.add_zero] at h0 h1 h2
  have key : (ρ 0 + 1 ≤ ρ 1 + 0) ∧ True := by
    try simp only [Int.add_zero]
    exact absurd (show ρ 0 = ρ 1 by omega) (show ρ 0 ≠ ρ 1 from h2)
  exact ⟨nB, qB (key.1) (nB)⟩
def t_rdt : KT := ((0, 0, 0, 0), [(2, 0, 40, 0), (1, 1, 0, 0), (1, 2, 0, 0), (1, 3, 0, 0)], [(0, 0), (-2147483648, 2147483647), (-2147483648, 2147483647), (-1, -1)], [(18, [(2, 0, 40, 0), (1, 3, 0, 0), (0, 0, 0, 0)]), (10, [(2, 0, 40, 0), (0, 0, 0, 20), (1, 1, 0, 0)]), (10, [(2, 0, 40, 0), (0, 0, 0, 21), (1, 2, 0, 0)])], (0, 0, 0), [], [], ([(1, 2, 12), (2, 2, 12)], []), ([], []))
theorem l_rdt (g : GG) : LOK Yt (PSt g) t_rdt := by
  intro ρ α Γ M as hT hB hA hP
  have g0 : Γ (α 0) = 40 := tyAt hA (i := 0) rfl
  have b1 : -2147483648 ≤ ρ 1 ∧ ρ 1 ≤ 2147483647 := hB 1
  have b2 : -2147483648 ≤ ρ 2 ∧ ρ 2 ≤ 2147483647 := hB 2
  have b3 : -1 ≤ ρ 3 ∧ ρ 3 ≤ -1 := hB 3
  have h0 : Γ (α 0) = 40 ∧ (ρ 3 + 0 = -1 → (2 ≤ M.2.2.2.2 (α 0) 20 ∧ M.2.2.2.2 (α 0) 20 ≤ 12) ∧ 2 ≤ M.2.2.2.2 (α 0) 21 ∧ M.2.2.2.2 (α 0) 21 ≤ 12) := hP _ (List.mem_of_getElem? (i := 0) rfl)
  have h1 : 0 ≤ (20 : Int) ∧ M.2.2.2.2 (α 0) (20 : Int).toNat = ρ 1 + 0 := hP _ (List.mem_of_getElem? (i := 1) rfl)
  have h2 : 0 ≤ (21 : Int) ∧ M.2.2.2.2 (α 0) (21 : Int).toNat = ρ 2 + 0 := hP _ (List.mem_of_getElem? (i := 2) rfl)
  try simp only [Int.add_zero] at h0 h1 h2
  have key : (2 ≤ ρ 1 ∧ ρ 1 ≤ 12) ∧ (2 ≤ ρ 2 ∧ ρ 2 ≤ 12) ∧ True := by
    try simp only [Int.add_zero]
    obtain ⟨-, h⟩ := h0
    have h := h (by omega)
    have e : M.2.2.2.2 (α 0) 20 = ρ 1 := h1.2
    have e2 : M.2.2.2.2 (α 0) 21 = ρ 2 := h2.2
    rw [e, e2] at h
    exact ⟨h.1, h.2, trivial⟩
  exact ⟨qB (key.1) (qB (key.2.1) (nB)), nB⟩
def t_lg : KT := ((0, 0, 0, 0), [(1, 0, 0, 0), (1, 1, 0, 0), (1, 2, 0, 0)], [(0, 2147483647), (-2147483648, 2147483647), (-2147483648, 2147483647)], [(21, [(1, 0, 0, 0), (1, 1, 0, 0)]), (24, [(1, 1, 0, -1), (1, 0, 0, 0), (1, 2, 0, 0)])], (0, 0, 0), [], [], ([(2, 0, 2147483647)], []), ([], []))
theorem l_lg (g : GG) : LOK Yt (PSt g) t_lg := by
  intro ρ α Γ M as hT hB hA hP
  have b0 : 0 ≤ ρ 0 ∧ ρ 0 ≤ 2147483647 := hB 0
  have b1 : -2147483648 ≤ ρ 1 ∧ ρ 1 ≤ 2147483647 := hB 1
  have b2 : -2147483648 ≤ ρ 2 ∧ ρ 2 ≤ 2147483647 := hB 2
  have h0 : ρ 0 + 0 < ρ 1 + 0 := hP _ (List.mem_of_getElem? (i := 0) rfl)
  have h1 : ρ 2 + 0 = wI ((ρ 1 + (-1)) - (ρ 0 + 0)) := hP _ (List.mem_of_getElem? (i := 1) rfl)
  try simp only [Int.add_zero] at h0 h1
  have key : (0 ≤ ρ 2 ∧ ρ 2 ≤ 2147483647) ∧ True := by
    try simp only [Int.add_zero]
    rw [wI_id (by unfold inI; omega)] at h1
    exact ⟨⟨by omega, by omega⟩, trivial⟩
  exact ⟨qB (key.1) (nB), nB⟩
def t_le0n : KT := ((0, 0, 0, 0), [(1, 0, 0, 0), (1, 1, 0, 0)], [(0, 0), (0, 2147483647)], [], (0, 0, 0), [], [], ([], [(6, [(1, 0, 0, 0), (1, 1, 0, 0)])]), ([], []))
theorem l_le0n (g : GG) : LOK Yt (PSt g) t_le0n := by
  intro ρ α Γ M as hT hB hA hP
  have b0 : 0 ≤ ρ 0 ∧ ρ 0 ≤ 0 := hB 0
  have b1 : 0 ≤ ρ 1 ∧ ρ 1 ≤ 2147483647 := hB 1
  have key : (ρ 0 + 0 ≤ ρ 1 + 0) ∧ True := by
    try simp only [Int.add_zero]
    exact ⟨by omega, trivial⟩
  exact ⟨nB, qB (key.1) (nB)⟩
def t_medh : KT := ((0, 0, 0, 0), [(2, 0, 40, 0), (1, 1, 0, 0), (1, 2, 0, 0), (1, 3, 0, 0), (1, 4, 0, 0), (1, 5, 0, 0), (1, 6, 0, 0), (1, 7, 0, 0)], [(0, 0), (0, 2147483647), (-2147483648, 2147483647), (-2147483648, 2147483647), (-2147483648, 2147483647), (-2147483648, 2147483647), (-2147483648, 2147483647), (0, 0)], [(26, [(1, 1, 0, 0), (0, 0, 0, 2), (1, 2, 0, 0)]), (27, [(1, 1, 0, 0), (0, 0, 0, 2), (1, 7, 0, 0)]), (96, [(2, 0, 40, 0), (1, 2, 0, 0), (1, 3, 0, 0)]), (21, [(1, 3, 0, 0), (1, 4, 0, -1)]), (8, [(2, 0, 40, 0), (1, 4, 0, 0)]), (94, [(2, 0, 40, 0), (1, 5, 0, 0)]), (25, [(0, 0, 0, 2), (1, 5, 0, 0), (1, 6, 0, 0)]), (21, [(1, 1, 0, 0), (1, 6, 0, 0)])], (0, 0, 0), [], [], ([(1, 0, 287)], [(97, [(2, 0, 40, 0), (1, 1, 0, 0)])]), ([], []))
theorem l_medh (g : GG) : LOK Yt (PSt g) t_medh := by
  intro ρ α Γ M as hT hB hA hP
  have g0 : Γ (α 0) = 40 := tyAt hA (i := 0) rfl
  have b1 : 0 ≤ ρ 1 ∧ ρ 1 ≤ 2147483647 := hB 1
  have b2 : -2147483648 ≤ ρ 2 ∧ ρ 2 ≤ 2147483647 := hB 2
  have b3 : -2147483648 ≤ ρ 3 ∧ ρ 3 ≤ 2147483647 := hB 3
  have b4 : -2147483648 ≤ ρ 4 ∧ ρ 4 ≤ 2147483647 := hB 4
  have b5 : -2147483648 ≤ ρ 5 ∧ ρ 5 ≤ 2147483647 := hB 5
  have b6 : -2147483648 ≤ ρ 6 ∧ ρ 6 ≤ 2147483647 := hB 6
  have b7 : 0 ≤ ρ 7 ∧ ρ 7 ≤ 0 := hB 7
  have h0 : ρ 2 + 0 = wI ((ρ 1 + 0 : Int).tdiv (2)) := hP _ (List.mem_of_getElem? (i := 0) rfl)
  have h1 : ρ 7 + 0 = (ρ 1 + 0 : Int).tmod (2) := hP _ (List.mem_of_getElem? (i := 1) rfl)
  have h2 : nwE Γ M (α 0) fun r c => ρ 3 + 0 = (ρ 2 + 0) % c := hP _ (List.mem_of_getElem? (i := 2) rfl)
  have h3 : ρ 3 + 0 < ρ 4 + (-1) := hP _ (List.mem_of_getElem? (i := 3) rfl)
  have h4 : nwE Γ M (α 0) fun r c => ρ 4 + 0 = c := hP _ (List.mem_of_getElem? (i := 4) rfl)
  have h5 : nwE Γ M (α 0) fun r c => ρ 5 + 0 = r * c := hP _ (List.mem_of_getElem? (i := 5) rfl)
  have h6 : ρ 6 + 0 = wI ((2) * (ρ 5 + 0)) := hP _ (List.mem_of_getElem? (i := 6) rfl)
  have h7 : ρ 1 + 0 < ρ 6 + 0 := hP _ (List.mem_of_getElem? (i := 7) rfl)
  try simp only [Int.add_zero] at h0 h1 h2 h3 h4 h5 h6 h7
  have key : (0 ≤ ρ 1 ∧ ρ 1 ≤ 287) ∧ (nwE Γ M (α 0) fun r c => edP r c (ρ 1 + 0)) ∧ True := by
    try simp only [Int.add_zero]
    have key2 : nwE Γ M (α 0) fun r c => ρ 1 ≤ 287 ∧ edP r c (ρ 1) := (nw1 hT (((h2.and h4).and h5))).imp fun r c ⟨hr, hc, ⟨q1, q2⟩, q3⟩ => by
      have hrc := rc_bd hr hc
      obtain ⟨d1, d2, d3, d4, d5, d6, d7⟩ := dm (p := ρ 1) b1.1 (show (0 : Int) < 2 by decide)
      have h0 := h0
      have h1 := h1
      have h6 := h6
      rw [d1, wI_id (by unfold inI; omega)] at h0
      rw [d2] at h1
      rw [q3, wI_id (by unfold inI; omega)] at h6
      have q1 := q1
      rw [h0] at q1
      subst q2
      exact ⟨by omega, b1.1, by omega, fun _ => by rw [← q1]; omega, fun hn => absurd (show ρ 1 % 2 = 0 by omega) hn⟩
    exact ⟨⟨b1.1, key2.out fun _ _ q => q.1⟩, key2.imp fun _ _ q => q.2, trivial⟩
  exact ⟨qB (key.1) (nB), qB (key.2.1) (nB)⟩
def t_medv : KT := ((0, 0, 0, 0), [(2, 0, 40, 0), (1, 1, 0, 0), (1, 2, 0, 0), (1, 3, 0, 0), (1, 4, 0, 0), (1, 5, 0, 0), (1, 6, 0, 0), (1, 7, 0, 0)], [(0, 0), (0, 2147483647), (-2147483648, 2147483647), (-2147483648, 2147483647), (-2147483648, 2147483647), (-2147483648, 2147483647), (-2147483648, 2147483647), (1, 1)], [(26, [(1, 1, 0, 0), (0, 0, 0, 2), (1, 2, 0, 0)]), (27, [(1, 1, 0, 0), (0, 0, 0, 2), (1, 7, 0, 0)]), (9, [(2, 0, 40, 0), (1, 2, 0, 0), (1, 3, 0, 0)]), (21, [(1, 3, 0, 0), (1, 4, 0, -1)]), (93, [(2, 0, 40, 0), (1, 4, 0, 0)]), (94, [(2, 0, 40, 0), (1, 5, 0, 0)]), (25, [(0, 0, 0, 2), (1, 5, 0, 0), (1, 6, 0, 0)]), (21, [(1, 1, 0, 0), (1, 6, 0, 0)])], (0, 0, 0), [], [], ([(1, 0, 287)], [(97, [(2, 0, 40, 0), (1, 1, 0, 0)])]), ([], []))
theorem l_medv (g : GG) : LOK Yt (PSt g) t_medv := by
  intro ρ α Γ M as hT hB hA hP
  have g0 : Γ (α 0) = 40 := tyAt hA (i := 0) rfl
  have b1 : 0 ≤ ρ 1 ∧ ρ 1 ≤ 2147483647 := hB 1
  have b2 : -2147483648 ≤ ρ 2 ∧ ρ 2 ≤ 2147483647 := hB 2
  have b3 : -2147483648 ≤ ρ 3 ∧ ρ 3 ≤ 2147483647 := hB 3
  have b4 : -2147483648 ≤ ρ 4 ∧ ρ 4 ≤ 2147483647 := hB 4
  have b5 : -2147483648 ≤ ρ 5 ∧ ρ 5 ≤ 2147483647 := hB 5
  have b6 : -2147483648 ≤ ρ 6 ∧ ρ 6 ≤ 2147483647 := hB 6
  have b7 : 1 ≤ ρ 7 ∧ ρ 7 ≤ 1 := hB 7
  have h0 : ρ 2 + 0 = wI ((ρ 1 + 0 : Int).tdiv (2)) := hP _ (List.mem_of_getElem? (i := 0) rfl)
  have h1 : ρ 7 + 0 = (ρ 1 + 0 : Int).tmod (2) := hP _ (List.mem_of_getElem? (i := 1) rfl)
  have h2 : nwE Γ M (α 0) fun r c => ρ 3 + 0 = (ρ 2 + 0) / c := hP _ (List.mem_of_getElem? (i := 2) rfl)
  have h3 : ρ 3 + 0 < ρ 4 + (-1) := hP _ (List.mem_of_getElem? (i := 3) rfl)
  have h4 : nwE Γ M (α 0) fun r c => ρ 4 + 0 = r := hP _ (List.mem_of_getElem? (i := 4) rfl)
  have h5 : nwE Γ M (α 0) fun r c => ρ 5 + 0 = r * c := hP _ (List.mem_of_getElem? (i := 5) rfl)
  have h6 : ρ 6 + 0 = wI ((2) * (ρ 5 + 0)) := hP _ (List.mem_of_getElem? (i := 6) rfl)
  have h7 : ρ 1 + 0 < ρ 6 + 0 := hP _ (List.mem_of_getElem? (i := 7) rfl)
  try simp only [Int.add_zero] at h0 h1 h2 h3 h4 h5 h6 h7
  have key : (0 ≤ ρ 1 ∧ ρ 1 ≤ 287) ∧ (nwE Γ M (α 0) fun r c => edP r c (ρ 1 + 0)) ∧ True := by
    try simp only [Int.add_zero]
    have key2 : nwE Γ M (α 0) fun r c => ρ 1 ≤ 287 ∧ edP r c (ρ 1) := (nw1 hT (((h2.and h4).and h5))).imp fun r c ⟨hr, hc, ⟨q1, q2⟩, q3⟩ => by
      have hrc := rc_bd hr hc
      obtain ⟨d1, d2, d3, d4, d5, d6, d7⟩ := dm (p := ρ 1) b1.1 (show (0 : Int) < 2 by decide)
      have h0 := h0
      have h1 := h1
      have h6 := h6
      rw [d1, wI_id (by unfold inI; omega)] at h0
      rw [d2] at h1
      rw [q3, wI_id (by unfold inI; omega)] at h6
      have q1 := q1
      rw [h0] at q1
      subst q2
      exact ⟨by omega, b1.1, by omega, fun hn => absurd hn (show ¬ ρ 1 % 2 = 0 by omega), fun _ => by rw [← q1]; omega⟩
    exact ⟨⟨b1.1, key2.out fun _ _ q => q.1⟩, key2.imp fun _ _ q => q.2, trivial⟩
  exact ⟨qB (key.1) (nB), qB (key.2.1) (nB)⟩
def t_mg0 : KT := ((0, 0, 0, 0), [(2, 0, 40, 0), (1, 1, 0, 0), (1, 2, 0, 0), (1, 3, 0, 0)], [(0, 0), (0, 287), (-2147483648, 2147483647), (0, 0)], [(97, [(2, 0, 40, 0), (1, 1, 0, 0)]), (26, [(1, 1, 0, 0), (0, 0, 0, 2), (1, 2, 0, 0)]), (27, [(1, 1, 0, 0), (0, 0, 0, 2), (1, 3, 0, 0)])], (0, 0, 0), [], [], ([(2, 0, 142)], [(95, [(2, 0, 40, 0), (1, 2, 0, 0)]), (95, [(2, 0, 40, 0), (1, 2, 0, 1)])]), ([], []))
theorem l_mg0 (g : GG) : LOK Yt (PSt g) t_mg0 := by
  intro ρ α Γ M as hT hB hA hP
  have g0 : Γ (α 0) = 40 := tyAt hA (i := 0) rfl
  have b1 : 0 ≤ ρ 1 ∧ ρ 1 ≤ 287 := hB 1
  have b2 : -2147483648 ≤ ρ 2 ∧ ρ 2 ≤ 2147483647 := hB 2
  have b3 : 0 ≤ ρ 3 ∧ ρ 3 ≤ 0 := hB 3
  have h0 : nwE Γ M (α 0) fun r c => edP r c (ρ 1 + 0) := hP _ (List.mem_of_getElem? (i := 0) rfl)
  have h1 : ρ 2 + 0 = wI ((ρ 1 + 0 : Int).tdiv (2)) := hP _ (List.mem_of_getElem? (i := 1) rfl)
  have h2 : ρ 3 + 0 = (ρ 1 + 0 : Int).tmod (2) := hP _ (List.mem_of_getElem? (i := 2) rfl)
  try simp only [Int.add_zero] at h0 h1 h2
  have key : (0 ≤ ρ 2 ∧ ρ 2 ≤ 142) ∧ (nwE Γ M (α 0) fun r c => isPx r c (ρ 2 + 0)) ∧ (nwE Γ M (α 0) fun r c => isPx r c (ρ 2 + 1)) ∧ True := by
    try simp only [Int.add_zero]
    obtain ⟨d1, d2, d3, d4, d5, d6, d7⟩ := dm (p := ρ 1) b1.1 (show (0 : Int) < 2 by decide)
    rw [d1] at h1
    rw [wI_id (by unfold inI; omega)] at h1
    rw [d2] at h2
    have key2 : nwE Γ M (α 0) fun r c => ρ 2 ≤ 142 ∧ isPx r c (ρ 2) ∧ isPx r c (ρ 2 + 1) := (nw1 hT h0).imp fun r c ⟨hr, hc, x1, x2, x3, _⟩ => by
      have hrc := rc_bd hr hc
      have x3 := x3 (by omega)
      rw [← h1] at x3 d6
      have y7 := row_lt (r := r) (p := ρ 2) (show 0 < c by omega) (by omega)
      have l := low_lt (k := 0) d6 (show 0 < c by omega) (show ρ 2 / c ≤ r - 1 - 0 by omega) (by decide)
      exact ⟨by omega, ⟨by omega, by omega⟩, by omega, by omega⟩
    exact ⟨⟨by omega, key2.out fun _ _ q => q.1⟩, key2.imp fun _ _ q => q.2.1, key2.imp fun _ _ q => q.2.2, trivial⟩
  exact ⟨qB (key.1) (nB), qB (key.2.1) (qB (key.2.2.1) (nB))⟩
def t_mg1 : KT := ((0, 0, 0, 0), [(2, 0, 40, 0), (1, 1, 0, 0), (1, 2, 0, 0), (1, 3, 0, 0), (1, 4, 0, 0), (1, 5, 0, 0)], [(0, 0), (0, 287), (-2147483648, 2147483647), (1, 2147483647), (-2147483648, 2147483647), (-2147483648, 2147483647)], [(97, [(2, 0, 40, 0), (1, 1, 0, 0)]), (26, [(1, 1, 0, 0), (0, 0, 0, 2), (1, 2, 0, 0)]), (27, [(1, 1, 0, 0), (0, 0, 0, 2), (1, 3, 0, 0)]), (8, [(2, 0, 40, 0), (1, 4, 0, 0)]), (23, [(1, 2, 0, 0), (1, 4, 0, 0), (1, 5, 0, 0)])], (0, 0, 0), [], [], ([(5, 0, 143)], [(95, [(2, 0, 40, 0), (1, 5, 0, 0)])]), ([], []))
theorem l_mg1 (g : GG) : LOK Yt (PSt g) t_mg1 := by
  intro ρ α Γ M as hT hB hA hP
  have g0 : Γ (α 0) = 40 := tyAt hA (i := 0) rfl
  have b1 : 0 ≤ ρ 1 ∧ ρ 1 ≤ 287 := hB 1
  have b2 : -2147483648 ≤ ρ 2 ∧ ρ 2 ≤ 2147483647 := hB 2
  have b3 : 1 ≤ ρ 3 ∧ ρ 3 ≤ 2147483647 := hB 3
  have b4 : -2147483648 ≤ ρ 4 ∧ ρ 4 ≤ 2147483647 := hB 4
  have b5 : -2147483648 ≤ ρ 5 ∧ ρ 5 ≤ 2147483647 := hB 5
  have h0 : nwE Γ M (α 0) fun r c => edP r c (ρ 1 + 0) := hP _ (List.mem_of_getElem? (i := 0) rfl)
  have h1 : ρ 2 + 0 = wI ((ρ 1 + 0 : Int).tdiv (2)) := hP _ (List.mem_of_getElem? (i := 1) rfl)
  have h2 : ρ 3 + 0 = (ρ 1 + 0 : Int).tmod (2) := hP _ (List.mem_of_getElem? (i := 2) rfl)
  have h3 : nwE Γ M (α 0) fun r c => ρ 4 + 0 = c := hP _ (List.mem_of_getElem? (i := 3) rfl)
  have h4 : ρ 5 + 0 = wI ((ρ 2 + 0) + (ρ 4 + 0)) := hP _ (List.mem_of_getElem? (i := 4) rfl)
  try simp only [Int.add_zero] at h0 h1 h2 h3 h4
  have key : (0 ≤ ρ 5 ∧ ρ 5 ≤ 143) ∧ (nwE Γ M (α 0) fun r c => isPx r c (ρ 5 + 0)) ∧ True := by
    try simp only [Int.add_zero]
    obtain ⟨d1, d2, d3, d4, d5, d6, d7⟩ := dm (p := ρ 1) b1.1 (show (0 : Int) < 2 by decide)
    rw [d1] at h1
    rw [wI_id (by unfold inI; omega)] at h1
    rw [d2] at h2
    have key2 : nwE Γ M (α 0) fun r c => (0 ≤ ρ 5 ∧ ρ 5 ≤ 143) ∧ isPx r c (ρ 5) := (nw1 hT (h0.and h3)).imp fun r c ⟨hr, hc, ⟨x1, x2, _, x3⟩, q⟩ => by
      subst q
      have hrc := rc_bd hr hc
      have x3 := x3 (by omega)
      rw [← h1] at x3 d6
      have h4 := h4
      rw [wI_id (by unfold inI; omega)] at h4
      obtain ⟨-, -, y3, y4, y5, y6, y7⟩ := dm (p := ρ 2) d6 (show 0 < ρ 4 by omega)
      have l := low_lt (r := r) (k := 1) d6 (show 0 < ρ 4 by omega) (show ρ 2 / ρ 4 ≤ r - 1 - 1 by omega) (by decide)
      exact ⟨by omega, by omega, by omega⟩
    exact ⟨key2.out fun _ _ q => q.1, key2.imp fun _ _ q => q.2, trivial⟩
  exact ⟨qB (key.1) (nB), qB (key.2.1) (nB)⟩
def t_tn0 : KT := ((0, 0, 0, 0), [(2, 0, 40, 0), (1, 1, 0, 0)], [(0, 0), (0, 0)], [(10, [(2, 0, 40, 0), (0, 0, 0, 9), (1, 1, 0, 0)])], (0, 0, 0), [], [], ([], [(91, [(2, 0, 40, 0)])]), ([], []))
theorem l_tn0 (g : GG) : LOK Yt (PSt g) t_tn0 := by
  intro ρ α Γ M as hT hB hA hP
  have g0 : Γ (α 0) = 40 := tyAt hA (i := 0) rfl
  have b1 : 0 ≤ ρ 1 ∧ ρ 1 ≤ 0 := hB 1
  have h0 : 0 ≤ (9 : Int) ∧ M.2.2.2.2 (α 0) (9 : Int).toNat = ρ 1 + 0 := hP _ (List.mem_of_getElem? (i := 0) rfl)
  try simp only [Int.add_zero] at h0
  have key : (Γ (α 0) = 40 ∧ ∃ a, M.2.2.2.1 (α 0) 8 = some a ∧ Γ a = 44 ∧ nwE Γ M (α 0) fun r c => ∀ j : Nat, (j : Int) < M.2.2.2.2 (α 0) 9 → isPx r c (M.2.2.2.2 a j)) ∧ True := by
    try simp only [Int.add_zero]
    obtain ⟨a, h1, h2⟩ := tyR hT g0 (by decide) (j := 8) (τ2 := 44) (by decide)
    have e : M.2.2.2.2 (α 0) 9 = ρ 1 := h0.2
    exact ⟨⟨g0, a, h1, h2, (nw_ex hT g0).imp fun r c _ j hj => by omega⟩, trivial⟩
  exact ⟨nB, qB (key.1) (nB)⟩
def t_tn1 : KT := ((0, 0, 0, 0), [(2, 0, 40, 0), (2, 1, 44, 0), (1, 2, 0, 0)], [(0, 0), (0, 0), (-2147483648, 2147483647)], [(91, [(2, 0, 40, 0)]), (11, [(2, 0, 40, 0), (0, 0, 0, 8), (2, 1, 44, 0)]), (10, [(2, 0, 40, 0), (0, 0, 0, 9), (1, 2, 0, 0)])], (0, 0, 0), [], [], ([], [(89, [(2, 1, 44, 0), (1, 2, 0, 0), (2, 0, 40, 0)])]), ([], []))
theorem l_tn1 (g : GG) : LOK Yt (PSt g) t_tn1 := by
  intro ρ α Γ M as hT hB hA hP
  have g0 : Γ (α 0) = 40 := tyAt hA (i := 0) rfl
  have g1 : Γ (α 1) = 44 := tyAt hA (i := 1) rfl
  have b2 : -2147483648 ≤ ρ 2 ∧ ρ 2 ≤ 2147483647 := hB 2
  have h0 : Γ (α 0) = 40 ∧ ∃ a, M.2.2.2.1 (α 0) 8 = some a ∧ Γ a = 44 ∧ nwE Γ M (α 0) fun r c => ∀ j : Nat, (j : Int) < M.2.2.2.2 (α 0) 9 → isPx r c (M.2.2.2.2 a j) := hP _ (List.mem_of_getElem? (i := 0) rfl)
  have h1 : 0 ≤ (8 : Int) ∧ M.2.2.2.1 (α 0) (8 : Int).toNat = some (α 1) := hP _ (List.mem_of_getElem? (i := 1) rfl)
  have h2 : 0 ≤ (9 : Int) ∧ M.2.2.2.2 (α 0) (9 : Int).toNat = ρ 2 + 0 := hP _ (List.mem_of_getElem? (i := 2) rfl)
  try simp only [Int.add_zero] at h0 h1 h2
  have key : (Γ (α 0) = 40 ∧ M.2.2.2.1 (α 0) 8 = some (α 1) ∧ Γ (α 1) = 44 ∧ M.2.2.2.2 (α 0) 9 = ρ 2 + 0 ∧ nwE Γ M (α 0) fun r c => ∀ j : Nat, (j : Int) < ρ 2 + 0 → isPx r c (M.2.2.2.2 (α 1) j)) ∧ True := by
    try simp only [Int.add_zero]
    obtain ⟨-, a, x1, x2, x3⟩ := h0
    have e1 : M.2.2.2.1 (α 0) 8 = some (α 1) := h1.2
    rw [e1] at x1
    cases x1
    have e : M.2.2.2.2 (α 0) 9 = ρ 2 := h2.2
    exact ⟨⟨g0, e1, x2, e, x3.imp fun r c q j hj => q j (by rw [e]; exact hj)⟩, trivial⟩
  exact ⟨nB, qB (key.1) (nB)⟩
def t_tn2 : KT := ((0, 0, 0, 0), [(2, 0, 40, 0), (2, 1, 44, 0), (1, 2, 0, 0), (1, 3, 0, 0)], [(0, 0), (0, 0), (0, 143), (0, 143)], [(89, [(2, 1, 44, 0), (1, 2, 0, 0), (2, 0, 40, 0)]), (10, [(2, 1, 44, 0), (1, 2, 0, 0), (1, 3, 0, 0)]), (95, [(2, 0, 40, 0), (1, 3, 0, 0)])], (0, 0, 0), [], [], ([], [(90, [(2, 0, 40, 0), (0, 0, 0, 9), (2, 1, 44, 0), (1, 2, 0, 1)])]), ([], []))
theorem l_tn2 (g : GG) : LOK Yt (PSt g) t_tn2 := by
  intro ρ α Γ M as hT hB hA hP
  have g0 : Γ (α 0) = 40 := tyAt hA (i := 0) rfl
  have g1 : Γ (α 1) = 44 := tyAt hA (i := 1) rfl
  have b2 : 0 ≤ ρ 2 ∧ ρ 2 ≤ 143 := hB 2
  have b3 : 0 ≤ ρ 3 ∧ ρ 3 ≤ 143 := hB 3
  have h0 : Γ (α 0) = 40 ∧ M.2.2.2.1 (α 0) 8 = some (α 1) ∧ Γ (α 1) = 44 ∧ M.2.2.2.2 (α 0) 9 = ρ 2 + 0 ∧ nwE Γ M (α 0) fun r c => ∀ j : Nat, (j : Int) < ρ 2 + 0 → isPx r c (M.2.2.2.2 (α 1) j) := hP _ (List.mem_of_getElem? (i := 0) rfl)
  have h1 : 0 ≤ (ρ 2 + 0 : Int) ∧ M.2.2.2.2 (α 1) (ρ 2 + 0 : Int).toNat = ρ 3 + 0 := hP _ (List.mem_of_getElem? (i := 1) rfl)
  have h2 : nwE Γ M (α 0) fun r c => isPx r c (ρ 3 + 0) := hP _ (List.mem_of_getElem? (i := 2) rfl)
  try simp only [Int.add_zero] at h0 h1 h2
  have key : ((9 : Int) = 9 ∧ ρ 2 + 1 ≤ 144 ∧ Γ (α 0) = 40 ∧ M.2.2.2.1 (α 0) 8 = some (α 1) ∧ Γ (α 1) = 44 ∧ nwE Γ M (α 0) fun r c => ∀ j : Nat, (j : Int) < ρ 2 + 1 → isPx r c (M.2.2.2.2 (α 1) j)) ∧ True := by
    try simp only [Int.add_zero]
    obtain ⟨-, e1, x2, e, x3⟩ := h0
    refine ⟨⟨by trivial, by omega, g0, e1, x2, (x3.and h2).imp fun r c q j hj => ?_⟩, trivial⟩
    by_cases hj2 : (j : Int) < ρ 2
    · exact q.1 j hj2
    · have hq : j = (ρ 2).toNat := by omega
      rw [hq, h1.2]
      exact q.2
  exact ⟨nB, qB (key.1) (nB)⟩
def t_tn3 : KT := ((0, 0, 0, 0), [(2, 0, 40, 0), (2, 1, 44, 0), (1, 2, 0, 0)], [(0, 0), (0, 0), (-2147483648, 2147483647)], [(90, [(2, 0, 40, 0), (0, 0, 0, 9), (2, 1, 44, 0), (1, 2, 0, 0)]), (10, [(2, 0, 40, 0), (0, 0, 0, 9), (1, 2, 0, 0)])], (0, 0, 0), [], [], ([], [(91, [(2, 0, 40, 0)])]), ([], []))
theorem l_tn3 (g : GG) : LOK Yt (PSt g) t_tn3 := by
  intro ρ α Γ M as hT hB hA hP
  have g0 : Γ (α 0) = 40 := tyAt hA (i := 0) rfl
  have g1 : Γ (α 1) = 44 := tyAt hA (i := 1) rfl
  have b2 : -2147483648 ≤ ρ 2 ∧ ρ 2 ≤ 2147483647 := hB 2
  have h0 : (9 : Int) = 9 ∧ ρ 2 + 0 ≤ 144 ∧ Γ (α 0) = 40 ∧ M.2.2.2.1 (α 0) 8 = some (α 1) ∧ Γ (α 1) = 44 ∧ nwE Γ M (α 0) fun r c => ∀ j : Nat, (j : Int) < ρ 2 + 0 → isPx r c (M.2.2.2.2 (α 1) j) := hP _ (List.mem_of_getElem? (i := 0) rfl)
  have h1 : 0 ≤ (9 : Int) ∧ M.2.2.2.2 (α 0) (9 : Int).toNat = ρ 2 + 0 := hP _ (List.mem_of_getElem? (i := 1) rfl)
  try simp only [Int.add_zero] at h0 h1
  have key : (Γ (α 0) = 40 ∧ ∃ a, M.2.2.2.1 (α 0) 8 = some a ∧ Γ a = 44 ∧ nwE Γ M (α 0) fun r c => ∀ j : Nat, (j : Int) < M.2.2.2.2 (α 0) 9 → isPx r c (M.2.2.2.2 a j)) ∧ True := by
    try simp only [Int.add_zero]
    obtain ⟨-, -, -, e1, x2, x3⟩ := h0
    have e : M.2.2.2.2 (α 0) 9 = ρ 2 := h1.2
    exact ⟨⟨g0, α 1, e1, x2, x3.imp fun r c q j hj => q j (by rw [e] at hj; exact hj)⟩, trivial⟩
  exact ⟨nB, qB (key.1) (nB)⟩
def t_hv : KT := ((0, 0, 0, 0), [(2, 0, 40, 0), (2, 1, 41, 0), (1, 2, 0, 0), (1, 3, 0, 0)], [(0, 0), (0, 0), (0, 143), (-2147483648, 2147483647)], [(11, [(2, 0, 40, 0), (0, 0, 0, 1), (2, 1, 41, 0)]), (10, [(2, 1, 41, 0), (1, 2, 0, 298), (1, 3, 0, 0)])], (0, 0, 0), [], [], ([], [(158, [(2, 0, 40, 0), (1, 2, 0, 0), (1, 3, 0, 0)])]), ([], []))
theorem l_hv (g : GG) : LOK Yt (PSt g) t_hv := by
  intro ρ α Γ M as hT hB hA hP
  have g0 : Γ (α 0) = 40 := tyAt hA (i := 0) rfl
  have g1 : Γ (α 1) = 41 := tyAt hA (i := 1) rfl
  have b2 : 0 ≤ ρ 2 ∧ ρ 2 ≤ 143 := hB 2
  have b3 : -2147483648 ≤ ρ 3 ∧ ρ 3 ≤ 2147483647 := hB 3
  have h0 : 0 ≤ (1 : Int) ∧ M.2.2.2.1 (α 0) (1 : Int).toNat = some (α 1) := hP _ (List.mem_of_getElem? (i := 0) rfl)
  have h1 : 0 ≤ (ρ 2 + 298 : Int) ∧ M.2.2.2.2 (α 1) (ρ 2 + 298 : Int).toNat = ρ 3 + 0 := hP _ (List.mem_of_getElem? (i := 1) rfl)
  try simp only [Int.add_zero] at h0 h1
  have key : (Γ (α 0) = 40 ∧ tyO Γ M (α 0) [(1, 41, [(298, 442)])] ∧ Q158 g (vw M (α 0) 1 [(298, 442)]) (clp [] (M.2.2.2.2 (α 0))) (ρ 2 + 0) (ρ 3 + 0)) ∧ True := by
    try simp only [Int.add_zero]
    have e1 : fl M (α 0) 1 = α 1 := fl_eq (show M.2.2.2.1 (α 0) 1 = some (α 1) from h0.2)
    
    have e : M.2.2.2.2 (α 1) (298 + (ρ 2).toNat) = ρ 3 := by
      have := h1.2
      rw [show (ρ 2 + 298).toNat = 298 + (ρ 2).toNat by omega] at this
      exact this
    refine ⟨⟨g0, tyO_of hT g0 (by decide) (by decide), ⟨b2.1, by omega⟩, ?_⟩, trivial⟩
    show clp [(298, 442)] (M.2.2.2.2 (fl M (α 0) 1)) (298 + (ρ 2).toNat) = ρ 3
    rw [e1, ckH (by decide) _ (by omega)]
    exact e
  exact ⟨nB, qB (key.1) (nB)⟩
def t_mv : KT := ((0, 0, 0, 0), [(2, 0, 40, 0), (2, 1, 41, 0), (1, 2, 0, 0), (1, 3, 0, 0)], [(0, 0), (0, 0), (0, 143), (-2147483648, 2147483647)], [(11, [(2, 0, 40, 0), (0, 0, 0, 1), (2, 1, 41, 0)]), (10, [(2, 1, 41, 0), (1, 2, 0, 874), (1, 3, 0, 0)])], (0, 0, 0), [], [], ([], [(160, [(2, 0, 40, 0), (1, 2, 0, 0), (1, 3, 0, 0)])]), ([], []))
theorem l_mv (g : GG) : LOK Yt (PSt g) t_mv := by
  intro ρ α Γ M as hT hB hA hP
  have g0 : Γ (α 0) = 40 := tyAt hA (i := 0) rfl
  have g1 : Γ (α 1) = 41 := tyAt hA (i := 1) rfl
  have b2 : 0 ≤ ρ 2 ∧ ρ 2 ≤ 143 := hB 2
  have b3 : -2147483648 ≤ ρ 3 ∧ ρ 3 ≤ 2147483647 := hB 3
  have h0 : 0 ≤ (1 : Int) ∧ M.2.2.2.1 (α 0) (1 : Int).toNat = some (α 1) := hP _ (List.mem_of_getElem? (i := 0) rfl)
  have h1 : 0 ≤ (ρ 2 + 874 : Int) ∧ M.2.2.2.2 (α 1) (ρ 2 + 874 : Int).toNat = ρ 3 + 0 := hP _ (List.mem_of_getElem? (i := 1) rfl)
  try simp only [Int.add_zero] at h0 h1
  have key : (Γ (α 0) = 40 ∧ tyO Γ M (α 0) [(1, 41, [(874, 1018)])] ∧ Q160 g (vw M (α 0) 1 [(874, 1018)]) (clp [] (M.2.2.2.2 (α 0))) (ρ 2 + 0) (ρ 3 + 0)) ∧ True := by
    try simp only [Int.add_zero]
    have e1 : fl M (α 0) 1 = α 1 := fl_eq (show M.2.2.2.1 (α 0) 1 = some (α 1) from h0.2)
    
    have e : M.2.2.2.2 (α 1) (874 + (ρ 2).toNat) = ρ 3 := by
      have := h1.2
      rw [show (ρ 2 + 874).toNat = 874 + (ρ 2).toNat by omega] at this
      exact this
    refine ⟨⟨g0, tyO_of hT g0 (by decide) (by decide), ⟨b2.1, by omega⟩, ?_⟩, trivial⟩
    show clp [(874, 1018)] (M.2.2.2.2 (fl M (α 0) 1)) (874 + (ρ 2).toNat) = ρ 3
    rw [e1, ckM (by decide) _ (by omega)]
    exact e
  exact ⟨nB, qB (key.1) (nB)⟩
def t_hvT : KT := ((0, 0, 0, 0), [(2, 0, 40, 0), (1, 1, 0, 0), (1, 2, 0, 0)], [(0, 0), (0, 143), (1, 1)], [(158, [(2, 0, 40, 0), (1, 1, 0, 0), (1, 2, 0, 0)])], (0, 0, 0), [], [], ([], [(122, [(2, 0, 40, 0), (1, 1, 0, 0)])]), ([], []))
theorem l_hvT (g : GG) : LOK Yt (PSt g) t_hvT := by
  intro ρ α Γ M as hT hB hA hP
  have g0 : Γ (α 0) = 40 := tyAt hA (i := 0) rfl
  have b1 : 0 ≤ ρ 1 ∧ ρ 1 ≤ 143 := hB 1
  have b2 : 1 ≤ ρ 2 ∧ ρ 2 ≤ 1 := hB 2
  have h0 : Γ (α 0) = 40 ∧ tyO Γ M (α 0) [(1, 41, [(298, 442)])] ∧ Q158 g (vw M (α 0) 1 [(298, 442)]) (clp [] (M.2.2.2.2 (α 0))) (ρ 1 + 0) (ρ 2 + 0) := hP _ (List.mem_of_getElem? (i := 0) rfl)
  try simp only [Int.add_zero] at h0
  have key : (Γ (α 0) = 40 ∧ tyO Γ M (α 0) [(1, 41, [(298, 442)])] ∧ Q122 g (vw M (α 0) 1 [(298, 442)]) (clp [] (M.2.2.2.2 (α 0))) (ρ 1 + 0)) ∧ True := by
    try simp only [Int.add_zero]
    obtain ⟨-, ht, hp, h⟩ := h0
    refine ⟨⟨g0, ht, hp, ?_⟩, trivial⟩
    rw [h]
    omega
  exact ⟨nB, qB (key.1) (nB)⟩
def t_hvF : KT := ((0, 0, 0, 0), [(2, 0, 40, 0), (1, 1, 0, 0), (1, 2, 0, 0)], [(0, 0), (0, 143), (0, 0)], [(158, [(2, 0, 40, 0), (1, 1, 0, 0), (1, 2, 0, 0)])], (0, 0, 0), [], [], ([], [(123, [(2, 0, 40, 0), (1, 1, 0, 0)])]), ([], []))
theorem l_hvF (g : GG) : LOK Yt (PSt g) t_hvF := by
  intro ρ α Γ M as hT hB hA hP
  have g0 : Γ (α 0) = 40 := tyAt hA (i := 0) rfl
  have b1 : 0 ≤ ρ 1 ∧ ρ 1 ≤ 143 := hB 1
  have b2 : 0 ≤ ρ 2 ∧ ρ 2 ≤ 0 := hB 2
  have h0 : Γ (α 0) = 40 ∧ tyO Γ M (α 0) [(1, 41, [(298, 442)])] ∧ Q158 g (vw M (α 0) 1 [(298, 442)]) (clp [] (M.2.2.2.2 (α 0))) (ρ 1 + 0) (ρ 2 + 0) := hP _ (List.mem_of_getElem? (i := 0) rfl)
  try simp only [Int.add_zero] at h0
  have key : (Γ (α 0) = 40 ∧ tyO Γ M (α 0) [(1, 41, [(298, 442)])] ∧ Q123 g (vw M (α 0) 1 [(298, 442)]) (clp [] (M.2.2.2.2 (α 0))) (ρ 1 + 0)) ∧ True := by
    try simp only [Int.add_zero]
    obtain ⟨-, ht, hp, h⟩ := h0
    refine ⟨⟨g0, ht, hp, ?_⟩, trivial⟩
    rw [h]
    omega
  exact ⟨nB, qB (key.1) (nB)⟩
def t_mvT : KT := ((0, 0, 0, 0), [(2, 0, 40, 0), (1, 1, 0, 0), (1, 2, 0, 0)], [(0, 0), (0, 143), (1, 2147483647)], [(160, [(2, 0, 40, 0), (1, 1, 0, 0), (1, 2, 0, 0)])], (0, 0, 0), [], [], ([], [(104, [(2, 0, 40, 0), (1, 1, 0, 0)])]), ([], []))
theorem l_mvT (g : GG) : LOK Yt (PSt g) t_mvT := by
  intro ρ α Γ M as hT hB hA hP
  have g0 : Γ (α 0) = 40 := tyAt hA (i := 0) rfl
  have b1 : 0 ≤ ρ 1 ∧ ρ 1 ≤ 143 := hB 1
  have b2 : 1 ≤ ρ 2 ∧ ρ 2 ≤ 2147483647 := hB 2
  have h0 : Γ (α 0) = 40 ∧ tyO Γ M (α 0) [(1, 41, [(874, 1018)])] ∧ Q160 g (vw M (α 0) 1 [(874, 1018)]) (clp [] (M.2.2.2.2 (α 0))) (ρ 1 + 0) (ρ 2 + 0) := hP _ (List.mem_of_getElem? (i := 0) rfl)
  try simp only [Int.add_zero] at h0
  have key : (Γ (α 0) = 40 ∧ tyO Γ M (α 0) [(1, 41, [(874, 1018)])] ∧ Q104 g (vw M (α 0) 1 [(874, 1018)]) (clp [] (M.2.2.2.2 (α 0))) (ρ 1 + 0)) ∧ True := by
    try simp only [Int.add_zero]
    obtain ⟨-, ht, hp, h⟩ := h0
    refine ⟨⟨g0, ht, Or.inr ⟨hp.1, hp.2, ?_⟩⟩, trivial⟩
    rw [h]
    omega
  exact ⟨nB, qB (key.1) (nB)⟩
def t_mvF : KT := ((0, 0, 0, 0), [(2, 0, 40, 0), (1, 1, 0, 0), (1, 2, 0, 0)], [(0, 0), (0, 143), (-2147483648, 0)], [(160, [(2, 0, 40, 0), (1, 1, 0, 0), (1, 2, 0, 0)])], (0, 0, 0), [], [], ([], [(103, [(2, 0, 40, 0), (1, 1, 0, 0)])]), ([], []))
theorem l_mvF (g : GG) : LOK Yt (PSt g) t_mvF := by
  intro ρ α Γ M as hT hB hA hP
  have g0 : Γ (α 0) = 40 := tyAt hA (i := 0) rfl
  have b1 : 0 ≤ ρ 1 ∧ ρ 1 ≤ 143 := hB 1
  have b2 : -2147483648 ≤ ρ 2 ∧ ρ 2 ≤ 0 := hB 2
  have h0 : Γ (α 0) = 40 ∧ tyO Γ M (α 0) [(1, 41, [(874, 1018)])] ∧ Q160 g (vw M (α 0) 1 [(874, 1018)]) (clp [] (M.2.2.2.2 (α 0))) (ρ 1 + 0) (ρ 2 + 0) := hP _ (List.mem_of_getElem? (i := 0) rfl)
  try simp only [Int.add_zero] at h0
  have key : (Γ (α 0) = 40 ∧ tyO Γ M (α 0) [(1, 41, [(874, 1018)])] ∧ Q103 g (vw M (α 0) 1 [(874, 1018)]) (clp [] (M.2.2.2.2 (α 0))) (ρ 1 + 0)) ∧ True := by
    try simp only [Int.add_zero]
    obtain ⟨-, ht, hp, h⟩ := h0
    refine ⟨⟨g0, ht, Or.inr ⟨hp.1, hp.2, ?_⟩⟩, trivial⟩
    rw [h]
    omega
  exact ⟨nB, qB (key.1) (nB)⟩
def t_z0 : KT := ((0, 0, 0, 0), [(2, 0, 40, 0), (1, 1, 0, 0)], [(0, 0), (0, 0)], [], (0, 0, 0), [], [], ([], [(106, [(2, 0, 40, 0), (1, 1, 0, 0)])]), ([], []))
theorem l_z0 (g : GG) : LOK Yt (PSt g) t_z0 := by
  intro ρ α Γ M as hT hB hA hP
  have g0 : Γ (α 0) = 40 := tyAt hA (i := 0) rfl
  have b1 : 0 ≤ ρ 1 ∧ ρ 1 ≤ 0 := hB 1
  have key : (Γ (α 0) = 40 ∧ tyO Γ M (α 0) [(1, 41, [(874, 1018)])] ∧ Q106 g (vw M (α 0) 1 [(874, 1018)]) (clp [] (M.2.2.2.2 (α 0))) (ρ 1 + 0)) ∧ True := by
    try simp only [Int.add_zero]
    exact ⟨⟨g0, tyO_of hT g0 (by decide) (by decide), fun q hq => by omega⟩, trivial⟩
  exact ⟨nB, qB (key.1) (nB)⟩
def t_z1 : KT := ((0, 0, 0, 0), [(2, 0, 40, 0), (2, 1, 41, 0), (1, 2, 0, 0)], [(0, 0), (0, 0), (0, 143)], [(106, [(2, 0, 40, 0), (1, 2, 0, 0)]), (11, [(2, 0, 40, 0), (0, 0, 0, 1), (2, 1, 41, 0)])], (0, 0, 0), [], [], ([], [(200, [(2, 1, 41, 0), (1, 2, 0, 874), (2, 0, 40, 0), (1, 2, 0, 0)])]), ([], []))
theorem l_z1 (g : GG) : LOK Yt (PSt g) t_z1 := by
  intro ρ α Γ M as hT hB hA hP
  have g0 : Γ (α 0) = 40 := tyAt hA (i := 0) rfl
  have g1 : Γ (α 1) = 41 := tyAt hA (i := 1) rfl
  have b2 : 0 ≤ ρ 2 ∧ ρ 2 ≤ 143 := hB 2
  have h0 : Γ (α 0) = 40 ∧ tyO Γ M (α 0) [(1, 41, [(874, 1018)])] ∧ Q106 g (vw M (α 0) 1 [(874, 1018)]) (clp [] (M.2.2.2.2 (α 0))) (ρ 2 + 0) := hP _ (List.mem_of_getElem? (i := 0) rfl)
  have h1 : 0 ≤ (1 : Int) ∧ M.2.2.2.1 (α 0) (1 : Int).toNat = some (α 1) := hP _ (List.mem_of_getElem? (i := 1) rfl)
  try simp only [Int.add_zero] at h0 h1
  have key : (Γ (α 0) = 40 ∧ M.2.2.2.1 (α 0) 1 = some (α 1) ∧ Γ (α 1) = 41 ∧ tyO Γ M (α 0) [] ∧ Q200 g (hcl [vi (ρ 2 + 874)] (clp [(874, 1018)] (M.2.2.2.2 (α 1))))  (clp [] (M.2.2.2.2 (α 0))) (ρ 2 + 874) (ρ 2 + 0)) ∧ True := by
    try simp only [Int.add_zero]
    have e1 : fl M (α 0) 1 = α 1 := fl_eq (show M.2.2.2.1 (α 0) 1 = some (α 1) from h1.2)
    
    obtain ⟨-, -, h⟩ := h0
    have h := c106.mp (show ∀ q : Nat, (q : Int) < ρ 2 → clp [(874, 1018)] (M.2.2.2.2 (fl M (α 0) 1)) (874 + q) = 0 from h)
    rw [e1] at h
    refine ⟨⟨g0, h1.2, g1, tyO_of hT g0 (by decide) (by decide), fun q hq => ?_⟩, trivial⟩
    rw [hcl1 (by omega), ckM (by decide) q (by omega)]
    exact h q (by omega) hq
  exact ⟨nB, qB (key.1) (nB)⟩
def t_z2 : KT := ((0, 0, 0, 0), [(2, 0, 40, 0), (2, 1, 41, 0), (1, 2, 0, 0)], [(0, 0), (0, 0), (0, 143)], [(200, [(2, 1, 41, 0), (1, 2, 0, 874), (2, 0, 40, 0), (1, 2, 0, 0)]), (10, [(2, 1, 41, 0), (1, 2, 0, 874), (0, 0, 0, 0)])], (0, 0, 0), [], [], ([], [(106, [(2, 0, 40, 0), (1, 2, 0, 1)])]), ([], []))
theorem l_z2 (g : GG) : LOK Yt (PSt g) t_z2 := by
  intro ρ α Γ M as hT hB hA hP
  have g0 : Γ (α 0) = 40 := tyAt hA (i := 0) rfl
  have g1 : Γ (α 1) = 41 := tyAt hA (i := 1) rfl
  have b2 : 0 ≤ ρ 2 ∧ ρ 2 ≤ 143 := hB 2
  have h0 : Γ (α 0) = 40 ∧ M.2.2.2.1 (α 0) 1 = some (α 1) ∧ Γ (α 1) = 41 ∧ tyO Γ M (α 0) [] ∧ Q200 g (hcl [vi (ρ 2 + 874)] (clp [(874, 1018)] (M.2.2.2.2 (α 1))))  (clp [] (M.2.2.2.2 (α 0))) (ρ 2 + 874) (ρ 2 + 0) := hP _ (List.mem_of_getElem? (i := 0) rfl)
  have h1 : 0 ≤ (ρ 2 + 874 : Int) ∧ M.2.2.2.2 (α 1) (ρ 2 + 874 : Int).toNat = 0 := hP _ (List.mem_of_getElem? (i := 1) rfl)
  try simp only [Int.add_zero] at h0 h1
  have key : (Γ (α 0) = 40 ∧ tyO Γ M (α 0) [(1, 41, [(874, 1018)])] ∧ Q106 g (vw M (α 0) 1 [(874, 1018)]) (clp [] (M.2.2.2.2 (α 0))) (ρ 2 + 1)) ∧ True := by
    try simp only [Int.add_zero]
    obtain ⟨-, hr, -, -, h⟩ := h0
    have e1 : fl M (α 0) 1 = α 1 := fl_eq hr
    refine ⟨⟨g0, tyO_of hT g0 (by decide) (by decide), c106.mpr fun q hq hq2 => ?_⟩, trivial⟩
    show M.2.2.2.2 (fl M (α 0) 1) (874 + q) = 0
    rw [e1]
    by_cases hc : (q : Int) < ρ 2
    · have := h q hc
      rw [hcl1 (by omega), ckM (by decide) q hq] at this
      exact this
    · have e := h1.2
      rw [show (ρ 2 + 874).toNat = 874 + q by omega] at e
      exact e
  exact ⟨nB, qB (key.1) (nB)⟩
def t_z3 : KT := ((0, 0, 0, 0), [(2, 0, 40, 0), (2, 1, 41, 0), (1, 2, 0, 0)], [(0, 0), (0, 0), (144, 144)], [(106, [(2, 0, 40, 0), (1, 2, 0, 0)]), (11, [(2, 0, 40, 0), (0, 0, 0, 1), (2, 1, 41, 0)]), (10, [(2, 1, 41, 0), (0, 0, 0, 2), (0, 0, 0, 0)]), (10, [(2, 1, 41, 0), (0, 0, 0, 3), (0, 0, 0, 0)]), (10, [(2, 1, 41, 0), (0, 0, 0, 4), (0, 0, 0, 0)])], (0, 0, 0), [], [], ([], [(100, [(2, 0, 40, 0)]), (101, [(2, 0, 40, 0)]), (102, [(2, 0, 40, 0)]), (132, [(2, 0, 40, 0)])]), ([], []))
theorem l_z3 (g : GG) : LOK Yt (PSt g) t_z3 := by
  intro ρ α Γ M as hT hB hA hP
  have g0 : Γ (α 0) = 40 := tyAt hA (i := 0) rfl
  have g1 : Γ (α 1) = 41 := tyAt hA (i := 1) rfl
  have b2 : 144 ≤ ρ 2 ∧ ρ 2 ≤ 144 := hB 2
  have h0 : Γ (α 0) = 40 ∧ tyO Γ M (α 0) [(1, 41, [(874, 1018)])] ∧ Q106 g (vw M (α 0) 1 [(874, 1018)]) (clp [] (M.2.2.2.2 (α 0))) (ρ 2 + 0) := hP _ (List.mem_of_getElem? (i := 0) rfl)
  have h1 : 0 ≤ (1 : Int) ∧ M.2.2.2.1 (α 0) (1 : Int).toNat = some (α 1) := hP _ (List.mem_of_getElem? (i := 1) rfl)
  have h2 : 0 ≤ (2 : Int) ∧ M.2.2.2.2 (α 1) (2 : Int).toNat = 0 := hP _ (List.mem_of_getElem? (i := 2) rfl)
  have h3 : 0 ≤ (3 : Int) ∧ M.2.2.2.2 (α 1) (3 : Int).toNat = 0 := hP _ (List.mem_of_getElem? (i := 3) rfl)
  have h4 : 0 ≤ (4 : Int) ∧ M.2.2.2.2 (α 1) (4 : Int).toNat = 0 := hP _ (List.mem_of_getElem? (i := 4) rfl)
  try simp only [Int.add_zero] at h0 h1 h2 h3 h4
  have key : (Γ (α 0) = 40 ∧ tyO Γ M (α 0) [(1, 41, [(2, 4), (586, 730), (874, 1018)])] ∧ Q100 g (vw M (α 0) 1 [(2, 4), (586, 730), (874, 1018)]) (clp [] (M.2.2.2.2 (α 0))) ) ∧ (Γ (α 0) = 40 ∧ tyO Γ M (α 0) [(1, 41, [(0, 2), (4, 5), (298, 442), (874, 1018)])] ∧ Q101 g (vw M (α 0) 1 [(0, 2), (4, 5), (298, 442), (874, 1018)]) (clp [] (M.2.2.2.2 (α 0))) ) ∧ (Γ (α 0) = 40 ∧ tyO Γ M (α 0) [(1, 41, [(4, 5)])] ∧ Q102 g (vw M (α 0) 1 [(4, 5)]) (clp [] (M.2.2.2.2 (α 0))) ) ∧ (Γ (α 0) = 40 ∧ tyO Γ M (α 0) [(1, 41, [(874, 1018)])] ∧ True) ∧ True := by
    try simp only [Int.add_zero]
    have e1 : fl M (α 0) 1 = α 1 := fl_eq (show M.2.2.2.1 (α 0) 1 = some (α 1) from h1.2)
    
    obtain ⟨-, -, h⟩ := h0
    have h := c106.mp (show ∀ q : Nat, (q : Int) < ρ 2 → clp [(874, 1018)] (M.2.2.2.2 (fl M (α 0) 1)) (874 + q) = 0 from h)
    rw [e1] at h
    have x2 : M.2.2.2.2 (α 1) 2 = 0 := h2.2
    have x3 : M.2.2.2.2 (α 1) 3 = 0 := h3.2
    have x4 : M.2.2.2.2 (α 1) 4 = 0 := h4.2
    refine ⟨⟨g0, tyO_of hT g0 (by decide) (by decide), c100.mpr ?_⟩, ⟨g0, tyO_of hT g0 (by decide) (by decide), c101.mpr ?_⟩, ⟨g0, tyO_of hT g0 (by decide) (by decide), ?_⟩, ⟨g0, tyO_of hT g0 (by decide) (by decide), trivial⟩, trivial⟩
    · show RI0 (M.2.2.2.2 (fl M (α 0) 1))
      rw [e1]
      exact clear_ok x2 x3 fun p hp => h p hp (by omega)
    · show FLc (M.2.2.2.2 (fl M (α 0) 1))
      rw [e1]
      exact FL0 x4
    · show clp [(4, 5)] (M.2.2.2.2 (fl M (α 0) 1)) 4 = 0
      rw [e1, clp_in 4 5 (by decide) (by decide) (by decide)]
      exact x4
  exact ⟨nB, qB (key.1) (qB (key.2.1) (qB (key.2.2.1) (qB (key.2.2.2.1) (nB))))⟩
def t_nf01 : KT := ((0, 0, 0, 0), [(2, 0, 40, 0)], [(0, 0)], [(102, [(2, 0, 40, 0)])], (0, 0, 0), [], [], ([], [(101, [(2, 0, 40, 0)])]), ([], []))
theorem l_nf01 (g : GG) : LOK Yt (PSt g) t_nf01 := by
  intro ρ α Γ M as hT hB hA hP
  have g0 : Γ (α 0) = 40 := tyAt hA (i := 0) rfl
  have h0 : Γ (α 0) = 40 ∧ tyO Γ M (α 0) [(1, 41, [(4, 5)])] ∧ Q102 g (vw M (α 0) 1 [(4, 5)]) (clp [] (M.2.2.2.2 (α 0)))  := hP _ (List.mem_of_getElem? (i := 0) rfl)
  try simp only [Int.add_zero] at h0
  have key : (Γ (α 0) = 40 ∧ tyO Γ M (α 0) [(1, 41, [(0, 2), (4, 5), (298, 442), (874, 1018)])] ∧ Q101 g (vw M (α 0) 1 [(0, 2), (4, 5), (298, 442), (874, 1018)]) (clp [] (M.2.2.2.2 (α 0))) ) ∧ True := by
    try simp only [Int.add_zero]
    obtain ⟨-, -, h⟩ := h0
    have h : clp [(4, 5)] (M.2.2.2.2 (fl M (α 0) 1)) 4 = 0 := h
    rw [clp_in 4 5 (by decide) (by decide) (by decide)] at h
    exact ⟨⟨g0, tyO_of hT g0 (by decide) (by decide), c101.mpr (FL0 h)⟩, trivial⟩
  exact ⟨nB, qB (key.1) (nB)⟩
def t_ly00 : KT := ((0, 0, 0, 0), [(2, 0, 40, 0), (2, 1, 41, 0), (1, 2, 0, 0), (1, 3, 0, 0)], [(0, 0), (0, 0), (0, 143), (-2147483648, 2147483647)], [(155, [(2, 0, 40, 0)]), (103, [(2, 0, 40, 0), (1, 2, 0, 0)]), (11, [(2, 0, 40, 0), (0, 0, 0, 1), (2, 1, 41, 0)]), (10, [(2, 1, 41, 0), (0, 0, 0, 2), (1, 3, 0, 0)])], (0, 0, 0), [], [], ([(3, 0, 143)], []), ([], []))
theorem l_ly00 (g : GG) : LOK Yt (PSt g) t_ly00 := by
  intro ρ α Γ M as hT hB hA hP
  have g0 : Γ (α 0) = 40 := tyAt hA (i := 0) rfl
  have g1 : Γ (α 1) = 41 := tyAt hA (i := 1) rfl
  have b2 : 0 ≤ ρ 2 ∧ ρ 2 ≤ 143 := hB 2
  have b3 : -2147483648 ≤ ρ 3 ∧ ρ 3 ≤ 2147483647 := hB 3
  have h0 : Γ (α 0) = 40 ∧ tyO Γ M (α 0) [(1, 41, [(2, 4), (586, 730), (874, 1018)])] ∧ Q155 g (vw M (α 0) 1 [(2, 4), (586, 730), (874, 1018)]) (clp [] (M.2.2.2.2 (α 0)))  := hP _ (List.mem_of_getElem? (i := 0) rfl)
  have h1 : Γ (α 0) = 40 ∧ tyO Γ M (α 0) [(1, 41, [(874, 1018)])] ∧ Q103 g (vw M (α 0) 1 [(874, 1018)]) (clp [] (M.2.2.2.2 (α 0))) (ρ 2 + 0) := hP _ (List.mem_of_getElem? (i := 1) rfl)
  have h2 : 0 ≤ (1 : Int) ∧ M.2.2.2.1 (α 0) (1 : Int).toNat = some (α 1) := hP _ (List.mem_of_getElem? (i := 2) rfl)
  have h3 : 0 ≤ (2 : Int) ∧ M.2.2.2.2 (α 1) (2 : Int).toNat = ρ 3 + 0 := hP _ (List.mem_of_getElem? (i := 3) rfl)
  try simp only [Int.add_zero] at h0 h1 h2 h3
  have key : (0 ≤ ρ 3 ∧ ρ 3 ≤ 143) ∧ True := by
    try simp only [Int.add_zero]
    have e1 : fl M (α 0) 1 = α 1 := fl_eq (show M.2.2.2.1 (α 0) 1 = some (α 1) from h2.2)
    
    have r := c155.mp (show RI1 (clp _ (M.2.2.2.2 (fl M (α 0) 1))) from h0.2.2)
    have u := c103.mp (show UNp (clp _ (M.2.2.2.2 (fl M (α 0) 1))) (ρ 2) from h1.2.2)
    rw [e1] at r u
    have e : M.2.2.2.2 (α 1) 2 = ρ 3 := h3.2
    obtain ⟨⟨r1, r2⟩, -⟩ := r
    rw [e] at r1 r2
    rcases u with u | ⟨u1, u2, u3⟩
    · omega
    · have := unl_pos (p := (ρ 2).toNat) (by omega) u3
      exact ⟨⟨by omega, by omega⟩, trivial⟩
  exact ⟨qB (key.1) (nB), nB⟩
def t_ly0 : KT := ((0, 0, 0, 0), [(2, 0, 40, 0), (2, 1, 41, 0), (1, 2, 0, 0), (1, 3, 0, 0), (1, 4, 0, 0)], [(0, 0), (0, 0), (0, 143), (-1, 143), (1, 144)], [(155, [(2, 0, 40, 0)]), (103, [(2, 0, 40, 0), (1, 2, 0, 0)]), (104, [(2, 0, 40, 0), (1, 3, 0, 0)]), (11, [(2, 0, 40, 0), (0, 0, 0, 1), (2, 1, 41, 0)]), (10, [(2, 1, 41, 0), (0, 0, 0, 2), (1, 4, 0, -1)])], (0, 0, 0), [], [], ([], [(300, [(2, 1, 41, 0), (0, 0, 0, 2), (1, 2, 0, 874), (0, 0, 0, 2), (0, 0, 0, 2), (0, 0, 0, 2), (2, 0, 40, 0), (1, 2, 0, 0), (1, 3, 0, 0), (1, 4, 0, 0)])]), ([], []))
theorem l_ly0 (g : GG) : LOK Yt (PSt g) t_ly0 := by
  intro ρ α Γ M as hT hB hA hP
  have g0 : Γ (α 0) = 40 := tyAt hA (i := 0) rfl
  have g1 : Γ (α 1) = 41 := tyAt hA (i := 1) rfl
  have b2 : 0 ≤ ρ 2 ∧ ρ 2 ≤ 143 := hB 2
  have b3 : -1 ≤ ρ 3 ∧ ρ 3 ≤ 143 := hB 3
  have b4 : 1 ≤ ρ 4 ∧ ρ 4 ≤ 144 := hB 4
  have h0 : Γ (α 0) = 40 ∧ tyO Γ M (α 0) [(1, 41, [(2, 4), (586, 730), (874, 1018)])] ∧ Q155 g (vw M (α 0) 1 [(2, 4), (586, 730), (874, 1018)]) (clp [] (M.2.2.2.2 (α 0)))  := hP _ (List.mem_of_getElem? (i := 0) rfl)
  have h1 : Γ (α 0) = 40 ∧ tyO Γ M (α 0) [(1, 41, [(874, 1018)])] ∧ Q103 g (vw M (α 0) 1 [(874, 1018)]) (clp [] (M.2.2.2.2 (α 0))) (ρ 2 + 0) := hP _ (List.mem_of_getElem? (i := 1) rfl)
  have h2 : Γ (α 0) = 40 ∧ tyO Γ M (α 0) [(1, 41, [(874, 1018)])] ∧ Q104 g (vw M (α 0) 1 [(874, 1018)]) (clp [] (M.2.2.2.2 (α 0))) (ρ 3 + 0) := hP _ (List.mem_of_getElem? (i := 2) rfl)
  have h3 : 0 ≤ (1 : Int) ∧ M.2.2.2.1 (α 0) (1 : Int).toNat = some (α 1) := hP _ (List.mem_of_getElem? (i := 3) rfl)
  have h4 : 0 ≤ (2 : Int) ∧ M.2.2.2.2 (α 1) (2 : Int).toNat = ρ 4 + (-1) := hP _ (List.mem_of_getElem? (i := 4) rfl)
  try simp only [Int.add_zero] at h0 h1 h2 h3 h4
  have key : (Γ (α 0) = 40 ∧ M.2.2.2.1 (α 0) 1 = some (α 1) ∧ Γ (α 1) = 41 ∧ tyO Γ M (α 0) [] ∧ Q300 g (hcl [vi (2), vi (ρ 2 + 874), vi (2), vi (2), vi (2)] (clp [(2, 4), (586, 730), (874, 1018)] (M.2.2.2.2 (α 1))))  (clp [] (M.2.2.2.2 (α 0))) (2) (ρ 2 + 874) (2) (2) (2) (ρ 2 + 0) (ρ 3 + 0) (ρ 4 + 0)) ∧ True := by
    try simp only [Int.add_zero]
    have e1 : fl M (α 0) 1 = α 1 := fl_eq (show M.2.2.2.1 (α 0) 1 = some (α 1) from h3.2)
    
    have r := c155.mp (show RI1 (clp _ (M.2.2.2.2 (fl M (α 0) 1))) from h0.2.2)
    have u := c103.mp (show UNp (clp _ (M.2.2.2.2 (fl M (α 0) 1))) (ρ 2) from h1.2.2)
    have w := c104.mp (show LAp (clp _ (M.2.2.2.2 (fl M (α 0) 1))) (ρ 3) from h2.2.2)
    rw [e1] at r u w
    have e : M.2.2.2.2 (α 1) 2 = ρ 4 + (-1) := h4.2
    rcases u with u | ⟨u1, u2, u3⟩
    · omega
    · refine ⟨⟨g0, h3.2, g1, tyO_of hT g0 (by decide) (by decide), M.2.2.2.2 (α 1), r, ⟨u1, u2, u3⟩, w, ?_, fun q hq hn => ?_, fun q hq hn => ?_, by omega⟩, trivial⟩
      · rw [hcl5 (by decide) (by omega) (by decide) (by decide) (by decide), clp_in 2 4 (by decide) (by decide) (by decide)]
      · rw [hcl5 (by omega) (by omega) (by omega) (by omega) (by omega), ckM (by decide) q hq]
      · rw [hcl5 (by omega) (by omega) (by omega) (by omega) (by omega), ckF (by decide) q hq]
  exact ⟨nB, qB (key.1) (nB)⟩
def t_ly1 : KT := ((0, 0, 0, 0), [(2, 0, 40, 0), (2, 1, 41, 0), (1, 2, 0, 0), (1, 3, 0, 0), (1, 4, 0, 0)], [(0, 0), (0, 0), (0, 143), (-1, 143), (1, 144)], [(300, [(2, 1, 41, 0), (0, 0, 0, 2), (1, 2, 0, 874), (0, 0, 0, 2), (0, 0, 0, 2), (0, 0, 0, 2), (2, 0, 40, 0), (1, 2, 0, 0), (1, 3, 0, 0), (1, 4, 0, 0)]), (10, [(2, 1, 41, 0), (0, 0, 0, 2), (1, 4, 0, 0)]), (10, [(2, 1, 41, 0), (1, 2, 0, 874), (1, 4, 0, 0)])], (0, 0, 0), [], [], ([], [(212, [(2, 1, 41, 0), (1, 2, 0, 586), (2, 0, 40, 0), (1, 2, 0, 0), (1, 3, 0, 0)])]), ([], []))
theorem l_ly1 (g : GG) : LOK Yt (PSt g) t_ly1 := by
  intro ρ α Γ M as hT hB hA hP
  have g0 : Γ (α 0) = 40 := tyAt hA (i := 0) rfl
  have g1 : Γ (α 1) = 41 := tyAt hA (i := 1) rfl
  have b2 : 0 ≤ ρ 2 ∧ ρ 2 ≤ 143 := hB 2
  have b3 : -1 ≤ ρ 3 ∧ ρ 3 ≤ 143 := hB 3
  have b4 : 1 ≤ ρ 4 ∧ ρ 4 ≤ 144 := hB 4
  have h0 : Γ (α 0) = 40 ∧ M.2.2.2.1 (α 0) 1 = some (α 1) ∧ Γ (α 1) = 41 ∧ tyO Γ M (α 0) [] ∧ Q300 g (hcl [vi (2), vi (ρ 2 + 874), vi (2), vi (2), vi (2)] (clp [(2, 4), (586, 730), (874, 1018)] (M.2.2.2.2 (α 1))))  (clp [] (M.2.2.2.2 (α 0))) (2) (ρ 2 + 874) (2) (2) (2) (ρ 2 + 0) (ρ 3 + 0) (ρ 4 + 0) := hP _ (List.mem_of_getElem? (i := 0) rfl)
  have h1 : 0 ≤ (2 : Int) ∧ M.2.2.2.2 (α 1) (2 : Int).toNat = ρ 4 + 0 := hP _ (List.mem_of_getElem? (i := 1) rfl)
  have h2 : 0 ≤ (ρ 2 + 874 : Int) ∧ M.2.2.2.2 (α 1) (ρ 2 + 874 : Int).toNat = ρ 4 + 0 := hP _ (List.mem_of_getElem? (i := 2) rfl)
  try simp only [Int.add_zero] at h0 h1 h2
  have key : (Γ (α 0) = 40 ∧ M.2.2.2.1 (α 0) 1 = some (α 1) ∧ Γ (α 1) = 41 ∧ tyO Γ M (α 0) [] ∧ Q212 g (hcl [vi (ρ 2 + 586)] (clp [(2, 4), (586, 730), (874, 1018)] (M.2.2.2.2 (α 1))))  (clp [] (M.2.2.2.2 (α 0))) (ρ 2 + 586) (ρ 2 + 0) (ρ 3 + 0)) ∧ True := by
    try simp only [Int.add_zero]
    obtain ⟨-, hr, -, -, f, f1, f2, f3, f4, f5, f6, f7⟩ := h0
    have x2 : M.2.2.2.2 (α 1) 2 = ρ 4 := h1.2
    have x3 : M.2.2.2.2 (α 1) (874 + (ρ 2).toNat) = ρ 4 := by
      have := h2.2
      rw [show (ρ 2 + 874).toNat = 874 + (ρ 2).toNat by omega] at this
      exact this
    rw [hcl5 (by decide) (by omega) (by decide) (by decide) (by decide)] at f4
    refine ⟨⟨g0, hr, g1, tyO_of hT g0 (by decide) (by decide), f, f1, f2, f3, ?_, fun q hq hn => ?_, fun q hq hn => ?_, ?_, ?_⟩, trivial⟩
    · rw [hcl1 (by omega)]
      exact f4
    · rw [← f5 q hq hn, hcl5 (by omega) (by omega) (by omega) (by omega) (by omega), hcl1 (by omega)]
    · rw [← f6 q hq hn, hcl5 (by omega) (by omega) (by omega) (by omega) (by omega), hcl1 (by omega)]
    · rw [hcl1 (by omega), clp_in 2 4 (by decide) (by decide) (by decide), x2]
      exact f7
    · rw [hcl1 (by omega), ckM (by decide) _ (by omega), x3]
      exact f7
  exact ⟨nB, qB (key.1) (nB)⟩
def t_ly2 : KT := ((0, 0, 0, 0), [(2, 0, 40, 0), (2, 1, 41, 0), (1, 2, 0, 0), (1, 3, 0, 0)], [(0, 0), (0, 0), (0, 143), (-1, 143)], [(212, [(2, 1, 41, 0), (1, 2, 0, 586), (2, 0, 40, 0), (1, 2, 0, 0), (1, 3, 0, 0)]), (10, [(2, 1, 41, 0), (1, 2, 0, 586), (1, 3, 0, 0)])], (0, 0, 0), [], [], ([], [(100, [(2, 0, 40, 0)])]), ([], []))
theorem l_ly2 (g : GG) : LOK Yt (PSt g) t_ly2 := by
  intro ρ α Γ M as hT hB hA hP
  have g0 : Γ (α 0) = 40 := tyAt hA (i := 0) rfl
  have g1 : Γ (α 1) = 41 := tyAt hA (i := 1) rfl
  have b2 : 0 ≤ ρ 2 ∧ ρ 2 ≤ 143 := hB 2
  have b3 : -1 ≤ ρ 3 ∧ ρ 3 ≤ 143 := hB 3
  have h0 : Γ (α 0) = 40 ∧ M.2.2.2.1 (α 0) 1 = some (α 1) ∧ Γ (α 1) = 41 ∧ tyO Γ M (α 0) [] ∧ Q212 g (hcl [vi (ρ 2 + 586)] (clp [(2, 4), (586, 730), (874, 1018)] (M.2.2.2.2 (α 1))))  (clp [] (M.2.2.2.2 (α 0))) (ρ 2 + 586) (ρ 2 + 0) (ρ 3 + 0) := hP _ (List.mem_of_getElem? (i := 0) rfl)
  have h1 : 0 ≤ (ρ 2 + 586 : Int) ∧ M.2.2.2.2 (α 1) (ρ 2 + 586 : Int).toNat = ρ 3 + 0 := hP _ (List.mem_of_getElem? (i := 1) rfl)
  try simp only [Int.add_zero] at h0 h1
  have key : (Γ (α 0) = 40 ∧ tyO Γ M (α 0) [(1, 41, [(2, 4), (586, 730), (874, 1018)])] ∧ Q100 g (vw M (α 0) 1 [(2, 4), (586, 730), (874, 1018)]) (clp [] (M.2.2.2.2 (α 0))) ) ∧ True := by
    try simp only [Int.add_zero]
    obtain ⟨-, hr, -, -, f, f1, f2, f3, f4, f5, f6, f7, f8⟩ := h0
    have e1 : fl M (α 0) 1 = α 1 := fl_eq hr
    have x3 : M.2.2.2.2 (α 1) (586 + (ρ 2).toNat) = ρ 3 := by
      have := h1.2
      rw [show (ρ 2 + 586).toNat = 586 + (ρ 2).toNat by omega] at this
      exact this
    rw [hcl1 (by omega), clp_in 2 4 (by decide) (by decide) (by decide)] at f4
    rw [hcl1 (by omega), clp_in 2 4 (by decide) (by decide) (by decide)] at f7
    rw [hcl1 (by omega), ckM (by decide) _ (by omega)] at f8
    have q := lay_ok (f2 := M.2.2.2.2 (α 1)) (p := (ρ 2).toNat) (by omega) f1 f2.2.2 f3 f7 f4 f8 x3 (fun q hq hn => by rw [← f5 q hq hn, hcl1 (by omega), ckM (by decide) q hq]) (fun q hq hn => by rw [← f6 q hq hn, hcl1 (by omega), ckF (by decide) q hq])
    rw [← e1] at q
    exact ⟨⟨g0, tyO_of hT g0 (by decide) (by decide), c100.mpr q.1⟩, trivial⟩
  exact ⟨nB, qB (key.1) (nB)⟩
def t_ly0g : KT := ((0, 0, 0, 0), [(2, 0, 40, 0), (2, 1, 41, 0), (1, 2, 0, 0), (1, 3, 0, 0), (1, 4, 0, 0)], [(0, 0), (0, 0), (0, 143), (-1, 143), (1, 144)], [(155, [(2, 0, 40, 0)]), (103, [(2, 0, 40, 0), (1, 2, 0, 0)]), (104, [(2, 0, 40, 0), (1, 3, 0, 0)]), (11, [(2, 0, 40, 0), (0, 0, 0, 1), (2, 1, 41, 0)]), (10, [(2, 1, 41, 0), (0, 0, 0, 2), (1, 4, 0, -1)]), (32, [(2, 0, 40, 0)])], (0, 0, 0), [], [], ([], [(390, [(2, 1, 41, 0), (0, 0, 0, 2), (1, 2, 0, 874), (0, 0, 0, 2), (0, 0, 0, 2), (0, 0, 0, 2), (2, 0, 40, 0), (1, 2, 0, 0), (1, 3, 0, 0), (1, 4, 0, 0)])]), ([], []))
theorem l_ly0g (g : GG) : LOK Yt (PSt g) t_ly0g := by
  intro ρ α Γ M as hT hB hA hP
  have g0 : Γ (α 0) = 40 := tyAt hA (i := 0) rfl
  have g1 : Γ (α 1) = 41 := tyAt hA (i := 1) rfl
  have b2 : 0 ≤ ρ 2 ∧ ρ 2 ≤ 143 := hB 2
  have b3 : -1 ≤ ρ 3 ∧ ρ 3 ≤ 143 := hB 3
  have b4 : 1 ≤ ρ 4 ∧ ρ 4 ≤ 144 := hB 4
  have h0 : Γ (α 0) = 40 ∧ tyO Γ M (α 0) [(1, 41, [(2, 4), (586, 730), (874, 1018)])] ∧ Q155 g (vw M (α 0) 1 [(2, 4), (586, 730), (874, 1018)]) (clp [] (M.2.2.2.2 (α 0)))  := hP _ (List.mem_of_getElem? (i := 0) rfl)
  have h1 : Γ (α 0) = 40 ∧ tyO Γ M (α 0) [(1, 41, [(874, 1018)])] ∧ Q103 g (vw M (α 0) 1 [(874, 1018)]) (clp [] (M.2.2.2.2 (α 0))) (ρ 2 + 0) := hP _ (List.mem_of_getElem? (i := 1) rfl)
  have h2 : Γ (α 0) = 40 ∧ tyO Γ M (α 0) [(1, 41, [(874, 1018)])] ∧ Q104 g (vw M (α 0) 1 [(874, 1018)]) (clp [] (M.2.2.2.2 (α 0))) (ρ 3 + 0) := hP _ (List.mem_of_getElem? (i := 2) rfl)
  have h3 : 0 ≤ (1 : Int) ∧ M.2.2.2.1 (α 0) (1 : Int).toNat = some (α 1) := hP _ (List.mem_of_getElem? (i := 3) rfl)
  have h4 : 0 ≤ (2 : Int) ∧ M.2.2.2.2 (α 1) (2 : Int).toNat = ρ 4 + (-1) := hP _ (List.mem_of_getElem? (i := 4) rfl)
  have h5 : Γ (α 0) = 40 ∧ tyO Γ M (α 0) [(1, 41, [(874, 1018)])] ∧ True ∧ mu32 (vw M (α 0) 1 [(874, 1018)])  ≤ g.2.2 := hP _ (List.mem_of_getElem? (i := 5) rfl)
  try simp only [Int.add_zero] at h0 h1 h2 h3 h4 h5
  have key : (Γ (α 0) = 40 ∧ M.2.2.2.1 (α 0) 1 = some (α 1) ∧ Γ (α 1) = 41 ∧ tyO Γ M (α 0) [] ∧ Q390 g (hcl [vi (2), vi (ρ 2 + 874), vi (2), vi (2), vi (2)] (clp [(2, 4), (586, 730), (874, 1018)] (M.2.2.2.2 (α 1))))  (clp [] (M.2.2.2.2 (α 0))) (2) (ρ 2 + 874) (2) (2) (2) (ρ 2 + 0) (ρ 3 + 0) (ρ 4 + 0)) ∧ True := by
    try simp only [Int.add_zero]
    have e1 : fl M (α 0) 1 = α 1 := fl_eq (show M.2.2.2.1 (α 0) 1 = some (α 1) from h3.2)
    
    have hu : unl (clp _ (M.2.2.2.2 (fl M (α 0) 1))) ≤ g.2.2 := h5.2.2.2
    rw [unl_c (ckM (by decide)), e1] at hu
    
    have r := c155.mp (show RI1 (clp _ (M.2.2.2.2 (fl M (α 0) 1))) from h0.2.2)
    have u := c103.mp (show UNp (clp _ (M.2.2.2.2 (fl M (α 0) 1))) (ρ 2) from h1.2.2)
    have w := c104.mp (show LAp (clp _ (M.2.2.2.2 (fl M (α 0) 1))) (ρ 3) from h2.2.2)
    rw [e1] at r u w
    have e : M.2.2.2.2 (α 1) 2 = ρ 4 + (-1) := h4.2
    rcases u with u | ⟨u1, u2, u3⟩
    · omega
    · refine ⟨⟨g0, h3.2, g1, tyO_of hT g0 (by decide) (by decide), M.2.2.2.2 (α 1), r, ⟨u1, u2, u3⟩, w, ?_, fun q hq hn => ?_, fun q hq hn => ?_, by omega, hu⟩, trivial⟩
      · rw [hcl5 (by decide) (by omega) (by decide) (by decide) (by decide), clp_in 2 4 (by decide) (by decide) (by decide)]
      · rw [hcl5 (by omega) (by omega) (by omega) (by omega) (by omega), ckM (by decide) q hq]
      · rw [hcl5 (by omega) (by omega) (by omega) (by omega) (by omega), ckF (by decide) q hq]
  exact ⟨nB, qB (key.1) (nB)⟩
def t_ly1g : KT := ((0, 0, 0, 0), [(2, 0, 40, 0), (2, 1, 41, 0), (1, 2, 0, 0), (1, 3, 0, 0), (1, 4, 0, 0)], [(0, 0), (0, 0), (0, 143), (-1, 143), (1, 144)], [(390, [(2, 1, 41, 0), (0, 0, 0, 2), (1, 2, 0, 874), (0, 0, 0, 2), (0, 0, 0, 2), (0, 0, 0, 2), (2, 0, 40, 0), (1, 2, 0, 0), (1, 3, 0, 0), (1, 4, 0, 0)]), (10, [(2, 1, 41, 0), (0, 0, 0, 2), (1, 4, 0, 0)]), (10, [(2, 1, 41, 0), (1, 2, 0, 874), (1, 4, 0, 0)])], (0, 0, 0), [], [], ([], [(290, [(2, 1, 41, 0), (1, 2, 0, 586), (2, 0, 40, 0), (1, 2, 0, 0), (1, 3, 0, 0)])]), ([], []))
theorem l_ly1g (g : GG) : LOK Yt (PSt g) t_ly1g := by
  intro ρ α Γ M as hT hB hA hP
  have g0 : Γ (α 0) = 40 := tyAt hA (i := 0) rfl
  have g1 : Γ (α 1) = 41 := tyAt hA (i := 1) rfl
  have b2 : 0 ≤ ρ 2 ∧ ρ 2 ≤ 143 := hB 2
  have b3 : -1 ≤ ρ 3 ∧ ρ 3 ≤ 143 := hB 3
  have b4 : 1 ≤ ρ 4 ∧ ρ 4 ≤ 144 := hB 4
  have h0 : Γ (α 0) = 40 ∧ M.2.2.2.1 (α 0) 1 = some (α 1) ∧ Γ (α 1) = 41 ∧ tyO Γ M (α 0) [] ∧ Q390 g (hcl [vi (2), vi (ρ 2 + 874), vi (2), vi (2), vi (2)] (clp [(2, 4), (586, 730), (874, 1018)] (M.2.2.2.2 (α 1))))  (clp [] (M.2.2.2.2 (α 0))) (2) (ρ 2 + 874) (2) (2) (2) (ρ 2 + 0) (ρ 3 + 0) (ρ 4 + 0) := hP _ (List.mem_of_getElem? (i := 0) rfl)
  have h1 : 0 ≤ (2 : Int) ∧ M.2.2.2.2 (α 1) (2 : Int).toNat = ρ 4 + 0 := hP _ (List.mem_of_getElem? (i := 1) rfl)
  have h2 : 0 ≤ (ρ 2 + 874 : Int) ∧ M.2.2.2.2 (α 1) (ρ 2 + 874 : Int).toNat = ρ 4 + 0 := hP _ (List.mem_of_getElem? (i := 2) rfl)
  try simp only [Int.add_zero] at h0 h1 h2
  have key : (Γ (α 0) = 40 ∧ M.2.2.2.1 (α 0) 1 = some (α 1) ∧ Γ (α 1) = 41 ∧ tyO Γ M (α 0) [] ∧ Q290 g (hcl [vi (ρ 2 + 586)] (clp [(2, 4), (586, 730), (874, 1018)] (M.2.2.2.2 (α 1))))  (clp [] (M.2.2.2.2 (α 0))) (ρ 2 + 586) (ρ 2 + 0) (ρ 3 + 0)) ∧ True := by
    try simp only [Int.add_zero]
    obtain ⟨-, hr, -, -, f, f1, f2, f3, f4, f5, f6, f7, f8⟩ := h0
    have x2 : M.2.2.2.2 (α 1) 2 = ρ 4 := h1.2
    have x3 : M.2.2.2.2 (α 1) (874 + (ρ 2).toNat) = ρ 4 := by
      have := h2.2
      rw [show (ρ 2 + 874).toNat = 874 + (ρ 2).toNat by omega] at this
      exact this
    rw [hcl5 (by decide) (by omega) (by decide) (by decide) (by decide)] at f4
    refine ⟨⟨g0, hr, g1, tyO_of hT g0 (by decide) (by decide), f, f1, f2, f3, ?_, fun q hq hn => ?_, fun q hq hn => ?_, ?_, ?_, f8⟩, trivial⟩
    · rw [hcl1 (by omega)]
      exact f4
    · rw [← f5 q hq hn, hcl5 (by omega) (by omega) (by omega) (by omega) (by omega), hcl1 (by omega)]
    · rw [← f6 q hq hn, hcl5 (by omega) (by omega) (by omega) (by omega) (by omega), hcl1 (by omega)]
    · rw [hcl1 (by omega), clp_in 2 4 (by decide) (by decide) (by decide), x2]
      exact f7
    · rw [hcl1 (by omega), ckM (by decide) _ (by omega), x3]
      exact f7
  exact ⟨nB, qB (key.1) (nB)⟩
def t_ly2g : KT := ((0, 0, 0, 0), [(2, 0, 40, 0), (2, 1, 41, 0), (1, 2, 0, 0), (1, 3, 0, 0)], [(0, 0), (0, 0), (0, 143), (-1, 143)], [(290, [(2, 1, 41, 0), (1, 2, 0, 586), (2, 0, 40, 0), (1, 2, 0, 0), (1, 3, 0, 0)]), (10, [(2, 1, 41, 0), (1, 2, 0, 586), (1, 3, 0, 0)])], (0, 0, 0), [], [], ([], [(100, [(2, 0, 40, 0)]), (33, [(2, 0, 40, 0)])]), ([], []))
theorem l_ly2g (g : GG) : LOK Yt (PSt g) t_ly2g := by
  intro ρ α Γ M as hT hB hA hP
  have g0 : Γ (α 0) = 40 := tyAt hA (i := 0) rfl
  have g1 : Γ (α 1) = 41 := tyAt hA (i := 1) rfl
  have b2 : 0 ≤ ρ 2 ∧ ρ 2 ≤ 143 := hB 2
  have b3 : -1 ≤ ρ 3 ∧ ρ 3 ≤ 143 := hB 3
  have h0 : Γ (α 0) = 40 ∧ M.2.2.2.1 (α 0) 1 = some (α 1) ∧ Γ (α 1) = 41 ∧ tyO Γ M (α 0) [] ∧ Q290 g (hcl [vi (ρ 2 + 586)] (clp [(2, 4), (586, 730), (874, 1018)] (M.2.2.2.2 (α 1))))  (clp [] (M.2.2.2.2 (α 0))) (ρ 2 + 586) (ρ 2 + 0) (ρ 3 + 0) := hP _ (List.mem_of_getElem? (i := 0) rfl)
  have h1 : 0 ≤ (ρ 2 + 586 : Int) ∧ M.2.2.2.2 (α 1) (ρ 2 + 586 : Int).toNat = ρ 3 + 0 := hP _ (List.mem_of_getElem? (i := 1) rfl)
  try simp only [Int.add_zero] at h0 h1
  have key : (Γ (α 0) = 40 ∧ tyO Γ M (α 0) [(1, 41, [(2, 4), (586, 730), (874, 1018)])] ∧ Q100 g (vw M (α 0) 1 [(2, 4), (586, 730), (874, 1018)]) (clp [] (M.2.2.2.2 (α 0))) ) ∧ (Γ (α 0) = 40 ∧ tyO Γ M (α 0) [(1, 41, [(874, 1018)])] ∧ True ∧ mu32 (vw M (α 0) 1 [(874, 1018)])  < g.2.2) ∧ True := by
    try simp only [Int.add_zero]
    obtain ⟨-, hr, -, -, f, f1, f2, f3, f4, f5, f6, f7, f8, f9⟩ := h0
    have e1 : fl M (α 0) 1 = α 1 := fl_eq hr
    have x3 : M.2.2.2.2 (α 1) (586 + (ρ 2).toNat) = ρ 3 := by
      have := h1.2
      rw [show (ρ 2 + 586).toNat = 586 + (ρ 2).toNat by omega] at this
      exact this
    rw [hcl1 (by omega), clp_in 2 4 (by decide) (by decide) (by decide)] at f4
    rw [hcl1 (by omega), clp_in 2 4 (by decide) (by decide) (by decide)] at f7
    rw [hcl1 (by omega), ckM (by decide) _ (by omega)] at f8
    have q := lay_ok (f2 := M.2.2.2.2 (α 1)) (p := (ρ 2).toNat) (by omega) f1 f2.2.2 f3 f7 f4 f8 x3 (fun q hq hn => by rw [← f5 q hq hn, hcl1 (by omega), ckM (by decide) q hq]) (fun q hq hn => by rw [← f6 q hq hn, hcl1 (by omega), ckF (by decide) q hq])
    rw [← e1] at q
    exact ⟨⟨g0, tyO_of hT g0 (by decide) (by decide), c100.mpr q.1⟩, ⟨g0, tyO_of hT g0 (by decide) (by decide), trivial, by show unl (clp _ (M.2.2.2.2 (fl M (α 0) 1))) < g.2.2; rw [unl_c (ckM (by decide))]; have := q.2; omega⟩, trivial⟩
  exact ⟨nB, qB (key.1) (qB (key.2.1) (nB))⟩
def t_bi0 : KT := ((0, 0, 0, 0), [(2, 0, 40, 0), (1, 1, 0, 0), (1, 2, 0, 0)], [(0, 0), (-1, -1), (0, 0)], [], (0, 0, 0), [], [], ([], [(103, [(2, 0, 40, 0), (1, 1, 0, 0)]), (157, [(2, 0, 40, 0), (1, 2, 0, 0), (1, 1, 0, 0)])]), ([], []))
theorem l_bi0 (g : GG) : LOK Yt (PSt g) t_bi0 := by
  intro ρ α Γ M as hT hB hA hP
  have g0 : Γ (α 0) = 40 := tyAt hA (i := 0) rfl
  have b1 : -1 ≤ ρ 1 ∧ ρ 1 ≤ -1 := hB 1
  have b2 : 0 ≤ ρ 2 ∧ ρ 2 ≤ 0 := hB 2
  have key : (Γ (α 0) = 40 ∧ tyO Γ M (α 0) [(1, 41, [(874, 1018)])] ∧ Q103 g (vw M (α 0) 1 [(874, 1018)]) (clp [] (M.2.2.2.2 (α 0))) (ρ 1 + 0)) ∧ (Γ (α 0) = 40 ∧ tyO Γ M (α 0) [(1, 41, [(298, 442), (874, 1018)])] ∧ Q157 g (vw M (α 0) 1 [(298, 442), (874, 1018)]) (clp [] (M.2.2.2.2 (α 0))) (ρ 2 + 0) (ρ 1 + 0)) ∧ True := by
    try simp only [Int.add_zero]
    refine ⟨⟨g0, tyO_of hT g0 (by decide) (by decide), Or.inl (by omega)⟩, ⟨g0, tyO_of hT g0 (by decide) (by decide), fun _ q hq hq2 => ?_⟩, trivial⟩
    omega
  exact ⟨nB, qB (key.1) (qB (key.2.1) (nB))⟩
def t_bi1 : KT := ((0, 0, 0, 0), [(2, 0, 40, 0), (1, 1, 0, 0)], [(0, 0), (0, 143)], [], (0, 0, 0), [], [], ([], [(157, [(2, 0, 40, 0), (1, 1, 0, 1), (1, 1, 0, 0)])]), ([], []))
theorem l_bi1 (g : GG) : LOK Yt (PSt g) t_bi1 := by
  intro ρ α Γ M as hT hB hA hP
  have g0 : Γ (α 0) = 40 := tyAt hA (i := 0) rfl
  have b1 : 0 ≤ ρ 1 ∧ ρ 1 ≤ 143 := hB 1
  have key : (Γ (α 0) = 40 ∧ tyO Γ M (α 0) [(1, 41, [(298, 442), (874, 1018)])] ∧ Q157 g (vw M (α 0) 1 [(298, 442), (874, 1018)]) (clp [] (M.2.2.2.2 (α 0))) (ρ 1 + 1) (ρ 1 + 0)) ∧ True := by
    try simp only [Int.add_zero]
    exact ⟨⟨g0, tyO_of hT g0 (by decide) (by decide), fun h => by omega⟩, trivial⟩
  exact ⟨nB, qB (key.1) (nB)⟩
def t_bi2 : KT := ((0, 0, 0, 0), [(2, 0, 40, 0), (1, 1, 0, 0), (1, 2, 0, 0)], [(0, 0), (0, 143), (-1, 143)], [(157, [(2, 0, 40, 0), (1, 1, 0, 0), (1, 2, 0, 0)]), (122, [(2, 0, 40, 0), (1, 1, 0, 0)])], (0, 0, 0), [], [], ([], [(157, [(2, 0, 40, 0), (1, 1, 0, 1), (1, 2, 0, 0)])]), ([], []))
theorem l_bi2 (g : GG) : LOK Yt (PSt g) t_bi2 := by
  intro ρ α Γ M as hT hB hA hP
  have g0 : Γ (α 0) = 40 := tyAt hA (i := 0) rfl
  have b1 : 0 ≤ ρ 1 ∧ ρ 1 ≤ 143 := hB 1
  have b2 : -1 ≤ ρ 2 ∧ ρ 2 ≤ 143 := hB 2
  have h0 : Γ (α 0) = 40 ∧ tyO Γ M (α 0) [(1, 41, [(298, 442), (874, 1018)])] ∧ Q157 g (vw M (α 0) 1 [(298, 442), (874, 1018)]) (clp [] (M.2.2.2.2 (α 0))) (ρ 1 + 0) (ρ 2 + 0) := hP _ (List.mem_of_getElem? (i := 0) rfl)
  have h1 : Γ (α 0) = 40 ∧ tyO Γ M (α 0) [(1, 41, [(298, 442)])] ∧ Q122 g (vw M (α 0) 1 [(298, 442)]) (clp [] (M.2.2.2.2 (α 0))) (ρ 1 + 0) := hP _ (List.mem_of_getElem? (i := 1) rfl)
  try simp only [Int.add_zero] at h0 h1
  have key : (Γ (α 0) = 40 ∧ tyO Γ M (α 0) [(1, 41, [(298, 442), (874, 1018)])] ∧ Q157 g (vw M (α 0) 1 [(298, 442), (874, 1018)]) (clp [] (M.2.2.2.2 (α 0))) (ρ 1 + 1) (ρ 2 + 0)) ∧ True := by
    try simp only [Int.add_zero]
    obtain ⟨-, -, h⟩ := h0
    obtain ⟨-, -, h2⟩ := h1
    refine ⟨⟨g0, tyO_of hT g0 (by decide) (by decide), fun hb q hq hq2 => ?_⟩, trivial⟩
    by_cases hc : (q : Int) < ρ 1
    · exact h hb q hq hc
    · have e : (ρ 1).toNat = q := by omega
      have h2 : clp [(298, 442)] (M.2.2.2.2 (fl M (α 0) 1)) (298 + (ρ 1).toNat) = 1 := h2.2
      rw [e, ckH (by decide) q hq] at h2
      left
      show clp [(298, 442), (874, 1018)] (M.2.2.2.2 (fl M (α 0) 1)) (298 + q) = 1
      rw [ckH (by decide) q hq]
      exact h2
  exact ⟨nB, qB (key.1) (nB)⟩
def t_bi3 : KT := ((0, 0, 0, 0), [(2, 0, 40, 0), (1, 1, 0, 0), (1, 2, 0, 0)], [(0, 0), (0, 143), (-1, 143)], [(157, [(2, 0, 40, 0), (1, 1, 0, 0), (1, 2, 0, 0)]), (104, [(2, 0, 40, 0), (1, 1, 0, 0)])], (0, 0, 0), [], [], ([], [(157, [(2, 0, 40, 0), (1, 1, 0, 1), (1, 2, 0, 0)])]), ([], []))
theorem l_bi3 (g : GG) : LOK Yt (PSt g) t_bi3 := by
  intro ρ α Γ M as hT hB hA hP
  have g0 : Γ (α 0) = 40 := tyAt hA (i := 0) rfl
  have b1 : 0 ≤ ρ 1 ∧ ρ 1 ≤ 143 := hB 1
  have b2 : -1 ≤ ρ 2 ∧ ρ 2 ≤ 143 := hB 2
  have h0 : Γ (α 0) = 40 ∧ tyO Γ M (α 0) [(1, 41, [(298, 442), (874, 1018)])] ∧ Q157 g (vw M (α 0) 1 [(298, 442), (874, 1018)]) (clp [] (M.2.2.2.2 (α 0))) (ρ 1 + 0) (ρ 2 + 0) := hP _ (List.mem_of_getElem? (i := 0) rfl)
  have h1 : Γ (α 0) = 40 ∧ tyO Γ M (α 0) [(1, 41, [(874, 1018)])] ∧ Q104 g (vw M (α 0) 1 [(874, 1018)]) (clp [] (M.2.2.2.2 (α 0))) (ρ 1 + 0) := hP _ (List.mem_of_getElem? (i := 1) rfl)
  try simp only [Int.add_zero] at h0 h1
  have key : (Γ (α 0) = 40 ∧ tyO Γ M (α 0) [(1, 41, [(298, 442), (874, 1018)])] ∧ Q157 g (vw M (α 0) 1 [(298, 442), (874, 1018)]) (clp [] (M.2.2.2.2 (α 0))) (ρ 1 + 1) (ρ 2 + 0)) ∧ True := by
    try simp only [Int.add_zero]
    obtain ⟨-, -, h⟩ := h0
    obtain ⟨-, -, h2⟩ := h1
    refine ⟨⟨g0, tyO_of hT g0 (by decide) (by decide), fun hb q hq hq2 => ?_⟩, trivial⟩
    by_cases hc : (q : Int) < ρ 1
    · exact h hb q hq hc
    · have e : (ρ 1).toNat = q := by omega
      have h2 := c104.mp (show LAp (clp _ (M.2.2.2.2 (fl M (α 0) 1))) (ρ 1) from h2)
      right
      show 0 < clp [(298, 442), (874, 1018)] (M.2.2.2.2 (fl M (α 0) 1)) (874 + q)
      rw [ckM (by decide) q hq]
      rcases h2 with h2 | ⟨-, -, h2⟩
      · omega
      · rw [e] at h2
        exact h2
  exact ⟨nB, qB (key.1) (nB)⟩
def t_bi4 : KT := ((0, 0, 0, 0), [(2, 0, 40, 0), (1, 1, 0, 0), (1, 2, 0, 0)], [(0, 0), (-2147483648, 2147483647), (0, 143)], [], (0, 0, 0), [], [], ([], [(157, [(2, 0, 40, 0), (1, 1, 0, 1), (1, 2, 0, 0)])]), ([], []))
theorem l_bi4 (g : GG) : LOK Yt (PSt g) t_bi4 := by
  intro ρ α Γ M as hT hB hA hP
  have g0 : Γ (α 0) = 40 := tyAt hA (i := 0) rfl
  have b1 : -2147483648 ≤ ρ 1 ∧ ρ 1 ≤ 2147483647 := hB 1
  have b2 : 0 ≤ ρ 2 ∧ ρ 2 ≤ 143 := hB 2
  have key : (Γ (α 0) = 40 ∧ tyO Γ M (α 0) [(1, 41, [(298, 442), (874, 1018)])] ∧ Q157 g (vw M (α 0) 1 [(298, 442), (874, 1018)]) (clp [] (M.2.2.2.2 (α 0))) (ρ 1 + 1) (ρ 2 + 0)) ∧ True := by
    try simp only [Int.add_zero]
    exact ⟨⟨g0, tyO_of hT g0 (by decide) (by decide), fun h => by omega⟩, trivial⟩
  exact ⟨nB, qB (key.1) (nB)⟩
def t_bi5 : KT := ((0, 0, 0, 0), [(2, 0, 40, 0), (1, 1, 0, 0), (1, 2, 0, 0), (1, 3, 0, 0)], [(0, 0), (-2147483648, 2147483647), (-2147483648, 2147483647), (-1, 143)], [(157, [(2, 0, 40, 0), (1, 1, 0, 0), (1, 3, 0, 0)]), (156, [(2, 0, 40, 0)]), (94, [(2, 0, 40, 0), (1, 2, 0, 0)]), (6, [(1, 2, 0, 0), (1, 1, 0, 0)])], (0, 0, 0), [], [], ([(3, 0, 143)], []), ([], []))
theorem l_bi5 (g : GG) : LOK Yt (PSt g) t_bi5 := by
  intro ρ α Γ M as hT hB hA hP
  have g0 : Γ (α 0) = 40 := tyAt hA (i := 0) rfl
  have b1 : -2147483648 ≤ ρ 1 ∧ ρ 1 ≤ 2147483647 := hB 1
  have b2 : -2147483648 ≤ ρ 2 ∧ ρ 2 ≤ 2147483647 := hB 2
  have b3 : -1 ≤ ρ 3 ∧ ρ 3 ≤ 143 := hB 3
  have h0 : Γ (α 0) = 40 ∧ tyO Γ M (α 0) [(1, 41, [(298, 442), (874, 1018)])] ∧ Q157 g (vw M (α 0) 1 [(298, 442), (874, 1018)]) (clp [] (M.2.2.2.2 (α 0))) (ρ 1 + 0) (ρ 3 + 0) := hP _ (List.mem_of_getElem? (i := 0) rfl)
  have h1 : Γ (α 0) = 40 ∧ tyO Γ M (α 0) [(1, 41, [(0, 2), (298, 442), (874, 1018)])] ∧ Q156 g (vw M (α 0) 1 [(0, 2), (298, 442), (874, 1018)]) (clp [] (M.2.2.2.2 (α 0)))  := hP _ (List.mem_of_getElem? (i := 1) rfl)
  have h2 : nwE Γ M (α 0) fun r c => ρ 2 + 0 = r * c := hP _ (List.mem_of_getElem? (i := 2) rfl)
  have h3 : ρ 2 + 0 ≤ ρ 1 + 0 := hP _ (List.mem_of_getElem? (i := 3) rfl)
  try simp only [Int.add_zero] at h0 h1 h2 h3
  have key : (0 ≤ ρ 3 ∧ ρ 3 ≤ 143) ∧ True := by
    try simp only [Int.add_zero]
    obtain ⟨-, -, h⟩ := h0
    have hx := c156.mp (show EXU (clp _ (M.2.2.2.2 (fl M (α 0) 1))) from h1.2.2)
    obtain ⟨-, n, hn, -, hm⟩ := h2
    have e1 : fl M (α 0) 1 = n := fl_eq hn
    rw [e1] at hx
    obtain ⟨q, q1, q2, q3, q4⟩ := hx
    by_cases hb : ρ 3 = -1
    · exfalso
      have := h hb q q1 (by omega)
      rcases this with w | w
      · have w : clp [(298, 442), (874, 1018)] (M.2.2.2.2 (fl M (α 0) 1)) (298 + q) = 1 := w
        rw [ckH (by decide) q q1, e1] at w
        exact q3 w
      · have w : 0 < clp [(298, 442), (874, 1018)] (M.2.2.2.2 (fl M (α 0) 1)) (874 + q) := w
        rw [ckM (by decide) q q1, e1] at w
        omega
    · exact ⟨⟨by omega, by omega⟩, trivial⟩
  exact ⟨qB (key.1) (nB), nB⟩
def t_bi6 : KT := ((0, 0, 0, 0), [(2, 0, 40, 0), (2, 1, 41, 0), (1, 2, 0, 0), (1, 3, 0, 0)], [(0, 0), (0, 0), (-2147483648, 2147483647), (0, 143)], [(100, [(2, 0, 40, 0)]), (103, [(2, 0, 40, 0), (1, 3, 0, 0)]), (11, [(2, 0, 40, 0), (0, 0, 0, 1), (2, 1, 41, 0)]), (10, [(2, 1, 41, 0), (0, 0, 0, 3), (1, 2, 0, 0)])], (0, 0, 0), [], [], ([(2, 0, 143)], []), ([], []))
theorem l_bi6 (g : GG) : LOK Yt (PSt g) t_bi6 := by
  intro ρ α Γ M as hT hB hA hP
  have g0 : Γ (α 0) = 40 := tyAt hA (i := 0) rfl
  have g1 : Γ (α 1) = 41 := tyAt hA (i := 1) rfl
  have b2 : -2147483648 ≤ ρ 2 ∧ ρ 2 ≤ 2147483647 := hB 2
  have b3 : 0 ≤ ρ 3 ∧ ρ 3 ≤ 143 := hB 3
  have h0 : Γ (α 0) = 40 ∧ tyO Γ M (α 0) [(1, 41, [(2, 4), (586, 730), (874, 1018)])] ∧ Q100 g (vw M (α 0) 1 [(2, 4), (586, 730), (874, 1018)]) (clp [] (M.2.2.2.2 (α 0)))  := hP _ (List.mem_of_getElem? (i := 0) rfl)
  have h1 : Γ (α 0) = 40 ∧ tyO Γ M (α 0) [(1, 41, [(874, 1018)])] ∧ Q103 g (vw M (α 0) 1 [(874, 1018)]) (clp [] (M.2.2.2.2 (α 0))) (ρ 3 + 0) := hP _ (List.mem_of_getElem? (i := 1) rfl)
  have h2 : 0 ≤ (1 : Int) ∧ M.2.2.2.1 (α 0) (1 : Int).toNat = some (α 1) := hP _ (List.mem_of_getElem? (i := 2) rfl)
  have h3 : 0 ≤ (3 : Int) ∧ M.2.2.2.2 (α 1) (3 : Int).toNat = ρ 2 + 0 := hP _ (List.mem_of_getElem? (i := 3) rfl)
  try simp only [Int.add_zero] at h0 h1 h2 h3
  have key : (0 ≤ ρ 2 ∧ ρ 2 ≤ 143) ∧ True := by
    try simp only [Int.add_zero]
    have e1 : fl M (α 0) 1 = α 1 := fl_eq (show M.2.2.2.1 (α 0) 1 = some (α 1) from h2.2)
    
    have r := c100.mp (show RI0 (clp _ (M.2.2.2.2 (fl M (α 0) 1))) from h0.2.2)
    have u := c103.mp (show UNp (clp _ (M.2.2.2.2 (fl M (α 0) 1))) (ρ 3) from h1.2.2)
    rw [e1] at r u
    have e : M.2.2.2.2 (α 1) 3 = ρ 2 := h3.2
    obtain ⟨-, ⟨r1, r2⟩, -⟩ := r
    rw [e] at r1 r2
    rcases u with u | ⟨u1, u2, u3⟩
    · omega
    · have := unl_pos (p := (ρ 3).toNat) (by omega) u3
      exact ⟨⟨by omega, by omega⟩, trivial⟩
  exact ⟨qB (key.1) (nB), nB⟩
def t_bi7 : KT := ((0, 0, 0, 0), [(2, 0, 40, 0), (2, 1, 41, 0), (1, 2, 0, 0), (1, 3, 0, 0)], [(0, 0), (0, 0), (0, 143), (0, 143)], [(100, [(2, 0, 40, 0)]), (103, [(2, 0, 40, 0), (1, 3, 0, 0)]), (11, [(2, 0, 40, 0), (0, 0, 0, 1), (2, 1, 41, 0)]), (10, [(2, 1, 41, 0), (0, 0, 0, 3), (1, 2, 0, 0)])], (0, 0, 0), [], [], ([], [(211, [(2, 1, 41, 0), (0, 0, 0, 3), (2, 0, 40, 0), (1, 2, 0, 0)])]), ([], []))
theorem l_bi7 (g : GG) : LOK Yt (PSt g) t_bi7 := by
  intro ρ α Γ M as hT hB hA hP
  have g0 : Γ (α 0) = 40 := tyAt hA (i := 0) rfl
  have g1 : Γ (α 1) = 41 := tyAt hA (i := 1) rfl
  have b2 : 0 ≤ ρ 2 ∧ ρ 2 ≤ 143 := hB 2
  have b3 : 0 ≤ ρ 3 ∧ ρ 3 ≤ 143 := hB 3
  have h0 : Γ (α 0) = 40 ∧ tyO Γ M (α 0) [(1, 41, [(2, 4), (586, 730), (874, 1018)])] ∧ Q100 g (vw M (α 0) 1 [(2, 4), (586, 730), (874, 1018)]) (clp [] (M.2.2.2.2 (α 0)))  := hP _ (List.mem_of_getElem? (i := 0) rfl)
  have h1 : Γ (α 0) = 40 ∧ tyO Γ M (α 0) [(1, 41, [(874, 1018)])] ∧ Q103 g (vw M (α 0) 1 [(874, 1018)]) (clp [] (M.2.2.2.2 (α 0))) (ρ 3 + 0) := hP _ (List.mem_of_getElem? (i := 1) rfl)
  have h2 : 0 ≤ (1 : Int) ∧ M.2.2.2.1 (α 0) (1 : Int).toNat = some (α 1) := hP _ (List.mem_of_getElem? (i := 2) rfl)
  have h3 : 0 ≤ (3 : Int) ∧ M.2.2.2.2 (α 1) (3 : Int).toNat = ρ 2 + 0 := hP _ (List.mem_of_getElem? (i := 3) rfl)
  try simp only [Int.add_zero] at h0 h1 h2 h3
  have key : (Γ (α 0) = 40 ∧ M.2.2.2.1 (α 0) 1 = some (α 1) ∧ Γ (α 1) = 41 ∧ tyO Γ M (α 0) [] ∧ Q211 g (hcl [vi (3)] (clp [(2, 4), (586, 730), (874, 1018)] (M.2.2.2.2 (α 1))))  (clp [] (M.2.2.2.2 (α 0))) (3) (ρ 2 + 0)) ∧ True := by
    try simp only [Int.add_zero]
    have e1 : fl M (α 0) 1 = α 1 := fl_eq (show M.2.2.2.1 (α 0) 1 = some (α 1) from h2.2)
    
    have r := c100.mp (show RI0 (clp _ (M.2.2.2.2 (fl M (α 0) 1))) from h0.2.2)
    rw [e1] at r
    have e : M.2.2.2.2 (α 1) 3 = ρ 2 := h3.2
    obtain ⟨⟨a1, a2⟩, ⟨r1, r2⟩, r3⟩ := r
    rw [e] at r1 r2
    have k2 : hcl [vi 3] (clp [(2, 4), (586, 730), (874, 1018)] (M.2.2.2.2 (α 1))) 2 = M.2.2.2.2 (α 1) 2 := by rw [hcl1 (by decide), clp_in 2 4 (by decide) (by decide) (by decide)]
    have kM : ∀ p, p < 144 → hcl [vi 3] (clp [(2, 4), (586, 730), (874, 1018)] (M.2.2.2.2 (α 1))) (874 + p) = M.2.2.2.2 (α 1) (874 + p) := fun p hp => by rw [hcl1 (by omega), ckM (by decide) p hp]
    have kF : ∀ p, p < 144 → hcl [vi 3] (clp [(2, 4), (586, 730), (874, 1018)] (M.2.2.2.2 (α 1))) (586 + p) = M.2.2.2.2 (α 1) (586 + p) := fun p hp => by rw [hcl1 (by omega), ckF (by decide) p hp]
    refine ⟨⟨g0, h2.2, g1, tyO_of hT g0 (by decide) (by decide), ?_, ?_, RIb_c k2 kM kF r3⟩, trivial⟩
    · rw [k2, unl_c kM]
      exact ⟨a1, a2⟩
    · rw [unl_c kM]
      exact ⟨r1, r2⟩
  exact ⟨nB, qB (key.1) (nB)⟩
def t_bi8 : KT := ((0, 0, 0, 0), [(2, 0, 40, 0), (2, 1, 41, 0), (1, 2, 0, 0)], [(0, 0), (0, 0), (0, 143)], [(211, [(2, 1, 41, 0), (0, 0, 0, 3), (2, 0, 40, 0), (1, 2, 0, 0)]), (10, [(2, 1, 41, 0), (0, 0, 0, 3), (1, 2, 0, 1)])], (0, 0, 0), [], [], ([], [(155, [(2, 0, 40, 0)])]), ([], []))
theorem l_bi8 (g : GG) : LOK Yt (PSt g) t_bi8 := by
  intro ρ α Γ M as hT hB hA hP
  have g0 : Γ (α 0) = 40 := tyAt hA (i := 0) rfl
  have g1 : Γ (α 1) = 41 := tyAt hA (i := 1) rfl
  have b2 : 0 ≤ ρ 2 ∧ ρ 2 ≤ 143 := hB 2
  have h0 : Γ (α 0) = 40 ∧ M.2.2.2.1 (α 0) 1 = some (α 1) ∧ Γ (α 1) = 41 ∧ tyO Γ M (α 0) [] ∧ Q211 g (hcl [vi (3)] (clp [(2, 4), (586, 730), (874, 1018)] (M.2.2.2.2 (α 1))))  (clp [] (M.2.2.2.2 (α 0))) (3) (ρ 2 + 0) := hP _ (List.mem_of_getElem? (i := 0) rfl)
  have h1 : 0 ≤ (3 : Int) ∧ M.2.2.2.2 (α 1) (3 : Int).toNat = ρ 2 + 1 := hP _ (List.mem_of_getElem? (i := 1) rfl)
  try simp only [Int.add_zero] at h0 h1
  have key : (Γ (α 0) = 40 ∧ tyO Γ M (α 0) [(1, 41, [(2, 4), (586, 730), (874, 1018)])] ∧ Q155 g (vw M (α 0) 1 [(2, 4), (586, 730), (874, 1018)]) (clp [] (M.2.2.2.2 (α 0))) ) ∧ True := by
    try simp only [Int.add_zero]
    obtain ⟨-, hr, -, -, ⟨a1, a2⟩, ⟨r1, r2⟩, r3⟩ := h0
    have e1 : fl M (α 0) 1 = α 1 := fl_eq hr
    have e : M.2.2.2.2 (α 1) 3 = ρ 2 + 1 := h1.2
    have k2 : M.2.2.2.2 (α 1) 2 = hcl [vi 3] (clp [(2, 4), (586, 730), (874, 1018)] (M.2.2.2.2 (α 1))) 2 := by rw [hcl1 (by decide), clp_in 2 4 (by decide) (by decide) (by decide)]
    have kM : ∀ p, p < 144 → M.2.2.2.2 (α 1) (874 + p) = hcl [vi 3] (clp [(2, 4), (586, 730), (874, 1018)] (M.2.2.2.2 (α 1))) (874 + p) := fun p hp => by rw [hcl1 (by omega), ckM (by decide) p hp]
    have kF : ∀ p, p < 144 → M.2.2.2.2 (α 1) (586 + p) = hcl [vi 3] (clp [(2, 4), (586, 730), (874, 1018)] (M.2.2.2.2 (α 1))) (586 + p) := fun p hp => by rw [hcl1 (by omega), ckF (by decide) p hp]
    refine ⟨⟨g0, tyO_of hT g0 (by decide) (by decide), c155.mpr ?_⟩, trivial⟩
    show RI1 (M.2.2.2.2 (fl M (α 0) 1))
    rw [e1]
    refine ⟨?_, ?_, RIb_c k2 kM kF r3⟩
    · rw [k2, unl_c kM]
      exact ⟨a1, a2⟩
    · rw [e, unl_c kM]
      exact ⟨by omega, by omega⟩
  exact ⟨nB, qB (key.1) (nB)⟩
def t_la0 : KT := ((0, 0, 0, 0), [(2, 0, 40, 0), (1, 1, 0, 0)], [(0, 0), (-1, -1)], [], (0, 0, 0), [], [], ([], [(104, [(2, 0, 40, 0), (1, 1, 0, 0)])]), ([], []))
theorem l_la0 (g : GG) : LOK Yt (PSt g) t_la0 := by
  intro ρ α Γ M as hT hB hA hP
  have g0 : Γ (α 0) = 40 := tyAt hA (i := 0) rfl
  have b1 : -1 ≤ ρ 1 ∧ ρ 1 ≤ -1 := hB 1
  have key : (Γ (α 0) = 40 ∧ tyO Γ M (α 0) [(1, 41, [(874, 1018)])] ∧ Q104 g (vw M (α 0) 1 [(874, 1018)]) (clp [] (M.2.2.2.2 (α 0))) (ρ 1 + 0)) ∧ True := by
    try simp only [Int.add_zero]
    exact ⟨⟨g0, tyO_of hT g0 (by decide) (by decide), Or.inl (by omega)⟩, trivial⟩
  exact ⟨nB, qB (key.1) (nB)⟩
def t_mo0 : KT := ((0, 0, 0, 0), [(2, 0, 40, 0), (1, 1, 0, 0), (1, 2, 0, 0)], [(0, 0), (-1, -1), (-1, -1)], [], (0, 0, 0), [], [], ([], [(103, [(2, 0, 40, 0), (1, 2, 0, 0)]), (104, [(2, 0, 40, 0), (1, 1, 0, 0)])]), ([], []))
theorem l_mo0 (g : GG) : LOK Yt (PSt g) t_mo0 := by
  intro ρ α Γ M as hT hB hA hP
  have g0 : Γ (α 0) = 40 := tyAt hA (i := 0) rfl
  have b1 : -1 ≤ ρ 1 ∧ ρ 1 ≤ -1 := hB 1
  have b2 : -1 ≤ ρ 2 ∧ ρ 2 ≤ -1 := hB 2
  have key : (Γ (α 0) = 40 ∧ tyO Γ M (α 0) [(1, 41, [(874, 1018)])] ∧ Q103 g (vw M (α 0) 1 [(874, 1018)]) (clp [] (M.2.2.2.2 (α 0))) (ρ 2 + 0)) ∧ (Γ (α 0) = 40 ∧ tyO Γ M (α 0) [(1, 41, [(874, 1018)])] ∧ Q104 g (vw M (α 0) 1 [(874, 1018)]) (clp [] (M.2.2.2.2 (α 0))) (ρ 1 + 0)) ∧ True := by
    try simp only [Int.add_zero]
    exact ⟨⟨g0, tyO_of hT g0 (by decide) (by decide), Or.inl (by omega)⟩, ⟨g0, tyO_of hT g0 (by decide) (by decide), Or.inl (by omega)⟩, trivial⟩
  exact ⟨nB, qB (key.1) (qB (key.2.1) (nB))⟩
def t_r01 : KT := ((0, 0, 0, 0), [(2, 0, 40, 0)], [(0, 0)], [(100, [(2, 0, 40, 0)])], (0, 0, 0), [], [], ([], [(155, [(2, 0, 40, 0)])]), ([], []))
theorem l_r01 (g : GG) : LOK Yt (PSt g) t_r01 := by
  intro ρ α Γ M as hT hB hA hP
  have g0 : Γ (α 0) = 40 := tyAt hA (i := 0) rfl
  have h0 : Γ (α 0) = 40 ∧ tyO Γ M (α 0) [(1, 41, [(2, 4), (586, 730), (874, 1018)])] ∧ Q100 g (vw M (α 0) 1 [(2, 4), (586, 730), (874, 1018)]) (clp [] (M.2.2.2.2 (α 0)))  := hP _ (List.mem_of_getElem? (i := 0) rfl)
  try simp only [Int.add_zero] at h0
  have key : (Γ (α 0) = 40 ∧ tyO Γ M (α 0) [(1, 41, [(2, 4), (586, 730), (874, 1018)])] ∧ Q155 g (vw M (α 0) 1 [(2, 4), (586, 730), (874, 1018)]) (clp [] (M.2.2.2.2 (α 0))) ) ∧ True := by
    try simp only [Int.add_zero]
    exact ⟨⟨g0, tyO_of hT g0 (by decide) (by decide), RI01 h0.2.2⟩, trivial⟩
  exact ⟨nB, qB (key.1) (nB)⟩
def t_tb0r : KT := ((0, 0, 0, 0), [(2, 0, 40, 0), (1, 1, 0, 0)], [(0, 0), (0, 0)], [], (0, 0, 0), [], [], ([], [(105, [(2, 0, 40, 0), (1, 1, 0, 0)])]), ([], []))
theorem l_tb0r (g : GG) : LOK Yt (PSt g) t_tb0r := by
  intro ρ α Γ M as hT hB hA hP
  have g0 : Γ (α 0) = 40 := tyAt hA (i := 0) rfl
  have b1 : 0 ≤ ρ 1 ∧ ρ 1 ≤ 0 := hB 1
  have key : (Γ (α 0) = 40 ∧ tyO Γ M (α 0) [(1, 41, [(0, 2), (298, 442), (874, 1018)])] ∧ Q105 g (vw M (α 0) 1 [(0, 2), (298, 442), (874, 1018)]) (clp [] (M.2.2.2.2 (α 0))) (ρ 1 + 0)) ∧ True := by
    try simp only [Int.add_zero]
    exact ⟨⟨g0, tyO_of hT g0 (by decide) (by decide), fun h => by omega⟩, trivial⟩
  exact ⟨nB, qB (key.1) (nB)⟩
def t_tb1r : KT := ((0, 0, 0, 0), [(2, 0, 40, 0), (1, 1, 0, 0), (1, 2, 0, 0), (1, 3, 0, 0)], [(0, 0), (0, 143), (-2147483648, 2147483647), (-2147483648, 2147483647)], [(123, [(2, 0, 40, 0), (1, 1, 0, 0)]), (103, [(2, 0, 40, 0), (1, 1, 0, 0)]), (21, [(1, 1, 0, 0), (1, 3, 0, 0)]), (94, [(2, 0, 40, 0), (1, 3, 0, 0)])], (0, 0, 0), [], [], ([], [(105, [(2, 0, 40, 0), (1, 2, 0, 0)])]), ([], []))
theorem l_tb1r (g : GG) : LOK Yt (PSt g) t_tb1r := by
  intro ρ α Γ M as hT hB hA hP
  have g0 : Γ (α 0) = 40 := tyAt hA (i := 0) rfl
  have b1 : 0 ≤ ρ 1 ∧ ρ 1 ≤ 143 := hB 1
  have b2 : -2147483648 ≤ ρ 2 ∧ ρ 2 ≤ 2147483647 := hB 2
  have b3 : -2147483648 ≤ ρ 3 ∧ ρ 3 ≤ 2147483647 := hB 3
  have h0 : Γ (α 0) = 40 ∧ tyO Γ M (α 0) [(1, 41, [(298, 442)])] ∧ Q123 g (vw M (α 0) 1 [(298, 442)]) (clp [] (M.2.2.2.2 (α 0))) (ρ 1 + 0) := hP _ (List.mem_of_getElem? (i := 0) rfl)
  have h1 : Γ (α 0) = 40 ∧ tyO Γ M (α 0) [(1, 41, [(874, 1018)])] ∧ Q103 g (vw M (α 0) 1 [(874, 1018)]) (clp [] (M.2.2.2.2 (α 0))) (ρ 1 + 0) := hP _ (List.mem_of_getElem? (i := 1) rfl)
  have h2 : ρ 1 + 0 < ρ 3 + 0 := hP _ (List.mem_of_getElem? (i := 2) rfl)
  have h3 : nwE Γ M (α 0) fun r c => ρ 3 + 0 = r * c := hP _ (List.mem_of_getElem? (i := 3) rfl)
  try simp only [Int.add_zero] at h0 h1 h2 h3
  have key : (Γ (α 0) = 40 ∧ tyO Γ M (α 0) [(1, 41, [(0, 2), (298, 442), (874, 1018)])] ∧ Q105 g (vw M (α 0) 1 [(0, 2), (298, 442), (874, 1018)]) (clp [] (M.2.2.2.2 (α 0))) (ρ 2 + 0)) ∧ True := by
    try simp only [Int.add_zero]
    obtain ⟨-, -, -, x1⟩ := h0
    have u := c103.mp (show UNp (clp _ (M.2.2.2.2 (fl M (α 0) 1))) (ρ 1) from h1.2.2)
    obtain ⟨-, n, hn, -, hm⟩ := h3
    have e1 : fl M (α 0) 1 = n := fl_eq hn
    have x1 : clp [(298, 442)] (M.2.2.2.2 (fl M (α 0) 1)) (298 + (ρ 1).toNat) ≠ 1 := x1
    rw [ckH (by decide) _ (by omega), e1] at x1
    rw [e1] at u
    refine ⟨⟨g0, tyO_of hT g0 (by decide) (by decide), fun _ => c156.mpr ?_⟩, trivial⟩
    show EXU (M.2.2.2.2 (fl M (α 0) 1))
    rw [e1]
    rcases u with u | ⟨u1, u2, u3⟩
    · omega
    · exact ⟨(ρ 1).toNat, by omega, by omega, x1, u3⟩
  exact ⟨nB, qB (key.1) (nB)⟩
def t_be1 : KT := ((0, 0, 0, 0), [(2, 0, 40, 0), (2, 1, 41, 0), (1, 2, 0, 0)], [(0, 0), (0, 0), (1, 2147483647)], [(105, [(2, 0, 40, 0), (1, 2, 0, 0)])], (0, 0, 0), [], [], ([], [(101, [(2, 0, 40, 0)])]), ([], []))
theorem l_be1 (g : GG) : LOK Yt (PSt g) t_be1 := by
  intro ρ α Γ M as hT hB hA hP
  have g0 : Γ (α 0) = 40 := tyAt hA (i := 0) rfl
  have g1 : Γ (α 1) = 41 := tyAt hA (i := 1) rfl
  have b2 : 1 ≤ ρ 2 ∧ ρ 2 ≤ 2147483647 := hB 2
  have h0 : Γ (α 0) = 40 ∧ tyO Γ M (α 0) [(1, 41, [(0, 2), (298, 442), (874, 1018)])] ∧ Q105 g (vw M (α 0) 1 [(0, 2), (298, 442), (874, 1018)]) (clp [] (M.2.2.2.2 (α 0))) (ρ 2 + 0) := hP _ (List.mem_of_getElem? (i := 0) rfl)
  try simp only [Int.add_zero] at h0
  have key : (Γ (α 0) = 40 ∧ tyO Γ M (α 0) [(1, 41, [(0, 2), (4, 5), (298, 442), (874, 1018)])] ∧ Q101 g (vw M (α 0) 1 [(0, 2), (4, 5), (298, 442), (874, 1018)]) (clp [] (M.2.2.2.2 (α 0))) ) ∧ True := by
    try simp only [Int.add_zero]
    obtain ⟨-, -, h⟩ := h0
    have h := c156.mp (show EXU (clp _ (M.2.2.2.2 (fl M (α 0) 1))) from h (by omega))
    exact ⟨⟨g0, tyO_of hT g0 (by decide) (by decide), c101.mpr fun _ => h⟩, trivial⟩
  exact ⟨nB, qB (key.1) (nB)⟩
def t_be0 : KT := ((0, 0, 0, 0), [(2, 0, 40, 0), (2, 1, 41, 0)], [(0, 0), (0, 0)], [(11, [(2, 0, 40, 0), (0, 0, 0, 1), (2, 1, 41, 0)]), (10, [(2, 1, 41, 0), (0, 0, 0, 4), (0, 0, 0, 0)])], (0, 0, 0), [], [], ([], [(101, [(2, 0, 40, 0)]), (102, [(2, 0, 40, 0)])]), ([], []))
theorem l_be0 (g : GG) : LOK Yt (PSt g) t_be0 := by
  intro ρ α Γ M as hT hB hA hP
  have g0 : Γ (α 0) = 40 := tyAt hA (i := 0) rfl
  have g1 : Γ (α 1) = 41 := tyAt hA (i := 1) rfl
  have h0 : 0 ≤ (1 : Int) ∧ M.2.2.2.1 (α 0) (1 : Int).toNat = some (α 1) := hP _ (List.mem_of_getElem? (i := 0) rfl)
  have h1 : 0 ≤ (4 : Int) ∧ M.2.2.2.2 (α 1) (4 : Int).toNat = 0 := hP _ (List.mem_of_getElem? (i := 1) rfl)
  try simp only [Int.add_zero] at h0 h1
  have key : (Γ (α 0) = 40 ∧ tyO Γ M (α 0) [(1, 41, [(0, 2), (4, 5), (298, 442), (874, 1018)])] ∧ Q101 g (vw M (α 0) 1 [(0, 2), (4, 5), (298, 442), (874, 1018)]) (clp [] (M.2.2.2.2 (α 0))) ) ∧ (Γ (α 0) = 40 ∧ tyO Γ M (α 0) [(1, 41, [(4, 5)])] ∧ Q102 g (vw M (α 0) 1 [(4, 5)]) (clp [] (M.2.2.2.2 (α 0))) ) ∧ True := by
    try simp only [Int.add_zero]
    have e1 : fl M (α 0) 1 = α 1 := fl_eq (show M.2.2.2.1 (α 0) 1 = some (α 1) from h0.2)
    
    have x4 : M.2.2.2.2 (α 1) 4 = 0 := h1.2
    rw [← e1] at x4
    refine ⟨⟨g0, tyO_of hT g0 (by decide) (by decide), c101.mpr (FL0 x4)⟩, ⟨g0, tyO_of hT g0 (by decide) (by decide), ?_⟩, trivial⟩
    show clp [(4, 5)] (M.2.2.2.2 (fl M (α 0) 1)) 4 = 0
    rw [clp_in 4 5 (by decide) (by decide) (by decide)]
    exact x4
  exact ⟨nB, qB (key.1) (qB (key.2.1) (nB))⟩
def t_st0 : KT := ((0, 0, 0, 0), [(2, 0, 40, 0), (1, 1, 0, 0)], [(0, 0), (0, 0)], [(77, [(2, 0, 40, 0), (0, 0, 0, 0), (0, 0, 0, 0)])], (0, 0, 0), [], [], ([], [(159, [(2, 0, 40, 0), (1, 1, 0, 0)])]), ([], []))
theorem l_st0 (g : GG) : LOK Yt (PSt g) t_st0 := by
  intro ρ α Γ M as hT hB hA hP
  have g0 : Γ (α 0) = 40 := tyAt hA (i := 0) rfl
  have b1 : 0 ≤ ρ 1 ∧ ρ 1 ≤ 0 := hB 1
  have h0 : Γ (α 0) = 40 ∧ M.2.2.2.2 (α 0) 5 ≤ (g.2.1 : Int) + (0) := hP _ (List.mem_of_getElem? (i := 0) rfl)
  try simp only [Int.add_zero] at h0
  have key : (Γ (α 0) = 40 ∧ tyO Γ M (α 0) [(1, 41, [(4, 5)])] ∧ Q159 g (vw M (α 0) 1 [(4, 5)]) (clp [(5, 6)] (M.2.2.2.2 (α 0))) (ρ 1 + 0)) ∧ True := by
    try simp only [Int.add_zero]
    refine ⟨⟨g0, tyO_of hT g0 (by decide) (by decide), Or.inl ?_⟩, trivial⟩
    show clp [(5, 6)] (M.2.2.2.2 (α 0)) 5 ≤ (g.2.1 : Int) + ρ 1
    rw [clp_in 5 6 (by decide) (by decide) (by decide)]
    have := h0.2
    omega
  exact ⟨nB, qB (key.1) (nB)⟩
def t_st1 : KT := ((0, 0, 0, 0), [(2, 0, 40, 0), (2, 1, 41, 0), (1, 2, 0, 0), (1, 3, 0, 0)], [(0, 0), (0, 0), (1, 1), (0, 145)], [(11, [(2, 0, 40, 0), (0, 0, 0, 1), (2, 1, 41, 0)]), (10, [(2, 1, 41, 0), (0, 0, 0, 4), (1, 2, 0, 0)]), (101, [(2, 0, 40, 0)]), (159, [(2, 0, 40, 0), (1, 3, 0, 0)])], (0, 0, 0), [], [], ([], [(156, [(2, 0, 40, 0)]), (77, [(2, 0, 40, 0), (1, 3, 0, 0), (0, 0, 0, 0)])]), ([], []))
theorem l_st1 (g : GG) : LOK Yt (PSt g) t_st1 := by
  intro ρ α Γ M as hT hB hA hP
  have g0 : Γ (α 0) = 40 := tyAt hA (i := 0) rfl
  have g1 : Γ (α 1) = 41 := tyAt hA (i := 1) rfl
  have b2 : 1 ≤ ρ 2 ∧ ρ 2 ≤ 1 := hB 2
  have b3 : 0 ≤ ρ 3 ∧ ρ 3 ≤ 145 := hB 3
  have h0 : 0 ≤ (1 : Int) ∧ M.2.2.2.1 (α 0) (1 : Int).toNat = some (α 1) := hP _ (List.mem_of_getElem? (i := 0) rfl)
  have h1 : 0 ≤ (4 : Int) ∧ M.2.2.2.2 (α 1) (4 : Int).toNat = ρ 2 + 0 := hP _ (List.mem_of_getElem? (i := 1) rfl)
  have h2 : Γ (α 0) = 40 ∧ tyO Γ M (α 0) [(1, 41, [(0, 2), (4, 5), (298, 442), (874, 1018)])] ∧ Q101 g (vw M (α 0) 1 [(0, 2), (4, 5), (298, 442), (874, 1018)]) (clp [] (M.2.2.2.2 (α 0)))  := hP _ (List.mem_of_getElem? (i := 2) rfl)
  have h3 : Γ (α 0) = 40 ∧ tyO Γ M (α 0) [(1, 41, [(4, 5)])] ∧ Q159 g (vw M (α 0) 1 [(4, 5)]) (clp [(5, 6)] (M.2.2.2.2 (α 0))) (ρ 3 + 0) := hP _ (List.mem_of_getElem? (i := 3) rfl)
  try simp only [Int.add_zero] at h0 h1 h2 h3
  have key : (Γ (α 0) = 40 ∧ tyO Γ M (α 0) [(1, 41, [(0, 2), (298, 442), (874, 1018)])] ∧ Q156 g (vw M (α 0) 1 [(0, 2), (298, 442), (874, 1018)]) (clp [] (M.2.2.2.2 (α 0))) ) ∧ (Γ (α 0) = 40 ∧ M.2.2.2.2 (α 0) 5 ≤ (g.2.1 : Int) + (ρ 3 + 0)) ∧ True := by
    try simp only [Int.add_zero]
    have e1 : fl M (α 0) 1 = α 1 := fl_eq (show M.2.2.2.1 (α 0) 1 = some (α 1) from h0.2)
    
    have x4 : M.2.2.2.2 (α 1) 4 = ρ 2 := h1.2
    rw [← e1] at x4
    have h := c101.mp (show FLc (clp _ (M.2.2.2.2 (fl M (α 0) 1))) from h2.2.2)
    refine ⟨⟨g0, tyO_of hT g0 (by decide) (by decide), c156.mpr (h (by omega))⟩, ⟨g0, ?_⟩, trivial⟩
    obtain ⟨-, -, h⟩ := h3
    rcases h with h | ⟨h, -⟩
    · have h : clp [(5, 6)] (M.2.2.2.2 (α 0)) 5 ≤ (g.2.1 : Int) + ρ 3 := h
      rw [clp_in 5 6 (by decide) (by decide) (by decide)] at h
      exact h
    · have h : clp [(4, 5)] (M.2.2.2.2 (fl M (α 0) 1)) 4 = 0 := h
      rw [clp_in 4 5 (by decide) (by decide) (by decide)] at h
      omega
  exact ⟨nB, qB (key.1) (qB (key.2.1) (nB))⟩
def t_w77 : KT := ((0, 0, 0, 0), [(2, 0, 40, 0), (1, 1, 0, 0)], [(0, 0), (0, 145)], [(77, [(2, 0, 40, 0), (1, 1, 0, 0), (0, 0, 0, 0)])], (0, 0, 0), [], [], ([], [(77, [(2, 0, 40, 0), (1, 1, 0, 1), (0, 0, 0, 0)])]), ([], []))
theorem l_w77 (g : GG) : LOK Yt (PSt g) t_w77 := by
  intro ρ α Γ M as hT hB hA hP
  have g0 : Γ (α 0) = 40 := tyAt hA (i := 0) rfl
  have b1 : 0 ≤ ρ 1 ∧ ρ 1 ≤ 145 := hB 1
  have h0 : Γ (α 0) = 40 ∧ M.2.2.2.2 (α 0) 5 ≤ (g.2.1 : Int) + (ρ 1 + 0) := hP _ (List.mem_of_getElem? (i := 0) rfl)
  try simp only [Int.add_zero] at h0
  have key : (Γ (α 0) = 40 ∧ M.2.2.2.2 (α 0) 5 ≤ (g.2.1 : Int) + (ρ 1 + 1)) ∧ True := by
    try simp only [Int.add_zero]
    have := h0.2
    exact ⟨⟨g0, by omega⟩, trivial⟩
  exact ⟨nB, qB (key.1) (nB)⟩
def t_st3 : KT := ((0, 0, 0, 0), [(2, 0, 40, 0), (1, 1, 0, 0)], [(0, 0), (0, 146)], [(77, [(2, 0, 40, 0), (1, 1, 0, 0), (0, 0, 0, 0)])], (0, 0, 0), [], [], ([], [(159, [(2, 0, 40, 0), (1, 1, 0, 0)])]), ([], []))
theorem l_st3 (g : GG) : LOK Yt (PSt g) t_st3 := by
  intro ρ α Γ M as hT hB hA hP
  have g0 : Γ (α 0) = 40 := tyAt hA (i := 0) rfl
  have b1 : 0 ≤ ρ 1 ∧ ρ 1 ≤ 146 := hB 1
  have h0 : Γ (α 0) = 40 ∧ M.2.2.2.2 (α 0) 5 ≤ (g.2.1 : Int) + (ρ 1 + 0) := hP _ (List.mem_of_getElem? (i := 0) rfl)
  try simp only [Int.add_zero] at h0
  have key : (Γ (α 0) = 40 ∧ tyO Γ M (α 0) [(1, 41, [(4, 5)])] ∧ Q159 g (vw M (α 0) 1 [(4, 5)]) (clp [(5, 6)] (M.2.2.2.2 (α 0))) (ρ 1 + 0)) ∧ True := by
    try simp only [Int.add_zero]
    refine ⟨⟨g0, tyO_of hT g0 (by decide) (by decide), Or.inl ?_⟩, trivial⟩
    show clp [(5, 6)] (M.2.2.2.2 (α 0)) 5 ≤ (g.2.1 : Int) + ρ 1
    rw [clp_in 5 6 (by decide) (by decide) (by decide)]
    exact h0.2
  exact ⟨nB, qB (key.1) (nB)⟩
def t_st5 : KT := ((0, 0, 0, 0), [(2, 0, 40, 0), (1, 1, 0, 0)], [(0, 0), (0, 146)], [(102, [(2, 0, 40, 0)]), (77, [(2, 0, 40, 0), (1, 1, 0, 1), (0, 0, 0, 0)])], (0, 0, 0), [], [], ([], [(159, [(2, 0, 40, 0), (1, 1, 0, 0)])]), ([], []))
theorem l_st5 (g : GG) : LOK Yt (PSt g) t_st5 := by
  intro ρ α Γ M as hT hB hA hP
  have g0 : Γ (α 0) = 40 := tyAt hA (i := 0) rfl
  have b1 : 0 ≤ ρ 1 ∧ ρ 1 ≤ 146 := hB 1
  have h0 : Γ (α 0) = 40 ∧ tyO Γ M (α 0) [(1, 41, [(4, 5)])] ∧ Q102 g (vw M (α 0) 1 [(4, 5)]) (clp [] (M.2.2.2.2 (α 0)))  := hP _ (List.mem_of_getElem? (i := 0) rfl)
  have h1 : Γ (α 0) = 40 ∧ M.2.2.2.2 (α 0) 5 ≤ (g.2.1 : Int) + (ρ 1 + 1) := hP _ (List.mem_of_getElem? (i := 1) rfl)
  try simp only [Int.add_zero] at h0 h1
  have key : (Γ (α 0) = 40 ∧ tyO Γ M (α 0) [(1, 41, [(4, 5)])] ∧ Q159 g (vw M (α 0) 1 [(4, 5)]) (clp [(5, 6)] (M.2.2.2.2 (α 0))) (ρ 1 + 0)) ∧ True := by
    try simp only [Int.add_zero]
    refine ⟨⟨g0, tyO_of hT g0 (by decide) (by decide), Or.inr ⟨h0.2.2, ?_⟩⟩, trivial⟩
    show clp [(5, 6)] (M.2.2.2.2 (α 0)) 5 ≤ (g.2.1 : Int) + (ρ 1 + 1)
    rw [clp_in 5 6 (by decide) (by decide) (by decide)]
    exact h1.2
  exact ⟨nB, qB (key.1) (nB)⟩
def t_st6 : KT := ((0, 0, 0, 0), [(2, 0, 40, 0), (1, 1, 0, 0)], [(0, 0), (0, 146)], [(159, [(2, 0, 40, 0), (1, 1, 0, 0)])], (0, 0, 0), [], [], ([], [(77, [(2, 0, 40, 0), (0, 0, 0, 150), (0, 0, 0, 0)])]), ([], []))
theorem l_st6 (g : GG) : LOK Yt (PSt g) t_st6 := by
  intro ρ α Γ M as hT hB hA hP
  have g0 : Γ (α 0) = 40 := tyAt hA (i := 0) rfl
  have b1 : 0 ≤ ρ 1 ∧ ρ 1 ≤ 146 := hB 1
  have h0 : Γ (α 0) = 40 ∧ tyO Γ M (α 0) [(1, 41, [(4, 5)])] ∧ Q159 g (vw M (α 0) 1 [(4, 5)]) (clp [(5, 6)] (M.2.2.2.2 (α 0))) (ρ 1 + 0) := hP _ (List.mem_of_getElem? (i := 0) rfl)
  try simp only [Int.add_zero] at h0
  have key : (Γ (α 0) = 40 ∧ M.2.2.2.2 (α 0) 5 ≤ (g.2.1 : Int) + (150)) ∧ True := by
    try simp only [Int.add_zero]
    obtain ⟨-, -, h⟩ := h0
    refine ⟨⟨g0, ?_⟩, trivial⟩
    have e : clp [(5, 6)] (M.2.2.2.2 (α 0)) 5 = M.2.2.2.2 (α 0) 5 := clp_in 5 6 (by decide) (by decide) (by decide)
    rcases h with h | ⟨-, h⟩
    · have h : clp [(5, 6)] (M.2.2.2.2 (α 0)) 5 ≤ (g.2.1 : Int) + ρ 1 := h
      omega
    · have h : clp [(5, 6)] (M.2.2.2.2 (α 0)) 5 ≤ (g.2.1 : Int) + (ρ 1 + 1) := h
      omega
  exact ⟨nB, qB (key.1) (nB)⟩
def t_fx1 : KT := ((0, 0, 0, 0), [(2, 0, 40, 0), (1, 1, 0, 0)], [(0, 0), (1, 2147483647)], [(105, [(2, 0, 40, 0), (1, 1, 0, 0)])], (0, 0, 0), [], [], ([], [(156, [(2, 0, 40, 0)])]), ([], []))
theorem l_fx1 (g : GG) : LOK Yt (PSt g) t_fx1 := by
  intro ρ α Γ M as hT hB hA hP
  have g0 : Γ (α 0) = 40 := tyAt hA (i := 0) rfl
  have b1 : 1 ≤ ρ 1 ∧ ρ 1 ≤ 2147483647 := hB 1
  have h0 : Γ (α 0) = 40 ∧ tyO Γ M (α 0) [(1, 41, [(0, 2), (298, 442), (874, 1018)])] ∧ Q105 g (vw M (α 0) 1 [(0, 2), (298, 442), (874, 1018)]) (clp [] (M.2.2.2.2 (α 0))) (ρ 1 + 0) := hP _ (List.mem_of_getElem? (i := 0) rfl)
  try simp only [Int.add_zero] at h0
  have key : (Γ (α 0) = 40 ∧ tyO Γ M (α 0) [(1, 41, [(0, 2), (298, 442), (874, 1018)])] ∧ Q156 g (vw M (α 0) 1 [(0, 2), (298, 442), (874, 1018)]) (clp [] (M.2.2.2.2 (α 0))) ) ∧ True := by
    try simp only [Int.add_zero]
    obtain ⟨-, -, h⟩ := h0
    exact ⟨⟨g0, tyO_of hT g0 (by decide) (by decide), h (by omega)⟩, trivial⟩
  exact ⟨nB, qB (key.1) (nB)⟩
def t_bm0 : KT := ((0, 0, 0, 0), [(2, 0, 40, 0), (1, 1, 0, 0)], [(0, 0), (0, 143)], [], (0, 0, 0), [], [], ([], [(134, [(2, 0, 40, 0), (1, 1, 0, 0)])]), ([], []))
theorem l_bm0 (g : GG) : LOK Yt (PSt g) t_bm0 := by
  intro ρ α Γ M as hT hB hA hP
  have g0 : Γ (α 0) = 40 := tyAt hA (i := 0) rfl
  have b1 : 0 ≤ ρ 1 ∧ ρ 1 ≤ 143 := hB 1
  have key : (Γ (α 0) = 40 ∧ tyO Γ M (α 0) [(1, 41, [(874, 1018)])] ∧ True) ∧ True := by
    try simp only [Int.add_zero]
    exact ⟨⟨g0, tyO_of hT g0 (by decide) (by decide), trivial⟩, trivial⟩
  exact ⟨nB, qB (key.1) (nB)⟩
def t_bm1 : KT := ((0, 0, 0, 0), [(2, 0, 40, 0), (2, 1, 41, 0), (1, 2, 0, 0), (1, 3, 0, 0)], [(0, 0), (0, 0), (0, 143), (0, 143)], [(100, [(2, 0, 40, 0)]), (104, [(2, 0, 40, 0), (1, 2, 0, 0)]), (34, [(2, 0, 40, 0), (1, 2, 0, 0)]), (11, [(2, 0, 40, 0), (0, 0, 0, 1), (2, 1, 41, 0)]), (10, [(2, 1, 41, 0), (1, 2, 0, 586), (1, 3, 0, 0)])], (0, 0, 0), [], [], ([], [(104, [(2, 0, 40, 0), (1, 3, 0, 0)]), (35, [(2, 0, 40, 0), (1, 3, 0, 0)])]), ([], []))
theorem l_bm1 (g : GG) : LOK Yt (PSt g) t_bm1 := by
  intro ρ α Γ M as hT hB hA hP
  have g0 : Γ (α 0) = 40 := tyAt hA (i := 0) rfl
  have g1 : Γ (α 1) = 41 := tyAt hA (i := 1) rfl
  have b2 : 0 ≤ ρ 2 ∧ ρ 2 ≤ 143 := hB 2
  have b3 : 0 ≤ ρ 3 ∧ ρ 3 ≤ 143 := hB 3
  have h0 : Γ (α 0) = 40 ∧ tyO Γ M (α 0) [(1, 41, [(2, 4), (586, 730), (874, 1018)])] ∧ Q100 g (vw M (α 0) 1 [(2, 4), (586, 730), (874, 1018)]) (clp [] (M.2.2.2.2 (α 0)))  := hP _ (List.mem_of_getElem? (i := 0) rfl)
  have h1 : Γ (α 0) = 40 ∧ tyO Γ M (α 0) [(1, 41, [(874, 1018)])] ∧ Q104 g (vw M (α 0) 1 [(874, 1018)]) (clp [] (M.2.2.2.2 (α 0))) (ρ 2 + 0) := hP _ (List.mem_of_getElem? (i := 1) rfl)
  have h2 : Γ (α 0) = 40 ∧ tyO Γ M (α 0) [(1, 41, [(874, 1018)])] ∧ True ∧ mu34 (vw M (α 0) 1 [(874, 1018)]) (ρ 2 + 0) ≤ g.2.2 := hP _ (List.mem_of_getElem? (i := 2) rfl)
  have h3 : 0 ≤ (1 : Int) ∧ M.2.2.2.1 (α 0) (1 : Int).toNat = some (α 1) := hP _ (List.mem_of_getElem? (i := 3) rfl)
  have h4 : 0 ≤ (ρ 2 + 586 : Int) ∧ M.2.2.2.2 (α 1) (ρ 2 + 586 : Int).toNat = ρ 3 + 0 := hP _ (List.mem_of_getElem? (i := 4) rfl)
  try simp only [Int.add_zero] at h0 h1 h2 h3 h4
  have key : (Γ (α 0) = 40 ∧ tyO Γ M (α 0) [(1, 41, [(874, 1018)])] ∧ Q104 g (vw M (α 0) 1 [(874, 1018)]) (clp [] (M.2.2.2.2 (α 0))) (ρ 3 + 0)) ∧ (Γ (α 0) = 40 ∧ tyO Γ M (α 0) [(1, 41, [(874, 1018)])] ∧ True ∧ mu34 (vw M (α 0) 1 [(874, 1018)]) (ρ 3 + 0) < g.2.2) ∧ True := by
    try simp only [Int.add_zero]
    have e1 : fl M (α 0) 1 = α 1 := fl_eq (show M.2.2.2.1 (α 0) 1 = some (α 1) from h3.2)
    
    have r := c100.mp (show RI0 (clp _ (M.2.2.2.2 (fl M (α 0) 1))) from h0.2.2)
    have u := c104.mp (show LAp (clp _ (M.2.2.2.2 (fl M (α 0) 1))) (ρ 2) from h1.2.2)
    have hm : (clp [(874, 1018)] (M.2.2.2.2 (fl M (α 0) 1)) (874 + (ρ 2).toNat)).toNat ≤ g.2.2 := h2.2.2.2
    rw [ckM (by decide) _ (by omega)] at hm
    have e : M.2.2.2.2 (fl M (α 0) 1) (586 + (ρ 2).toNat) = ρ 3 := by
      have := h4.2
      rw [show (ρ 2 + 586).toNat = 586 + (ρ 2).toNat by omega] at this
      rw [e1]
      exact this
    rcases u with u | ⟨u1, u2, u3⟩
    · omega
    · obtain ⟨-, y⟩ := r.2.2 (ρ 2).toNat (by omega) u3
      rw [e] at y
      rcases y with y | ⟨q, q1, q2, q3, q4⟩
      · omega
      · have eq : (ρ 3).toNat = q := by omega
        refine ⟨⟨g0, tyO_of hT g0 (by decide) (by decide), c104.mpr (Or.inr ⟨by omega, by omega, ?_⟩)⟩, ⟨g0, tyO_of hT g0 (by decide) (by decide), trivial, ?_⟩, trivial⟩
        · rw [eq]
          exact q3
        · show (clp [(874, 1018)] (M.2.2.2.2 (fl M (α 0) 1)) (874 + (ρ 3).toNat)).toNat < g.2.2
          rw [eq, ckM (by decide) _ q1]
          omega
  exact ⟨nB, qB (key.1) (qB (key.2.1) (nB))⟩
def t_cp0 : KT := ((0, 0, 0, 0), [(2, 0, 40, 0), (1, 1, 0, 0)], [(0, 0), (0, 0)], [], (0, 0, 0), [], [], ([], [(110, [(2, 0, 40, 0), (1, 1, 0, 0)])]), ([], []))
theorem l_cp0 (g : GG) : LOK Yt (PSt g) t_cp0 := by
  intro ρ α Γ M as hT hB hA hP
  have g0 : Γ (α 0) = 40 := tyAt hA (i := 0) rfl
  have b1 : 0 ≤ ρ 1 ∧ ρ 1 ≤ 0 := hB 1
  have key : (Γ (α 0) = 40 ∧ tyO Γ M (α 0) [(2, 52, [(0, 2314)]), (1, 41, [(0, 2314)])] ∧ Q110 g (vw M (α 0) 2 [(0, 2314)]) (vw M (α 0) 1 [(0, 2314)]) (clp [] (M.2.2.2.2 (α 0))) (ρ 1 + 0)) ∧ True := by
    try simp only [Int.add_zero]
    exact ⟨⟨g0, tyO_of hT g0 (by decide) (by decide), fun j hj => by omega⟩, trivial⟩
  exact ⟨nB, qB (key.1) (nB)⟩
def t_cp1 : KT := ((0, 0, 0, 0), [(2, 0, 40, 0), (2, 1, 52, 0), (2, 2, 41, 0), (1, 3, 0, 0), (1, 4, 0, 0)], [(0, 0), (0, 0), (0, 0), (0, 2313), (-2147483648, 2147483647)], [(110, [(2, 0, 40, 0), (1, 3, 0, 0)]), (11, [(2, 0, 40, 0), (0, 0, 0, 2), (2, 1, 52, 0)]), (11, [(2, 0, 40, 0), (0, 0, 0, 1), (2, 2, 41, 0)]), (10, [(2, 2, 41, 0), (1, 3, 0, 0), (1, 4, 0, 0)])], (0, 0, 0), [], [], ([], [(201, [(2, 1, 52, 0), (1, 3, 0, 0), (2, 0, 40, 0), (1, 4, 0, 0)])]), ([], []))
theorem l_cp1 (g : GG) : LOK Yt (PSt g) t_cp1 := by
  intro ρ α Γ M as hT hB hA hP
  have g0 : Γ (α 0) = 40 := tyAt hA (i := 0) rfl
  have g1 : Γ (α 1) = 52 := tyAt hA (i := 1) rfl
  have g2 : Γ (α 2) = 41 := tyAt hA (i := 2) rfl
  have b3 : 0 ≤ ρ 3 ∧ ρ 3 ≤ 2313 := hB 3
  have b4 : -2147483648 ≤ ρ 4 ∧ ρ 4 ≤ 2147483647 := hB 4
  have h0 : Γ (α 0) = 40 ∧ tyO Γ M (α 0) [(2, 52, [(0, 2314)]), (1, 41, [(0, 2314)])] ∧ Q110 g (vw M (α 0) 2 [(0, 2314)]) (vw M (α 0) 1 [(0, 2314)]) (clp [] (M.2.2.2.2 (α 0))) (ρ 3 + 0) := hP _ (List.mem_of_getElem? (i := 0) rfl)
  have h1 : 0 ≤ (2 : Int) ∧ M.2.2.2.1 (α 0) (2 : Int).toNat = some (α 1) := hP _ (List.mem_of_getElem? (i := 1) rfl)
  have h2 : 0 ≤ (1 : Int) ∧ M.2.2.2.1 (α 0) (1 : Int).toNat = some (α 2) := hP _ (List.mem_of_getElem? (i := 2) rfl)
  have h3 : 0 ≤ (ρ 3 + 0 : Int) ∧ M.2.2.2.2 (α 2) (ρ 3 + 0 : Int).toNat = ρ 4 + 0 := hP _ (List.mem_of_getElem? (i := 3) rfl)
  try simp only [Int.add_zero] at h0 h1 h2 h3
  have key : (Γ (α 0) = 40 ∧ M.2.2.2.1 (α 0) 2 = some (α 1) ∧ Γ (α 1) = 52 ∧ tyO Γ M (α 0) [(1, 41, [(0, 2314)])] ∧ Q201 g (hcl [vi (ρ 3 + 0)] (clp [(0, 2314)] (M.2.2.2.2 (α 1)))) (vw M (α 0) 1 [(0, 2314)]) (clp [] (M.2.2.2.2 (α 0))) (ρ 3 + 0) (ρ 4 + 0)) ∧ True := by
    try simp only [Int.add_zero]
    have e2 : fl M (α 0) 2 = α 1 := fl_eq (show M.2.2.2.1 (α 0) 2 = some (α 1) from h1.2)
    have e1 : fl M (α 0) 1 = α 2 := fl_eq (show M.2.2.2.1 (α 0) 1 = some (α 2) from h2.2)
    
    obtain ⟨-, -, h⟩ := h0
    refine ⟨⟨g0, h1.2, g1, tyO_of hT g0 (by decide) (by decide), fun j hj => ?_, ?_⟩, trivial⟩
    · rw [hcl1 (by omega), ← e2]
      exact h j hj
    · show ρ 4 = clp [(0, 2314)] (M.2.2.2.2 (fl M (α 0) 1)) (ρ 3).toNat
      rw [e1, cAll (by omega)]
      exact h3.2.symm
  exact ⟨nB, qB (key.1) (nB)⟩
def t_cp2 : KT := ((0, 0, 0, 0), [(2, 0, 40, 0), (2, 1, 52, 0), (1, 2, 0, 0), (1, 3, 0, 0)], [(0, 0), (0, 0), (0, 2313), (-2147483648, 2147483647)], [(201, [(2, 1, 52, 0), (1, 2, 0, 0), (2, 0, 40, 0), (1, 3, 0, 0)]), (10, [(2, 1, 52, 0), (1, 2, 0, 0), (1, 3, 0, 0)])], (0, 0, 0), [], [], ([], [(110, [(2, 0, 40, 0), (1, 2, 0, 1)])]), ([], []))
theorem l_cp2 (g : GG) : LOK Yt (PSt g) t_cp2 := by
  intro ρ α Γ M as hT hB hA hP
  have g0 : Γ (α 0) = 40 := tyAt hA (i := 0) rfl
  have g1 : Γ (α 1) = 52 := tyAt hA (i := 1) rfl
  have b2 : 0 ≤ ρ 2 ∧ ρ 2 ≤ 2313 := hB 2
  have b3 : -2147483648 ≤ ρ 3 ∧ ρ 3 ≤ 2147483647 := hB 3
  have h0 : Γ (α 0) = 40 ∧ M.2.2.2.1 (α 0) 2 = some (α 1) ∧ Γ (α 1) = 52 ∧ tyO Γ M (α 0) [(1, 41, [(0, 2314)])] ∧ Q201 g (hcl [vi (ρ 2 + 0)] (clp [(0, 2314)] (M.2.2.2.2 (α 1)))) (vw M (α 0) 1 [(0, 2314)]) (clp [] (M.2.2.2.2 (α 0))) (ρ 2 + 0) (ρ 3 + 0) := hP _ (List.mem_of_getElem? (i := 0) rfl)
  have h1 : 0 ≤ (ρ 2 + 0 : Int) ∧ M.2.2.2.2 (α 1) (ρ 2 + 0 : Int).toNat = ρ 3 + 0 := hP _ (List.mem_of_getElem? (i := 1) rfl)
  try simp only [Int.add_zero] at h0 h1
  have key : (Γ (α 0) = 40 ∧ tyO Γ M (α 0) [(2, 52, [(0, 2314)]), (1, 41, [(0, 2314)])] ∧ Q110 g (vw M (α 0) 2 [(0, 2314)]) (vw M (α 0) 1 [(0, 2314)]) (clp [] (M.2.2.2.2 (α 0))) (ρ 2 + 1)) ∧ True := by
    try simp only [Int.add_zero]
    obtain ⟨-, hr, -, ht, h, hv⟩ := h0
    have ed : fl M (α 0) 2 = α 1 := fl_eq hr
    refine ⟨⟨g0, tyO_of hT g0 (by decide) (by decide), fun j hj => ?_⟩, trivial⟩
    show clp [(0, 2314)] (M.2.2.2.2 (fl M (α 0) 2)) j = vw M (α 0) 1 [(0, 2314)] j
    rw [ed]
    by_cases hc : (j : Int) < ρ 2
    · have := h j hc
      rw [hcl1 (by omega)] at this
      exact this
    · have ej : j = (ρ 2).toNat := by omega
      rw [ej, cAll (by omega), h1.2]
      exact hv
  exact ⟨nB, qB (key.1) (nB)⟩
def t_cp3 : KT := ((0, 0, 0, 0), [(2, 0, 40, 0), (1, 1, 0, 0)], [(0, 0), (2314, 2314)], [(110, [(2, 0, 40, 0), (1, 1, 0, 0)]), (100, [(2, 0, 40, 0)]), (101, [(2, 0, 40, 0)])], (0, 0, 0), [], [], ([], [(109, [(2, 0, 40, 0)])]), ([], []))
theorem l_cp3 (g : GG) : LOK Yt (PSt g) t_cp3 := by
  intro ρ α Γ M as hT hB hA hP
  have g0 : Γ (α 0) = 40 := tyAt hA (i := 0) rfl
  have b1 : 2314 ≤ ρ 1 ∧ ρ 1 ≤ 2314 := hB 1
  have h0 : Γ (α 0) = 40 ∧ tyO Γ M (α 0) [(2, 52, [(0, 2314)]), (1, 41, [(0, 2314)])] ∧ Q110 g (vw M (α 0) 2 [(0, 2314)]) (vw M (α 0) 1 [(0, 2314)]) (clp [] (M.2.2.2.2 (α 0))) (ρ 1 + 0) := hP _ (List.mem_of_getElem? (i := 0) rfl)
  have h1 : Γ (α 0) = 40 ∧ tyO Γ M (α 0) [(1, 41, [(2, 4), (586, 730), (874, 1018)])] ∧ Q100 g (vw M (α 0) 1 [(2, 4), (586, 730), (874, 1018)]) (clp [] (M.2.2.2.2 (α 0)))  := hP _ (List.mem_of_getElem? (i := 1) rfl)
  have h2 : Γ (α 0) = 40 ∧ tyO Γ M (α 0) [(1, 41, [(0, 2), (4, 5), (298, 442), (874, 1018)])] ∧ Q101 g (vw M (α 0) 1 [(0, 2), (4, 5), (298, 442), (874, 1018)]) (clp [] (M.2.2.2.2 (α 0)))  := hP _ (List.mem_of_getElem? (i := 2) rfl)
  try simp only [Int.add_zero] at h0 h1 h2
  have key : (Γ (α 0) = 40 ∧ tyO Γ M (α 0) [(2, 52, [(0, 2314)])] ∧ Q109 g (vw M (α 0) 2 [(0, 2314)]) (clp [] (M.2.2.2.2 (α 0))) ) ∧ True := by
    try simp only [Int.add_zero]
    obtain ⟨-, -, h⟩ := h0
    have rn := (⟨c100.mp h1.2.2, c101.mp h2.2.2⟩ : RIF (M.2.2.2.2 (fl M (α 0) 1)))
    have rd : RIF (M.2.2.2.2 (fl M (α 0) 2)) := RIF_c (fun k hk => by
      have := h k (by omega)
      have this : clp [(0, 2314)] (M.2.2.2.2 (fl M (α 0) 2)) k = clp [(0, 2314)] (M.2.2.2.2 (fl M (α 0) 1)) k := this
      rw [cAll hk, cAll hk] at this
      exact this) rn
    exact ⟨⟨g0, tyO_of hT g0 (by decide) (by decide), cRIF.mpr rd⟩, trivial⟩
  exact ⟨nB, qB (key.1) (nB)⟩
def t_cq0 : KT := ((0, 0, 0, 0), [(2, 0, 40, 0), (1, 1, 0, 0)], [(0, 0), (0, 0)], [], (0, 0, 0), [], [], ([], [(111, [(2, 0, 40, 0), (1, 1, 0, 0)])]), ([], []))
theorem l_cq0 (g : GG) : LOK Yt (PSt g) t_cq0 := by
  intro ρ α Γ M as hT hB hA hP
  have g0 : Γ (α 0) = 40 := tyAt hA (i := 0) rfl
  have b1 : 0 ≤ ρ 1 ∧ ρ 1 ≤ 0 := hB 1
  have key : (Γ (α 0) = 40 ∧ tyO Γ M (α 0) [(1, 41, [(0, 2314)]), (2, 52, [(0, 2314)])] ∧ Q111 g (vw M (α 0) 1 [(0, 2314)]) (vw M (α 0) 2 [(0, 2314)]) (clp [] (M.2.2.2.2 (α 0))) (ρ 1 + 0)) ∧ True := by
    try simp only [Int.add_zero]
    exact ⟨⟨g0, tyO_of hT g0 (by decide) (by decide), fun j hj => by omega⟩, trivial⟩
  exact ⟨nB, qB (key.1) (nB)⟩
def t_cq1 : KT := ((0, 0, 0, 0), [(2, 0, 40, 0), (2, 1, 41, 0), (2, 2, 52, 0), (1, 3, 0, 0), (1, 4, 0, 0)], [(0, 0), (0, 0), (0, 0), (0, 2313), (-2147483648, 2147483647)], [(111, [(2, 0, 40, 0), (1, 3, 0, 0)]), (11, [(2, 0, 40, 0), (0, 0, 0, 1), (2, 1, 41, 0)]), (11, [(2, 0, 40, 0), (0, 0, 0, 2), (2, 2, 52, 0)]), (10, [(2, 2, 52, 0), (1, 3, 0, 0), (1, 4, 0, 0)])], (0, 0, 0), [], [], ([], [(202, [(2, 1, 41, 0), (1, 3, 0, 0), (2, 0, 40, 0), (1, 4, 0, 0)])]), ([], []))
theorem l_cq1 (g : GG) : LOK Yt (PSt g) t_cq1 := by
  intro ρ α Γ M as hT hB hA hP
  have g0 : Γ (α 0) = 40 := tyAt hA (i := 0) rfl
  have g1 : Γ (α 1) = 41 := tyAt hA (i := 1) rfl
  have g2 : Γ (α 2) = 52 := tyAt hA (i := 2) rfl
  have b3 : 0 ≤ ρ 3 ∧ ρ 3 ≤ 2313 := hB 3
  have b4 : -2147483648 ≤ ρ 4 ∧ ρ 4 ≤ 2147483647 := hB 4
  have h0 : Γ (α 0) = 40 ∧ tyO Γ M (α 0) [(1, 41, [(0, 2314)]), (2, 52, [(0, 2314)])] ∧ Q111 g (vw M (α 0) 1 [(0, 2314)]) (vw M (α 0) 2 [(0, 2314)]) (clp [] (M.2.2.2.2 (α 0))) (ρ 3 + 0) := hP _ (List.mem_of_getElem? (i := 0) rfl)
  have h1 : 0 ≤ (1 : Int) ∧ M.2.2.2.1 (α 0) (1 : Int).toNat = some (α 1) := hP _ (List.mem_of_getElem? (i := 1) rfl)
  have h2 : 0 ≤ (2 : Int) ∧ M.2.2.2.1 (α 0) (2 : Int).toNat = some (α 2) := hP _ (List.mem_of_getElem? (i := 2) rfl)
  have h3 : 0 ≤ (ρ 3 + 0 : Int) ∧ M.2.2.2.2 (α 2) (ρ 3 + 0 : Int).toNat = ρ 4 + 0 := hP _ (List.mem_of_getElem? (i := 3) rfl)
  try simp only [Int.add_zero] at h0 h1 h2 h3
  have key : (Γ (α 0) = 40 ∧ M.2.2.2.1 (α 0) 1 = some (α 1) ∧ Γ (α 1) = 41 ∧ tyO Γ M (α 0) [(2, 52, [(0, 2314)])] ∧ Q202 g (hcl [vi (ρ 3 + 0)] (clp [(0, 2314)] (M.2.2.2.2 (α 1)))) (vw M (α 0) 2 [(0, 2314)]) (clp [] (M.2.2.2.2 (α 0))) (ρ 3 + 0) (ρ 4 + 0)) ∧ True := by
    try simp only [Int.add_zero]
    have e1 : fl M (α 0) 1 = α 1 := fl_eq (show M.2.2.2.1 (α 0) 1 = some (α 1) from h1.2)
    have e2 : fl M (α 0) 2 = α 2 := fl_eq (show M.2.2.2.1 (α 0) 2 = some (α 2) from h2.2)
    
    obtain ⟨-, -, h⟩ := h0
    refine ⟨⟨g0, h1.2, g1, tyO_of hT g0 (by decide) (by decide), fun j hj => ?_, ?_⟩, trivial⟩
    · rw [hcl1 (by omega), ← e1]
      exact h j hj
    · show ρ 4 = clp [(0, 2314)] (M.2.2.2.2 (fl M (α 0) 2)) (ρ 3).toNat
      rw [e2, cAll (by omega)]
      exact h3.2.symm
  exact ⟨nB, qB (key.1) (nB)⟩
def t_cq2 : KT := ((0, 0, 0, 0), [(2, 0, 40, 0), (2, 1, 41, 0), (1, 2, 0, 0), (1, 3, 0, 0)], [(0, 0), (0, 0), (0, 2313), (-2147483648, 2147483647)], [(202, [(2, 1, 41, 0), (1, 2, 0, 0), (2, 0, 40, 0), (1, 3, 0, 0)]), (10, [(2, 1, 41, 0), (1, 2, 0, 0), (1, 3, 0, 0)])], (0, 0, 0), [], [], ([], [(111, [(2, 0, 40, 0), (1, 2, 0, 1)])]), ([], []))
theorem l_cq2 (g : GG) : LOK Yt (PSt g) t_cq2 := by
  intro ρ α Γ M as hT hB hA hP
  have g0 : Γ (α 0) = 40 := tyAt hA (i := 0) rfl
  have g1 : Γ (α 1) = 41 := tyAt hA (i := 1) rfl
  have b2 : 0 ≤ ρ 2 ∧ ρ 2 ≤ 2313 := hB 2
  have b3 : -2147483648 ≤ ρ 3 ∧ ρ 3 ≤ 2147483647 := hB 3
  have h0 : Γ (α 0) = 40 ∧ M.2.2.2.1 (α 0) 1 = some (α 1) ∧ Γ (α 1) = 41 ∧ tyO Γ M (α 0) [(2, 52, [(0, 2314)])] ∧ Q202 g (hcl [vi (ρ 2 + 0)] (clp [(0, 2314)] (M.2.2.2.2 (α 1)))) (vw M (α 0) 2 [(0, 2314)]) (clp [] (M.2.2.2.2 (α 0))) (ρ 2 + 0) (ρ 3 + 0) := hP _ (List.mem_of_getElem? (i := 0) rfl)
  have h1 : 0 ≤ (ρ 2 + 0 : Int) ∧ M.2.2.2.2 (α 1) (ρ 2 + 0 : Int).toNat = ρ 3 + 0 := hP _ (List.mem_of_getElem? (i := 1) rfl)
  try simp only [Int.add_zero] at h0 h1
  have key : (Γ (α 0) = 40 ∧ tyO Γ M (α 0) [(1, 41, [(0, 2314)]), (2, 52, [(0, 2314)])] ∧ Q111 g (vw M (α 0) 1 [(0, 2314)]) (vw M (α 0) 2 [(0, 2314)]) (clp [] (M.2.2.2.2 (α 0))) (ρ 2 + 1)) ∧ True := by
    try simp only [Int.add_zero]
    obtain ⟨-, hr, -, ht, h, hv⟩ := h0
    have ed : fl M (α 0) 1 = α 1 := fl_eq hr
    refine ⟨⟨g0, tyO_of hT g0 (by decide) (by decide), fun j hj => ?_⟩, trivial⟩
    show clp [(0, 2314)] (M.2.2.2.2 (fl M (α 0) 1)) j = vw M (α 0) 2 [(0, 2314)] j
    rw [ed]
    by_cases hc : (j : Int) < ρ 2
    · have := h j hc
      rw [hcl1 (by omega)] at this
      exact this
    · have ej : j = (ρ 2).toNat := by omega
      rw [ej, cAll (by omega), h1.2]
      exact hv
  exact ⟨nB, qB (key.1) (nB)⟩
def t_cq3 : KT := ((0, 0, 0, 0), [(2, 0, 40, 0), (1, 1, 0, 0)], [(0, 0), (2314, 2314)], [(111, [(2, 0, 40, 0), (1, 1, 0, 0)]), (109, [(2, 0, 40, 0)])], (0, 0, 0), [], [], ([], [(100, [(2, 0, 40, 0)]), (101, [(2, 0, 40, 0)])]), ([], []))
theorem l_cq3 (g : GG) : LOK Yt (PSt g) t_cq3 := by
  intro ρ α Γ M as hT hB hA hP
  have g0 : Γ (α 0) = 40 := tyAt hA (i := 0) rfl
  have b1 : 2314 ≤ ρ 1 ∧ ρ 1 ≤ 2314 := hB 1
  have h0 : Γ (α 0) = 40 ∧ tyO Γ M (α 0) [(1, 41, [(0, 2314)]), (2, 52, [(0, 2314)])] ∧ Q111 g (vw M (α 0) 1 [(0, 2314)]) (vw M (α 0) 2 [(0, 2314)]) (clp [] (M.2.2.2.2 (α 0))) (ρ 1 + 0) := hP _ (List.mem_of_getElem? (i := 0) rfl)
  have h1 : Γ (α 0) = 40 ∧ tyO Γ M (α 0) [(2, 52, [(0, 2314)])] ∧ Q109 g (vw M (α 0) 2 [(0, 2314)]) (clp [] (M.2.2.2.2 (α 0)))  := hP _ (List.mem_of_getElem? (i := 1) rfl)
  try simp only [Int.add_zero] at h0 h1
  have key : (Γ (α 0) = 40 ∧ tyO Γ M (α 0) [(1, 41, [(2, 4), (586, 730), (874, 1018)])] ∧ Q100 g (vw M (α 0) 1 [(2, 4), (586, 730), (874, 1018)]) (clp [] (M.2.2.2.2 (α 0))) ) ∧ (Γ (α 0) = 40 ∧ tyO Γ M (α 0) [(1, 41, [(0, 2), (4, 5), (298, 442), (874, 1018)])] ∧ Q101 g (vw M (α 0) 1 [(0, 2), (4, 5), (298, 442), (874, 1018)]) (clp [] (M.2.2.2.2 (α 0))) ) ∧ True := by
    try simp only [Int.add_zero]
    obtain ⟨-, -, h⟩ := h0
    have rn := (cRIF.mp h1.2.2 : RIF (M.2.2.2.2 (fl M (α 0) 2)))
    have rd : RIF (M.2.2.2.2 (fl M (α 0) 1)) := RIF_c (fun k hk => by
      have := h k (by omega)
      have this : clp [(0, 2314)] (M.2.2.2.2 (fl M (α 0) 1)) k = clp [(0, 2314)] (M.2.2.2.2 (fl M (α 0) 2)) k := this
      rw [cAll hk, cAll hk] at this
      exact this) rn
    exact ⟨⟨g0, tyO_of hT g0 (by decide) (by decide), c100.mpr rd.1⟩, ⟨g0, tyO_of hT g0 (by decide) (by decide), c101.mpr rd.2⟩, trivial⟩
  exact ⟨nB, qB (key.1) (qB (key.2.1) (nB))⟩
def t_ci0 : KT := ((0, 0, 0, 0), [(2, 0, 40, 0), (1, 1, 0, 0)], [(0, 0), (0, 0)], [], (0, 0, 0), [], [], ([], [(112, [(2, 0, 40, 0), (1, 1, 0, 0)])]), ([], []))
theorem l_ci0 (g : GG) : LOK Yt (PSt g) t_ci0 := by
  intro ρ α Γ M as hT hB hA hP
  have g0 : Γ (α 0) = 40 := tyAt hA (i := 0) rfl
  have b1 : 0 ≤ ρ 1 ∧ ρ 1 ≤ 0 := hB 1
  have key : (Γ (α 0) = 40 ∧ tyO Γ M (α 0) [(24, 53, [(0, 2314)]), (1, 41, [(0, 2314)])] ∧ Q112 g (vw M (α 0) 24 [(0, 2314)]) (vw M (α 0) 1 [(0, 2314)]) (clp [] (M.2.2.2.2 (α 0))) (ρ 1 + 0)) ∧ True := by
    try simp only [Int.add_zero]
    exact ⟨⟨g0, tyO_of hT g0 (by decide) (by decide), fun j hj => by omega⟩, trivial⟩
  exact ⟨nB, qB (key.1) (nB)⟩
def t_ci1 : KT := ((0, 0, 0, 0), [(2, 0, 40, 0), (2, 1, 53, 0), (2, 2, 41, 0), (1, 3, 0, 0), (1, 4, 0, 0)], [(0, 0), (0, 0), (0, 0), (0, 2313), (-2147483648, 2147483647)], [(112, [(2, 0, 40, 0), (1, 3, 0, 0)]), (11, [(2, 0, 40, 0), (0, 0, 0, 24), (2, 1, 53, 0)]), (11, [(2, 0, 40, 0), (0, 0, 0, 1), (2, 2, 41, 0)]), (10, [(2, 2, 41, 0), (1, 3, 0, 0), (1, 4, 0, 0)])], (0, 0, 0), [], [], ([], [(203, [(2, 1, 53, 0), (1, 3, 0, 0), (2, 0, 40, 0), (1, 4, 0, 0)])]), ([], []))
theorem l_ci1 (g : GG) : LOK Yt (PSt g) t_ci1 := by
  intro ρ α Γ M as hT hB hA hP
  have g0 : Γ (α 0) = 40 := tyAt hA (i := 0) rfl
  have g1 : Γ (α 1) = 53 := tyAt hA (i := 1) rfl
  have g2 : Γ (α 2) = 41 := tyAt hA (i := 2) rfl
  have b3 : 0 ≤ ρ 3 ∧ ρ 3 ≤ 2313 := hB 3
  have b4 : -2147483648 ≤ ρ 4 ∧ ρ 4 ≤ 2147483647 := hB 4
  have h0 : Γ (α 0) = 40 ∧ tyO Γ M (α 0) [(24, 53, [(0, 2314)]), (1, 41, [(0, 2314)])] ∧ Q112 g (vw M (α 0) 24 [(0, 2314)]) (vw M (α 0) 1 [(0, 2314)]) (clp [] (M.2.2.2.2 (α 0))) (ρ 3 + 0) := hP _ (List.mem_of_getElem? (i := 0) rfl)
  have h1 : 0 ≤ (24 : Int) ∧ M.2.2.2.1 (α 0) (24 : Int).toNat = some (α 1) := hP _ (List.mem_of_getElem? (i := 1) rfl)
  have h2 : 0 ≤ (1 : Int) ∧ M.2.2.2.1 (α 0) (1 : Int).toNat = some (α 2) := hP _ (List.mem_of_getElem? (i := 2) rfl)
  have h3 : 0 ≤ (ρ 3 + 0 : Int) ∧ M.2.2.2.2 (α 2) (ρ 3 + 0 : Int).toNat = ρ 4 + 0 := hP _ (List.mem_of_getElem? (i := 3) rfl)
  try simp only [Int.add_zero] at h0 h1 h2 h3
  have key : (Γ (α 0) = 40 ∧ M.2.2.2.1 (α 0) 24 = some (α 1) ∧ Γ (α 1) = 53 ∧ tyO Γ M (α 0) [(1, 41, [(0, 2314)])] ∧ Q203 g (hcl [vi (ρ 3 + 0)] (clp [(0, 2314)] (M.2.2.2.2 (α 1)))) (vw M (α 0) 1 [(0, 2314)]) (clp [] (M.2.2.2.2 (α 0))) (ρ 3 + 0) (ρ 4 + 0)) ∧ True := by
    try simp only [Int.add_zero]
    have e24 : fl M (α 0) 24 = α 1 := fl_eq (show M.2.2.2.1 (α 0) 24 = some (α 1) from h1.2)
    have e1 : fl M (α 0) 1 = α 2 := fl_eq (show M.2.2.2.1 (α 0) 1 = some (α 2) from h2.2)
    
    obtain ⟨-, -, h⟩ := h0
    refine ⟨⟨g0, h1.2, g1, tyO_of hT g0 (by decide) (by decide), fun j hj => ?_, ?_⟩, trivial⟩
    · rw [hcl1 (by omega), ← e24]
      exact h j hj
    · show ρ 4 = clp [(0, 2314)] (M.2.2.2.2 (fl M (α 0) 1)) (ρ 3).toNat
      rw [e1, cAll (by omega)]
      exact h3.2.symm
  exact ⟨nB, qB (key.1) (nB)⟩
def t_ci2 : KT := ((0, 0, 0, 0), [(2, 0, 40, 0), (2, 1, 53, 0), (1, 2, 0, 0), (1, 3, 0, 0)], [(0, 0), (0, 0), (0, 2313), (-2147483648, 2147483647)], [(203, [(2, 1, 53, 0), (1, 2, 0, 0), (2, 0, 40, 0), (1, 3, 0, 0)]), (10, [(2, 1, 53, 0), (1, 2, 0, 0), (1, 3, 0, 0)])], (0, 0, 0), [], [], ([], [(112, [(2, 0, 40, 0), (1, 2, 0, 1)])]), ([], []))
theorem l_ci2 (g : GG) : LOK Yt (PSt g) t_ci2 := by
  intro ρ α Γ M as hT hB hA hP
  have g0 : Γ (α 0) = 40 := tyAt hA (i := 0) rfl
  have g1 : Γ (α 1) = 53 := tyAt hA (i := 1) rfl
  have b2 : 0 ≤ ρ 2 ∧ ρ 2 ≤ 2313 := hB 2
  have b3 : -2147483648 ≤ ρ 3 ∧ ρ 3 ≤ 2147483647 := hB 3
  have h0 : Γ (α 0) = 40 ∧ M.2.2.2.1 (α 0) 24 = some (α 1) ∧ Γ (α 1) = 53 ∧ tyO Γ M (α 0) [(1, 41, [(0, 2314)])] ∧ Q203 g (hcl [vi (ρ 2 + 0)] (clp [(0, 2314)] (M.2.2.2.2 (α 1)))) (vw M (α 0) 1 [(0, 2314)]) (clp [] (M.2.2.2.2 (α 0))) (ρ 2 + 0) (ρ 3 + 0) := hP _ (List.mem_of_getElem? (i := 0) rfl)
  have h1 : 0 ≤ (ρ 2 + 0 : Int) ∧ M.2.2.2.2 (α 1) (ρ 2 + 0 : Int).toNat = ρ 3 + 0 := hP _ (List.mem_of_getElem? (i := 1) rfl)
  try simp only [Int.add_zero] at h0 h1
  have key : (Γ (α 0) = 40 ∧ tyO Γ M (α 0) [(24, 53, [(0, 2314)]), (1, 41, [(0, 2314)])] ∧ Q112 g (vw M (α 0) 24 [(0, 2314)]) (vw M (α 0) 1 [(0, 2314)]) (clp [] (M.2.2.2.2 (α 0))) (ρ 2 + 1)) ∧ True := by
    try simp only [Int.add_zero]
    obtain ⟨-, hr, -, ht, h, hv⟩ := h0
    have ed : fl M (α 0) 24 = α 1 := fl_eq hr
    refine ⟨⟨g0, tyO_of hT g0 (by decide) (by decide), fun j hj => ?_⟩, trivial⟩
    show clp [(0, 2314)] (M.2.2.2.2 (fl M (α 0) 24)) j = vw M (α 0) 1 [(0, 2314)] j
    rw [ed]
    by_cases hc : (j : Int) < ρ 2
    · have := h j hc
      rw [hcl1 (by omega)] at this
      exact this
    · have ej : j = (ρ 2).toNat := by omega
      rw [ej, cAll (by omega), h1.2]
      exact hv
  exact ⟨nB, qB (key.1) (nB)⟩
def t_ci3 : KT := ((0, 0, 0, 0), [(2, 0, 40, 0), (1, 1, 0, 0)], [(0, 0), (2314, 2314)], [(112, [(2, 0, 40, 0), (1, 1, 0, 0)]), (100, [(2, 0, 40, 0)]), (101, [(2, 0, 40, 0)])], (0, 0, 0), [], [], ([], [(108, [(2, 0, 40, 0)])]), ([], []))
theorem l_ci3 (g : GG) : LOK Yt (PSt g) t_ci3 := by
  intro ρ α Γ M as hT hB hA hP
  have g0 : Γ (α 0) = 40 := tyAt hA (i := 0) rfl
  have b1 : 2314 ≤ ρ 1 ∧ ρ 1 ≤ 2314 := hB 1
  have h0 : Γ (α 0) = 40 ∧ tyO Γ M (α 0) [(24, 53, [(0, 2314)]), (1, 41, [(0, 2314)])] ∧ Q112 g (vw M (α 0) 24 [(0, 2314)]) (vw M (α 0) 1 [(0, 2314)]) (clp [] (M.2.2.2.2 (α 0))) (ρ 1 + 0) := hP _ (List.mem_of_getElem? (i := 0) rfl)
  have h1 : Γ (α 0) = 40 ∧ tyO Γ M (α 0) [(1, 41, [(2, 4), (586, 730), (874, 1018)])] ∧ Q100 g (vw M (α 0) 1 [(2, 4), (586, 730), (874, 1018)]) (clp [] (M.2.2.2.2 (α 0)))  := hP _ (List.mem_of_getElem? (i := 1) rfl)
  have h2 : Γ (α 0) = 40 ∧ tyO Γ M (α 0) [(1, 41, [(0, 2), (4, 5), (298, 442), (874, 1018)])] ∧ Q101 g (vw M (α 0) 1 [(0, 2), (4, 5), (298, 442), (874, 1018)]) (clp [] (M.2.2.2.2 (α 0)))  := hP _ (List.mem_of_getElem? (i := 2) rfl)
  try simp only [Int.add_zero] at h0 h1 h2
  have key : (Γ (α 0) = 40 ∧ tyO Γ M (α 0) [(24, 53, [(0, 2314)])] ∧ Q108 g (vw M (α 0) 24 [(0, 2314)]) (clp [] (M.2.2.2.2 (α 0))) ) ∧ True := by
    try simp only [Int.add_zero]
    obtain ⟨-, -, h⟩ := h0
    have rn := (⟨c100.mp h1.2.2, c101.mp h2.2.2⟩ : RIF (M.2.2.2.2 (fl M (α 0) 1)))
    have rd : RIF (M.2.2.2.2 (fl M (α 0) 24)) := RIF_c (fun k hk => by
      have := h k (by omega)
      have this : clp [(0, 2314)] (M.2.2.2.2 (fl M (α 0) 24)) k = clp [(0, 2314)] (M.2.2.2.2 (fl M (α 0) 1)) k := this
      rw [cAll hk, cAll hk] at this
      exact this) rn
    exact ⟨⟨g0, tyO_of hT g0 (by decide) (by decide), cRIF.mpr rd⟩, trivial⟩
  exact ⟨nB, qB (key.1) (nB)⟩
def t_cj0 : KT := ((0, 0, 0, 0), [(2, 0, 40, 0), (1, 1, 0, 0)], [(0, 0), (0, 0)], [], (0, 0, 0), [], [], ([], [(113, [(2, 0, 40, 0), (1, 1, 0, 0)])]), ([], []))
theorem l_cj0 (g : GG) : LOK Yt (PSt g) t_cj0 := by
  intro ρ α Γ M as hT hB hA hP
  have g0 : Γ (α 0) = 40 := tyAt hA (i := 0) rfl
  have b1 : 0 ≤ ρ 1 ∧ ρ 1 ≤ 0 := hB 1
  have key : (Γ (α 0) = 40 ∧ tyO Γ M (α 0) [(1, 41, [(0, 2314)]), (24, 53, [(0, 2314)])] ∧ Q113 g (vw M (α 0) 1 [(0, 2314)]) (vw M (α 0) 24 [(0, 2314)]) (clp [] (M.2.2.2.2 (α 0))) (ρ 1 + 0)) ∧ True := by
    try simp only [Int.add_zero]
    exact ⟨⟨g0, tyO_of hT g0 (by decide) (by decide), fun j hj => by omega⟩, trivial⟩
  exact ⟨nB, qB (key.1) (nB)⟩
def t_cj1 : KT := ((0, 0, 0, 0), [(2, 0, 40, 0), (2, 1, 41, 0), (2, 2, 53, 0), (1, 3, 0, 0), (1, 4, 0, 0)], [(0, 0), (0, 0), (0, 0), (0, 2313), (-2147483648, 2147483647)], [(113, [(2, 0, 40, 0), (1, 3, 0, 0)]), (11, [(2, 0, 40, 0), (0, 0, 0, 1), (2, 1, 41, 0)]), (11, [(2, 0, 40, 0), (0, 0, 0, 24), (2, 2, 53, 0)]), (10, [(2, 2, 53, 0), (1, 3, 0, 0), (1, 4, 0, 0)])], (0, 0, 0), [], [], ([], [(204, [(2, 1, 41, 0), (1, 3, 0, 0), (2, 0, 40, 0), (1, 4, 0, 0)])]), ([], []))
theorem l_cj1 (g : GG) : LOK Yt (PSt g) t_cj1 := by
  intro ρ α Γ M as hT hB hA hP
  have g0 : Γ (α 0) = 40 := tyAt hA (i := 0) rfl
  have g1 : Γ (α 1) = 41 := tyAt hA (i := 1) rfl
  have g2 : Γ (α 2) = 53 := tyAt hA (i := 2) rfl
  have b3 : 0 ≤ ρ 3 ∧ ρ 3 ≤ 2313 := hB 3
  have b4 : -2147483648 ≤ ρ 4 ∧ ρ 4 ≤ 2147483647 := hB 4
  have h0 : Γ (α 0) = 40 ∧ tyO Γ M (α 0) [(1, 41, [(0, 2314)]), (24, 53, [(0, 2314)])] ∧ Q113 g (vw M (α 0) 1 [(0, 2314)]) (vw M (α 0) 24 [(0, 2314)]) (clp [] (M.2.2.2.2 (α 0))) (ρ 3 + 0) := hP _ (List.mem_of_getElem? (i := 0) rfl)
  have h1 : 0 ≤ (1 : Int) ∧ M.2.2.2.1 (α 0) (1 : Int).toNat = some (α 1) := hP _ (List.mem_of_getElem? (i := 1) rfl)
  have h2 : 0 ≤ (24 : Int) ∧ M.2.2.2.1 (α 0) (24 : Int).toNat = some (α 2) := hP _ (List.mem_of_getElem? (i := 2) rfl)
  have h3 : 0 ≤ (ρ 3 + 0 : Int) ∧ M.2.2.2.2 (α 2) (ρ 3 + 0 : Int).toNat = ρ 4 + 0 := hP _ (List.mem_of_getElem? (i := 3) rfl)
  try simp only [Int.add_zero] at h0 h1 h2 h3
  have key : (Γ (α 0) = 40 ∧ M.2.2.2.1 (α 0) 1 = some (α 1) ∧ Γ (α 1) = 41 ∧ tyO Γ M (α 0) [(24, 53, [(0, 2314)])] ∧ Q204 g (hcl [vi (ρ 3 + 0)] (clp [(0, 2314)] (M.2.2.2.2 (α 1)))) (vw M (α 0) 24 [(0, 2314)]) (clp [] (M.2.2.2.2 (α 0))) (ρ 3 + 0) (ρ 4 + 0)) ∧ True := by
    try simp only [Int.add_zero]
    have e1 : fl M (α 0) 1 = α 1 := fl_eq (show M.2.2.2.1 (α 0) 1 = some (α 1) from h1.2)
    have e24 : fl M (α 0) 24 = α 2 := fl_eq (show M.2.2.2.1 (α 0) 24 = some (α 2) from h2.2)
    
    obtain ⟨-, -, h⟩ := h0
    refine ⟨⟨g0, h1.2, g1, tyO_of hT g0 (by decide) (by decide), fun j hj => ?_, ?_⟩, trivial⟩
    · rw [hcl1 (by omega), ← e1]
      exact h j hj
    · show ρ 4 = clp [(0, 2314)] (M.2.2.2.2 (fl M (α 0) 24)) (ρ 3).toNat
      rw [e24, cAll (by omega)]
      exact h3.2.symm
  exact ⟨nB, qB (key.1) (nB)⟩
def t_cj2 : KT := ((0, 0, 0, 0), [(2, 0, 40, 0), (2, 1, 41, 0), (1, 2, 0, 0), (1, 3, 0, 0)], [(0, 0), (0, 0), (0, 2313), (-2147483648, 2147483647)], [(204, [(2, 1, 41, 0), (1, 2, 0, 0), (2, 0, 40, 0), (1, 3, 0, 0)]), (10, [(2, 1, 41, 0), (1, 2, 0, 0), (1, 3, 0, 0)])], (0, 0, 0), [], [], ([], [(113, [(2, 0, 40, 0), (1, 2, 0, 1)])]), ([], []))
theorem l_cj2 (g : GG) : LOK Yt (PSt g) t_cj2 := by
  intro ρ α Γ M as hT hB hA hP
  have g0 : Γ (α 0) = 40 := tyAt hA (i := 0) rfl
  have g1 : Γ (α 1) = 41 := tyAt hA (i := 1) rfl
  have b2 : 0 ≤ ρ 2 ∧ ρ 2 ≤ 2313 := hB 2
  have b3 : -2147483648 ≤ ρ 3 ∧ ρ 3 ≤ 2147483647 := hB 3
  have h0 : Γ (α 0) = 40 ∧ M.2.2.2.1 (α 0) 1 = some (α 1) ∧ Γ (α 1) = 41 ∧ tyO Γ M (α 0) [(24, 53, [(0, 2314)])] ∧ Q204 g (hcl [vi (ρ 2 + 0)] (clp [(0, 2314)] (M.2.2.2.2 (α 1)))) (vw M (α 0) 24 [(0, 2314)]) (clp [] (M.2.2.2.2 (α 0))) (ρ 2 + 0) (ρ 3 + 0) := hP _ (List.mem_of_getElem? (i := 0) rfl)
  have h1 : 0 ≤ (ρ 2 + 0 : Int) ∧ M.2.2.2.2 (α 1) (ρ 2 + 0 : Int).toNat = ρ 3 + 0 := hP _ (List.mem_of_getElem? (i := 1) rfl)
  try simp only [Int.add_zero] at h0 h1
  have key : (Γ (α 0) = 40 ∧ tyO Γ M (α 0) [(1, 41, [(0, 2314)]), (24, 53, [(0, 2314)])] ∧ Q113 g (vw M (α 0) 1 [(0, 2314)]) (vw M (α 0) 24 [(0, 2314)]) (clp [] (M.2.2.2.2 (α 0))) (ρ 2 + 1)) ∧ True := by
    try simp only [Int.add_zero]
    obtain ⟨-, hr, -, ht, h, hv⟩ := h0
    have ed : fl M (α 0) 1 = α 1 := fl_eq hr
    refine ⟨⟨g0, tyO_of hT g0 (by decide) (by decide), fun j hj => ?_⟩, trivial⟩
    show clp [(0, 2314)] (M.2.2.2.2 (fl M (α 0) 1)) j = vw M (α 0) 24 [(0, 2314)] j
    rw [ed]
    by_cases hc : (j : Int) < ρ 2
    · have := h j hc
      rw [hcl1 (by omega)] at this
      exact this
    · have ej : j = (ρ 2).toNat := by omega
      rw [ej, cAll (by omega), h1.2]
      exact hv
  exact ⟨nB, qB (key.1) (nB)⟩
def t_cj3 : KT := ((0, 0, 0, 0), [(2, 0, 40, 0), (1, 1, 0, 0)], [(0, 0), (2314, 2314)], [(113, [(2, 0, 40, 0), (1, 1, 0, 0)]), (108, [(2, 0, 40, 0)])], (0, 0, 0), [], [], ([], [(100, [(2, 0, 40, 0)]), (101, [(2, 0, 40, 0)])]), ([], []))
theorem l_cj3 (g : GG) : LOK Yt (PSt g) t_cj3 := by
  intro ρ α Γ M as hT hB hA hP
  have g0 : Γ (α 0) = 40 := tyAt hA (i := 0) rfl
  have b1 : 2314 ≤ ρ 1 ∧ ρ 1 ≤ 2314 := hB 1
  have h0 : Γ (α 0) = 40 ∧ tyO Γ M (α 0) [(1, 41, [(0, 2314)]), (24, 53, [(0, 2314)])] ∧ Q113 g (vw M (α 0) 1 [(0, 2314)]) (vw M (α 0) 24 [(0, 2314)]) (clp [] (M.2.2.2.2 (α 0))) (ρ 1 + 0) := hP _ (List.mem_of_getElem? (i := 0) rfl)
  have h1 : Γ (α 0) = 40 ∧ tyO Γ M (α 0) [(24, 53, [(0, 2314)])] ∧ Q108 g (vw M (α 0) 24 [(0, 2314)]) (clp [] (M.2.2.2.2 (α 0)))  := hP _ (List.mem_of_getElem? (i := 1) rfl)
  try simp only [Int.add_zero] at h0 h1
  have key : (Γ (α 0) = 40 ∧ tyO Γ M (α 0) [(1, 41, [(2, 4), (586, 730), (874, 1018)])] ∧ Q100 g (vw M (α 0) 1 [(2, 4), (586, 730), (874, 1018)]) (clp [] (M.2.2.2.2 (α 0))) ) ∧ (Γ (α 0) = 40 ∧ tyO Γ M (α 0) [(1, 41, [(0, 2), (4, 5), (298, 442), (874, 1018)])] ∧ Q101 g (vw M (α 0) 1 [(0, 2), (4, 5), (298, 442), (874, 1018)]) (clp [] (M.2.2.2.2 (α 0))) ) ∧ True := by
    try simp only [Int.add_zero]
    obtain ⟨-, -, h⟩ := h0
    have rn := (cRIF.mp h1.2.2 : RIF (M.2.2.2.2 (fl M (α 0) 24)))
    have rd : RIF (M.2.2.2.2 (fl M (α 0) 1)) := RIF_c (fun k hk => by
      have := h k (by omega)
      have this : clp [(0, 2314)] (M.2.2.2.2 (fl M (α 0) 1)) k = clp [(0, 2314)] (M.2.2.2.2 (fl M (α 0) 24)) k := this
      rw [cAll hk, cAll hk] at this
      exact this) rn
    exact ⟨⟨g0, tyO_of hT g0 (by decide) (by decide), c100.mpr rd.1⟩, ⟨g0, tyO_of hT g0 (by decide) (by decide), c101.mpr rd.2⟩, trivial⟩
  exact ⟨nB, qB (key.1) (qB (key.2.1) (nB))⟩
def t_ka0 : KT := ((0, 0, 0, 0), [(2, 0, 40, 0), (1, 1, 0, 0)], [(0, 0), (0, 0)], [(107, [(2, 0, 40, 0)])], (0, 0, 0), [], [], ([], [(115, [(2, 0, 40, 0), (1, 1, 0, 0)])]), ([], []))
theorem l_ka0 (g : GG) : LOK Yt (PSt g) t_ka0 := by
  intro ρ α Γ M as hT hB hA hP
  have g0 : Γ (α 0) = 40 := tyAt hA (i := 0) rfl
  have b1 : 0 ≤ ρ 1 ∧ ρ 1 ≤ 0 := hB 1
  have h0 : Γ (α 0) = 40 ∧ tyO Γ M (α 0) [(6, 43, [(0, 27768)])] ∧ Q107 g (vw M (α 0) 6 [(0, 27768)]) (clp [] (M.2.2.2.2 (α 0)))  := hP _ (List.mem_of_getElem? (i := 0) rfl)
  try simp only [Int.add_zero] at h0
  have key : (Γ (α 0) = 40 ∧ tyO Γ M (α 0) [(6, 43, [(0, 27768)])] ∧ Q115 g (vw M (α 0) 6 [(0, 27768)]) (clp [] (M.2.2.2.2 (α 0))) (ρ 1 + 0)) ∧ True := by
    try simp only [Int.add_zero]
    obtain ⟨-, -, h⟩ := h0
    exact ⟨⟨g0, tyO_of hT g0 (by decide) (by decide), clp [(0, 27768)] (M.2.2.2.2 (fl M (α 0) 6)), h, fun c hc => ⟨fun q => by omega, fun _ => rfl⟩⟩, trivial⟩
  exact ⟨nB, qB (key.1) (nB)⟩
def t_ka1 : KT := ((0, 0, 0, 0), [(2, 0, 40, 0), (2, 1, 43, 0), (1, 2, 0, 0), (1, 3, 0, 0)], [(0, 0), (0, 0), (0, 25453), (-2147483648, 2147483647)], [(115, [(2, 0, 40, 0), (1, 2, 0, 0)]), (11, [(2, 0, 40, 0), (0, 0, 0, 6), (2, 1, 43, 0)]), (10, [(2, 1, 43, 0), (1, 2, 0, 2314), (1, 3, 0, 0)])], (0, 0, 0), [], [], ([], [(206, [(2, 1, 43, 0), (1, 2, 0, 0), (2, 0, 40, 0), (1, 3, 0, 0)])]), ([], []))
theorem l_ka1 (g : GG) : LOK Yt (PSt g) t_ka1 := by
  intro ρ α Γ M as hT hB hA hP
  have g0 : Γ (α 0) = 40 := tyAt hA (i := 0) rfl
  have g1 : Γ (α 1) = 43 := tyAt hA (i := 1) rfl
  have b2 : 0 ≤ ρ 2 ∧ ρ 2 ≤ 25453 := hB 2
  have b3 : -2147483648 ≤ ρ 3 ∧ ρ 3 ≤ 2147483647 := hB 3
  have h0 : Γ (α 0) = 40 ∧ tyO Γ M (α 0) [(6, 43, [(0, 27768)])] ∧ Q115 g (vw M (α 0) 6 [(0, 27768)]) (clp [] (M.2.2.2.2 (α 0))) (ρ 2 + 0) := hP _ (List.mem_of_getElem? (i := 0) rfl)
  have h1 : 0 ≤ (6 : Int) ∧ M.2.2.2.1 (α 0) (6 : Int).toNat = some (α 1) := hP _ (List.mem_of_getElem? (i := 1) rfl)
  have h2 : 0 ≤ (ρ 2 + 2314 : Int) ∧ M.2.2.2.2 (α 1) (ρ 2 + 2314 : Int).toNat = ρ 3 + 0 := hP _ (List.mem_of_getElem? (i := 2) rfl)
  try simp only [Int.add_zero] at h0 h1 h2
  have key : (Γ (α 0) = 40 ∧ M.2.2.2.1 (α 0) 6 = some (α 1) ∧ Γ (α 1) = 43 ∧ tyO Γ M (α 0) [] ∧ Q206 g (hcl [vi (ρ 2 + 0)] (clp [(0, 27768)] (M.2.2.2.2 (α 1))))  (clp [] (M.2.2.2.2 (α 0))) (ρ 2 + 0) (ρ 3 + 0)) ∧ True := by
    try simp only [Int.add_zero]
    have e6 : fl M (α 0) 6 = α 1 := fl_eq (show M.2.2.2.1 (α 0) 6 = some (α 1) from h1.2)
    
    obtain ⟨-, -, f, f1, f2⟩ := h0
    refine ⟨⟨g0, h1.2, g1, tyO_of hT g0 (by decide) (by decide), f, f1, fun c hc => ⟨fun q => ?_, fun q => ?_⟩, ?_⟩, trivial⟩
    · rw [hcl1 (by omega), ← e6]
      exact (f2 c hc).1 q
    · rw [hcl1 (by omega), ← e6]
      exact (f2 c hc).2 (by omega)
    · have x := (f2 ((ρ 2).toNat + 2314) (by omega)).2 (by omega)
      have e : M.2.2.2.2 (α 1) ((ρ 2).toNat + 2314) = ρ 3 := by
        have := h2.2
        rw [show (ρ 2 + 2314).toNat = (ρ 2).toNat + 2314 by omega] at this
        exact this
      rw [← x]
      show ρ 3 = clp [(0, 27768)] (M.2.2.2.2 (fl M (α 0) 6)) _
      rw [e6, cAll (by omega)]
      exact e.symm
  exact ⟨nB, qB (key.1) (nB)⟩
def t_ka2 : KT := ((0, 0, 0, 0), [(2, 0, 40, 0), (2, 1, 43, 0), (1, 2, 0, 0), (1, 3, 0, 0)], [(0, 0), (0, 0), (0, 25453), (-2147483648, 2147483647)], [(206, [(2, 1, 43, 0), (1, 2, 0, 0), (2, 0, 40, 0), (1, 3, 0, 0)]), (10, [(2, 1, 43, 0), (1, 2, 0, 0), (1, 3, 0, 0)])], (0, 0, 0), [], [], ([], [(115, [(2, 0, 40, 0), (1, 2, 0, 1)])]), ([], []))
theorem l_ka2 (g : GG) : LOK Yt (PSt g) t_ka2 := by
  intro ρ α Γ M as hT hB hA hP
  have g0 : Γ (α 0) = 40 := tyAt hA (i := 0) rfl
  have g1 : Γ (α 1) = 43 := tyAt hA (i := 1) rfl
  have b2 : 0 ≤ ρ 2 ∧ ρ 2 ≤ 25453 := hB 2
  have b3 : -2147483648 ≤ ρ 3 ∧ ρ 3 ≤ 2147483647 := hB 3
  have h0 : Γ (α 0) = 40 ∧ M.2.2.2.1 (α 0) 6 = some (α 1) ∧ Γ (α 1) = 43 ∧ tyO Γ M (α 0) [] ∧ Q206 g (hcl [vi (ρ 2 + 0)] (clp [(0, 27768)] (M.2.2.2.2 (α 1))))  (clp [] (M.2.2.2.2 (α 0))) (ρ 2 + 0) (ρ 3 + 0) := hP _ (List.mem_of_getElem? (i := 0) rfl)
  have h1 : 0 ≤ (ρ 2 + 0 : Int) ∧ M.2.2.2.2 (α 1) (ρ 2 + 0 : Int).toNat = ρ 3 + 0 := hP _ (List.mem_of_getElem? (i := 1) rfl)
  try simp only [Int.add_zero] at h0 h1
  have key : (Γ (α 0) = 40 ∧ tyO Γ M (α 0) [(6, 43, [(0, 27768)])] ∧ Q115 g (vw M (α 0) 6 [(0, 27768)]) (clp [] (M.2.2.2.2 (α 0))) (ρ 2 + 1)) ∧ True := by
    try simp only [Int.add_zero]
    obtain ⟨-, hr, -, -, f, f1, f2, f3⟩ := h0
    have e6 : fl M (α 0) 6 = α 1 := fl_eq hr
    refine ⟨⟨g0, tyO_of hT g0 (by decide) (by decide), f, f1, fun c hc => ⟨fun q => ?_, fun q => ?_⟩⟩, trivial⟩
    · show clp [(0, 27768)] (M.2.2.2.2 (fl M (α 0) 6)) c = _
      rw [e6]
      by_cases hq : (c : Int) < ρ 2
      · have := (f2 c hc).1 hq
        rw [hcl1 (by omega)] at this
        exact this
      · have ec : c = (ρ 2).toNat := by omega
        rw [ec, cAll (by omega), h1.2]
        exact f3
    · show clp [(0, 27768)] (M.2.2.2.2 (fl M (α 0) 6)) c = _
      rw [e6]
      have := (f2 c hc).2 (by omega)
      rw [hcl1 (by omega)] at this
      exact this
  exact ⟨nB, qB (key.1) (nB)⟩
def t_ka3 : KT := ((0, 0, 0, 0), [(2, 0, 40, 0), (1, 1, 0, 0)], [(0, 0), (25454, 25454)], [(115, [(2, 0, 40, 0), (1, 1, 0, 0)])], (0, 0, 0), [], [], ([], [(107, [(2, 0, 40, 0)])]), ([], []))
theorem l_ka3 (g : GG) : LOK Yt (PSt g) t_ka3 := by
  intro ρ α Γ M as hT hB hA hP
  have g0 : Γ (α 0) = 40 := tyAt hA (i := 0) rfl
  have b1 : 25454 ≤ ρ 1 ∧ ρ 1 ≤ 25454 := hB 1
  have h0 : Γ (α 0) = 40 ∧ tyO Γ M (α 0) [(6, 43, [(0, 27768)])] ∧ Q115 g (vw M (α 0) 6 [(0, 27768)]) (clp [] (M.2.2.2.2 (α 0))) (ρ 1 + 0) := hP _ (List.mem_of_getElem? (i := 0) rfl)
  try simp only [Int.add_zero] at h0
  have key : (Γ (α 0) = 40 ∧ tyO Γ M (α 0) [(6, 43, [(0, 27768)])] ∧ Q107 g (vw M (α 0) 6 [(0, 27768)]) (clp [] (M.2.2.2.2 (α 0))) ) ∧ True := by
    try simp only [Int.add_zero]
    obtain ⟨-, -, f, f1, f2⟩ := h0
    refine ⟨⟨g0, tyO_of hT g0 (by decide) (by decide), fun i hi => ?_⟩, trivial⟩
    by_cases h11 : i = 11
    · exact RIF_c (f := fun c => f (2314 * i + c)) (fun k hk => (f2 (2314 * i + k) (by omega)).2 (by omega)) (f1 i hi)
    · exact RIF_c (f := fun c => f (2314 * (i + 1) + c)) (fun k hk => by
        have := (f2 (2314 * i + k) (by omega)).1 (by omega)
        rw [show 2314 * i + k + 2314 = 2314 * (i + 1) + k by omega] at this
        exact this) (f1 (i + 1) (by omega))
  exact ⟨nB, qB (key.1) (nB)⟩
def t_ka4 : KT := ((0, 0, 0, 0), [(2, 0, 40, 0), (1, 1, 0, 0)], [(0, 0), (0, 0)], [(107, [(2, 0, 40, 0)])], (0, 0, 0), [], [], ([], [(116, [(2, 0, 40, 0), (1, 1, 0, 0)])]), ([], []))
theorem l_ka4 (g : GG) : LOK Yt (PSt g) t_ka4 := by
  intro ρ α Γ M as hT hB hA hP
  have g0 : Γ (α 0) = 40 := tyAt hA (i := 0) rfl
  have b1 : 0 ≤ ρ 1 ∧ ρ 1 ≤ 0 := hB 1
  have h0 : Γ (α 0) = 40 ∧ tyO Γ M (α 0) [(6, 43, [(0, 27768)])] ∧ Q107 g (vw M (α 0) 6 [(0, 27768)]) (clp [] (M.2.2.2.2 (α 0)))  := hP _ (List.mem_of_getElem? (i := 0) rfl)
  try simp only [Int.add_zero] at h0
  have key : (Γ (α 0) = 40 ∧ tyO Γ M (α 0) [(6, 43, [(0, 27768)]), (1, 41, [(0, 2314)])] ∧ Q116 g (vw M (α 0) 6 [(0, 27768)]) (vw M (α 0) 1 [(0, 2314)]) (clp [(7, 8)] (M.2.2.2.2 (α 0))) (ρ 1 + 0)) ∧ True := by
    try simp only [Int.add_zero]
    obtain ⟨-, -, h⟩ := h0
    exact ⟨⟨g0, tyO_of hT g0 (by decide) (by decide), fun i hi _ => h i hi, fun j hj => by omega⟩, trivial⟩
  exact ⟨nB, qB (key.1) (nB)⟩
def t_ka5 : KT := ((0, 0, 0, 0), [(2, 0, 40, 0), (2, 1, 43, 0), (2, 2, 41, 0), (1, 3, 0, 0), (1, 4, 0, 0), (1, 5, 0, 0), (1, 6, 0, 0), (1, 7, 0, 0)], [(0, 0), (0, 0), (0, 0), (0, 11), (0, 2313), (-2147483648, 2147483647), (-2147483648, 2147483647), (-2147483648, 2147483647)], [(116, [(2, 0, 40, 0), (1, 4, 0, 0)]), (11, [(2, 0, 40, 0), (0, 0, 0, 6), (2, 1, 43, 0)]), (11, [(2, 0, 40, 0), (0, 0, 0, 1), (2, 2, 41, 0)]), (10, [(2, 0, 40, 0), (0, 0, 0, 7), (1, 3, 0, 0)]), (25, [(1, 3, 0, 0), (0, 0, 0, 2314), (1, 5, 0, 0)]), (23, [(1, 5, 0, 0), (1, 4, 0, 0), (1, 6, 0, 0)]), (10, [(2, 2, 41, 0), (1, 4, 0, 0), (1, 7, 0, 0)])], (0, 0, 0), [], [], ([], [(207, [(2, 1, 43, 0), (1, 6, 0, 0), (2, 0, 40, 0), (1, 4, 0, 0), (1, 7, 0, 0)])]), ([], []))
theorem l_ka5 (g : GG) : LOK Yt (PSt g) t_ka5 := by
  intro ρ α Γ M as hT hB hA hP
  have g0 : Γ (α 0) = 40 := tyAt hA (i := 0) rfl
  have g1 : Γ (α 1) = 43 := tyAt hA (i := 1) rfl
  have g2 : Γ (α 2) = 41 := tyAt hA (i := 2) rfl
  have b3 : 0 ≤ ρ 3 ∧ ρ 3 ≤ 11 := hB 3
  have b4 : 0 ≤ ρ 4 ∧ ρ 4 ≤ 2313 := hB 4
  have b5 : -2147483648 ≤ ρ 5 ∧ ρ 5 ≤ 2147483647 := hB 5
  have b6 : -2147483648 ≤ ρ 6 ∧ ρ 6 ≤ 2147483647 := hB 6
  have b7 : -2147483648 ≤ ρ 7 ∧ ρ 7 ≤ 2147483647 := hB 7
  have h0 : Γ (α 0) = 40 ∧ tyO Γ M (α 0) [(6, 43, [(0, 27768)]), (1, 41, [(0, 2314)])] ∧ Q116 g (vw M (α 0) 6 [(0, 27768)]) (vw M (α 0) 1 [(0, 2314)]) (clp [(7, 8)] (M.2.2.2.2 (α 0))) (ρ 4 + 0) := hP _ (List.mem_of_getElem? (i := 0) rfl)
  have h1 : 0 ≤ (6 : Int) ∧ M.2.2.2.1 (α 0) (6 : Int).toNat = some (α 1) := hP _ (List.mem_of_getElem? (i := 1) rfl)
  have h2 : 0 ≤ (1 : Int) ∧ M.2.2.2.1 (α 0) (1 : Int).toNat = some (α 2) := hP _ (List.mem_of_getElem? (i := 2) rfl)
  have h3 : 0 ≤ (7 : Int) ∧ M.2.2.2.2 (α 0) (7 : Int).toNat = ρ 3 + 0 := hP _ (List.mem_of_getElem? (i := 3) rfl)
  have h4 : ρ 5 + 0 = wI ((ρ 3 + 0) * (2314)) := hP _ (List.mem_of_getElem? (i := 4) rfl)
  have h5 : ρ 6 + 0 = wI ((ρ 5 + 0) + (ρ 4 + 0)) := hP _ (List.mem_of_getElem? (i := 5) rfl)
  have h6 : 0 ≤ (ρ 4 + 0 : Int) ∧ M.2.2.2.2 (α 2) (ρ 4 + 0 : Int).toNat = ρ 7 + 0 := hP _ (List.mem_of_getElem? (i := 6) rfl)
  try simp only [Int.add_zero] at h0 h1 h2 h3 h4 h5 h6
  have key : (Γ (α 0) = 40 ∧ M.2.2.2.1 (α 0) 6 = some (α 1) ∧ Γ (α 1) = 43 ∧ tyO Γ M (α 0) [(1, 41, [(0, 2314)])] ∧ Q207 g (hcl [vi (ρ 6 + 0)] (clp [(0, 27768)] (M.2.2.2.2 (α 1)))) (vw M (α 0) 1 [(0, 2314)]) (clp [(7, 8)] (M.2.2.2.2 (α 0))) (ρ 6 + 0) (ρ 4 + 0) (ρ 7 + 0)) ∧ True := by
    try simp only [Int.add_zero]
    have e6 : fl M (α 0) 6 = α 1 := fl_eq (show M.2.2.2.1 (α 0) 6 = some (α 1) from h1.2)
    have e1 : fl M (α 0) 1 = α 2 := fl_eq (show M.2.2.2.1 (α 0) 1 = some (α 2) from h2.2)
    
    rw [wI_id (by unfold inI; omega)] at h4
    rw [h4, wI_id (by unfold inI; omega)] at h5
    have x7 : M.2.2.2.2 (α 0) 7 = ρ 3 := h3.2
    have eo : clp [(7, 8)] (M.2.2.2.2 (α 0)) 7 = ρ 3 := by rw [clp_in 7 8 (by decide) (by decide) (by decide)]; exact x7
    
    obtain ⟨-, -, f1, f2⟩ := h0
    have f1 : ∀ i : Nat, i < 12 → (i : Int) ≠ clp [(7, 8)] (M.2.2.2.2 (α 0)) 7 → RIF fun c => clp [(0, 27768)] (M.2.2.2.2 (fl M (α 0) 6)) (2314 * i + c) := f1
    have f2 : ∀ j : Nat, (j : Int) < ρ 4 → clp [(0, 27768)] (M.2.2.2.2 (fl M (α 0) 6)) (2314 * (clp [(7, 8)] (M.2.2.2.2 (α 0)) 7).toNat + j) = clp [(0, 2314)] (M.2.2.2.2 (fl M (α 0) 1)) j := f2
    rw [eo] at f1 f2
    refine ⟨⟨g0, h1.2, g1, tyO_of hT g0 (by decide) (by decide), ?_, ?_, fun i hi hn => ?_, fun j hj => ?_, ?_⟩, trivial⟩
    · rw [eo]
      exact b3
    · rw [eo]
      omega
    · rw [eo] at hn
      exact RIF_c (f := fun c => clp [(0, 27768)] (M.2.2.2.2 (fl M (α 0) 6)) (2314 * i + c)) (fun k hk => by rw [hcl1 (by omega), e6]) (f1 i hi hn)
    · rw [eo, hcl1 (by omega), ← e6]
      exact f2 j hj
    · show ρ 7 = clp [(0, 2314)] (M.2.2.2.2 (fl M (α 0) 1)) (ρ 4).toNat
      rw [e1, cAll (by omega)]
      exact h6.2.symm
  exact ⟨nB, qB (key.1) (nB)⟩
def t_ka6 : KT := ((0, 0, 0, 0), [(2, 0, 40, 0), (2, 1, 43, 0), (1, 2, 0, 0), (1, 3, 0, 0), (1, 4, 0, 0)], [(0, 0), (0, 0), (0, 2313), (-2147483648, 2147483647), (-2147483648, 2147483647)], [(207, [(2, 1, 43, 0), (1, 3, 0, 0), (2, 0, 40, 0), (1, 2, 0, 0), (1, 4, 0, 0)]), (10, [(2, 1, 43, 0), (1, 3, 0, 0), (1, 4, 0, 0)])], (0, 0, 0), [], [], ([], [(116, [(2, 0, 40, 0), (1, 2, 0, 1)])]), ([], []))
theorem l_ka6 (g : GG) : LOK Yt (PSt g) t_ka6 := by
  intro ρ α Γ M as hT hB hA hP
  have g0 : Γ (α 0) = 40 := tyAt hA (i := 0) rfl
  have g1 : Γ (α 1) = 43 := tyAt hA (i := 1) rfl
  have b2 : 0 ≤ ρ 2 ∧ ρ 2 ≤ 2313 := hB 2
  have b3 : -2147483648 ≤ ρ 3 ∧ ρ 3 ≤ 2147483647 := hB 3
  have b4 : -2147483648 ≤ ρ 4 ∧ ρ 4 ≤ 2147483647 := hB 4
  have h0 : Γ (α 0) = 40 ∧ M.2.2.2.1 (α 0) 6 = some (α 1) ∧ Γ (α 1) = 43 ∧ tyO Γ M (α 0) [(1, 41, [(0, 2314)])] ∧ Q207 g (hcl [vi (ρ 3 + 0)] (clp [(0, 27768)] (M.2.2.2.2 (α 1)))) (vw M (α 0) 1 [(0, 2314)]) (clp [(7, 8)] (M.2.2.2.2 (α 0))) (ρ 3 + 0) (ρ 2 + 0) (ρ 4 + 0) := hP _ (List.mem_of_getElem? (i := 0) rfl)
  have h1 : 0 ≤ (ρ 3 + 0 : Int) ∧ M.2.2.2.2 (α 1) (ρ 3 + 0 : Int).toNat = ρ 4 + 0 := hP _ (List.mem_of_getElem? (i := 1) rfl)
  try simp only [Int.add_zero] at h0 h1
  have key : (Γ (α 0) = 40 ∧ tyO Γ M (α 0) [(6, 43, [(0, 27768)]), (1, 41, [(0, 2314)])] ∧ Q116 g (vw M (α 0) 6 [(0, 27768)]) (vw M (α 0) 1 [(0, 2314)]) (clp [(7, 8)] (M.2.2.2.2 (α 0))) (ρ 2 + 1)) ∧ True := by
    try simp only [Int.add_zero]
    obtain ⟨-, hr, -, -, ho, hi, f1, f2, f3⟩ := h0
    have e6 : fl M (α 0) 6 = α 1 := fl_eq hr
    have ho : 0 ≤ clp [(7, 8)] (M.2.2.2.2 (α 0)) 7 ∧ clp [(7, 8)] (M.2.2.2.2 (α 0)) 7 ≤ 11 := ho
    have hi : ρ 3 = 2314 * clp [(7, 8)] (M.2.2.2.2 (α 0)) 7 + ρ 2 := hi
    refine ⟨⟨g0, tyO_of hT g0 (by decide) (by decide), fun i hi2 hn => ?_, fun j hj => ?_⟩, trivial⟩
    · have hn : (i : Int) ≠ clp [(7, 8)] (M.2.2.2.2 (α 0)) 7 := hn
      exact RIF_c (f := fun c => hcl [vi (ρ 3)] (clp [(0, 27768)] (M.2.2.2.2 (α 1))) (2314 * i + c)) (fun k hk => by
        show clp [(0, 27768)] (M.2.2.2.2 (fl M (α 0) 6)) (2314 * i + k) = _
        rw [e6, hcl1 (by omega)]) (f1 i hi2 hn)
    · show clp [(0, 27768)] (M.2.2.2.2 (fl M (α 0) 6)) (2314 * (clp [(7, 8)] (M.2.2.2.2 (α 0)) 7).toNat + j) = vw M (α 0) 1 [(0, 2314)] j
      rw [e6]
      by_cases hc : (j : Int) < ρ 2
      · have := f2 j hc
        have this : hcl [vi (ρ 3)] (clp [(0, 27768)] (M.2.2.2.2 (α 1))) (2314 * (clp [(7, 8)] (M.2.2.2.2 (α 0)) 7).toNat + j) = vw M (α 0) 1 [(0, 2314)] j := this
        rw [hcl1 (by omega)] at this
        exact this
      · have ej : j = (ρ 2).toNat := by omega
        have ei : 2314 * (clp [(7, 8)] (M.2.2.2.2 (α 0)) 7).toNat + j = (ρ 3).toNat := by omega
        rw [ei, cAll (by omega), h1.2, ej]
        exact f3
  exact ⟨nB, qB (key.1) (nB)⟩
def t_ka7 : KT := ((0, 0, 0, 0), [(2, 0, 40, 0), (1, 1, 0, 0)], [(0, 0), (2314, 2314)], [(116, [(2, 0, 40, 0), (1, 1, 0, 0)]), (100, [(2, 0, 40, 0)]), (101, [(2, 0, 40, 0)])], (0, 0, 0), [], [], ([], [(107, [(2, 0, 40, 0)])]), ([], []))
theorem l_ka7 (g : GG) : LOK Yt (PSt g) t_ka7 := by
  intro ρ α Γ M as hT hB hA hP
  have g0 : Γ (α 0) = 40 := tyAt hA (i := 0) rfl
  have b1 : 2314 ≤ ρ 1 ∧ ρ 1 ≤ 2314 := hB 1
  have h0 : Γ (α 0) = 40 ∧ tyO Γ M (α 0) [(6, 43, [(0, 27768)]), (1, 41, [(0, 2314)])] ∧ Q116 g (vw M (α 0) 6 [(0, 27768)]) (vw M (α 0) 1 [(0, 2314)]) (clp [(7, 8)] (M.2.2.2.2 (α 0))) (ρ 1 + 0) := hP _ (List.mem_of_getElem? (i := 0) rfl)
  have h1 : Γ (α 0) = 40 ∧ tyO Γ M (α 0) [(1, 41, [(2, 4), (586, 730), (874, 1018)])] ∧ Q100 g (vw M (α 0) 1 [(2, 4), (586, 730), (874, 1018)]) (clp [] (M.2.2.2.2 (α 0)))  := hP _ (List.mem_of_getElem? (i := 1) rfl)
  have h2 : Γ (α 0) = 40 ∧ tyO Γ M (α 0) [(1, 41, [(0, 2), (4, 5), (298, 442), (874, 1018)])] ∧ Q101 g (vw M (α 0) 1 [(0, 2), (4, 5), (298, 442), (874, 1018)]) (clp [] (M.2.2.2.2 (α 0)))  := hP _ (List.mem_of_getElem? (i := 2) rfl)
  try simp only [Int.add_zero] at h0 h1 h2
  have key : (Γ (α 0) = 40 ∧ tyO Γ M (α 0) [(6, 43, [(0, 27768)])] ∧ Q107 g (vw M (α 0) 6 [(0, 27768)]) (clp [] (M.2.2.2.2 (α 0))) ) ∧ True := by
    try simp only [Int.add_zero]
    obtain ⟨-, -, f1, f2⟩ := h0
    have f1 : ∀ i : Nat, i < 12 → (i : Int) ≠ clp [(7, 8)] (M.2.2.2.2 (α 0)) 7 → RIF fun c => clp [(0, 27768)] (M.2.2.2.2 (fl M (α 0) 6)) (2314 * i + c) := f1
    have f2 : ∀ j : Nat, (j : Int) < ρ 1 → clp [(0, 27768)] (M.2.2.2.2 (fl M (α 0) 6)) (2314 * (clp [(7, 8)] (M.2.2.2.2 (α 0)) 7).toNat + j) = clp [(0, 2314)] (M.2.2.2.2 (fl M (α 0) 1)) j := f2
    have rn : RIF (M.2.2.2.2 (fl M (α 0) 1)) := ⟨c100.mp h1.2.2, c101.mp h2.2.2⟩
    refine ⟨⟨g0, tyO_of hT g0 (by decide) (by decide), fun i hi => ?_⟩, trivial⟩
    by_cases hc : (i : Int) = clp [(7, 8)] (M.2.2.2.2 (α 0)) 7
    · exact RIF_c (f := M.2.2.2.2 (fl M (α 0) 1)) (fun k hk => by
        have := f2 k (by omega)
        rw [show (clp [(7, 8)] (M.2.2.2.2 (α 0)) 7).toNat = i by omega, cAll hk] at this
        exact this) rn
    · exact f1 i hi hc
  exact ⟨nB, qB (key.1) (nB)⟩
def t_un0 : KT := ((0, 0, 0, 0), [(2, 0, 40, 0), (1, 1, 0, 0)], [(0, 0), (0, 0)], [], (0, 0, 0), [], [], ([], [(114, [(2, 0, 40, 0), (1, 1, 0, 0)])]), ([], []))
theorem l_un0 (g : GG) : LOK Yt (PSt g) t_un0 := by
  intro ρ α Γ M as hT hB hA hP
  have g0 : Γ (α 0) = 40 := tyAt hA (i := 0) rfl
  have b1 : 0 ≤ ρ 1 ∧ ρ 1 ≤ 0 := hB 1
  have key : (Γ (α 0) = 40 ∧ tyO Γ M (α 0) [(1, 41, [(0, 2314)]), (6, 43, [(0, 27768)])] ∧ Q114 g (vw M (α 0) 1 [(0, 2314)]) (vw M (α 0) 6 [(0, 27768)]) (clp [(7, 8)] (M.2.2.2.2 (α 0))) (ρ 1 + 0)) ∧ True := by
    try simp only [Int.add_zero]
    exact ⟨⟨g0, tyO_of hT g0 (by decide) (by decide), fun j hj => by omega⟩, trivial⟩
  exact ⟨nB, qB (key.1) (nB)⟩
def t_un1 : KT := ((0, 0, 0, 0), [(2, 0, 40, 0), (2, 1, 43, 0), (2, 2, 41, 0), (1, 3, 0, 0), (1, 4, 0, 0), (1, 5, 0, 0), (1, 6, 0, 0), (1, 7, 0, 0)], [(0, 0), (0, 0), (0, 0), (0, 11), (0, 2313), (-2147483648, 2147483647), (-2147483648, 2147483647), (-2147483648, 2147483647)], [(114, [(2, 0, 40, 0), (1, 4, 0, 0)]), (11, [(2, 0, 40, 0), (0, 0, 0, 6), (2, 1, 43, 0)]), (11, [(2, 0, 40, 0), (0, 0, 0, 1), (2, 2, 41, 0)]), (10, [(2, 0, 40, 0), (0, 0, 0, 7), (1, 3, 0, 0)]), (25, [(1, 3, 0, 0), (0, 0, 0, 2314), (1, 5, 0, 0)]), (23, [(1, 5, 0, 0), (1, 4, 0, 0), (1, 6, 0, 0)]), (10, [(2, 1, 43, 0), (1, 6, 0, 0), (1, 7, 0, 0)])], (0, 0, 0), [], [], ([], [(205, [(2, 2, 41, 0), (1, 4, 0, 0), (2, 0, 40, 0), (1, 7, 0, 0)])]), ([], []))
theorem l_un1 (g : GG) : LOK Yt (PSt g) t_un1 := by
  intro ρ α Γ M as hT hB hA hP
  have g0 : Γ (α 0) = 40 := tyAt hA (i := 0) rfl
  have g1 : Γ (α 1) = 43 := tyAt hA (i := 1) rfl
  have g2 : Γ (α 2) = 41 := tyAt hA (i := 2) rfl
  have b3 : 0 ≤ ρ 3 ∧ ρ 3 ≤ 11 := hB 3
  have b4 : 0 ≤ ρ 4 ∧ ρ 4 ≤ 2313 := hB 4
  have b5 : -2147483648 ≤ ρ 5 ∧ ρ 5 ≤ 2147483647 := hB 5
  have b6 : -2147483648 ≤ ρ 6 ∧ ρ 6 ≤ 2147483647 := hB 6
  have b7 : -2147483648 ≤ ρ 7 ∧ ρ 7 ≤ 2147483647 := hB 7
  have h0 : Γ (α 0) = 40 ∧ tyO Γ M (α 0) [(1, 41, [(0, 2314)]), (6, 43, [(0, 27768)])] ∧ Q114 g (vw M (α 0) 1 [(0, 2314)]) (vw M (α 0) 6 [(0, 27768)]) (clp [(7, 8)] (M.2.2.2.2 (α 0))) (ρ 4 + 0) := hP _ (List.mem_of_getElem? (i := 0) rfl)
  have h1 : 0 ≤ (6 : Int) ∧ M.2.2.2.1 (α 0) (6 : Int).toNat = some (α 1) := hP _ (List.mem_of_getElem? (i := 1) rfl)
  have h2 : 0 ≤ (1 : Int) ∧ M.2.2.2.1 (α 0) (1 : Int).toNat = some (α 2) := hP _ (List.mem_of_getElem? (i := 2) rfl)
  have h3 : 0 ≤ (7 : Int) ∧ M.2.2.2.2 (α 0) (7 : Int).toNat = ρ 3 + 0 := hP _ (List.mem_of_getElem? (i := 3) rfl)
  have h4 : ρ 5 + 0 = wI ((ρ 3 + 0) * (2314)) := hP _ (List.mem_of_getElem? (i := 4) rfl)
  have h5 : ρ 6 + 0 = wI ((ρ 5 + 0) + (ρ 4 + 0)) := hP _ (List.mem_of_getElem? (i := 5) rfl)
  have h6 : 0 ≤ (ρ 6 + 0 : Int) ∧ M.2.2.2.2 (α 1) (ρ 6 + 0 : Int).toNat = ρ 7 + 0 := hP _ (List.mem_of_getElem? (i := 6) rfl)
  try simp only [Int.add_zero] at h0 h1 h2 h3 h4 h5 h6
  have key : (Γ (α 0) = 40 ∧ M.2.2.2.1 (α 0) 1 = some (α 2) ∧ Γ (α 2) = 41 ∧ tyO Γ M (α 0) [(6, 43, [(0, 27768)])] ∧ Q205 g (hcl [vi (ρ 4 + 0)] (clp [(0, 2314)] (M.2.2.2.2 (α 2)))) (vw M (α 0) 6 [(0, 27768)]) (clp [(7, 8)] (M.2.2.2.2 (α 0))) (ρ 4 + 0) (ρ 7 + 0)) ∧ True := by
    try simp only [Int.add_zero]
    have e6 : fl M (α 0) 6 = α 1 := fl_eq (show M.2.2.2.1 (α 0) 6 = some (α 1) from h1.2)
    have e1 : fl M (α 0) 1 = α 2 := fl_eq (show M.2.2.2.1 (α 0) 1 = some (α 2) from h2.2)
    
    rw [wI_id (by unfold inI; omega)] at h4
    rw [h4, wI_id (by unfold inI; omega)] at h5
    have x7 : M.2.2.2.2 (α 0) 7 = ρ 3 := h3.2
    have eo : clp [(7, 8)] (M.2.2.2.2 (α 0)) 7 = ρ 3 := by rw [clp_in 7 8 (by decide) (by decide) (by decide)]; exact x7
    
    obtain ⟨-, -, h⟩ := h0
    refine ⟨⟨g0, h2.2, g2, tyO_of hT g0 (by decide) (by decide), fun j hj => ?_, ?_⟩, trivial⟩
    · rw [hcl1 (by omega), ← e1]
      exact h j hj
    · show ρ 7 = clp [(0, 27768)] (M.2.2.2.2 (fl M (α 0) 6)) (2314 * (clp [(7, 8)] (M.2.2.2.2 (α 0)) 7).toNat + (ρ 4).toNat)
      rw [e6, eo, cAll (by omega)]
      have := h6.2
      rw [show (ρ 6).toNat = 2314 * (ρ 3).toNat + (ρ 4).toNat by omega] at this
      exact this.symm
  exact ⟨nB, qB (key.1) (nB)⟩
def t_un2 : KT := ((0, 0, 0, 0), [(2, 0, 40, 0), (2, 1, 41, 0), (1, 2, 0, 0), (1, 3, 0, 0)], [(0, 0), (0, 0), (0, 2313), (-2147483648, 2147483647)], [(205, [(2, 1, 41, 0), (1, 2, 0, 0), (2, 0, 40, 0), (1, 3, 0, 0)]), (10, [(2, 1, 41, 0), (1, 2, 0, 0), (1, 3, 0, 0)])], (0, 0, 0), [], [], ([], [(114, [(2, 0, 40, 0), (1, 2, 0, 1)])]), ([], []))
theorem l_un2 (g : GG) : LOK Yt (PSt g) t_un2 := by
  intro ρ α Γ M as hT hB hA hP
  have g0 : Γ (α 0) = 40 := tyAt hA (i := 0) rfl
  have g1 : Γ (α 1) = 41 := tyAt hA (i := 1) rfl
  have b2 : 0 ≤ ρ 2 ∧ ρ 2 ≤ 2313 := hB 2
  have b3 : -2147483648 ≤ ρ 3 ∧ ρ 3 ≤ 2147483647 := hB 3
  have h0 : Γ (α 0) = 40 ∧ M.2.2.2.1 (α 0) 1 = some (α 1) ∧ Γ (α 1) = 41 ∧ tyO Γ M (α 0) [(6, 43, [(0, 27768)])] ∧ Q205 g (hcl [vi (ρ 2 + 0)] (clp [(0, 2314)] (M.2.2.2.2 (α 1)))) (vw M (α 0) 6 [(0, 27768)]) (clp [(7, 8)] (M.2.2.2.2 (α 0))) (ρ 2 + 0) (ρ 3 + 0) := hP _ (List.mem_of_getElem? (i := 0) rfl)
  have h1 : 0 ≤ (ρ 2 + 0 : Int) ∧ M.2.2.2.2 (α 1) (ρ 2 + 0 : Int).toNat = ρ 3 + 0 := hP _ (List.mem_of_getElem? (i := 1) rfl)
  try simp only [Int.add_zero] at h0 h1
  have key : (Γ (α 0) = 40 ∧ tyO Γ M (α 0) [(1, 41, [(0, 2314)]), (6, 43, [(0, 27768)])] ∧ Q114 g (vw M (α 0) 1 [(0, 2314)]) (vw M (α 0) 6 [(0, 27768)]) (clp [(7, 8)] (M.2.2.2.2 (α 0))) (ρ 2 + 1)) ∧ True := by
    try simp only [Int.add_zero]
    obtain ⟨-, hr, -, ht, h, hv⟩ := h0
    have ed : fl M (α 0) 1 = α 1 := fl_eq hr
    refine ⟨⟨g0, tyO_of hT g0 (by decide) (by decide), fun j hj => ?_⟩, trivial⟩
    show clp [(0, 2314)] (M.2.2.2.2 (fl M (α 0) 1)) j = clp [(0, 27768)] (M.2.2.2.2 (fl M (α 0) 6)) (2314 * (clp [(7, 8)] (M.2.2.2.2 (α 0)) 7).toNat + j)
    rw [ed]
    by_cases hc : (j : Int) < ρ 2
    · have := h j hc
      rw [hcl1 (by omega)] at this
      exact this
    · have ej : j = (ρ 2).toNat := by omega
      rw [ej, cAll (by omega), h1.2]
      exact hv
  exact ⟨nB, qB (key.1) (nB)⟩
def t_un3 : KT := ((0, 0, 0, 0), [(2, 0, 40, 0), (1, 1, 0, 0), (1, 2, 0, 0)], [(0, 0), (2314, 2314), (0, 11)], [(114, [(2, 0, 40, 0), (1, 1, 0, 0)]), (107, [(2, 0, 40, 0)]), (10, [(2, 0, 40, 0), (0, 0, 0, 7), (1, 2, 0, 0)])], (0, 0, 0), [], [], ([], [(100, [(2, 0, 40, 0)]), (101, [(2, 0, 40, 0)])]), ([], []))
theorem l_un3 (g : GG) : LOK Yt (PSt g) t_un3 := by
  intro ρ α Γ M as hT hB hA hP
  have g0 : Γ (α 0) = 40 := tyAt hA (i := 0) rfl
  have b1 : 2314 ≤ ρ 1 ∧ ρ 1 ≤ 2314 := hB 1
  have b2 : 0 ≤ ρ 2 ∧ ρ 2 ≤ 11 := hB 2
  have h0 : Γ (α 0) = 40 ∧ tyO Γ M (α 0) [(1, 41, [(0, 2314)]), (6, 43, [(0, 27768)])] ∧ Q114 g (vw M (α 0) 1 [(0, 2314)]) (vw M (α 0) 6 [(0, 27768)]) (clp [(7, 8)] (M.2.2.2.2 (α 0))) (ρ 1 + 0) := hP _ (List.mem_of_getElem? (i := 0) rfl)
  have h1 : Γ (α 0) = 40 ∧ tyO Γ M (α 0) [(6, 43, [(0, 27768)])] ∧ Q107 g (vw M (α 0) 6 [(0, 27768)]) (clp [] (M.2.2.2.2 (α 0)))  := hP _ (List.mem_of_getElem? (i := 1) rfl)
  have h2 : 0 ≤ (7 : Int) ∧ M.2.2.2.2 (α 0) (7 : Int).toNat = ρ 2 + 0 := hP _ (List.mem_of_getElem? (i := 2) rfl)
  try simp only [Int.add_zero] at h0 h1 h2
  have key : (Γ (α 0) = 40 ∧ tyO Γ M (α 0) [(1, 41, [(2, 4), (586, 730), (874, 1018)])] ∧ Q100 g (vw M (α 0) 1 [(2, 4), (586, 730), (874, 1018)]) (clp [] (M.2.2.2.2 (α 0))) ) ∧ (Γ (α 0) = 40 ∧ tyO Γ M (α 0) [(1, 41, [(0, 2), (4, 5), (298, 442), (874, 1018)])] ∧ Q101 g (vw M (α 0) 1 [(0, 2), (4, 5), (298, 442), (874, 1018)]) (clp [] (M.2.2.2.2 (α 0))) ) ∧ True := by
    try simp only [Int.add_zero]
    obtain ⟨-, -, h⟩ := h0
    obtain ⟨-, -, h1⟩ := h1
    have x7 : M.2.2.2.2 (α 0) 7 = ρ 2 := h2.2
    have eo : clp [(7, 8)] (M.2.2.2.2 (α 0)) 7 = ρ 2 := by rw [clp_in 7 8 (by decide) (by decide) (by decide)]; exact x7
    have h : ∀ j : Nat, (j : Int) < ρ 1 → clp [(0, 2314)] (M.2.2.2.2 (fl M (α 0) 1)) j = clp [(0, 27768)] (M.2.2.2.2 (fl M (α 0) 6)) (2314 * (clp [(7, 8)] (M.2.2.2.2 (α 0)) 7).toNat + j) := h
    rw [eo] at h
    have rd : RIF (M.2.2.2.2 (fl M (α 0) 1)) := RIF_c (f := fun c => clp [(0, 27768)] (M.2.2.2.2 (fl M (α 0) 6)) (2314 * (ρ 2).toNat + c)) (fun k hk => by
      have := h k (by omega)
      rw [cAll hk] at this
      exact this) (h1 (ρ 2).toNat (by omega))
    exact ⟨⟨g0, tyO_of hT g0 (by decide) (by decide), c100.mpr rd.1⟩, ⟨g0, tyO_of hT g0 (by decide) (by decide), c101.mpr rd.2⟩, trivial⟩
  exact ⟨nB, qB (key.1) (qB (key.2.1) (nB))⟩
def t_sz0 : KT := ((0, 0, 0, 0), [(2, 0, 40, 0), (1, 1, 0, 0)], [(0, 0), (0, 0)], [], (0, 0, 0), [], [], ([], [(161, [(2, 0, 40, 0), (1, 1, 0, 0)])]), ([], []))
theorem l_sz0 (g : GG) : LOK Yt (PSt g) t_sz0 := by
  intro ρ α Γ M as hT hB hA hP
  have g0 : Γ (α 0) = 40 := tyAt hA (i := 0) rfl
  have b1 : 0 ≤ ρ 1 ∧ ρ 1 ≤ 0 := hB 1
  have key : (Γ (α 0) = 40 ∧ tyO Γ M (α 0) [(1, 41, [(2, 5), (874, 1018)])] ∧ Q161 g (vw M (α 0) 1 [(2, 5), (874, 1018)]) (clp [] (M.2.2.2.2 (α 0))) (ρ 1 + 0)) ∧ True := by
    try simp only [Int.add_zero]
    exact ⟨⟨g0, tyO_of hT g0 (by decide) (by decide), fun j hj => by omega⟩, trivial⟩
  exact ⟨nB, qB (key.1) (nB)⟩
def t_sz1 : KT := ((0, 0, 0, 0), [(2, 0, 40, 0), (2, 1, 41, 0), (1, 2, 0, 0)], [(0, 0), (0, 0), (0, 2313)], [(161, [(2, 0, 40, 0), (1, 2, 0, 0)]), (11, [(2, 0, 40, 0), (0, 0, 0, 1), (2, 1, 41, 0)])], (0, 0, 0), [], [], ([], [(213, [(2, 1, 41, 0), (1, 2, 0, 0), (2, 0, 40, 0)])]), ([], []))
theorem l_sz1 (g : GG) : LOK Yt (PSt g) t_sz1 := by
  intro ρ α Γ M as hT hB hA hP
  have g0 : Γ (α 0) = 40 := tyAt hA (i := 0) rfl
  have g1 : Γ (α 1) = 41 := tyAt hA (i := 1) rfl
  have b2 : 0 ≤ ρ 2 ∧ ρ 2 ≤ 2313 := hB 2
  have h0 : Γ (α 0) = 40 ∧ tyO Γ M (α 0) [(1, 41, [(2, 5), (874, 1018)])] ∧ Q161 g (vw M (α 0) 1 [(2, 5), (874, 1018)]) (clp [] (M.2.2.2.2 (α 0))) (ρ 2 + 0) := hP _ (List.mem_of_getElem? (i := 0) rfl)
  have h1 : 0 ≤ (1 : Int) ∧ M.2.2.2.1 (α 0) (1 : Int).toNat = some (α 1) := hP _ (List.mem_of_getElem? (i := 1) rfl)
  try simp only [Int.add_zero] at h0 h1
  have key : (Γ (α 0) = 40 ∧ M.2.2.2.1 (α 0) 1 = some (α 1) ∧ Γ (α 1) = 41 ∧ tyO Γ M (α 0) [] ∧ Q213 g (hcl [vi (ρ 2 + 0)] (clp [(2, 5), (874, 1018)] (M.2.2.2.2 (α 1))))  (clp [] (M.2.2.2.2 (α 0))) (ρ 2 + 0)) ∧ True := by
    try simp only [Int.add_zero]
    have e1 : fl M (α 0) 1 = α 1 := fl_eq (show M.2.2.2.1 (α 0) 1 = some (α 1) from h1.2)
    
    obtain ⟨-, -, h⟩ := h0
    refine ⟨⟨g0, h1.2, g1, tyO_of hT g0 (by decide) (by decide), fun j hj => ?_⟩, trivial⟩
    rw [hcl1 (by omega), ← e1]
    exact h j hj
  exact ⟨nB, qB (key.1) (nB)⟩
def t_sz2 : KT := ((0, 0, 0, 0), [(2, 0, 40, 0), (2, 1, 41, 0), (1, 2, 0, 0)], [(0, 0), (0, 0), (0, 2313)], [(213, [(2, 1, 41, 0), (1, 2, 0, 0), (2, 0, 40, 0)]), (10, [(2, 1, 41, 0), (1, 2, 0, 0), (0, 0, 0, 0)])], (0, 0, 0), [], [], ([], [(161, [(2, 0, 40, 0), (1, 2, 0, 1)])]), ([], []))
theorem l_sz2 (g : GG) : LOK Yt (PSt g) t_sz2 := by
  intro ρ α Γ M as hT hB hA hP
  have g0 : Γ (α 0) = 40 := tyAt hA (i := 0) rfl
  have g1 : Γ (α 1) = 41 := tyAt hA (i := 1) rfl
  have b2 : 0 ≤ ρ 2 ∧ ρ 2 ≤ 2313 := hB 2
  have h0 : Γ (α 0) = 40 ∧ M.2.2.2.1 (α 0) 1 = some (α 1) ∧ Γ (α 1) = 41 ∧ tyO Γ M (α 0) [] ∧ Q213 g (hcl [vi (ρ 2 + 0)] (clp [(2, 5), (874, 1018)] (M.2.2.2.2 (α 1))))  (clp [] (M.2.2.2.2 (α 0))) (ρ 2 + 0) := hP _ (List.mem_of_getElem? (i := 0) rfl)
  have h1 : 0 ≤ (ρ 2 + 0 : Int) ∧ M.2.2.2.2 (α 1) (ρ 2 + 0 : Int).toNat = 0 := hP _ (List.mem_of_getElem? (i := 1) rfl)
  try simp only [Int.add_zero] at h0 h1
  have key : (Γ (α 0) = 40 ∧ tyO Γ M (α 0) [(1, 41, [(2, 5), (874, 1018)])] ∧ Q161 g (vw M (α 0) 1 [(2, 5), (874, 1018)]) (clp [] (M.2.2.2.2 (α 0))) (ρ 2 + 1)) ∧ True := by
    try simp only [Int.add_zero]
    obtain ⟨-, hr, -, ht, h⟩ := h0
    have ed : fl M (α 0) 1 = α 1 := fl_eq hr
    refine ⟨⟨g0, tyO_of hT g0 (by decide) (by decide), fun j hj => ?_⟩, trivial⟩
    show clp [(2, 5), (874, 1018)] (M.2.2.2.2 (fl M (α 0) 1)) j = 0
    rw [ed]
    by_cases hc : (j : Int) < ρ 2
    · have := h j hc
      rw [hcl1 (by omega)] at this
      exact this
    · have ej : j = (ρ 2).toNat := by omega
      unfold clp
      rw [ej, h1.2]
      cases inR [(2, 5), (874, 1018)] (ρ 2).toNat <;> rfl
  exact ⟨nB, qB (key.1) (nB)⟩
def t_sz3 : KT := ((0, 0, 0, 0), [(2, 0, 40, 0), (1, 1, 0, 0)], [(0, 0), (2314, 2314)], [(161, [(2, 0, 40, 0), (1, 1, 0, 0)])], (0, 0, 0), [], [], ([], [(100, [(2, 0, 40, 0)]), (102, [(2, 0, 40, 0)]), (132, [(2, 0, 40, 0)])]), ([], []))
theorem l_sz3 (g : GG) : LOK Yt (PSt g) t_sz3 := by
  intro ρ α Γ M as hT hB hA hP
  have g0 : Γ (α 0) = 40 := tyAt hA (i := 0) rfl
  have b1 : 2314 ≤ ρ 1 ∧ ρ 1 ≤ 2314 := hB 1
  have h0 : Γ (α 0) = 40 ∧ tyO Γ M (α 0) [(1, 41, [(2, 5), (874, 1018)])] ∧ Q161 g (vw M (α 0) 1 [(2, 5), (874, 1018)]) (clp [] (M.2.2.2.2 (α 0))) (ρ 1 + 0) := hP _ (List.mem_of_getElem? (i := 0) rfl)
  try simp only [Int.add_zero] at h0
  have key : (Γ (α 0) = 40 ∧ tyO Γ M (α 0) [(1, 41, [(2, 4), (586, 730), (874, 1018)])] ∧ Q100 g (vw M (α 0) 1 [(2, 4), (586, 730), (874, 1018)]) (clp [] (M.2.2.2.2 (α 0))) ) ∧ (Γ (α 0) = 40 ∧ tyO Γ M (α 0) [(1, 41, [(4, 5)])] ∧ Q102 g (vw M (α 0) 1 [(4, 5)]) (clp [] (M.2.2.2.2 (α 0))) ) ∧ (Γ (α 0) = 40 ∧ tyO Γ M (α 0) [(1, 41, [(874, 1018)])] ∧ True) ∧ True := by
    try simp only [Int.add_zero]
    obtain ⟨-, -, h⟩ := h0
    have h : ∀ j : Nat, (j : Int) < ρ 1 → clp [(2, 5), (874, 1018)] (M.2.2.2.2 (fl M (α 0) 1)) j = 0 := h
    refine ⟨⟨g0, tyO_of hT g0 (by decide) (by decide), c100.mpr (clear_ok ?_ ?_ fun p hp => ?_)⟩, ⟨g0, tyO_of hT g0 (by decide) (by decide), ?_⟩, ⟨g0, tyO_of hT g0 (by decide) (by decide), trivial⟩, trivial⟩
    · have := h 2 (by omega)
      rw [clp_in 2 5 (by decide) (by decide) (by decide)] at this
      exact this
    · have := h 3 (by omega)
      rw [clp_in 2 5 (by decide) (by decide) (by decide)] at this
      exact this
    · have := h (874 + p) (by omega)
      rw [ckM (by decide) p hp] at this
      exact this
    · have := h 4 (by omega)
      rw [clp_in 2 5 (by decide) (by decide) (by decide)] at this
      show clp [(4, 5)] (M.2.2.2.2 (fl M (α 0) 1)) 4 = 0
      rw [clp_in 4 5 (by decide) (by decide) (by decide)]
      exact this
  exact ⟨nB, qB (key.1) (qB (key.2.1) (qB (key.2.2.1) (nB)))⟩
def t_sw0 : KT := ((0, 0, 0, 0), [(2, 0, 40, 0), (1, 1, 0, 0)], [(0, 0), (0, 0)], [(100, [(2, 0, 40, 0)]), (101, [(2, 0, 40, 0)]), (109, [(2, 0, 40, 0)])], (0, 0, 0), [], [], ([], [(117, [(2, 0, 40, 0), (1, 1, 0, 0)])]), ([], []))
theorem l_sw0 (g : GG) : LOK Yt (PSt g) t_sw0 := by
  intro ρ α Γ M as hT hB hA hP
  have g0 : Γ (α 0) = 40 := tyAt hA (i := 0) rfl
  have b1 : 0 ≤ ρ 1 ∧ ρ 1 ≤ 0 := hB 1
  have h0 : Γ (α 0) = 40 ∧ tyO Γ M (α 0) [(1, 41, [(2, 4), (586, 730), (874, 1018)])] ∧ Q100 g (vw M (α 0) 1 [(2, 4), (586, 730), (874, 1018)]) (clp [] (M.2.2.2.2 (α 0)))  := hP _ (List.mem_of_getElem? (i := 0) rfl)
  have h1 : Γ (α 0) = 40 ∧ tyO Γ M (α 0) [(1, 41, [(0, 2), (4, 5), (298, 442), (874, 1018)])] ∧ Q101 g (vw M (α 0) 1 [(0, 2), (4, 5), (298, 442), (874, 1018)]) (clp [] (M.2.2.2.2 (α 0)))  := hP _ (List.mem_of_getElem? (i := 1) rfl)
  have h2 : Γ (α 0) = 40 ∧ tyO Γ M (α 0) [(2, 52, [(0, 2314)])] ∧ Q109 g (vw M (α 0) 2 [(0, 2314)]) (clp [] (M.2.2.2.2 (α 0)))  := hP _ (List.mem_of_getElem? (i := 2) rfl)
  try simp only [Int.add_zero] at h0 h1 h2
  have key : (Γ (α 0) = 40 ∧ tyO Γ M (α 0) [(1, 41, [(0, 2314)]), (2, 52, [(0, 2314)])] ∧ Q117 g (vw M (α 0) 1 [(0, 2314)]) (vw M (α 0) 2 [(0, 2314)]) (clp [] (M.2.2.2.2 (α 0))) (ρ 1 + 0)) ∧ True := by
    try simp only [Int.add_zero]
    have rn : RIF (M.2.2.2.2 (fl M (α 0) 1)) := ⟨c100.mp h0.2.2, c101.mp h1.2.2⟩
    have ra : RIF (clp [(0, 2314)] (M.2.2.2.2 (fl M (α 0) 2))) := h2.2.2
    exact ⟨⟨g0, tyO_of hT g0 (by decide) (by decide), clp [(0, 2314)] (M.2.2.2.2 (fl M (α 0) 1)), clp [(0, 2314)] (M.2.2.2.2 (fl M (α 0) 2)), ⟨cRIF.mpr rn, ra⟩, fun j hj => ⟨fun q => by omega, fun _ => ⟨rfl, rfl⟩⟩⟩, trivial⟩
  exact ⟨nB, qB (key.1) (nB)⟩
def t_sw1 : KT := ((0, 0, 0, 0), [(2, 0, 40, 0), (2, 1, 41, 0), (2, 2, 52, 0), (1, 3, 0, 0), (1, 4, 0, 0), (1, 5, 0, 0)], [(0, 0), (0, 0), (0, 0), (0, 2313), (-2147483648, 2147483647), (-2147483648, 2147483647)], [(117, [(2, 0, 40, 0), (1, 3, 0, 0)]), (11, [(2, 0, 40, 0), (0, 0, 0, 1), (2, 1, 41, 0)]), (11, [(2, 0, 40, 0), (0, 0, 0, 2), (2, 2, 52, 0)]), (10, [(2, 1, 41, 0), (1, 3, 0, 0), (1, 4, 0, 0)]), (10, [(2, 2, 52, 0), (1, 3, 0, 0), (1, 5, 0, 0)])], (0, 0, 0), [], [], ([], [(208, [(2, 1, 41, 0), (1, 3, 0, 0), (2, 0, 40, 0), (1, 4, 0, 0), (1, 5, 0, 0)])]), ([], []))
theorem l_sw1 (g : GG) : LOK Yt (PSt g) t_sw1 := by
  intro ρ α Γ M as hT hB hA hP
  have g0 : Γ (α 0) = 40 := tyAt hA (i := 0) rfl
  have g1 : Γ (α 1) = 41 := tyAt hA (i := 1) rfl
  have g2 : Γ (α 2) = 52 := tyAt hA (i := 2) rfl
  have b3 : 0 ≤ ρ 3 ∧ ρ 3 ≤ 2313 := hB 3
  have b4 : -2147483648 ≤ ρ 4 ∧ ρ 4 ≤ 2147483647 := hB 4
  have b5 : -2147483648 ≤ ρ 5 ∧ ρ 5 ≤ 2147483647 := hB 5
  have h0 : Γ (α 0) = 40 ∧ tyO Γ M (α 0) [(1, 41, [(0, 2314)]), (2, 52, [(0, 2314)])] ∧ Q117 g (vw M (α 0) 1 [(0, 2314)]) (vw M (α 0) 2 [(0, 2314)]) (clp [] (M.2.2.2.2 (α 0))) (ρ 3 + 0) := hP _ (List.mem_of_getElem? (i := 0) rfl)
  have h1 : 0 ≤ (1 : Int) ∧ M.2.2.2.1 (α 0) (1 : Int).toNat = some (α 1) := hP _ (List.mem_of_getElem? (i := 1) rfl)
  have h2 : 0 ≤ (2 : Int) ∧ M.2.2.2.1 (α 0) (2 : Int).toNat = some (α 2) := hP _ (List.mem_of_getElem? (i := 2) rfl)
  have h3 : 0 ≤ (ρ 3 + 0 : Int) ∧ M.2.2.2.2 (α 1) (ρ 3 + 0 : Int).toNat = ρ 4 + 0 := hP _ (List.mem_of_getElem? (i := 3) rfl)
  have h4 : 0 ≤ (ρ 3 + 0 : Int) ∧ M.2.2.2.2 (α 2) (ρ 3 + 0 : Int).toNat = ρ 5 + 0 := hP _ (List.mem_of_getElem? (i := 4) rfl)
  try simp only [Int.add_zero] at h0 h1 h2 h3 h4
  have key : (Γ (α 0) = 40 ∧ M.2.2.2.1 (α 0) 1 = some (α 1) ∧ Γ (α 1) = 41 ∧ tyO Γ M (α 0) [(2, 52, [(0, 2314)])] ∧ Q208 g (hcl [vi (ρ 3 + 0)] (clp [(0, 2314)] (M.2.2.2.2 (α 1)))) (vw M (α 0) 2 [(0, 2314)]) (clp [] (M.2.2.2.2 (α 0))) (ρ 3 + 0) (ρ 4 + 0) (ρ 5 + 0)) ∧ True := by
    try simp only [Int.add_zero]
    have e1 : fl M (α 0) 1 = α 1 := fl_eq (show M.2.2.2.1 (α 0) 1 = some (α 1) from h1.2)
    have e2 : fl M (α 0) 2 = α 2 := fl_eq (show M.2.2.2.1 (α 0) 2 = some (α 2) from h2.2)
    
    obtain ⟨-, -, f, h, hr, q⟩ := h0
    have q : ∀ j : Nat, j < 2314 → ((j : Int) < ρ 3 → clp [(0, 2314)] (M.2.2.2.2 (fl M (α 0) 1)) j = h j ∧ clp [(0, 2314)] (M.2.2.2.2 (fl M (α 0) 2)) j = f j) ∧ (ρ 3 ≤ (j : Int) → clp [(0, 2314)] (M.2.2.2.2 (fl M (α 0) 1)) j = f j ∧ clp [(0, 2314)] (M.2.2.2.2 (fl M (α 0) 2)) j = h j) := q
    have q3 := (q (ρ 3).toNat (by omega)).2 (by omega)
    have v : clp [(0, 2314)] (M.2.2.2.2 (fl M (α 0) 1)) (ρ 3).toNat = ρ 4 := by rw [e1, cAll (by omega)]; exact h3.2
    have x : clp [(0, 2314)] (M.2.2.2.2 (fl M (α 0) 2)) (ρ 3).toNat = ρ 5 := by rw [e2, cAll (by omega)]; exact h4.2
    refine ⟨⟨g0, h1.2, g1, tyO_of hT g0 (by decide) (by decide), f, h, hr, fun j hj => ⟨fun p => ⟨?_, ?_⟩, fun p => ?_, fun p => ?_⟩, ?_, ?_⟩, trivial⟩
    · rw [hcl1 (by omega), ← e1]
      exact ((q j hj).1 p).1
    · exact ((q j hj).1 p).2
    · rw [hcl1 (by omega), ← e1]
      exact ((q j hj).2 (by omega)).1
    · exact ((q j hj).2 p).2
    · rw [← v]
      exact q3.1
    · rw [← x]
      exact q3.2
  exact ⟨nB, qB (key.1) (nB)⟩
def t_sw2 : KT := ((0, 0, 0, 0), [(2, 0, 40, 0), (2, 1, 41, 0), (2, 2, 52, 0), (1, 3, 0, 0), (1, 4, 0, 0), (1, 5, 0, 0)], [(0, 0), (0, 0), (0, 0), (0, 2313), (-2147483648, 2147483647), (-2147483648, 2147483647)], [(208, [(2, 1, 41, 0), (1, 3, 0, 0), (2, 0, 40, 0), (1, 4, 0, 0), (1, 5, 0, 0)]), (11, [(2, 0, 40, 0), (0, 0, 0, 2), (2, 2, 52, 0)]), (10, [(2, 1, 41, 0), (1, 3, 0, 0), (1, 5, 0, 0)])], (0, 0, 0), [], [], ([], [(209, [(2, 2, 52, 0), (1, 3, 0, 0), (2, 0, 40, 0), (1, 4, 0, 0)])]), ([], []))
theorem l_sw2 (g : GG) : LOK Yt (PSt g) t_sw2 := by
  intro ρ α Γ M as hT hB hA hP
  have g0 : Γ (α 0) = 40 := tyAt hA (i := 0) rfl
  have g1 : Γ (α 1) = 41 := tyAt hA (i := 1) rfl
  have g2 : Γ (α 2) = 52 := tyAt hA (i := 2) rfl
  have b3 : 0 ≤ ρ 3 ∧ ρ 3 ≤ 2313 := hB 3
  have b4 : -2147483648 ≤ ρ 4 ∧ ρ 4 ≤ 2147483647 := hB 4
  have b5 : -2147483648 ≤ ρ 5 ∧ ρ 5 ≤ 2147483647 := hB 5
  have h0 : Γ (α 0) = 40 ∧ M.2.2.2.1 (α 0) 1 = some (α 1) ∧ Γ (α 1) = 41 ∧ tyO Γ M (α 0) [(2, 52, [(0, 2314)])] ∧ Q208 g (hcl [vi (ρ 3 + 0)] (clp [(0, 2314)] (M.2.2.2.2 (α 1)))) (vw M (α 0) 2 [(0, 2314)]) (clp [] (M.2.2.2.2 (α 0))) (ρ 3 + 0) (ρ 4 + 0) (ρ 5 + 0) := hP _ (List.mem_of_getElem? (i := 0) rfl)
  have h1 : 0 ≤ (2 : Int) ∧ M.2.2.2.1 (α 0) (2 : Int).toNat = some (α 2) := hP _ (List.mem_of_getElem? (i := 1) rfl)
  have h2 : 0 ≤ (ρ 3 + 0 : Int) ∧ M.2.2.2.2 (α 1) (ρ 3 + 0 : Int).toNat = ρ 5 + 0 := hP _ (List.mem_of_getElem? (i := 2) rfl)
  try simp only [Int.add_zero] at h0 h1 h2
  have key : (Γ (α 0) = 40 ∧ M.2.2.2.1 (α 0) 2 = some (α 2) ∧ Γ (α 2) = 52 ∧ tyO Γ M (α 0) [(1, 41, [(0, 2314)])] ∧ Q209 g (hcl [vi (ρ 3 + 0)] (clp [(0, 2314)] (M.2.2.2.2 (α 2)))) (vw M (α 0) 1 [(0, 2314)]) (clp [] (M.2.2.2.2 (α 0))) (ρ 3 + 0) (ρ 4 + 0)) ∧ True := by
    try simp only [Int.add_zero]
    have e2 : fl M (α 0) 2 = α 2 := fl_eq (show M.2.2.2.1 (α 0) 2 = some (α 2) from h1.2)
    
    obtain ⟨-, hr0, -, -, f, h, hr, q, v, x⟩ := h0
    have e1 : fl M (α 0) 1 = α 1 := fl_eq hr0
    have q : ∀ j : Nat, j < 2314 → ((j : Int) < ρ 3 → hcl [vi (ρ 3)] (clp [(0, 2314)] (M.2.2.2.2 (α 1))) j = h j ∧ clp [(0, 2314)] (M.2.2.2.2 (fl M (α 0) 2)) j = f j) ∧ (ρ 3 < (j : Int) → hcl [vi (ρ 3)] (clp [(0, 2314)] (M.2.2.2.2 (α 1))) j = f j) ∧ (ρ 3 ≤ (j : Int) → clp [(0, 2314)] (M.2.2.2.2 (fl M (α 0) 2)) j = h j) := q
    refine ⟨⟨g0, h1.2, g2, tyO_of hT g0 (by decide) (by decide), f, h, hr, fun j hj => ⟨fun p => ?_, fun p => ⟨?_, ?_⟩, fun p => ?_⟩, v⟩, trivial⟩
    · show clp [(0, 2314)] (M.2.2.2.2 (fl M (α 0) 1)) j = h j
      rw [e1]
      by_cases hc : (j : Int) < ρ 3
      · have := ((q j hj).1 hc).1
        rw [hcl1 (by omega)] at this
        exact this
      · have ej : j = (ρ 3).toNat := by omega
        rw [ej, cAll (by omega), h2.2]
        exact x
    · show clp [(0, 2314)] (M.2.2.2.2 (fl M (α 0) 1)) j = f j
      rw [e1]
      have := (q j hj).2.1 p
      rw [hcl1 (by omega)] at this
      exact this
    · rw [hcl1 (by omega), ← e2]
      exact (q j hj).2.2 (by omega)
    · rw [hcl1 (by omega), ← e2]
      exact ((q j hj).1 p).2
  exact ⟨nB, qB (key.1) (nB)⟩
def t_sw3 : KT := ((0, 0, 0, 0), [(2, 0, 40, 0), (2, 1, 52, 0), (1, 2, 0, 0), (1, 3, 0, 0)], [(0, 0), (0, 0), (0, 2313), (-2147483648, 2147483647)], [(209, [(2, 1, 52, 0), (1, 2, 0, 0), (2, 0, 40, 0), (1, 3, 0, 0)]), (10, [(2, 1, 52, 0), (1, 2, 0, 0), (1, 3, 0, 0)])], (0, 0, 0), [], [], ([], [(117, [(2, 0, 40, 0), (1, 2, 0, 1)])]), ([], []))
theorem l_sw3 (g : GG) : LOK Yt (PSt g) t_sw3 := by
  intro ρ α Γ M as hT hB hA hP
  have g0 : Γ (α 0) = 40 := tyAt hA (i := 0) rfl
  have g1 : Γ (α 1) = 52 := tyAt hA (i := 1) rfl
  have b2 : 0 ≤ ρ 2 ∧ ρ 2 ≤ 2313 := hB 2
  have b3 : -2147483648 ≤ ρ 3 ∧ ρ 3 ≤ 2147483647 := hB 3
  have h0 : Γ (α 0) = 40 ∧ M.2.2.2.1 (α 0) 2 = some (α 1) ∧ Γ (α 1) = 52 ∧ tyO Γ M (α 0) [(1, 41, [(0, 2314)])] ∧ Q209 g (hcl [vi (ρ 2 + 0)] (clp [(0, 2314)] (M.2.2.2.2 (α 1)))) (vw M (α 0) 1 [(0, 2314)]) (clp [] (M.2.2.2.2 (α 0))) (ρ 2 + 0) (ρ 3 + 0) := hP _ (List.mem_of_getElem? (i := 0) rfl)
  have h1 : 0 ≤ (ρ 2 + 0 : Int) ∧ M.2.2.2.2 (α 1) (ρ 2 + 0 : Int).toNat = ρ 3 + 0 := hP _ (List.mem_of_getElem? (i := 1) rfl)
  try simp only [Int.add_zero] at h0 h1
  have key : (Γ (α 0) = 40 ∧ tyO Γ M (α 0) [(1, 41, [(0, 2314)]), (2, 52, [(0, 2314)])] ∧ Q117 g (vw M (α 0) 1 [(0, 2314)]) (vw M (α 0) 2 [(0, 2314)]) (clp [] (M.2.2.2.2 (α 0))) (ρ 2 + 1)) ∧ True := by
    try simp only [Int.add_zero]
    obtain ⟨-, hr0, -, -, f, h, hr, q, v⟩ := h0
    have e2 : fl M (α 0) 2 = α 1 := fl_eq hr0
    have q : ∀ j : Nat, j < 2314 → ((j : Int) ≤ ρ 2 → clp [(0, 2314)] (M.2.2.2.2 (fl M (α 0) 1)) j = h j) ∧ (ρ 2 < (j : Int) → clp [(0, 2314)] (M.2.2.2.2 (fl M (α 0) 1)) j = f j ∧ hcl [vi (ρ 2)] (clp [(0, 2314)] (M.2.2.2.2 (α 1))) j = h j) ∧ ((j : Int) < ρ 2 → hcl [vi (ρ 2)] (clp [(0, 2314)] (M.2.2.2.2 (α 1))) j = f j) := q
    refine ⟨⟨g0, tyO_of hT g0 (by decide) (by decide), f, h, hr, fun j hj => ⟨fun p => ⟨(q j hj).1 (by omega), ?_⟩, fun p => ⟨((q j hj).2.1 (by omega)).1, ?_⟩⟩⟩, trivial⟩
    · show clp [(0, 2314)] (M.2.2.2.2 (fl M (α 0) 2)) j = f j
      rw [e2]
      by_cases hc : (j : Int) < ρ 2
      · have := (q j hj).2.2 hc
        rw [hcl1 (by omega)] at this
        exact this
      · have ej : j = (ρ 2).toNat := by omega
        rw [ej, cAll (by omega), h1.2]
        exact v
    · show clp [(0, 2314)] (M.2.2.2.2 (fl M (α 0) 2)) j = h j
      rw [e2]
      have := ((q j hj).2.1 (by omega)).2
      rw [hcl1 (by omega)] at this
      exact this
  exact ⟨nB, qB (key.1) (nB)⟩
def t_sw4 : KT := ((0, 0, 0, 0), [(2, 0, 40, 0), (1, 1, 0, 0)], [(0, 0), (2314, 2314)], [(117, [(2, 0, 40, 0), (1, 1, 0, 0)])], (0, 0, 0), [], [], ([], [(100, [(2, 0, 40, 0)]), (101, [(2, 0, 40, 0)]), (109, [(2, 0, 40, 0)])]), ([], []))
theorem l_sw4 (g : GG) : LOK Yt (PSt g) t_sw4 := by
  intro ρ α Γ M as hT hB hA hP
  have g0 : Γ (α 0) = 40 := tyAt hA (i := 0) rfl
  have b1 : 2314 ≤ ρ 1 ∧ ρ 1 ≤ 2314 := hB 1
  have h0 : Γ (α 0) = 40 ∧ tyO Γ M (α 0) [(1, 41, [(0, 2314)]), (2, 52, [(0, 2314)])] ∧ Q117 g (vw M (α 0) 1 [(0, 2314)]) (vw M (α 0) 2 [(0, 2314)]) (clp [] (M.2.2.2.2 (α 0))) (ρ 1 + 0) := hP _ (List.mem_of_getElem? (i := 0) rfl)
  try simp only [Int.add_zero] at h0
  have key : (Γ (α 0) = 40 ∧ tyO Γ M (α 0) [(1, 41, [(2, 4), (586, 730), (874, 1018)])] ∧ Q100 g (vw M (α 0) 1 [(2, 4), (586, 730), (874, 1018)]) (clp [] (M.2.2.2.2 (α 0))) ) ∧ (Γ (α 0) = 40 ∧ tyO Γ M (α 0) [(1, 41, [(0, 2), (4, 5), (298, 442), (874, 1018)])] ∧ Q101 g (vw M (α 0) 1 [(0, 2), (4, 5), (298, 442), (874, 1018)]) (clp [] (M.2.2.2.2 (α 0))) ) ∧ (Γ (α 0) = 40 ∧ tyO Γ M (α 0) [(2, 52, [(0, 2314)])] ∧ Q109 g (vw M (α 0) 2 [(0, 2314)]) (clp [] (M.2.2.2.2 (α 0))) ) ∧ True := by
    try simp only [Int.add_zero]
    obtain ⟨-, -, f, h, hr, q⟩ := h0
    have rn : RIF (M.2.2.2.2 (fl M (α 0) 1)) := RIF_c (fun k hk => by
      have := ((q k hk).1 (by omega)).1
      have this : clp [(0, 2314)] (M.2.2.2.2 (fl M (α 0) 1)) k = h k := this
      rw [cAll hk] at this
      exact this) hr.2
    have ra : RIF (clp [(0, 2314)] (M.2.2.2.2 (fl M (α 0) 2))) := RIF_c (fun k hk => ((q k hk).1 (by omega)).2) hr.1
    exact ⟨⟨g0, tyO_of hT g0 (by decide) (by decide), c100.mpr rn.1⟩, ⟨g0, tyO_of hT g0 (by decide) (by decide), c101.mpr rn.2⟩, ⟨g0, tyO_of hT g0 (by decide) (by decide), ra⟩, trivial⟩
  exact ⟨nB, qB (key.1) (qB (key.2.1) (qB (key.2.2.1) (nB)))⟩
def t_px0 : KT := ((0, 0, 0, 0), [(2, 0, 40, 0), (1, 1, 0, 0)], [(0, 0), (-2147483648, -1)], [], (0, 0, 0), [], [], ([], [(162, [(2, 0, 40, 0), (1, 1, 0, 0)])]), ([], []))
theorem l_px0 (g : GG) : LOK Yt (PSt g) t_px0 := by
  intro ρ α Γ M as hT hB hA hP
  have g0 : Γ (α 0) = 40 := tyAt hA (i := 0) rfl
  have b1 : -2147483648 ≤ ρ 1 ∧ ρ 1 ≤ -1 := hB 1
  have key : (Γ (α 0) = 40 ∧ tyO Γ M (α 0) [(1, 41, [(0, 2)])] ∧ Q162 g (vw M (α 0) 1 [(0, 2)]) (clp [] (M.2.2.2.2 (α 0))) (ρ 1 + 0)) ∧ True := by
    try simp only [Int.add_zero]
    exact ⟨⟨g0, tyO_of hT g0 (by decide) (by decide), fun h => by have := h.1; omega⟩, trivial⟩
  exact ⟨nB, qB (key.1) (nB)⟩
def t_px1 : KT := ((0, 0, 0, 0), [(2, 0, 40, 0), (1, 1, 0, 0), (1, 2, 0, 0)], [(0, 0), (-2147483648, 2147483647), (-2147483648, 2147483647)], [(94, [(2, 0, 40, 0), (1, 2, 0, 0)]), (6, [(1, 2, 0, 0), (1, 1, 0, 0)])], (0, 0, 0), [], [], ([], [(162, [(2, 0, 40, 0), (1, 1, 0, 0)])]), ([], []))
theorem l_px1 (g : GG) : LOK Yt (PSt g) t_px1 := by
  intro ρ α Γ M as hT hB hA hP
  have g0 : Γ (α 0) = 40 := tyAt hA (i := 0) rfl
  have b1 : -2147483648 ≤ ρ 1 ∧ ρ 1 ≤ 2147483647 := hB 1
  have b2 : -2147483648 ≤ ρ 2 ∧ ρ 2 ≤ 2147483647 := hB 2
  have h0 : nwE Γ M (α 0) fun r c => ρ 2 + 0 = r * c := hP _ (List.mem_of_getElem? (i := 0) rfl)
  have h1 : ρ 2 + 0 ≤ ρ 1 + 0 := hP _ (List.mem_of_getElem? (i := 1) rfl)
  try simp only [Int.add_zero] at h0 h1
  have key : (Γ (α 0) = 40 ∧ tyO Γ M (α 0) [(1, 41, [(0, 2)])] ∧ Q162 g (vw M (α 0) 1 [(0, 2)]) (clp [] (M.2.2.2.2 (α 0))) (ρ 1 + 0)) ∧ True := by
    try simp only [Int.add_zero]
    have hm := nwF h0
    refine ⟨⟨g0, tyO_of hT g0 (by decide) (by decide), fun h => ?_⟩, trivial⟩
    have h2 : ρ 1 < ((clp [(0, 2)] (M.2.2.2.2 (fl M (α 0) 1))) 0 + 4) * ((clp [(0, 2)] (M.2.2.2.2 (fl M (α 0) 1))) 1 + 4) := h.2
    rw [rc0, rc1'] at h2
    omega
  exact ⟨nB, qB (key.1) (nB)⟩
def t_rgT : KT := ((0, 0, 0, 0), [(2, 0, 40, 0), (1, 1, 0, 0), (1, 2, 0, 0), (1, 3, 0, 0), (1, 4, 0, 0), (1, 5, 0, 0)], [(0, 0), (0, 143), (-2147483648, 2147483647), (-2147483648, 2147483647), (-2147483648, 2147483647), (-2147483648, 2147483647)], [(95, [(2, 0, 40, 0), (1, 1, 0, 0)]), (9, [(2, 0, 40, 0), (1, 1, 0, 0), (1, 2, 0, 0)]), (93, [(2, 0, 40, 0), (1, 3, 0, 0)]), (21, [(1, 2, 0, 0), (1, 3, 0, -1)]), (96, [(2, 0, 40, 0), (1, 1, 0, 0), (1, 4, 0, 0)]), (8, [(2, 0, 40, 0), (1, 5, 0, 0)]), (21, [(1, 4, 0, 0), (1, 5, 0, -1)])], (0, 0, 0), [], [], ([], [(98, [(2, 0, 40, 0), (1, 1, 0, 0)])]), ([], []))
theorem l_rgT (g : GG) : LOK Yt (PSt g) t_rgT := by
  intro ρ α Γ M as hT hB hA hP
  have g0 : Γ (α 0) = 40 := tyAt hA (i := 0) rfl
  have b1 : 0 ≤ ρ 1 ∧ ρ 1 ≤ 143 := hB 1
  have b2 : -2147483648 ≤ ρ 2 ∧ ρ 2 ≤ 2147483647 := hB 2
  have b3 : -2147483648 ≤ ρ 3 ∧ ρ 3 ≤ 2147483647 := hB 3
  have b4 : -2147483648 ≤ ρ 4 ∧ ρ 4 ≤ 2147483647 := hB 4
  have b5 : -2147483648 ≤ ρ 5 ∧ ρ 5 ≤ 2147483647 := hB 5
  have h0 : nwE Γ M (α 0) fun r c => isPx r c (ρ 1 + 0) := hP _ (List.mem_of_getElem? (i := 0) rfl)
  have h1 : nwE Γ M (α 0) fun r c => ρ 2 + 0 = (ρ 1 + 0) / c := hP _ (List.mem_of_getElem? (i := 1) rfl)
  have h2 : nwE Γ M (α 0) fun r c => ρ 3 + 0 = r := hP _ (List.mem_of_getElem? (i := 2) rfl)
  have h3 : ρ 2 + 0 < ρ 3 + (-1) := hP _ (List.mem_of_getElem? (i := 3) rfl)
  have h4 : nwE Γ M (α 0) fun r c => ρ 4 + 0 = (ρ 1 + 0) % c := hP _ (List.mem_of_getElem? (i := 4) rfl)
  have h5 : nwE Γ M (α 0) fun r c => ρ 5 + 0 = c := hP _ (List.mem_of_getElem? (i := 5) rfl)
  have h6 : ρ 4 + 0 < ρ 5 + (-1) := hP _ (List.mem_of_getElem? (i := 6) rfl)
  try simp only [Int.add_zero] at h0 h1 h2 h3 h4 h5 h6
  have key : (nwE Γ M (α 0) fun r c => rgP r c (ρ 1 + 0)) ∧ True := by
    try simp only [Int.add_zero]
    have a0 := nwF h0
    have a1 := nwF h1
    have a2 := nwF h2
    have a4 := nwF h4
    have a5 := nwF h5
    exact ⟨nwT hT g0 ⟨a0.1, a0.2, by rw [← a1, ← a2]; omega, by rw [← a4, ← a5]; omega⟩, trivial⟩
  exact ⟨nB, qB (key.1) (nB)⟩
def t_rg1r : KT := ((0, 0, 0, 0), [(2, 0, 40, 0), (1, 1, 0, 0)], [(0, 0), (-2147483648, 2147483647)], [(162, [(2, 0, 40, 0), (1, 1, 0, 0)])], (0, 0, 0), [], [], ([], [(121, [(2, 0, 40, 0), (1, 1, 0, 0)])]), ([], []))
theorem l_rg1r (g : GG) : LOK Yt (PSt g) t_rg1r := by
  intro ρ α Γ M as hT hB hA hP
  have g0 : Γ (α 0) = 40 := tyAt hA (i := 0) rfl
  have b1 : -2147483648 ≤ ρ 1 ∧ ρ 1 ≤ 2147483647 := hB 1
  have h0 : Γ (α 0) = 40 ∧ tyO Γ M (α 0) [(1, 41, [(0, 2)])] ∧ Q162 g (vw M (α 0) 1 [(0, 2)]) (clp [] (M.2.2.2.2 (α 0))) (ρ 1 + 0) := hP _ (List.mem_of_getElem? (i := 0) rfl)
  try simp only [Int.add_zero] at h0
  have key : (Γ (α 0) = 40 ∧ tyO Γ M (α 0) [(1, 41, [(0, 2)])] ∧ Q121 g (vw M (α 0) 1 [(0, 2)]) (clp [] (M.2.2.2.2 (α 0))) (ρ 1 + 0)) ∧ True := by
    try simp only [Int.add_zero]
    exact ⟨⟨g0, tyO_of hT g0 (by decide) (by decide), fun h => h0.2.2 ⟨h.1, h.2.1⟩⟩, trivial⟩
  exact ⟨nB, qB (key.1) (nB)⟩
def t_rg2r : KT := ((0, 0, 0, 0), [(2, 0, 40, 0), (1, 1, 0, 0), (1, 2, 0, 0), (1, 3, 0, 0)], [(0, 0), (-2147483648, 2147483647), (-2147483648, 2147483647), (-2147483648, 2147483647)], [(9, [(2, 0, 40, 0), (1, 1, 0, 0), (1, 2, 0, 0)]), (93, [(2, 0, 40, 0), (1, 3, 0, 0)]), (6, [(1, 3, 0, -1), (1, 2, 0, 0)])], (0, 0, 0), [], [], ([], [(121, [(2, 0, 40, 0), (1, 1, 0, 0)])]), ([], []))
theorem l_rg2r (g : GG) : LOK Yt (PSt g) t_rg2r := by
  intro ρ α Γ M as hT hB hA hP
  have g0 : Γ (α 0) = 40 := tyAt hA (i := 0) rfl
  have b1 : -2147483648 ≤ ρ 1 ∧ ρ 1 ≤ 2147483647 := hB 1
  have b2 : -2147483648 ≤ ρ 2 ∧ ρ 2 ≤ 2147483647 := hB 2
  have b3 : -2147483648 ≤ ρ 3 ∧ ρ 3 ≤ 2147483647 := hB 3
  have h0 : nwE Γ M (α 0) fun r c => ρ 2 + 0 = (ρ 1 + 0) / c := hP _ (List.mem_of_getElem? (i := 0) rfl)
  have h1 : nwE Γ M (α 0) fun r c => ρ 3 + 0 = r := hP _ (List.mem_of_getElem? (i := 1) rfl)
  have h2 : ρ 3 + (-1) ≤ ρ 2 + 0 := hP _ (List.mem_of_getElem? (i := 2) rfl)
  try simp only [Int.add_zero] at h0 h1 h2
  have key : (Γ (α 0) = 40 ∧ tyO Γ M (α 0) [(1, 41, [(0, 2)])] ∧ Q121 g (vw M (α 0) 1 [(0, 2)]) (clp [] (M.2.2.2.2 (α 0))) (ρ 1 + 0)) ∧ True := by
    try simp only [Int.add_zero]
    have a1 := nwF h0
    have a2 := nwF h1
    refine ⟨⟨g0, tyO_of hT g0 (by decide) (by decide), fun h => ?_⟩, trivial⟩
    have h3 : ρ 1 / ((clp [(0, 2)] (M.2.2.2.2 (fl M (α 0) 1))) 1 + 4) < (clp [(0, 2)] (M.2.2.2.2 (fl M (α 0) 1))) 0 + 4 - 1 := h.2.2.1
    rw [rc0, rc1', ← a1, ← a2] at h3
    omega
  exact ⟨nB, qB (key.1) (nB)⟩
def t_rg3r : KT := ((0, 0, 0, 0), [(2, 0, 40, 0), (1, 1, 0, 0), (1, 2, 0, 0), (1, 3, 0, 0)], [(0, 0), (-2147483648, 2147483647), (-2147483648, 2147483647), (-2147483648, 2147483647)], [(96, [(2, 0, 40, 0), (1, 1, 0, 0), (1, 2, 0, 0)]), (8, [(2, 0, 40, 0), (1, 3, 0, 0)]), (6, [(1, 3, 0, -1), (1, 2, 0, 0)])], (0, 0, 0), [], [], ([], [(121, [(2, 0, 40, 0), (1, 1, 0, 0)])]), ([], []))
theorem l_rg3r (g : GG) : LOK Yt (PSt g) t_rg3r := by
  intro ρ α Γ M as hT hB hA hP
  have g0 : Γ (α 0) = 40 := tyAt hA (i := 0) rfl
  have b1 : -2147483648 ≤ ρ 1 ∧ ρ 1 ≤ 2147483647 := hB 1
  have b2 : -2147483648 ≤ ρ 2 ∧ ρ 2 ≤ 2147483647 := hB 2
  have b3 : -2147483648 ≤ ρ 3 ∧ ρ 3 ≤ 2147483647 := hB 3
  have h0 : nwE Γ M (α 0) fun r c => ρ 2 + 0 = (ρ 1 + 0) % c := hP _ (List.mem_of_getElem? (i := 0) rfl)
  have h1 : nwE Γ M (α 0) fun r c => ρ 3 + 0 = c := hP _ (List.mem_of_getElem? (i := 1) rfl)
  have h2 : ρ 3 + (-1) ≤ ρ 2 + 0 := hP _ (List.mem_of_getElem? (i := 2) rfl)
  try simp only [Int.add_zero] at h0 h1 h2
  have key : (Γ (α 0) = 40 ∧ tyO Γ M (α 0) [(1, 41, [(0, 2)])] ∧ Q121 g (vw M (α 0) 1 [(0, 2)]) (clp [] (M.2.2.2.2 (α 0))) (ρ 1 + 0)) ∧ True := by
    try simp only [Int.add_zero]
    have a1 := nwF h0
    have a2 := nwF h1
    refine ⟨⟨g0, tyO_of hT g0 (by decide) (by decide), fun h => ?_⟩, trivial⟩
    have h3 : ρ 1 % ((clp [(0, 2)] (M.2.2.2.2 (fl M (α 0) 1))) 1 + 4) < (clp [(0, 2)] (M.2.2.2.2 (fl M (α 0) 1))) 1 + 4 - 1 := h.2.2.2
    rw [rc1', ← a1, ← a2] at h3
    omega
  exact ⟨nB, qB (key.1) (nB)⟩
def t_ph0 : KT := ((0, 0, 0, 0), [(2, 0, 40, 0), (2, 1, 41, 0), (1, 2, 0, 0), (1, 3, 0, 0)], [(0, 0), (0, 0), (0, 143), (-2147483648, 2147483647)], [(11, [(2, 0, 40, 0), (0, 0, 0, 1), (2, 1, 41, 0)]), (10, [(2, 1, 41, 0), (1, 2, 0, 10), (1, 3, 0, 0)])], (0, 0, 0), [], [], ([], [(125, [(2, 0, 40, 0), (1, 2, 0, 0), (1, 3, 0, 0)])]), ([], []))
theorem l_ph0 (g : GG) : LOK Yt (PSt g) t_ph0 := by
  intro ρ α Γ M as hT hB hA hP
  have g0 : Γ (α 0) = 40 := tyAt hA (i := 0) rfl
  have g1 : Γ (α 1) = 41 := tyAt hA (i := 1) rfl
  have b2 : 0 ≤ ρ 2 ∧ ρ 2 ≤ 143 := hB 2
  have b3 : -2147483648 ≤ ρ 3 ∧ ρ 3 ≤ 2147483647 := hB 3
  have h0 : 0 ≤ (1 : Int) ∧ M.2.2.2.1 (α 0) (1 : Int).toNat = some (α 1) := hP _ (List.mem_of_getElem? (i := 0) rfl)
  have h1 : 0 ≤ (ρ 2 + 10 : Int) ∧ M.2.2.2.2 (α 1) (ρ 2 + 10 : Int).toNat = ρ 3 + 0 := hP _ (List.mem_of_getElem? (i := 1) rfl)
  try simp only [Int.add_zero] at h0 h1
  have key : (Γ (α 0) = 40 ∧ tyO Γ M (α 0) [(1, 41, [(10, 154)])] ∧ Q125 g (vw M (α 0) 1 [(10, 154)]) (clp [] (M.2.2.2.2 (α 0))) (ρ 2 + 0) (ρ 3 + 0)) ∧ True := by
    try simp only [Int.add_zero]
    have e1 : fl M (α 0) 1 = α 1 := fl_eq (show M.2.2.2.1 (α 0) 1 = some (α 1) from h0.2)
    
    have e : M.2.2.2.2 (α 1) (10 + (ρ 2).toNat) = ρ 3 := by
      have := h1.2
      rw [show (ρ 2 + 10).toNat = 10 + (ρ 2).toNat by omega] at this
      exact this
    refine ⟨⟨g0, tyO_of hT g0 (by decide) (by decide), ?_⟩, trivial⟩
    show ρ 3 = (clp [(10, 154)] (M.2.2.2.2 (fl M (α 0) 1))) (10 + (ρ 2).toNat)
    rw [e1, cP (by omega)]
    exact e.symm
  exact ⟨nB, qB (key.1) (nB)⟩
def t_cg0 : KT := ((0, 0, 0, 0), [(2, 0, 40, 0), (1, 1, 0, 0)], [(0, 0), (-2147483648, 2147483647)], [(121, [(2, 0, 40, 0), (1, 1, 0, 0)])], (0, 0, 0), [], [], ([], [(120, [(2, 0, 40, 0), (1, 1, 0, 0), (0, 0, 0, 0)])]), ([], []))
theorem l_cg0 (g : GG) : LOK Yt (PSt g) t_cg0 := by
  intro ρ α Γ M as hT hB hA hP
  have g0 : Γ (α 0) = 40 := tyAt hA (i := 0) rfl
  have b1 : -2147483648 ≤ ρ 1 ∧ ρ 1 ≤ 2147483647 := hB 1
  have h0 : Γ (α 0) = 40 ∧ tyO Γ M (α 0) [(1, 41, [(0, 2)])] ∧ Q121 g (vw M (α 0) 1 [(0, 2)]) (clp [] (M.2.2.2.2 (α 0))) (ρ 1 + 0) := hP _ (List.mem_of_getElem? (i := 0) rfl)
  try simp only [Int.add_zero] at h0
  have key : (Γ (α 0) = 40 ∧ tyO Γ M (α 0) [(1, 41, [(0, 2), (10, 154), (298, 442)])] ∧ Q120 g (vw M (α 0) 1 [(0, 2), (10, 154), (298, 442)]) (clp [] (M.2.2.2.2 (α 0))) (ρ 1 + 0) (0)) ∧ True := by
    try simp only [Int.add_zero]
    refine ⟨⟨g0, tyO_of hT g0 (by decide) (by decide), ?_⟩, trivial⟩
    show 0 = chg (clp [(0, 2), (10, 154), (298, 442)] (M.2.2.2.2 (fl M (α 0) 1))) (ρ 1)
    rw [chg_no]
    intro h
    have h2 : rgP ((clp [(0, 2), (10, 154), (298, 442)] (M.2.2.2.2 (fl M (α 0) 1))) 0 + 4) ((clp [(0, 2), (10, 154), (298, 442)] (M.2.2.2.2 (fl M (α 0) 1))) 1 + 4) (ρ 1) := h.1
    rw [rt0, rt1] at h2
    have h3 : ¬ rgP ((clp [(0, 2)] (M.2.2.2.2 (fl M (α 0) 1))) 0 + 4) ((clp [(0, 2)] (M.2.2.2.2 (fl M (α 0) 1))) 1 + 4) (ρ 1) := h0.2.2
    rw [rc0, rc1'] at h3
    exact h3 h2
  exact ⟨nB, qB (key.1) (nB)⟩
def t_cg1 : KT := ((0, 0, 0, 0), [(2, 0, 40, 0), (1, 1, 0, 0)], [(0, 0), (-2147483648, 2147483647)], [(98, [(2, 0, 40, 0), (1, 1, 0, 0)])], (0, 0, 0), [], [], ([(1, 0, 140)], []), ([], []))
theorem l_cg1 (g : GG) : LOK Yt (PSt g) t_cg1 := by
  intro ρ α Γ M as hT hB hA hP
  have g0 : Γ (α 0) = 40 := tyAt hA (i := 0) rfl
  have b1 : -2147483648 ≤ ρ 1 ∧ ρ 1 ≤ 2147483647 := hB 1
  have h0 : nwE Γ M (α 0) fun r c => rgP r c (ρ 1 + 0) := hP _ (List.mem_of_getElem? (i := 0) rfl)
  try simp only [Int.add_zero] at h0
  have key : (0 ≤ ρ 1 ∧ ρ 1 ≤ 140) ∧ True := by
    try simp only [Int.add_zero]
    have d := nwD hT g0
    have a := rg_in d.1 d.2 (nwF h0)
    exact ⟨⟨a.1, by omega⟩, trivial⟩
  exact ⟨qB (key.1) (nB), nB⟩
def t_cg2 : KT := ((0, 0, 0, 0), [(2, 0, 40, 0), (1, 1, 0, 0), (1, 2, 0, 0), (1, 3, 0, 0)], [(0, 0), (0, 140), (-2147483648, 2147483647), (-2147483648, 2147483647)], [(98, [(2, 0, 40, 0), (1, 1, 0, 0)]), (8, [(2, 0, 40, 0), (1, 2, 0, 0)]), (23, [(1, 1, 0, 0), (1, 2, 0, 0), (1, 3, 0, 0)])], (0, 0, 0), [], [], ([(3, 2, 142)], [(186, [(2, 0, 40, 0), (1, 1, 0, 0), (1, 3, 0, 0)])]), ([], []))
theorem l_cg2 (g : GG) : LOK Yt (PSt g) t_cg2 := by
  intro ρ α Γ M as hT hB hA hP
  have g0 : Γ (α 0) = 40 := tyAt hA (i := 0) rfl
  have b1 : 0 ≤ ρ 1 ∧ ρ 1 ≤ 140 := hB 1
  have b2 : -2147483648 ≤ ρ 2 ∧ ρ 2 ≤ 2147483647 := hB 2
  have b3 : -2147483648 ≤ ρ 3 ∧ ρ 3 ≤ 2147483647 := hB 3
  have h0 : nwE Γ M (α 0) fun r c => rgP r c (ρ 1 + 0) := hP _ (List.mem_of_getElem? (i := 0) rfl)
  have h1 : nwE Γ M (α 0) fun r c => ρ 2 + 0 = c := hP _ (List.mem_of_getElem? (i := 1) rfl)
  have h2 : ρ 3 + 0 = wI ((ρ 1 + 0) + (ρ 2 + 0)) := hP _ (List.mem_of_getElem? (i := 2) rfl)
  try simp only [Int.add_zero] at h0 h1 h2
  have key : (2 ≤ ρ 3 ∧ ρ 3 ≤ 142) ∧ (Γ (α 0) = 40 ∧ tyO Γ M (α 0) [(1, 41, [(1, 2)])] ∧ Q186 g (vw M (α 0) 1 [(1, 2)]) (clp [] (M.2.2.2.2 (α 0))) (ρ 1 + 0) (ρ 3 + 0)) ∧ True := by
    try simp only [Int.add_zero]
    have d := nwD hT g0
    have a := rg_in d.1 d.2 (nwF h0)
    have c := nwF h1
    rw [wI_id (by unfold inI; omega)] at h2
    refine ⟨⟨by omega, by omega⟩, ⟨g0, tyO_of hT g0 (by decide) (by decide), ?_⟩, trivial⟩
    show ρ 3 = ρ 1 + ((clp [(1, 2)] (M.2.2.2.2 (fl M (α 0) 1))) 1 + 4)
    rw [c11]
    omega
  exact ⟨qB (key.1) (nB), qB (key.2.1) (nB)⟩
def t_cgH0 : KT := ((0, 0, 0, 0), [(2, 0, 40, 0), (1, 1, 0, 0)], [(0, 0), (0, 143)], [(122, [(2, 0, 40, 0), (1, 1, 0, 0)])], (0, 0, 0), [], [], ([], [(120, [(2, 0, 40, 0), (1, 1, 0, 0), (0, 0, 0, 0)])]), ([], []))
theorem l_cgH0 (g : GG) : LOK Yt (PSt g) t_cgH0 := by
  intro ρ α Γ M as hT hB hA hP
  have g0 : Γ (α 0) = 40 := tyAt hA (i := 0) rfl
  have b1 : 0 ≤ ρ 1 ∧ ρ 1 ≤ 143 := hB 1
  have h0 : Γ (α 0) = 40 ∧ tyO Γ M (α 0) [(1, 41, [(298, 442)])] ∧ Q122 g (vw M (α 0) 1 [(298, 442)]) (clp [] (M.2.2.2.2 (α 0))) (ρ 1 + 0) := hP _ (List.mem_of_getElem? (i := 0) rfl)
  try simp only [Int.add_zero] at h0
  have key : (Γ (α 0) = 40 ∧ tyO Γ M (α 0) [(1, 41, [(0, 2), (10, 154), (298, 442)])] ∧ Q120 g (vw M (α 0) 1 [(0, 2), (10, 154), (298, 442)]) (clp [] (M.2.2.2.2 (α 0))) (ρ 1 + 0) (0)) ∧ True := by
    try simp only [Int.add_zero]
    refine ⟨⟨g0, tyO_of hT g0 (by decide) (by decide), ?_⟩, trivial⟩
    show 0 = chg (clp [(0, 2), (10, 154), (298, 442)] (M.2.2.2.2 (fl M (α 0) 1))) (ρ 1)
    rw [chg_no]
    intro h
    have h2 : (clp [(0, 2), (10, 154), (298, 442)] (M.2.2.2.2 (fl M (α 0) 1))) (298 + (ρ 1).toNat) ≠ 1 := h.2.1
    
    apply h2
    have hx := h0.2.2.2
    have hx : clp [(298, 442)] (M.2.2.2.2 (fl M (α 0) 1)) (298 + (ρ 1).toNat) = 1 := hx
    rw [ckH (by decide) _ (by omega)] at hx
    rw [rtH (by omega)]
    exact hx
  exact ⟨nB, qB (key.1) (nB)⟩
def t_cgH1 : KT := ((0, 0, 0, 0), [(2, 0, 40, 0), (1, 1, 0, 0)], [(0, 0), (0, 142)], [(122, [(2, 0, 40, 0), (1, 1, 0, 1)])], (0, 0, 0), [], [], ([], [(120, [(2, 0, 40, 0), (1, 1, 0, 0), (0, 0, 0, 0)])]), ([], []))
theorem l_cgH1 (g : GG) : LOK Yt (PSt g) t_cgH1 := by
  intro ρ α Γ M as hT hB hA hP
  have g0 : Γ (α 0) = 40 := tyAt hA (i := 0) rfl
  have b1 : 0 ≤ ρ 1 ∧ ρ 1 ≤ 142 := hB 1
  have h0 : Γ (α 0) = 40 ∧ tyO Γ M (α 0) [(1, 41, [(298, 442)])] ∧ Q122 g (vw M (α 0) 1 [(298, 442)]) (clp [] (M.2.2.2.2 (α 0))) (ρ 1 + 1) := hP _ (List.mem_of_getElem? (i := 0) rfl)
  try simp only [Int.add_zero] at h0
  have key : (Γ (α 0) = 40 ∧ tyO Γ M (α 0) [(1, 41, [(0, 2), (10, 154), (298, 442)])] ∧ Q120 g (vw M (α 0) 1 [(0, 2), (10, 154), (298, 442)]) (clp [] (M.2.2.2.2 (α 0))) (ρ 1 + 0) (0)) ∧ True := by
    try simp only [Int.add_zero]
    refine ⟨⟨g0, tyO_of hT g0 (by decide) (by decide), ?_⟩, trivial⟩
    show 0 = chg (clp [(0, 2), (10, 154), (298, 442)] (M.2.2.2.2 (fl M (α 0) 1))) (ρ 1)
    rw [chg_no]
    intro h
    have h2 : (clp [(0, 2), (10, 154), (298, 442)] (M.2.2.2.2 (fl M (α 0) 1))) (298 + ((ρ 1 + 1)).toNat) ≠ 1 := h.2.2.1
    
    apply h2
    have hx := h0.2.2.2
    have hx : clp [(298, 442)] (M.2.2.2.2 (fl M (α 0) 1)) (298 + (ρ 1 + 1).toNat) = 1 := hx
    rw [ckH (by decide) _ (by omega)] at hx
    rw [rtH (by omega)]
    exact hx
  exact ⟨nB, qB (key.1) (nB)⟩
def t_cgH2 : KT := ((0, 0, 0, 0), [(2, 0, 40, 0), (1, 1, 0, 0), (1, 2, 0, 0)], [(0, 0), (0, 143), (0, 143)], [(186, [(2, 0, 40, 0), (1, 1, 0, 0), (1, 2, 0, 0)]), (122, [(2, 0, 40, 0), (1, 2, 0, 0)])], (0, 0, 0), [], [], ([], [(120, [(2, 0, 40, 0), (1, 1, 0, 0), (0, 0, 0, 0)])]), ([], []))
theorem l_cgH2 (g : GG) : LOK Yt (PSt g) t_cgH2 := by
  intro ρ α Γ M as hT hB hA hP
  have g0 : Γ (α 0) = 40 := tyAt hA (i := 0) rfl
  have b1 : 0 ≤ ρ 1 ∧ ρ 1 ≤ 143 := hB 1
  have b2 : 0 ≤ ρ 2 ∧ ρ 2 ≤ 143 := hB 2
  have h0 : Γ (α 0) = 40 ∧ tyO Γ M (α 0) [(1, 41, [(1, 2)])] ∧ Q186 g (vw M (α 0) 1 [(1, 2)]) (clp [] (M.2.2.2.2 (α 0))) (ρ 1 + 0) (ρ 2 + 0) := hP _ (List.mem_of_getElem? (i := 0) rfl)
  have h1 : Γ (α 0) = 40 ∧ tyO Γ M (α 0) [(1, 41, [(298, 442)])] ∧ Q122 g (vw M (α 0) 1 [(298, 442)]) (clp [] (M.2.2.2.2 (α 0))) (ρ 2 + 0) := hP _ (List.mem_of_getElem? (i := 1) rfl)
  try simp only [Int.add_zero] at h0 h1
  have key : (Γ (α 0) = 40 ∧ tyO Γ M (α 0) [(1, 41, [(0, 2), (10, 154), (298, 442)])] ∧ Q120 g (vw M (α 0) 1 [(0, 2), (10, 154), (298, 442)]) (clp [] (M.2.2.2.2 (α 0))) (ρ 1 + 0) (0)) ∧ True := by
    try simp only [Int.add_zero]
    refine ⟨⟨g0, tyO_of hT g0 (by decide) (by decide), ?_⟩, trivial⟩
    show 0 = chg (clp [(0, 2), (10, 154), (298, 442)] (M.2.2.2.2 (fl M (α 0) 1))) (ρ 1)
    rw [chg_no]
    intro h
    have h2 : (clp [(0, 2), (10, 154), (298, 442)] (M.2.2.2.2 (fl M (α 0) 1))) (298 + ((ρ 1 + ((clp [(0, 2), (10, 154), (298, 442)] (M.2.2.2.2 (fl M (α 0) 1))) 1 + 4))).toNat) ≠ 1 := h.2.2.2.1
    have hb : ρ 2 = ρ 1 + ((clp [(1, 2)] (M.2.2.2.2 (fl M (α 0) 1))) 1 + 4) := h0.2.2
    rw [c11] at hb
    rw [rt1, ← hb] at h2
    apply h2
    have hx := h1.2.2.2
    have hx : clp [(298, 442)] (M.2.2.2.2 (fl M (α 0) 1)) (298 + (ρ 2).toNat) = 1 := hx
    rw [ckH (by decide) _ (by omega)] at hx
    rw [rtH (by omega)]
    exact hx
  exact ⟨nB, qB (key.1) (nB)⟩
def t_cgH3 : KT := ((0, 0, 0, 0), [(2, 0, 40, 0), (1, 1, 0, 0), (1, 2, 0, 0)], [(0, 0), (0, 143), (0, 142)], [(186, [(2, 0, 40, 0), (1, 1, 0, 0), (1, 2, 0, 0)]), (122, [(2, 0, 40, 0), (1, 2, 0, 1)])], (0, 0, 0), [], [], ([], [(120, [(2, 0, 40, 0), (1, 1, 0, 0), (0, 0, 0, 0)])]), ([], []))
theorem l_cgH3 (g : GG) : LOK Yt (PSt g) t_cgH3 := by
  intro ρ α Γ M as hT hB hA hP
  have g0 : Γ (α 0) = 40 := tyAt hA (i := 0) rfl
  have b1 : 0 ≤ ρ 1 ∧ ρ 1 ≤ 143 := hB 1
  have b2 : 0 ≤ ρ 2 ∧ ρ 2 ≤ 142 := hB 2
  have h0 : Γ (α 0) = 40 ∧ tyO Γ M (α 0) [(1, 41, [(1, 2)])] ∧ Q186 g (vw M (α 0) 1 [(1, 2)]) (clp [] (M.2.2.2.2 (α 0))) (ρ 1 + 0) (ρ 2 + 0) := hP _ (List.mem_of_getElem? (i := 0) rfl)
  have h1 : Γ (α 0) = 40 ∧ tyO Γ M (α 0) [(1, 41, [(298, 442)])] ∧ Q122 g (vw M (α 0) 1 [(298, 442)]) (clp [] (M.2.2.2.2 (α 0))) (ρ 2 + 1) := hP _ (List.mem_of_getElem? (i := 1) rfl)
  try simp only [Int.add_zero] at h0 h1
  have key : (Γ (α 0) = 40 ∧ tyO Γ M (α 0) [(1, 41, [(0, 2), (10, 154), (298, 442)])] ∧ Q120 g (vw M (α 0) 1 [(0, 2), (10, 154), (298, 442)]) (clp [] (M.2.2.2.2 (α 0))) (ρ 1 + 0) (0)) ∧ True := by
    try simp only [Int.add_zero]
    refine ⟨⟨g0, tyO_of hT g0 (by decide) (by decide), ?_⟩, trivial⟩
    show 0 = chg (clp [(0, 2), (10, 154), (298, 442)] (M.2.2.2.2 (fl M (α 0) 1))) (ρ 1)
    rw [chg_no]
    intro h
    have h2 : (clp [(0, 2), (10, 154), (298, 442)] (M.2.2.2.2 (fl M (α 0) 1))) (298 + ((ρ 1 + ((clp [(0, 2), (10, 154), (298, 442)] (M.2.2.2.2 (fl M (α 0) 1))) 1 + 4) + 1)).toNat) ≠ 1 := h.2.2.2.2
    have hb : ρ 2 = ρ 1 + ((clp [(1, 2)] (M.2.2.2.2 (fl M (α 0) 1))) 1 + 4) := h0.2.2
    rw [c11] at hb
    rw [rt1, ← hb] at h2
    apply h2
    have hx := h1.2.2.2
    have hx : clp [(298, 442)] (M.2.2.2.2 (fl M (α 0) 1)) (298 + (ρ 2 + 1).toNat) = 1 := hx
    rw [ckH (by decide) _ (by omega)] at hx
    rw [rtH (by omega)]
    exact hx
  exact ⟨nB, qB (key.1) (nB)⟩
def t_cgA : KT := ((0, 0, 0, 0), [(2, 0, 40, 0), (1, 1, 0, 0), (1, 2, 0, 0), (1, 3, 0, 0), (1, 4, 0, 0), (1, 5, 0, 0)], [(0, 0), (0, 140), (2, 142), (-127, 127), (-127, 127), (-2147483648, 2147483647)], [(124, [(2, 0, 40, 0), (1, 1, 0, 0), (1, 1, 0, 1), (1, 3, 0, 0)]), (124, [(2, 0, 40, 0), (1, 1, 0, 1), (1, 2, 0, 1), (1, 4, 0, 0)]), (23, [(1, 3, 0, 0), (1, 4, 0, 0), (1, 5, 0, 0)])], (0, 0, 0), [], [], ([], [(410, [(2, 0, 40, 0), (1, 1, 0, 0), (1, 2, 0, 0), (1, 5, 0, 0)])]), ([], []))
theorem l_cgA (g : GG) : LOK Yt (PSt g) t_cgA := by
  intro ρ α Γ M as hT hB hA hP
  have g0 : Γ (α 0) = 40 := tyAt hA (i := 0) rfl
  have b1 : 0 ≤ ρ 1 ∧ ρ 1 ≤ 140 := hB 1
  have b2 : 2 ≤ ρ 2 ∧ ρ 2 ≤ 142 := hB 2
  have b3 : -127 ≤ ρ 3 ∧ ρ 3 ≤ 127 := hB 3
  have b4 : -127 ≤ ρ 4 ∧ ρ 4 ≤ 127 := hB 4
  have b5 : -2147483648 ≤ ρ 5 ∧ ρ 5 ≤ 2147483647 := hB 5
  have h0 : Γ (α 0) = 40 ∧ tyO Γ M (α 0) [(1, 41, [(10, 154)])] ∧ Q124 g (vw M (α 0) 1 [(10, 154)]) (clp [] (M.2.2.2.2 (α 0))) (ρ 1 + 0) (ρ 1 + 1) (ρ 3 + 0) := hP _ (List.mem_of_getElem? (i := 0) rfl)
  have h1 : Γ (α 0) = 40 ∧ tyO Γ M (α 0) [(1, 41, [(10, 154)])] ∧ Q124 g (vw M (α 0) 1 [(10, 154)]) (clp [] (M.2.2.2.2 (α 0))) (ρ 1 + 1) (ρ 2 + 1) (ρ 4 + 0) := hP _ (List.mem_of_getElem? (i := 1) rfl)
  have h2 : ρ 5 + 0 = wI ((ρ 3 + 0) + (ρ 4 + 0)) := hP _ (List.mem_of_getElem? (i := 2) rfl)
  try simp only [Int.add_zero] at h0 h1 h2
  have key : (Γ (α 0) = 40 ∧ tyO Γ M (α 0) [(1, 41, [(10, 154)])] ∧ Q410 g (vw M (α 0) 1 [(10, 154)]) (clp [] (M.2.2.2.2 (α 0))) (ρ 1 + 0) (ρ 2 + 0) (ρ 5 + 0)) ∧ True := by
    try simp only [Int.add_zero]
    rw [wI_id (by unfold inI; omega)] at h2
    have a : ρ 3 = stpR (clp [(10, 154)] (M.2.2.2.2 (fl M (α 0) 1))) (ρ 1) (ρ 1 + 1) := h0.2.2
    have b : ρ 4 = stpR (clp [(10, 154)] (M.2.2.2.2 (fl M (α 0) 1))) (ρ 1 + 1) (ρ 2 + 1) := h1.2.2
    refine ⟨⟨g0, tyO_of hT g0 (by decide) (by decide), ?_⟩, trivial⟩
    show ρ 5 = stpR (clp [(10, 154)] (M.2.2.2.2 (fl M (α 0) 1))) (ρ 1) (ρ 1 + 1) + stpR (clp [(10, 154)] (M.2.2.2.2 (fl M (α 0) 1))) (ρ 1 + 1) (ρ 2 + 1)
    omega
  exact ⟨nB, qB (key.1) (nB)⟩
def t_cgB : KT := ((0, 0, 0, 0), [(2, 0, 40, 0), (1, 1, 0, 0), (1, 2, 0, 0), (1, 3, 0, 0), (1, 4, 0, 0), (1, 5, 0, 0)], [(0, 0), (0, 140), (2, 142), (-254, 254), (-127, 127), (-2147483648, 2147483647)], [(410, [(2, 0, 40, 0), (1, 1, 0, 0), (1, 2, 0, 0), (1, 3, 0, 0)]), (124, [(2, 0, 40, 0), (1, 2, 0, 1), (1, 2, 0, 0), (1, 4, 0, 0)]), (23, [(1, 3, 0, 0), (1, 4, 0, 0), (1, 5, 0, 0)])], (0, 0, 0), [], [], ([], [(411, [(2, 0, 40, 0), (1, 1, 0, 0), (1, 2, 0, 0), (1, 5, 0, 0)])]), ([], []))
theorem l_cgB (g : GG) : LOK Yt (PSt g) t_cgB := by
  intro ρ α Γ M as hT hB hA hP
  have g0 : Γ (α 0) = 40 := tyAt hA (i := 0) rfl
  have b1 : 0 ≤ ρ 1 ∧ ρ 1 ≤ 140 := hB 1
  have b2 : 2 ≤ ρ 2 ∧ ρ 2 ≤ 142 := hB 2
  have b3 : -254 ≤ ρ 3 ∧ ρ 3 ≤ 254 := hB 3
  have b4 : -127 ≤ ρ 4 ∧ ρ 4 ≤ 127 := hB 4
  have b5 : -2147483648 ≤ ρ 5 ∧ ρ 5 ≤ 2147483647 := hB 5
  have h0 : Γ (α 0) = 40 ∧ tyO Γ M (α 0) [(1, 41, [(10, 154)])] ∧ Q410 g (vw M (α 0) 1 [(10, 154)]) (clp [] (M.2.2.2.2 (α 0))) (ρ 1 + 0) (ρ 2 + 0) (ρ 3 + 0) := hP _ (List.mem_of_getElem? (i := 0) rfl)
  have h1 : Γ (α 0) = 40 ∧ tyO Γ M (α 0) [(1, 41, [(10, 154)])] ∧ Q124 g (vw M (α 0) 1 [(10, 154)]) (clp [] (M.2.2.2.2 (α 0))) (ρ 2 + 1) (ρ 2 + 0) (ρ 4 + 0) := hP _ (List.mem_of_getElem? (i := 1) rfl)
  have h2 : ρ 5 + 0 = wI ((ρ 3 + 0) + (ρ 4 + 0)) := hP _ (List.mem_of_getElem? (i := 2) rfl)
  try simp only [Int.add_zero] at h0 h1 h2
  have key : (Γ (α 0) = 40 ∧ tyO Γ M (α 0) [(1, 41, [(10, 154)])] ∧ Q411 g (vw M (α 0) 1 [(10, 154)]) (clp [] (M.2.2.2.2 (α 0))) (ρ 1 + 0) (ρ 2 + 0) (ρ 5 + 0)) ∧ True := by
    try simp only [Int.add_zero]
    rw [wI_id (by unfold inI; omega)] at h2
    have a : ρ 3 = stpR (clp [(10, 154)] (M.2.2.2.2 (fl M (α 0) 1))) (ρ 1) (ρ 1 + 1) + stpR (clp [(10, 154)] (M.2.2.2.2 (fl M (α 0) 1))) (ρ 1 + 1) (ρ 2 + 1) := h0.2.2
    have b : ρ 4 = stpR (clp [(10, 154)] (M.2.2.2.2 (fl M (α 0) 1))) (ρ 2 + 1) (ρ 2) := h1.2.2
    refine ⟨⟨g0, tyO_of hT g0 (by decide) (by decide), ?_⟩, trivial⟩
    show ρ 5 = stpR (clp [(10, 154)] (M.2.2.2.2 (fl M (α 0) 1))) (ρ 1) (ρ 1 + 1) + stpR (clp [(10, 154)] (M.2.2.2.2 (fl M (α 0) 1))) (ρ 1 + 1) (ρ 2 + 1) + stpR (clp [(10, 154)] (M.2.2.2.2 (fl M (α 0) 1))) (ρ 2 + 1) (ρ 2)
    omega
  exact ⟨nB, qB (key.1) (nB)⟩
def t_cgC : KT := ((0, 0, 0, 0), [(2, 0, 40, 0), (1, 1, 0, 0), (1, 2, 0, 0), (1, 3, 0, 0), (1, 4, 0, 0), (1, 5, 0, 0)], [(0, 0), (0, 140), (2, 142), (-381, 381), (-127, 127), (-2147483648, 2147483647)], [(411, [(2, 0, 40, 0), (1, 1, 0, 0), (1, 2, 0, 0), (1, 3, 0, 0)]), (124, [(2, 0, 40, 0), (1, 2, 0, 0), (1, 1, 0, 0), (1, 4, 0, 0)]), (23, [(1, 3, 0, 0), (1, 4, 0, 0), (1, 5, 0, 0)])], (0, 0, 0), [], [], ([], [(412, [(2, 0, 40, 0), (1, 1, 0, 0), (1, 2, 0, 0), (1, 5, 0, 0)])]), ([], []))
theorem l_cgC (g : GG) : LOK Yt (PSt g) t_cgC := by
  intro ρ α Γ M as hT hB hA hP
  have g0 : Γ (α 0) = 40 := tyAt hA (i := 0) rfl
  have b1 : 0 ≤ ρ 1 ∧ ρ 1 ≤ 140 := hB 1
  have b2 : 2 ≤ ρ 2 ∧ ρ 2 ≤ 142 := hB 2
  have b3 : -381 ≤ ρ 3 ∧ ρ 3 ≤ 381 := hB 3
  have b4 : -127 ≤ ρ 4 ∧ ρ 4 ≤ 127 := hB 4
  have b5 : -2147483648 ≤ ρ 5 ∧ ρ 5 ≤ 2147483647 := hB 5
  have h0 : Γ (α 0) = 40 ∧ tyO Γ M (α 0) [(1, 41, [(10, 154)])] ∧ Q411 g (vw M (α 0) 1 [(10, 154)]) (clp [] (M.2.2.2.2 (α 0))) (ρ 1 + 0) (ρ 2 + 0) (ρ 3 + 0) := hP _ (List.mem_of_getElem? (i := 0) rfl)
  have h1 : Γ (α 0) = 40 ∧ tyO Γ M (α 0) [(1, 41, [(10, 154)])] ∧ Q124 g (vw M (α 0) 1 [(10, 154)]) (clp [] (M.2.2.2.2 (α 0))) (ρ 2 + 0) (ρ 1 + 0) (ρ 4 + 0) := hP _ (List.mem_of_getElem? (i := 1) rfl)
  have h2 : ρ 5 + 0 = wI ((ρ 3 + 0) + (ρ 4 + 0)) := hP _ (List.mem_of_getElem? (i := 2) rfl)
  try simp only [Int.add_zero] at h0 h1 h2
  have key : (Γ (α 0) = 40 ∧ tyO Γ M (α 0) [(1, 41, [(10, 154)])] ∧ Q412 g (vw M (α 0) 1 [(10, 154)]) (clp [] (M.2.2.2.2 (α 0))) (ρ 1 + 0) (ρ 2 + 0) (ρ 5 + 0)) ∧ True := by
    try simp only [Int.add_zero]
    rw [wI_id (by unfold inI; omega)] at h2
    have a : ρ 3 = stpR (clp [(10, 154)] (M.2.2.2.2 (fl M (α 0) 1))) (ρ 1) (ρ 1 + 1) + stpR (clp [(10, 154)] (M.2.2.2.2 (fl M (α 0) 1))) (ρ 1 + 1) (ρ 2 + 1) + stpR (clp [(10, 154)] (M.2.2.2.2 (fl M (α 0) 1))) (ρ 2 + 1) (ρ 2) := h0.2.2
    have b : ρ 4 = stpR (clp [(10, 154)] (M.2.2.2.2 (fl M (α 0) 1))) (ρ 2) (ρ 1) := h1.2.2
    refine ⟨⟨g0, tyO_of hT g0 (by decide) (by decide), ?_⟩, trivial⟩
    show ρ 5 = stpR (clp [(10, 154)] (M.2.2.2.2 (fl M (α 0) 1))) (ρ 1) (ρ 1 + 1) + stpR (clp [(10, 154)] (M.2.2.2.2 (fl M (α 0) 1))) (ρ 1 + 1) (ρ 2 + 1) + stpR (clp [(10, 154)] (M.2.2.2.2 (fl M (α 0) 1))) (ρ 2 + 1) (ρ 2) + stpR (clp [(10, 154)] (M.2.2.2.2 (fl M (α 0) 1))) (ρ 2) (ρ 1)
    omega
  exact ⟨nB, qB (key.1) (nB)⟩
def t_cgD : KT := ((0, 0, 0, 0), [(2, 0, 40, 0), (1, 1, 0, 0), (1, 2, 0, 0), (1, 3, 0, 0), (1, 4, 0, 0)], [(0, 0), (0, 140), (2, 142), (-508, 508), (-2147483648, 2147483647)], [(98, [(2, 0, 40, 0), (1, 1, 0, 0)]), (186, [(2, 0, 40, 0), (1, 1, 0, 0), (1, 2, 0, 0)]), (412, [(2, 0, 40, 0), (1, 1, 0, 0), (1, 2, 0, 0), (1, 3, 0, 0)]), (26, [(1, 3, 0, 0), (0, 0, 0, 255), (1, 4, 0, 0)]), (123, [(2, 0, 40, 0), (1, 1, 0, 0)]), (123, [(2, 0, 40, 0), (1, 1, 0, 1)]), (123, [(2, 0, 40, 0), (1, 2, 0, 0)]), (123, [(2, 0, 40, 0), (1, 2, 0, 1)])], (0, 0, 0), [], [], ([], [(120, [(2, 0, 40, 0), (1, 1, 0, 0), (1, 4, 0, 0)])]), ([], []))
theorem l_cgD (g : GG) : LOK Yt (PSt g) t_cgD := by
  intro ρ α Γ M as hT hB hA hP
  have g0 : Γ (α 0) = 40 := tyAt hA (i := 0) rfl
  have b1 : 0 ≤ ρ 1 ∧ ρ 1 ≤ 140 := hB 1
  have b2 : 2 ≤ ρ 2 ∧ ρ 2 ≤ 142 := hB 2
  have b3 : -508 ≤ ρ 3 ∧ ρ 3 ≤ 508 := hB 3
  have b4 : -2147483648 ≤ ρ 4 ∧ ρ 4 ≤ 2147483647 := hB 4
  have h0 : nwE Γ M (α 0) fun r c => rgP r c (ρ 1 + 0) := hP _ (List.mem_of_getElem? (i := 0) rfl)
  have h1 : Γ (α 0) = 40 ∧ tyO Γ M (α 0) [(1, 41, [(1, 2)])] ∧ Q186 g (vw M (α 0) 1 [(1, 2)]) (clp [] (M.2.2.2.2 (α 0))) (ρ 1 + 0) (ρ 2 + 0) := hP _ (List.mem_of_getElem? (i := 1) rfl)
  have h2 : Γ (α 0) = 40 ∧ tyO Γ M (α 0) [(1, 41, [(10, 154)])] ∧ Q412 g (vw M (α 0) 1 [(10, 154)]) (clp [] (M.2.2.2.2 (α 0))) (ρ 1 + 0) (ρ 2 + 0) (ρ 3 + 0) := hP _ (List.mem_of_getElem? (i := 2) rfl)
  have h3 : ρ 4 + 0 = wI ((ρ 3 + 0 : Int).tdiv (255)) := hP _ (List.mem_of_getElem? (i := 3) rfl)
  have h4 : Γ (α 0) = 40 ∧ tyO Γ M (α 0) [(1, 41, [(298, 442)])] ∧ Q123 g (vw M (α 0) 1 [(298, 442)]) (clp [] (M.2.2.2.2 (α 0))) (ρ 1 + 0) := hP _ (List.mem_of_getElem? (i := 4) rfl)
  have h5 : Γ (α 0) = 40 ∧ tyO Γ M (α 0) [(1, 41, [(298, 442)])] ∧ Q123 g (vw M (α 0) 1 [(298, 442)]) (clp [] (M.2.2.2.2 (α 0))) (ρ 1 + 1) := hP _ (List.mem_of_getElem? (i := 5) rfl)
  have h6 : Γ (α 0) = 40 ∧ tyO Γ M (α 0) [(1, 41, [(298, 442)])] ∧ Q123 g (vw M (α 0) 1 [(298, 442)]) (clp [] (M.2.2.2.2 (α 0))) (ρ 2 + 0) := hP _ (List.mem_of_getElem? (i := 6) rfl)
  have h7 : Γ (α 0) = 40 ∧ tyO Γ M (α 0) [(1, 41, [(298, 442)])] ∧ Q123 g (vw M (α 0) 1 [(298, 442)]) (clp [] (M.2.2.2.2 (α 0))) (ρ 2 + 1) := hP _ (List.mem_of_getElem? (i := 7) rfl)
  try simp only [Int.add_zero] at h0 h1 h2 h3 h4 h5 h6 h7
  have key : (Γ (α 0) = 40 ∧ tyO Γ M (α 0) [(1, 41, [(0, 2), (10, 154), (298, 442)])] ∧ Q120 g (vw M (α 0) 1 [(0, 2), (10, 154), (298, 442)]) (clp [] (M.2.2.2.2 (α 0))) (ρ 1 + 0) (ρ 4 + 0)) ∧ True := by
    try simp only [Int.add_zero]
    have hr := nwF h0
    have hb : ρ 2 = ρ 1 + ((clp [(1, 2)] (M.2.2.2.2 (fl M (α 0) 1))) 1 + 4) := h1.2.2
    rw [c11] at hb
    have ha : ρ 3 = stpR (clp [(10, 154)] (M.2.2.2.2 (fl M (α 0) 1))) (ρ 1) (ρ 1 + 1) + stpR (clp [(10, 154)] (M.2.2.2.2 (fl M (α 0) 1))) (ρ 1 + 1) (ρ 2 + 1) + stpR (clp [(10, 154)] (M.2.2.2.2 (fl M (α 0) 1))) (ρ 2 + 1) (ρ 2) + stpR (clp [(10, 154)] (M.2.2.2.2 (fl M (α 0) 1))) (ρ 2) (ρ 1) := h2.2.2
    rw [stpP (by omega) (by omega), stpP (by omega) (by omega), stpP (by omega) (by omega), stpP (by omega) (by omega)] at ha
    have k4 : clp [(298, 442)] (M.2.2.2.2 (fl M (α 0) 1)) (298 + (ρ 1).toNat) ≠ 1 := h4.2.2.2
    have k5 : clp [(298, 442)] (M.2.2.2.2 (fl M (α 0) 1)) (298 + (ρ 1 + 1).toNat) ≠ 1 := h5.2.2.2
    have k6 : clp [(298, 442)] (M.2.2.2.2 (fl M (α 0) 1)) (298 + (ρ 2).toNat) ≠ 1 := h6.2.2.2
    have k7 : clp [(298, 442)] (M.2.2.2.2 (fl M (α 0) 1)) (298 + (ρ 2 + 1).toNat) ≠ 1 := h7.2.2.2
    rw [ckH (by decide) _ (by omega)] at k4 k5 k6 k7
    have hc : chgP (clp [(0, 2), (10, 154), (298, 442)] (M.2.2.2.2 (fl M (α 0) 1))) (ρ 1) := by
      unfold chgP
      rw [rt0, rt1, ← hb, rtH (by omega), rtH (by omega), rtH (by omega), rtH (by omega)]
      exact ⟨hr, k4, k5, k6, k7⟩
    refine ⟨⟨g0, tyO_of hT g0 (by decide) (by decide), ?_⟩, trivial⟩
    show ρ 4 = chg (clp [(0, 2), (10, 154), (298, 442)] (M.2.2.2.2 (fl M (α 0) 1))) (ρ 1)
    rw [chg_yes hc]
    unfold chgS
    rw [rt1, ← hb, stpT (by omega) (by omega), stpT (by omega) (by omega), stpT (by omega) (by omega), stpT (by omega) (by omega), ← ha, h3]
    have hq : (ρ 3).tdiv 255 ≤ 508 ∧ -508 ≤ (ρ 3).tdiv 255 := by
      by_cases hs : 0 ≤ ρ 3
      · rw [Int.tdiv_eq_ediv_of_nonneg hs]
        omega
      · have e : ρ 3 = -(-ρ 3) := by omega
        rw [e, Int.neg_tdiv, Int.tdiv_eq_ediv_of_nonneg (by omega)]
        omega
    exact wI_id (by unfold inI; omega)
  exact ⟨nB, qB (key.1) (nB)⟩
def t_au1 : KT := ((0, 0, 0, 0), [(2, 0, 40, 0), (2, 1, 44, 0), (1, 2, 0, 0), (1, 3, 0, 0), (1, 4, 0, 0)], [(0, 0), (0, 0), (0, 143), (-2147483648, 2147483647), (-2147483648, 2147483647)], [(11, [(2, 0, 40, 0), (0, 0, 0, 8), (2, 1, 44, 0)]), (10, [(2, 1, 44, 0), (1, 2, 0, 0), (1, 3, 0, 0)]), (120, [(2, 0, 40, 0), (1, 3, 0, 0), (1, 4, 0, 0)])], (0, 0, 0), [], [], ([], [(188, [(2, 0, 40, 0), (1, 2, 0, 0), (1, 4, 0, 0)])]), ([], []))
theorem l_au1 (g : GG) : LOK Yt (PSt g) t_au1 := by
  intro ρ α Γ M as hT hB hA hP
  have g0 : Γ (α 0) = 40 := tyAt hA (i := 0) rfl
  have g1 : Γ (α 1) = 44 := tyAt hA (i := 1) rfl
  have b2 : 0 ≤ ρ 2 ∧ ρ 2 ≤ 143 := hB 2
  have b3 : -2147483648 ≤ ρ 3 ∧ ρ 3 ≤ 2147483647 := hB 3
  have b4 : -2147483648 ≤ ρ 4 ∧ ρ 4 ≤ 2147483647 := hB 4
  have h0 : 0 ≤ (8 : Int) ∧ M.2.2.2.1 (α 0) (8 : Int).toNat = some (α 1) := hP _ (List.mem_of_getElem? (i := 0) rfl)
  have h1 : 0 ≤ (ρ 2 + 0 : Int) ∧ M.2.2.2.2 (α 1) (ρ 2 + 0 : Int).toNat = ρ 3 + 0 := hP _ (List.mem_of_getElem? (i := 1) rfl)
  have h2 : Γ (α 0) = 40 ∧ tyO Γ M (α 0) [(1, 41, [(0, 2), (10, 154), (298, 442)])] ∧ Q120 g (vw M (α 0) 1 [(0, 2), (10, 154), (298, 442)]) (clp [] (M.2.2.2.2 (α 0))) (ρ 3 + 0) (ρ 4 + 0) := hP _ (List.mem_of_getElem? (i := 2) rfl)
  try simp only [Int.add_zero] at h0 h1 h2
  have key : (Γ (α 0) = 40 ∧ tyO Γ M (α 0) [(1, 41, [(0, 2), (10, 154), (298, 442)]), (8, 44, [(0, 144)])] ∧ Q188 g (vw M (α 0) 1 [(0, 2), (10, 154), (298, 442)]) (vw M (α 0) 8 [(0, 144)]) (clp [] (M.2.2.2.2 (α 0))) (ρ 2 + 0) (ρ 4 + 0)) ∧ True := by
    try simp only [Int.add_zero]
    have e8 : fl M (α 0) 8 = α 1 := fl_eq (show M.2.2.2.1 (α 0) 8 = some (α 1) from h0.2)
    
    have e : M.2.2.2.2 (α 1) (ρ 2).toNat = ρ 3 := h1.2
    have hz : ρ 4 = chg (clp [(0, 2), (10, 154), (298, 442)] (M.2.2.2.2 (fl M (α 0) 1))) (ρ 3) := h2.2.2
    refine ⟨⟨g0, tyO_of hT g0 (by decide) (by decide), ?_⟩, trivial⟩
    show ρ 4 = chg (clp [(0, 2), (10, 154), (298, 442)] (M.2.2.2.2 (fl M (α 0) 1))) (clp [(0, 144)] (M.2.2.2.2 (fl M (α 0) 8)) (ρ 2).toNat)
    rw [e8, cAll (by omega), e]
    exact hz
  exact ⟨nB, qB (key.1) (nB)⟩
def t_auT : KT := ((0, 0, 0, 0), [(2, 0, 40, 0), (1, 1, 0, 0), (1, 2, 0, 0), (1, 3, 0, 0), (1, 4, 0, 0), (1, 5, 0, 0)], [(0, 0), (-2147483648, 2147483647), (-2147483648, 2147483647), (-1000000, 1000000), (-1000000, 1000000), (0, 0)], [(188, [(2, 0, 40, 0), (1, 1, 0, 0), (1, 3, 0, 0)]), (188, [(2, 0, 40, 0), (1, 2, 0, 0), (1, 4, 0, 0)]), (23, [(1, 3, 0, 0), (1, 4, 0, 0), (1, 5, 0, 0)])], (0, 0, 0), [], [], ([], [(152, [(2, 0, 40, 0), (1, 1, 0, 0), (1, 2, 0, 0)])]), ([], []))
theorem l_auT (g : GG) : LOK Yt (PSt g) t_auT := by
  intro ρ α Γ M as hT hB hA hP
  have g0 : Γ (α 0) = 40 := tyAt hA (i := 0) rfl
  have b1 : -2147483648 ≤ ρ 1 ∧ ρ 1 ≤ 2147483647 := hB 1
  have b2 : -2147483648 ≤ ρ 2 ∧ ρ 2 ≤ 2147483647 := hB 2
  have b3 : -1000000 ≤ ρ 3 ∧ ρ 3 ≤ 1000000 := hB 3
  have b4 : -1000000 ≤ ρ 4 ∧ ρ 4 ≤ 1000000 := hB 4
  have b5 : 0 ≤ ρ 5 ∧ ρ 5 ≤ 0 := hB 5
  have h0 : Γ (α 0) = 40 ∧ tyO Γ M (α 0) [(1, 41, [(0, 2), (10, 154), (298, 442)]), (8, 44, [(0, 144)])] ∧ Q188 g (vw M (α 0) 1 [(0, 2), (10, 154), (298, 442)]) (vw M (α 0) 8 [(0, 144)]) (clp [] (M.2.2.2.2 (α 0))) (ρ 1 + 0) (ρ 3 + 0) := hP _ (List.mem_of_getElem? (i := 0) rfl)
  have h1 : Γ (α 0) = 40 ∧ tyO Γ M (α 0) [(1, 41, [(0, 2), (10, 154), (298, 442)]), (8, 44, [(0, 144)])] ∧ Q188 g (vw M (α 0) 1 [(0, 2), (10, 154), (298, 442)]) (vw M (α 0) 8 [(0, 144)]) (clp [] (M.2.2.2.2 (α 0))) (ρ 2 + 0) (ρ 4 + 0) := hP _ (List.mem_of_getElem? (i := 1) rfl)
  have h2 : ρ 5 + 0 = wI ((ρ 3 + 0) + (ρ 4 + 0)) := hP _ (List.mem_of_getElem? (i := 2) rfl)
  try simp only [Int.add_zero] at h0 h1 h2
  have key : (Γ (α 0) = 40 ∧ tyO Γ M (α 0) [(1, 41, [(0, 2), (10, 154), (298, 442)]), (8, 44, [(0, 144)])] ∧ Q152 g (vw M (α 0) 1 [(0, 2), (10, 154), (298, 442)]) (vw M (α 0) 8 [(0, 144)]) (clp [] (M.2.2.2.2 (α 0))) (ρ 1 + 0) (ρ 2 + 0)) ∧ True := by
    try simp only [Int.add_zero]
    have a : ρ 3 = chg (clp [(0, 2), (10, 154), (298, 442)] (M.2.2.2.2 (fl M (α 0) 1))) (clp [(0, 144)] (M.2.2.2.2 (fl M (α 0) 8)) (ρ 1).toNat) := h0.2.2
    have b : ρ 4 = chg (clp [(0, 2), (10, 154), (298, 442)] (M.2.2.2.2 (fl M (α 0) 1))) (clp [(0, 144)] (M.2.2.2.2 (fl M (α 0) 8)) (ρ 2).toNat) := h1.2.2
    rw [wI_id (by unfold inI; omega)] at h2
    refine ⟨⟨g0, tyO_of hT g0 (by decide) (by decide), ?_⟩, trivial⟩
    show chg (clp [(0, 2), (10, 154), (298, 442)] (M.2.2.2.2 (fl M (α 0) 1))) (clp [(0, 144)] (M.2.2.2.2 (fl M (α 0) 8)) (ρ 1).toNat) + chg (clp [(0, 2), (10, 154), (298, 442)] (M.2.2.2.2 (fl M (α 0) 1))) (clp [(0, 144)] (M.2.2.2.2 (fl M (α 0) 8)) (ρ 2).toNat) = 0
    omega
  exact ⟨nB, qB (key.1) (nB)⟩
def t_auF : KT := ((0, 0, 0, 0), [(2, 0, 40, 0), (1, 1, 0, 0), (1, 2, 0, 0), (1, 3, 0, 0), (1, 4, 0, 0), (1, 5, 0, 0)], [(0, 0), (-2147483648, 2147483647), (-2147483648, 2147483647), (-1000000, 1000000), (-1000000, 1000000), (-2147483648, 2147483647)], [(188, [(2, 0, 40, 0), (1, 1, 0, 0), (1, 3, 0, 0)]), (188, [(2, 0, 40, 0), (1, 2, 0, 0), (1, 4, 0, 0)]), (23, [(1, 3, 0, 0), (1, 4, 0, 0), (1, 5, 0, 0)]), (99, [(1, 5, 0, 0), (0, 0, 0, 0), (0, 0, 0, 0)])], (0, 0, 0), [], [], ([], [(153, [(2, 0, 40, 0), (1, 1, 0, 0), (1, 2, 0, 0)])]), ([], []))
theorem l_auF (g : GG) : LOK Yt (PSt g) t_auF := by
  intro ρ α Γ M as hT hB hA hP
  have g0 : Γ (α 0) = 40 := tyAt hA (i := 0) rfl
  have b1 : -2147483648 ≤ ρ 1 ∧ ρ 1 ≤ 2147483647 := hB 1
  have b2 : -2147483648 ≤ ρ 2 ∧ ρ 2 ≤ 2147483647 := hB 2
  have b3 : -1000000 ≤ ρ 3 ∧ ρ 3 ≤ 1000000 := hB 3
  have b4 : -1000000 ≤ ρ 4 ∧ ρ 4 ≤ 1000000 := hB 4
  have b5 : -2147483648 ≤ ρ 5 ∧ ρ 5 ≤ 2147483647 := hB 5
  have h0 : Γ (α 0) = 40 ∧ tyO Γ M (α 0) [(1, 41, [(0, 2), (10, 154), (298, 442)]), (8, 44, [(0, 144)])] ∧ Q188 g (vw M (α 0) 1 [(0, 2), (10, 154), (298, 442)]) (vw M (α 0) 8 [(0, 144)]) (clp [] (M.2.2.2.2 (α 0))) (ρ 1 + 0) (ρ 3 + 0) := hP _ (List.mem_of_getElem? (i := 0) rfl)
  have h1 : Γ (α 0) = 40 ∧ tyO Γ M (α 0) [(1, 41, [(0, 2), (10, 154), (298, 442)]), (8, 44, [(0, 144)])] ∧ Q188 g (vw M (α 0) 1 [(0, 2), (10, 154), (298, 442)]) (vw M (α 0) 8 [(0, 144)]) (clp [] (M.2.2.2.2 (α 0))) (ρ 2 + 0) (ρ 4 + 0) := hP _ (List.mem_of_getElem? (i := 1) rfl)
  have h2 : ρ 5 + 0 = wI ((ρ 3 + 0) + (ρ 4 + 0)) := hP _ (List.mem_of_getElem? (i := 2) rfl)
  have h3 : (ρ 5 + 0 : Int) ≠ 0 := hP _ (List.mem_of_getElem? (i := 3) rfl)
  try simp only [Int.add_zero] at h0 h1 h2 h3
  have key : (Γ (α 0) = 40 ∧ tyO Γ M (α 0) [(1, 41, [(0, 2), (10, 154), (298, 442)]), (8, 44, [(0, 144)])] ∧ Q153 g (vw M (α 0) 1 [(0, 2), (10, 154), (298, 442)]) (vw M (α 0) 8 [(0, 144)]) (clp [] (M.2.2.2.2 (α 0))) (ρ 1 + 0) (ρ 2 + 0)) ∧ True := by
    try simp only [Int.add_zero]
    have a : ρ 3 = chg (clp [(0, 2), (10, 154), (298, 442)] (M.2.2.2.2 (fl M (α 0) 1))) (clp [(0, 144)] (M.2.2.2.2 (fl M (α 0) 8)) (ρ 1).toNat) := h0.2.2
    have b : ρ 4 = chg (clp [(0, 2), (10, 154), (298, 442)] (M.2.2.2.2 (fl M (α 0) 1))) (clp [(0, 144)] (M.2.2.2.2 (fl M (α 0) 8)) (ρ 2).toNat) := h1.2.2
    rw [wI_id (by unfold inI; omega)] at h2
    refine ⟨⟨g0, tyO_of hT g0 (by decide) (by decide), ?_⟩, trivial⟩
    show chg (clp [(0, 2), (10, 154), (298, 442)] (M.2.2.2.2 (fl M (α 0) 1))) (clp [(0, 144)] (M.2.2.2.2 (fl M (α 0) 8)) (ρ 1).toNat) + chg (clp [(0, 2), (10, 154), (298, 442)] (M.2.2.2.2 (fl M (α 0) 1))) (clp [(0, 144)] (M.2.2.2.2 (fl M (α 0) 8)) (ρ 2).toNat) ≠ 0
    omega
  exact ⟨nB, qB (key.1) (nB)⟩
def t_fo1 : KT := ((0, 0, 0, 0), [(2, 0, 40, 0), (1, 1, 0, 0), (1, 2, 0, 0), (1, 3, 0, 0), (1, 4, 0, 0), (1, 5, 0, 0), (1, 6, 0, 0)], [(0, 0), (0, 143), (0, 143), (-2147483648, 2147483647), (-2147483648, 2147483647), (-2147483648, 2147483647), (-2147483648, 2147483647)], [(9, [(2, 0, 40, 0), (1, 1, 0, 0), (1, 3, 0, 0)]), (9, [(2, 0, 40, 0), (1, 2, 0, 0), (1, 4, 0, 0)]), (24, [(1, 3, 0, 0), (1, 4, 0, 0), (1, 5, 0, 0)]), (163, [(2, 0, 40, 0), (1, 5, 0, 0), (1, 6, 0, 0)])], (0, 0, 0), [], [], ([], [(189, [(2, 0, 40, 0), (1, 1, 0, 0), (1, 2, 0, 0), (1, 6, 0, 0)])]), ([], []))
theorem l_fo1 (g : GG) : LOK Yt (PSt g) t_fo1 := by
  intro ρ α Γ M as hT hB hA hP
  have g0 : Γ (α 0) = 40 := tyAt hA (i := 0) rfl
  have b1 : 0 ≤ ρ 1 ∧ ρ 1 ≤ 143 := hB 1
  have b2 : 0 ≤ ρ 2 ∧ ρ 2 ≤ 143 := hB 2
  have b3 : -2147483648 ≤ ρ 3 ∧ ρ 3 ≤ 2147483647 := hB 3
  have b4 : -2147483648 ≤ ρ 4 ∧ ρ 4 ≤ 2147483647 := hB 4
  have b5 : -2147483648 ≤ ρ 5 ∧ ρ 5 ≤ 2147483647 := hB 5
  have b6 : -2147483648 ≤ ρ 6 ∧ ρ 6 ≤ 2147483647 := hB 6
  have h0 : nwE Γ M (α 0) fun r c => ρ 3 + 0 = (ρ 1 + 0) / c := hP _ (List.mem_of_getElem? (i := 0) rfl)
  have h1 : nwE Γ M (α 0) fun r c => ρ 4 + 0 = (ρ 2 + 0) / c := hP _ (List.mem_of_getElem? (i := 1) rfl)
  have h2 : ρ 5 + 0 = wI ((ρ 3 + 0) - (ρ 4 + 0)) := hP _ (List.mem_of_getElem? (i := 2) rfl)
  have h3 : Γ (α 0) = 40 ∧ tyO Γ M (α 0) [] ∧ Q163 g  (clp [] (M.2.2.2.2 (α 0))) (ρ 5 + 0) (ρ 6 + 0) := hP _ (List.mem_of_getElem? (i := 3) rfl)
  try simp only [Int.add_zero] at h0 h1 h2 h3
  have key : (Γ (α 0) = 40 ∧ tyO Γ M (α 0) [(1, 41, [(1, 2)])] ∧ Q189 g (vw M (α 0) 1 [(1, 2)]) (clp [] (M.2.2.2.2 (α 0))) (ρ 1 + 0) (ρ 2 + 0) (ρ 6 + 0)) ∧ True := by
    try simp only [Int.add_zero]
    have a := nwF h0
    have b := nwF h1
    have d := nwD hT g0
    obtain ⟨-, -, -, -, -, p1, p2⟩ := dm (p := ρ 1) b1.1 (show 0 < ((M.2.2.2.2 (fl M (α 0) 1)) 1 + 4) by omega)
    obtain ⟨-, -, -, -, -, q1, q2⟩ := dm (p := ρ 2) b2.1 (show 0 < ((M.2.2.2.2 (fl M (α 0) 1)) 1 + 4) by omega)
    rw [← a] at p1 p2
    rw [← b] at q1 q2
    rw [wI_id (by unfold inI; omega)] at h2
    have e : ρ 6 = abN (ρ 5) := h3.2.2
    refine ⟨⟨g0, tyO_of hT g0 (by decide) (by decide), ?_⟩, trivial⟩
    show ρ 6 = abN (ρ 1 / ((clp [(1, 2)] (M.2.2.2.2 (fl M (α 0) 1))) 1 + 4) - ρ 2 / ((clp [(1, 2)] (M.2.2.2.2 (fl M (α 0) 1))) 1 + 4))
    rw [c11, e, h2, a, b]
  exact ⟨nB, qB (key.1) (nB)⟩
def t_fo2 : KT := ((0, 0, 0, 0), [(2, 0, 40, 0), (1, 1, 0, 0), (1, 2, 0, 0), (1, 3, 0, 0), (1, 4, 0, 0), (1, 5, 0, 0), (1, 6, 0, 0), (1, 7, 0, 0), (1, 8, 0, 0)], [(0, 0), (0, 143), (0, 143), (0, 2000), (-2147483648, 2147483647), (-2147483648, 2147483647), (-2147483648, 2147483647), (0, 2000), (-2147483648, 2147483647)], [(189, [(2, 0, 40, 0), (1, 1, 0, 0), (1, 2, 0, 0), (1, 3, 0, 0)]), (96, [(2, 0, 40, 0), (1, 1, 0, 0), (1, 4, 0, 0)]), (96, [(2, 0, 40, 0), (1, 2, 0, 0), (1, 5, 0, 0)]), (24, [(1, 4, 0, 0), (1, 5, 0, 0), (1, 6, 0, 0)]), (163, [(2, 0, 40, 0), (1, 6, 0, 0), (1, 7, 0, 0)]), (23, [(1, 3, 0, 0), (1, 7, 0, 0), (1, 8, 0, 0)])], (0, 0, 0), [], [], ([], [(151, [(2, 0, 40, 0), (1, 1, 0, 0), (1, 2, 0, 0), (1, 8, 0, 0)])]), ([], []))
theorem l_fo2 (g : GG) : LOK Yt (PSt g) t_fo2 := by
  intro ρ α Γ M as hT hB hA hP
  have g0 : Γ (α 0) = 40 := tyAt hA (i := 0) rfl
  have b1 : 0 ≤ ρ 1 ∧ ρ 1 ≤ 143 := hB 1
  have b2 : 0 ≤ ρ 2 ∧ ρ 2 ≤ 143 := hB 2
  have b3 : 0 ≤ ρ 3 ∧ ρ 3 ≤ 2000 := hB 3
  have b4 : -2147483648 ≤ ρ 4 ∧ ρ 4 ≤ 2147483647 := hB 4
  have b5 : -2147483648 ≤ ρ 5 ∧ ρ 5 ≤ 2147483647 := hB 5
  have b6 : -2147483648 ≤ ρ 6 ∧ ρ 6 ≤ 2147483647 := hB 6
  have b7 : 0 ≤ ρ 7 ∧ ρ 7 ≤ 2000 := hB 7
  have b8 : -2147483648 ≤ ρ 8 ∧ ρ 8 ≤ 2147483647 := hB 8
  have h0 : Γ (α 0) = 40 ∧ tyO Γ M (α 0) [(1, 41, [(1, 2)])] ∧ Q189 g (vw M (α 0) 1 [(1, 2)]) (clp [] (M.2.2.2.2 (α 0))) (ρ 1 + 0) (ρ 2 + 0) (ρ 3 + 0) := hP _ (List.mem_of_getElem? (i := 0) rfl)
  have h1 : nwE Γ M (α 0) fun r c => ρ 4 + 0 = (ρ 1 + 0) % c := hP _ (List.mem_of_getElem? (i := 1) rfl)
  have h2 : nwE Γ M (α 0) fun r c => ρ 5 + 0 = (ρ 2 + 0) % c := hP _ (List.mem_of_getElem? (i := 2) rfl)
  have h3 : ρ 6 + 0 = wI ((ρ 4 + 0) - (ρ 5 + 0)) := hP _ (List.mem_of_getElem? (i := 3) rfl)
  have h4 : Γ (α 0) = 40 ∧ tyO Γ M (α 0) [] ∧ Q163 g  (clp [] (M.2.2.2.2 (α 0))) (ρ 6 + 0) (ρ 7 + 0) := hP _ (List.mem_of_getElem? (i := 4) rfl)
  have h5 : ρ 8 + 0 = wI ((ρ 3 + 0) + (ρ 7 + 0)) := hP _ (List.mem_of_getElem? (i := 5) rfl)
  try simp only [Int.add_zero] at h0 h1 h2 h3 h4 h5
  have key : (Γ (α 0) = 40 ∧ tyO Γ M (α 0) [(1, 41, [(1, 2)])] ∧ Q151 g (vw M (α 0) 1 [(1, 2)]) (clp [] (M.2.2.2.2 (α 0))) (ρ 1 + 0) (ρ 2 + 0) (ρ 8 + 0)) ∧ True := by
    try simp only [Int.add_zero]
    have a := nwF h1
    have b := nwF h2
    have d := nwD hT g0
    have p1 := Int.emod_nonneg (ρ 1) (show ((M.2.2.2.2 (fl M (α 0) 1)) 1 + 4) ≠ 0 by omega)
    have p2 := Int.emod_lt_of_pos (ρ 1) (show 0 < ((M.2.2.2.2 (fl M (α 0) 1)) 1 + 4) by omega)
    have q1 := Int.emod_nonneg (ρ 2) (show ((M.2.2.2.2 (fl M (α 0) 1)) 1 + 4) ≠ 0 by omega)
    have q2 := Int.emod_lt_of_pos (ρ 2) (show 0 < ((M.2.2.2.2 (fl M (α 0) 1)) 1 + 4) by omega)
    rw [← a] at p1 p2
    rw [← b] at q1 q2
    rw [wI_id (by unfold inI; omega)] at h3
    rw [wI_id (by unfold inI; omega)] at h5
    have e : ρ 7 = abN (ρ 6) := h4.2.2
    have e0 : ρ 3 = abN (ρ 1 / ((clp [(1, 2)] (M.2.2.2.2 (fl M (α 0) 1))) 1 + 4) - ρ 2 / ((clp [(1, 2)] (M.2.2.2.2 (fl M (α 0) 1))) 1 + 4)) := h0.2.2
    refine ⟨⟨g0, tyO_of hT g0 (by decide) (by decide), ?_⟩, trivial⟩
    show ρ 8 = foF ((clp [(1, 2)] (M.2.2.2.2 (fl M (α 0) 1))) 1 + 4) (ρ 1) (ρ 2)
    unfold foF
    rw [← e0, c11, h5, e, h3, a, b]
  exact ⟨nB, qB (key.1) (nB)⟩
def t_ts0 : KT := ((0, 0, 0, 0), [(2, 0, 40, 0), (1, 1, 0, 0), (1, 2, 0, 0), (1, 3, 0, 0)], [(0, 0), (0, 143), (0, 0), (-2147483648, 2147483647)], [(9, [(2, 0, 40, 0), (1, 1, 0, 0), (1, 3, 0, 0)])], (0, 0, 0), [], [], ([], [(164, [(2, 0, 40, 0), (1, 1, 0, 0), (1, 2, 0, 0), (1, 3, 0, 1)])]), ([], []))
theorem l_ts0 (g : GG) : LOK Yt (PSt g) t_ts0 := by
  intro ρ α Γ M as hT hB hA hP
  have g0 : Γ (α 0) = 40 := tyAt hA (i := 0) rfl
  have b1 : 0 ≤ ρ 1 ∧ ρ 1 ≤ 143 := hB 1
  have b2 : 0 ≤ ρ 2 ∧ ρ 2 ≤ 0 := hB 2
  have b3 : -2147483648 ≤ ρ 3 ∧ ρ 3 ≤ 2147483647 := hB 3
  have h0 : nwE Γ M (α 0) fun r c => ρ 3 + 0 = (ρ 1 + 0) / c := hP _ (List.mem_of_getElem? (i := 0) rfl)
  try simp only [Int.add_zero] at h0
  have key : (Γ (α 0) = 40 ∧ tyO Γ M (α 0) [(1, 41, [(0, 2)])] ∧ Q164 g (vw M (α 0) 1 [(0, 2)]) (clp [] (M.2.2.2.2 (α 0))) (ρ 1 + 0) (ρ 2 + 0) (ρ 3 + 1)) ∧ True := by
    try simp only [Int.add_zero]
    have a := nwF h0
    refine ⟨⟨g0, tyO_of hT g0 (by decide) (by decide), ?_⟩, trivial⟩
    show ρ 3 + 1 = tsF ((clp [(0, 2)] (M.2.2.2.2 (fl M (α 0) 1))) 0 + 4) ((clp [(0, 2)] (M.2.2.2.2 (fl M (α 0) 1))) 1 + 4) (ρ 1) (ρ 2)
    rw [rc0, rc1']
    unfold tsF
    rw [if_pos (by omega), ← a]
  exact ⟨nB, qB (key.1) (nB)⟩
def t_ts1 : KT := ((0, 0, 0, 0), [(2, 0, 40, 0), (1, 1, 0, 0), (1, 2, 0, 0), (1, 3, 0, 0), (1, 4, 0, 0), (1, 5, 0, 0)], [(0, 0), (0, 143), (1, 1), (-2147483648, 2147483647), (-2147483648, 2147483647), (-2147483648, 2147483647)], [(9, [(2, 0, 40, 0), (1, 1, 0, 0), (1, 3, 0, 0)]), (93, [(2, 0, 40, 0), (1, 4, 0, 0)]), (24, [(1, 4, 0, -1), (1, 3, 0, 0), (1, 5, 0, 0)])], (0, 0, 0), [], [], ([], [(164, [(2, 0, 40, 0), (1, 1, 0, 0), (1, 2, 0, 0), (1, 5, 0, 0)])]), ([], []))
theorem l_ts1 (g : GG) : LOK Yt (PSt g) t_ts1 := by
  intro ρ α Γ M as hT hB hA hP
  have g0 : Γ (α 0) = 40 := tyAt hA (i := 0) rfl
  have b1 : 0 ≤ ρ 1 ∧ ρ 1 ≤ 143 := hB 1
  have b2 : 1 ≤ ρ 2 ∧ ρ 2 ≤ 1 := hB 2
  have b3 : -2147483648 ≤ ρ 3 ∧ ρ 3 ≤ 2147483647 := hB 3
  have b4 : -2147483648 ≤ ρ 4 ∧ ρ 4 ≤ 2147483647 := hB 4
  have b5 : -2147483648 ≤ ρ 5 ∧ ρ 5 ≤ 2147483647 := hB 5
  have h0 : nwE Γ M (α 0) fun r c => ρ 3 + 0 = (ρ 1 + 0) / c := hP _ (List.mem_of_getElem? (i := 0) rfl)
  have h1 : nwE Γ M (α 0) fun r c => ρ 4 + 0 = r := hP _ (List.mem_of_getElem? (i := 1) rfl)
  have h2 : ρ 5 + 0 = wI ((ρ 4 + (-1)) - (ρ 3 + 0)) := hP _ (List.mem_of_getElem? (i := 2) rfl)
  try simp only [Int.add_zero] at h0 h1 h2
  have key : (Γ (α 0) = 40 ∧ tyO Γ M (α 0) [(1, 41, [(0, 2)])] ∧ Q164 g (vw M (α 0) 1 [(0, 2)]) (clp [] (M.2.2.2.2 (α 0))) (ρ 1 + 0) (ρ 2 + 0) (ρ 5 + 0)) ∧ True := by
    try simp only [Int.add_zero]
    have a := nwF h0
    have b := nwF h1
    have d := nwD hT g0
    obtain ⟨-, -, -, -, -, p1, p2⟩ := dm (p := ρ 1) b1.1 (show 0 < ((M.2.2.2.2 (fl M (α 0) 1)) 1 + 4) by omega)
    rw [← a] at p1 p2
    rw [wI_id (by unfold inI; omega)] at h2
    refine ⟨⟨g0, tyO_of hT g0 (by decide) (by decide), ?_⟩, trivial⟩
    show ρ 5 = tsF ((clp [(0, 2)] (M.2.2.2.2 (fl M (α 0) 1))) 0 + 4) ((clp [(0, 2)] (M.2.2.2.2 (fl M (α 0) 1))) 1 + 4) (ρ 1) (ρ 2)
    rw [rc0, rc1']
    unfold tsF
    rw [if_neg (by omega), if_pos (by omega), ← a, ← b, h2]
    omega
  exact ⟨nB, qB (key.1) (nB)⟩
def t_ts2 : KT := ((0, 0, 0, 0), [(2, 0, 40, 0), (1, 1, 0, 0), (1, 2, 0, 0), (1, 3, 0, 0)], [(0, 0), (0, 143), (2, 2), (-2147483648, 2147483647)], [(96, [(2, 0, 40, 0), (1, 1, 0, 0), (1, 3, 0, 0)])], (0, 0, 0), [], [], ([], [(164, [(2, 0, 40, 0), (1, 1, 0, 0), (1, 2, 0, 0), (1, 3, 0, 1)])]), ([], []))
theorem l_ts2 (g : GG) : LOK Yt (PSt g) t_ts2 := by
  intro ρ α Γ M as hT hB hA hP
  have g0 : Γ (α 0) = 40 := tyAt hA (i := 0) rfl
  have b1 : 0 ≤ ρ 1 ∧ ρ 1 ≤ 143 := hB 1
  have b2 : 2 ≤ ρ 2 ∧ ρ 2 ≤ 2 := hB 2
  have b3 : -2147483648 ≤ ρ 3 ∧ ρ 3 ≤ 2147483647 := hB 3
  have h0 : nwE Γ M (α 0) fun r c => ρ 3 + 0 = (ρ 1 + 0) % c := hP _ (List.mem_of_getElem? (i := 0) rfl)
  try simp only [Int.add_zero] at h0
  have key : (Γ (α 0) = 40 ∧ tyO Γ M (α 0) [(1, 41, [(0, 2)])] ∧ Q164 g (vw M (α 0) 1 [(0, 2)]) (clp [] (M.2.2.2.2 (α 0))) (ρ 1 + 0) (ρ 2 + 0) (ρ 3 + 1)) ∧ True := by
    try simp only [Int.add_zero]
    have a := nwF h0
    refine ⟨⟨g0, tyO_of hT g0 (by decide) (by decide), ?_⟩, trivial⟩
    show ρ 3 + 1 = tsF ((clp [(0, 2)] (M.2.2.2.2 (fl M (α 0) 1))) 0 + 4) ((clp [(0, 2)] (M.2.2.2.2 (fl M (α 0) 1))) 1 + 4) (ρ 1) (ρ 2)
    rw [rc0, rc1']
    unfold tsF
    rw [if_neg (by omega), if_neg (by omega), if_pos (by omega), ← a]
  exact ⟨nB, qB (key.1) (nB)⟩
def t_ts3 : KT := ((0, 0, 0, 0), [(2, 0, 40, 0), (1, 1, 0, 0), (1, 2, 0, 0), (1, 3, 0, 0), (1, 4, 0, 0), (1, 5, 0, 0)], [(0, 0), (0, 143), (3, 3), (-2147483648, 2147483647), (-2147483648, 2147483647), (-2147483648, 2147483647)], [(96, [(2, 0, 40, 0), (1, 1, 0, 0), (1, 3, 0, 0)]), (8, [(2, 0, 40, 0), (1, 4, 0, 0)]), (24, [(1, 4, 0, -1), (1, 3, 0, 0), (1, 5, 0, 0)])], (0, 0, 0), [], [], ([], [(164, [(2, 0, 40, 0), (1, 1, 0, 0), (1, 2, 0, 0), (1, 5, 0, 0)])]), ([], []))
theorem l_ts3 (g : GG) : LOK Yt (PSt g) t_ts3 := by
  intro ρ α Γ M as hT hB hA hP
  have g0 : Γ (α 0) = 40 := tyAt hA (i := 0) rfl
  have b1 : 0 ≤ ρ 1 ∧ ρ 1 ≤ 143 := hB 1
  have b2 : 3 ≤ ρ 2 ∧ ρ 2 ≤ 3 := hB 2
  have b3 : -2147483648 ≤ ρ 3 ∧ ρ 3 ≤ 2147483647 := hB 3
  have b4 : -2147483648 ≤ ρ 4 ∧ ρ 4 ≤ 2147483647 := hB 4
  have b5 : -2147483648 ≤ ρ 5 ∧ ρ 5 ≤ 2147483647 := hB 5
  have h0 : nwE Γ M (α 0) fun r c => ρ 3 + 0 = (ρ 1 + 0) % c := hP _ (List.mem_of_getElem? (i := 0) rfl)
  have h1 : nwE Γ M (α 0) fun r c => ρ 4 + 0 = c := hP _ (List.mem_of_getElem? (i := 1) rfl)
  have h2 : ρ 5 + 0 = wI ((ρ 4 + (-1)) - (ρ 3 + 0)) := hP _ (List.mem_of_getElem? (i := 2) rfl)
  try simp only [Int.add_zero] at h0 h1 h2
  have key : (Γ (α 0) = 40 ∧ tyO Γ M (α 0) [(1, 41, [(0, 2)])] ∧ Q164 g (vw M (α 0) 1 [(0, 2)]) (clp [] (M.2.2.2.2 (α 0))) (ρ 1 + 0) (ρ 2 + 0) (ρ 5 + 0)) ∧ True := by
    try simp only [Int.add_zero]
    have a := nwF h0
    have b := nwF h1
    have d := nwD hT g0
    have p1 := Int.emod_nonneg (ρ 1) (show ((M.2.2.2.2 (fl M (α 0) 1)) 1 + 4) ≠ 0 by omega)
    have p2 := Int.emod_lt_of_pos (ρ 1) (show 0 < ((M.2.2.2.2 (fl M (α 0) 1)) 1 + 4) by omega)
    rw [← a] at p1 p2
    rw [wI_id (by unfold inI; omega)] at h2
    refine ⟨⟨g0, tyO_of hT g0 (by decide) (by decide), ?_⟩, trivial⟩
    show ρ 5 = tsF ((clp [(0, 2)] (M.2.2.2.2 (fl M (α 0) 1))) 0 + 4) ((clp [(0, 2)] (M.2.2.2.2 (fl M (α 0) 1))) 1 + 4) (ρ 1) (ρ 2)
    rw [rc0, rc1']
    unfold tsF
    rw [if_neg (by omega), if_neg (by omega), if_neg (by omega), ← a, ← b, h2]
    omega
  exact ⟨nB, qB (key.1) (nB)⟩
def t_ns0 : KT := ((0, 0, 0, 0), [(2, 0, 40, 0), (1, 1, 0, 0), (1, 2, 0, 0), (1, 3, 0, 0)], [(0, 0), (0, 143), (0, 0), (1, 1)], [], (0, 0, 0), [], [], ([], [(165, [(2, 0, 40, 0), (1, 1, 0, 0), (1, 2, 0, 0), (1, 3, 0, 0)])]), ([], []))
theorem l_ns0 (g : GG) : LOK Yt (PSt g) t_ns0 := by
  intro ρ α Γ M as hT hB hA hP
  have g0 : Γ (α 0) = 40 := tyAt hA (i := 0) rfl
  have b1 : 0 ≤ ρ 1 ∧ ρ 1 ≤ 143 := hB 1
  have b2 : 0 ≤ ρ 2 ∧ ρ 2 ≤ 0 := hB 2
  have b3 : 1 ≤ ρ 3 ∧ ρ 3 ≤ 1 := hB 3
  have key : (Γ (α 0) = 40 ∧ tyO Γ M (α 0) [(1, 41, [(0, 2)])] ∧ Q165 g (vw M (α 0) 1 [(0, 2)]) (clp [] (M.2.2.2.2 (α 0))) (ρ 1 + 0) (ρ 2 + 0) (ρ 3 + 0)) ∧ True := by
    try simp only [Int.add_zero]
    refine ⟨⟨g0, tyO_of hT g0 (by decide) (by decide), ⟨by omega, by omega⟩, fun t h1 h2 => ?_⟩, trivial⟩
    rw [show t = ρ 2 by omega]
    exact Int.le_refl _
  exact ⟨nB, qB (key.1) (nB)⟩
def t_ns1 : KT := ((0, 0, 0, 0), [(2, 0, 40, 0), (1, 1, 0, 0), (1, 2, 0, 0), (1, 3, 0, 0), (1, 4, 0, 0), (1, 5, 0, 0)], [(0, 0), (0, 143), (0, 3), (1, 3), (-2147483648, 2147483647), (-2147483648, 2147483647)], [(164, [(2, 0, 40, 0), (1, 1, 0, 0), (1, 3, 0, 0), (1, 4, 0, 0)]), (164, [(2, 0, 40, 0), (1, 1, 0, 0), (1, 2, 0, 0), (1, 5, 0, 0)]), (165, [(2, 0, 40, 0), (1, 1, 0, 0), (1, 2, 0, 0), (1, 3, 0, 0)]), (21, [(1, 4, 0, 0), (1, 5, 0, 0)])], (0, 0, 0), [], [], ([], [(165, [(2, 0, 40, 0), (1, 1, 0, 0), (1, 3, 0, 0), (1, 3, 0, 1)])]), ([], []))
theorem l_ns1 (g : GG) : LOK Yt (PSt g) t_ns1 := by
  intro ρ α Γ M as hT hB hA hP
  have g0 : Γ (α 0) = 40 := tyAt hA (i := 0) rfl
  have b1 : 0 ≤ ρ 1 ∧ ρ 1 ≤ 143 := hB 1
  have b2 : 0 ≤ ρ 2 ∧ ρ 2 ≤ 3 := hB 2
  have b3 : 1 ≤ ρ 3 ∧ ρ 3 ≤ 3 := hB 3
  have b4 : -2147483648 ≤ ρ 4 ∧ ρ 4 ≤ 2147483647 := hB 4
  have b5 : -2147483648 ≤ ρ 5 ∧ ρ 5 ≤ 2147483647 := hB 5
  have h0 : Γ (α 0) = 40 ∧ tyO Γ M (α 0) [(1, 41, [(0, 2)])] ∧ Q164 g (vw M (α 0) 1 [(0, 2)]) (clp [] (M.2.2.2.2 (α 0))) (ρ 1 + 0) (ρ 3 + 0) (ρ 4 + 0) := hP _ (List.mem_of_getElem? (i := 0) rfl)
  have h1 : Γ (α 0) = 40 ∧ tyO Γ M (α 0) [(1, 41, [(0, 2)])] ∧ Q164 g (vw M (α 0) 1 [(0, 2)]) (clp [] (M.2.2.2.2 (α 0))) (ρ 1 + 0) (ρ 2 + 0) (ρ 5 + 0) := hP _ (List.mem_of_getElem? (i := 1) rfl)
  have h2 : Γ (α 0) = 40 ∧ tyO Γ M (α 0) [(1, 41, [(0, 2)])] ∧ Q165 g (vw M (α 0) 1 [(0, 2)]) (clp [] (M.2.2.2.2 (α 0))) (ρ 1 + 0) (ρ 2 + 0) (ρ 3 + 0) := hP _ (List.mem_of_getElem? (i := 2) rfl)
  have h3 : ρ 4 + 0 < ρ 5 + 0 := hP _ (List.mem_of_getElem? (i := 3) rfl)
  try simp only [Int.add_zero] at h0 h1 h2 h3
  have key : (Γ (α 0) = 40 ∧ tyO Γ M (α 0) [(1, 41, [(0, 2)])] ∧ Q165 g (vw M (α 0) 1 [(0, 2)]) (clp [] (M.2.2.2.2 (α 0))) (ρ 1 + 0) (ρ 3 + 0) (ρ 3 + 1)) ∧ True := by
    try simp only [Int.add_zero]
    have z1 : ρ 4 = tsF ((clp [(0, 2)] (M.2.2.2.2 (fl M (α 0) 1))) 0 + 4) ((clp [(0, 2)] (M.2.2.2.2 (fl M (α 0) 1))) 1 + 4) (ρ 1) (ρ 3) := h0.2.2
    have z2 : ρ 5 = tsF ((clp [(0, 2)] (M.2.2.2.2 (fl M (α 0) 1))) 0 + 4) ((clp [(0, 2)] (M.2.2.2.2 (fl M (α 0) 1))) 1 + 4) (ρ 1) (ρ 2) := h1.2.2
    obtain ⟨-, -, hb, h⟩ := h2
    have h : ∀ t : Int, 0 ≤ t → t < ρ 3 → tsF ((clp [(0, 2)] (M.2.2.2.2 (fl M (α 0) 1))) 0 + 4) ((clp [(0, 2)] (M.2.2.2.2 (fl M (α 0) 1))) 1 + 4) (ρ 1) (ρ 2) ≤ tsF ((clp [(0, 2)] (M.2.2.2.2 (fl M (α 0) 1))) 0 + 4) ((clp [(0, 2)] (M.2.2.2.2 (fl M (α 0) 1))) 1 + 4) (ρ 1) t := h
    refine ⟨⟨g0, tyO_of hT g0 (by decide) (by decide), ⟨by omega, by omega⟩, fun t h1 h2 => ?_⟩, trivial⟩
    show tsF ((clp [(0, 2)] (M.2.2.2.2 (fl M (α 0) 1))) 0 + 4) ((clp [(0, 2)] (M.2.2.2.2 (fl M (α 0) 1))) 1 + 4) (ρ 1) (ρ 3) ≤ tsF ((clp [(0, 2)] (M.2.2.2.2 (fl M (α 0) 1))) 0 + 4) ((clp [(0, 2)] (M.2.2.2.2 (fl M (α 0) 1))) 1 + 4) (ρ 1) t
    by_cases hc : t < ρ 3
    · have := h t h1 hc
      omega
    · rw [show t = ρ 3 by omega]
      exact Int.le_refl _
  exact ⟨nB, qB (key.1) (nB)⟩
def t_ns2 : KT := ((0, 0, 0, 0), [(2, 0, 40, 0), (1, 1, 0, 0), (1, 2, 0, 0), (1, 3, 0, 0), (1, 4, 0, 0), (1, 5, 0, 0)], [(0, 0), (0, 143), (0, 3), (1, 3), (-2147483648, 2147483647), (-2147483648, 2147483647)], [(164, [(2, 0, 40, 0), (1, 1, 0, 0), (1, 3, 0, 0), (1, 4, 0, 0)]), (164, [(2, 0, 40, 0), (1, 1, 0, 0), (1, 2, 0, 0), (1, 5, 0, 0)]), (165, [(2, 0, 40, 0), (1, 1, 0, 0), (1, 2, 0, 0), (1, 3, 0, 0)]), (6, [(1, 5, 0, 0), (1, 4, 0, 0)])], (0, 0, 0), [], [], ([], [(165, [(2, 0, 40, 0), (1, 1, 0, 0), (1, 2, 0, 0), (1, 3, 0, 1)])]), ([], []))
theorem l_ns2 (g : GG) : LOK Yt (PSt g) t_ns2 := by
  intro ρ α Γ M as hT hB hA hP
  have g0 : Γ (α 0) = 40 := tyAt hA (i := 0) rfl
  have b1 : 0 ≤ ρ 1 ∧ ρ 1 ≤ 143 := hB 1
  have b2 : 0 ≤ ρ 2 ∧ ρ 2 ≤ 3 := hB 2
  have b3 : 1 ≤ ρ 3 ∧ ρ 3 ≤ 3 := hB 3
  have b4 : -2147483648 ≤ ρ 4 ∧ ρ 4 ≤ 2147483647 := hB 4
  have b5 : -2147483648 ≤ ρ 5 ∧ ρ 5 ≤ 2147483647 := hB 5
  have h0 : Γ (α 0) = 40 ∧ tyO Γ M (α 0) [(1, 41, [(0, 2)])] ∧ Q164 g (vw M (α 0) 1 [(0, 2)]) (clp [] (M.2.2.2.2 (α 0))) (ρ 1 + 0) (ρ 3 + 0) (ρ 4 + 0) := hP _ (List.mem_of_getElem? (i := 0) rfl)
  have h1 : Γ (α 0) = 40 ∧ tyO Γ M (α 0) [(1, 41, [(0, 2)])] ∧ Q164 g (vw M (α 0) 1 [(0, 2)]) (clp [] (M.2.2.2.2 (α 0))) (ρ 1 + 0) (ρ 2 + 0) (ρ 5 + 0) := hP _ (List.mem_of_getElem? (i := 1) rfl)
  have h2 : Γ (α 0) = 40 ∧ tyO Γ M (α 0) [(1, 41, [(0, 2)])] ∧ Q165 g (vw M (α 0) 1 [(0, 2)]) (clp [] (M.2.2.2.2 (α 0))) (ρ 1 + 0) (ρ 2 + 0) (ρ 3 + 0) := hP _ (List.mem_of_getElem? (i := 2) rfl)
  have h3 : ρ 5 + 0 ≤ ρ 4 + 0 := hP _ (List.mem_of_getElem? (i := 3) rfl)
  try simp only [Int.add_zero] at h0 h1 h2 h3
  have key : (Γ (α 0) = 40 ∧ tyO Γ M (α 0) [(1, 41, [(0, 2)])] ∧ Q165 g (vw M (α 0) 1 [(0, 2)]) (clp [] (M.2.2.2.2 (α 0))) (ρ 1 + 0) (ρ 2 + 0) (ρ 3 + 1)) ∧ True := by
    try simp only [Int.add_zero]
    have z1 : ρ 4 = tsF ((clp [(0, 2)] (M.2.2.2.2 (fl M (α 0) 1))) 0 + 4) ((clp [(0, 2)] (M.2.2.2.2 (fl M (α 0) 1))) 1 + 4) (ρ 1) (ρ 3) := h0.2.2
    have z2 : ρ 5 = tsF ((clp [(0, 2)] (M.2.2.2.2 (fl M (α 0) 1))) 0 + 4) ((clp [(0, 2)] (M.2.2.2.2 (fl M (α 0) 1))) 1 + 4) (ρ 1) (ρ 2) := h1.2.2
    obtain ⟨-, -, hb, h⟩ := h2
    have h : ∀ t : Int, 0 ≤ t → t < ρ 3 → tsF ((clp [(0, 2)] (M.2.2.2.2 (fl M (α 0) 1))) 0 + 4) ((clp [(0, 2)] (M.2.2.2.2 (fl M (α 0) 1))) 1 + 4) (ρ 1) (ρ 2) ≤ tsF ((clp [(0, 2)] (M.2.2.2.2 (fl M (α 0) 1))) 0 + 4) ((clp [(0, 2)] (M.2.2.2.2 (fl M (α 0) 1))) 1 + 4) (ρ 1) t := h
    refine ⟨⟨g0, tyO_of hT g0 (by decide) (by decide), ⟨by omega, by omega⟩, fun t h1 h2 => ?_⟩, trivial⟩
    show tsF ((clp [(0, 2)] (M.2.2.2.2 (fl M (α 0) 1))) 0 + 4) ((clp [(0, 2)] (M.2.2.2.2 (fl M (α 0) 1))) 1 + 4) (ρ 1) (ρ 2) ≤ tsF ((clp [(0, 2)] (M.2.2.2.2 (fl M (α 0) 1))) 0 + 4) ((clp [(0, 2)] (M.2.2.2.2 (fl M (α 0) 1))) 1 + 4) (ρ 1) t
    by_cases hc : t < ρ 3
    · exact h t h1 hc
    · rw [show t = ρ 3 by omega]
      omega
  exact ⟨nB, qB (key.1) (nB)⟩
def t_ns3 : KT := ((0, 0, 0, 0), [(2, 0, 40, 0), (1, 1, 0, 0), (1, 2, 0, 0), (1, 3, 0, 0)], [(0, 0), (0, 143), (-2147483648, 2147483647), (4, 4)], [(165, [(2, 0, 40, 0), (1, 1, 0, 0), (1, 2, 0, 0), (1, 3, 0, 0)])], (0, 0, 0), [], [], ([], [(165, [(2, 0, 40, 0), (1, 1, 0, 0), (1, 2, 0, 0), (0, 0, 0, 4)])]), ([], []))
theorem l_ns3 (g : GG) : LOK Yt (PSt g) t_ns3 := by
  intro ρ α Γ M as hT hB hA hP
  have g0 : Γ (α 0) = 40 := tyAt hA (i := 0) rfl
  have b1 : 0 ≤ ρ 1 ∧ ρ 1 ≤ 143 := hB 1
  have b2 : -2147483648 ≤ ρ 2 ∧ ρ 2 ≤ 2147483647 := hB 2
  have b3 : 4 ≤ ρ 3 ∧ ρ 3 ≤ 4 := hB 3
  have h0 : Γ (α 0) = 40 ∧ tyO Γ M (α 0) [(1, 41, [(0, 2)])] ∧ Q165 g (vw M (α 0) 1 [(0, 2)]) (clp [] (M.2.2.2.2 (α 0))) (ρ 1 + 0) (ρ 2 + 0) (ρ 3 + 0) := hP _ (List.mem_of_getElem? (i := 0) rfl)
  try simp only [Int.add_zero] at h0
  have key : (Γ (α 0) = 40 ∧ tyO Γ M (α 0) [(1, 41, [(0, 2)])] ∧ Q165 g (vw M (α 0) 1 [(0, 2)]) (clp [] (M.2.2.2.2 (α 0))) (ρ 1 + 0) (ρ 2 + 0) (4)) ∧ True := by
    try simp only [Int.add_zero]
    obtain ⟨-, -, hb, h⟩ := h0
    exact ⟨⟨g0, tyO_of hT g0 (by decide) (by decide), hb, fun t h1 h2 => h t h1 (by omega)⟩, trivial⟩
  exact ⟨nB, qB (key.1) (nB)⟩
def t_fb0 : KT := ((0, 0, 0, 0), [(2, 0, 40, 0), (1, 1, 0, 0), (1, 2, 0, 0), (1, 3, 0, 0)], [(0, 0), (0, 143), (-2147483648, 2147483647), (-2147483648, 2147483647)], [(164, [(2, 0, 40, 0), (1, 1, 0, 0), (1, 2, 0, 0), (1, 3, 0, 0)]), (165, [(2, 0, 40, 0), (1, 1, 0, 0), (1, 2, 0, 0), (0, 0, 0, 4)])], (0, 0, 0), [], [], ([], [(150, [(2, 0, 40, 0), (1, 1, 0, 0), (1, 3, 0, 0)])]), ([], []))
theorem l_fb0 (g : GG) : LOK Yt (PSt g) t_fb0 := by
  intro ρ α Γ M as hT hB hA hP
  have g0 : Γ (α 0) = 40 := tyAt hA (i := 0) rfl
  have b1 : 0 ≤ ρ 1 ∧ ρ 1 ≤ 143 := hB 1
  have b2 : -2147483648 ≤ ρ 2 ∧ ρ 2 ≤ 2147483647 := hB 2
  have b3 : -2147483648 ≤ ρ 3 ∧ ρ 3 ≤ 2147483647 := hB 3
  have h0 : Γ (α 0) = 40 ∧ tyO Γ M (α 0) [(1, 41, [(0, 2)])] ∧ Q164 g (vw M (α 0) 1 [(0, 2)]) (clp [] (M.2.2.2.2 (α 0))) (ρ 1 + 0) (ρ 2 + 0) (ρ 3 + 0) := hP _ (List.mem_of_getElem? (i := 0) rfl)
  have h1 : Γ (α 0) = 40 ∧ tyO Γ M (α 0) [(1, 41, [(0, 2)])] ∧ Q165 g (vw M (α 0) 1 [(0, 2)]) (clp [] (M.2.2.2.2 (α 0))) (ρ 1 + 0) (ρ 2 + 0) (4) := hP _ (List.mem_of_getElem? (i := 1) rfl)
  try simp only [Int.add_zero] at h0 h1
  have key : (Γ (α 0) = 40 ∧ tyO Γ M (α 0) [(1, 41, [(0, 2)])] ∧ Q150 g (vw M (α 0) 1 [(0, 2)]) (clp [] (M.2.2.2.2 (α 0))) (ρ 1 + 0) (ρ 3 + 0)) ∧ True := by
    try simp only [Int.add_zero]
    have z1 : ρ 3 = tsF ((clp [(0, 2)] (M.2.2.2.2 (fl M (α 0) 1))) 0 + 4) ((clp [(0, 2)] (M.2.2.2.2 (fl M (α 0) 1))) 1 + 4) (ρ 1) (ρ 2) := h0.2.2
    obtain ⟨-, -, hb, h⟩ := h1
    refine ⟨⟨g0, tyO_of hT g0 (by decide) (by decide), ?_⟩, trivial⟩
    show ρ 3 = fbF ((clp [(0, 2)] (M.2.2.2.2 (fl M (α 0) 1))) 0 + 4) ((clp [(0, 2)] (M.2.2.2.2 (fl M (α 0) 1))) 1 + 4) (ρ 1)
    rw [z1]
    exact fb_of hb.1 hb.2 h
  exact ⟨nB, qB (key.1) (nB)⟩
def t_lt1 : KT := ((0, 0, 0, 0), [(2, 0, 40, 0), (1, 1, 0, 0), (1, 2, 0, 0)], [(0, 0), (0, 0), (0, 0)], [], (0, 0, 0), [], [], ([], [(126, [(2, 0, 40, 0), (1, 1, 0, 0), (1, 2, 0, 0)])]), ([], []))
theorem l_lt1 (g : GG) : LOK Yt (PSt g) t_lt1 := by
  intro ρ α Γ M as hT hB hA hP
  have g0 : Γ (α 0) = 40 := tyAt hA (i := 0) rfl
  have b1 : 0 ≤ ρ 1 ∧ ρ 1 ≤ 0 := hB 1
  have b2 : 0 ≤ ρ 2 ∧ ρ 2 ≤ 0 := hB 2
  have key : (Γ (α 0) = 40 ∧ tyO Γ M (α 0) [(1, 41, [(0, 2), (10, 154), (298, 442)])] ∧ Q126 g (vw M (α 0) 1 [(0, 2), (10, 154), (298, 442)]) (clp [] (M.2.2.2.2 (α 0))) (ρ 1 + 0) (ρ 2 + 0)) ∧ True := by
    try simp only [Int.add_zero]
    refine ⟨⟨g0, tyO_of hT g0 (by decide) (by decide), ?_⟩, trivial⟩
    show ρ 2 = (cntT (clp [(0, 2), (10, 154), (298, 442)] (M.2.2.2.2 (fl M (α 0) 1))) (ρ 1).toNat : Int)
    rw [show (ρ 1).toNat = 0 by omega]
    show ρ 2 = 0
    omega
  exact ⟨nB, qB (key.1) (nB)⟩
def t_lt2 : KT := ((0, 0, 0, 0), [(2, 0, 40, 0), (1, 1, 0, 0), (1, 2, 0, 0), (1, 3, 0, 0)], [(0, 0), (0, 143), (-2147483648, 2147483647), (0, 0)], [(126, [(2, 0, 40, 0), (1, 1, 0, 0), (1, 2, 0, 0)]), (120, [(2, 0, 40, 0), (1, 1, 0, 0), (1, 3, 0, 0)])], (0, 0, 0), [], [], ([], [(126, [(2, 0, 40, 0), (1, 1, 0, 1), (1, 2, 0, 0)])]), ([], []))
theorem l_lt2 (g : GG) : LOK Yt (PSt g) t_lt2 := by
  intro ρ α Γ M as hT hB hA hP
  have g0 : Γ (α 0) = 40 := tyAt hA (i := 0) rfl
  have b1 : 0 ≤ ρ 1 ∧ ρ 1 ≤ 143 := hB 1
  have b2 : -2147483648 ≤ ρ 2 ∧ ρ 2 ≤ 2147483647 := hB 2
  have b3 : 0 ≤ ρ 3 ∧ ρ 3 ≤ 0 := hB 3
  have h0 : Γ (α 0) = 40 ∧ tyO Γ M (α 0) [(1, 41, [(0, 2), (10, 154), (298, 442)])] ∧ Q126 g (vw M (α 0) 1 [(0, 2), (10, 154), (298, 442)]) (clp [] (M.2.2.2.2 (α 0))) (ρ 1 + 0) (ρ 2 + 0) := hP _ (List.mem_of_getElem? (i := 0) rfl)
  have h1 : Γ (α 0) = 40 ∧ tyO Γ M (α 0) [(1, 41, [(0, 2), (10, 154), (298, 442)])] ∧ Q120 g (vw M (α 0) 1 [(0, 2), (10, 154), (298, 442)]) (clp [] (M.2.2.2.2 (α 0))) (ρ 1 + 0) (ρ 3 + 0) := hP _ (List.mem_of_getElem? (i := 1) rfl)
  try simp only [Int.add_zero] at h0 h1
  have key : (Γ (α 0) = 40 ∧ tyO Γ M (α 0) [(1, 41, [(0, 2), (10, 154), (298, 442)])] ∧ Q126 g (vw M (α 0) 1 [(0, 2), (10, 154), (298, 442)]) (clp [] (M.2.2.2.2 (α 0))) (ρ 1 + 1) (ρ 2 + 0)) ∧ True := by
    try simp only [Int.add_zero]
    have a : ρ 2 = (cntT (clp [(0, 2), (10, 154), (298, 442)] (M.2.2.2.2 (fl M (α 0) 1))) (ρ 1).toNat : Int) := h0.2.2
    have b : ρ 3 = chg (clp [(0, 2), (10, 154), (298, 442)] (M.2.2.2.2 (fl M (α 0) 1))) (ρ 1) := h1.2.2
    have q := cntT_s (clp [(0, 2), (10, 154), (298, 442)] (M.2.2.2.2 (fl M (α 0) 1))) (ρ 1).toNat
    rw [show (((ρ 1).toNat : Nat) : Int) = ρ 1 by omega] at q
    refine ⟨⟨g0, tyO_of hT g0 (by decide) (by decide), ?_⟩, trivial⟩
    show ρ 2 = (cntT (clp [(0, 2), (10, 154), (298, 442)] (M.2.2.2.2 (fl M (α 0) 1))) (ρ 1 + 1).toNat : Int)
    rw [show (ρ 1 + 1).toNat = (ρ 1).toNat + 1 by omega]
    rw [q.1 (by omega)]
    exact a
  exact ⟨nB, qB (key.1) (nB)⟩
def t_lt3 : KT := ((0, 0, 0, 0), [(2, 0, 40, 0), (1, 1, 0, 0), (1, 2, 0, 0), (1, 3, 0, 0)], [(0, 0), (0, 143), (-2147483648, 2147483647), (-2147483648, 2147483647)], [(126, [(2, 0, 40, 0), (1, 1, 0, 0), (1, 2, 0, -1)]), (120, [(2, 0, 40, 0), (1, 1, 0, 0), (1, 3, 0, 0)]), (99, [(1, 3, 0, 0), (0, 0, 0, 0), (0, 0, 0, 0)])], (0, 0, 0), [], [], ([], [(126, [(2, 0, 40, 0), (1, 1, 0, 1), (1, 2, 0, 0)])]), ([], []))
theorem l_lt3 (g : GG) : LOK Yt (PSt g) t_lt3 := by
  intro ρ α Γ M as hT hB hA hP
  have g0 : Γ (α 0) = 40 := tyAt hA (i := 0) rfl
  have b1 : 0 ≤ ρ 1 ∧ ρ 1 ≤ 143 := hB 1
  have b2 : -2147483648 ≤ ρ 2 ∧ ρ 2 ≤ 2147483647 := hB 2
  have b3 : -2147483648 ≤ ρ 3 ∧ ρ 3 ≤ 2147483647 := hB 3
  have h0 : Γ (α 0) = 40 ∧ tyO Γ M (α 0) [(1, 41, [(0, 2), (10, 154), (298, 442)])] ∧ Q126 g (vw M (α 0) 1 [(0, 2), (10, 154), (298, 442)]) (clp [] (M.2.2.2.2 (α 0))) (ρ 1 + 0) (ρ 2 + (-1)) := hP _ (List.mem_of_getElem? (i := 0) rfl)
  have h1 : Γ (α 0) = 40 ∧ tyO Γ M (α 0) [(1, 41, [(0, 2), (10, 154), (298, 442)])] ∧ Q120 g (vw M (α 0) 1 [(0, 2), (10, 154), (298, 442)]) (clp [] (M.2.2.2.2 (α 0))) (ρ 1 + 0) (ρ 3 + 0) := hP _ (List.mem_of_getElem? (i := 1) rfl)
  have h2 : (ρ 3 + 0 : Int) ≠ 0 := hP _ (List.mem_of_getElem? (i := 2) rfl)
  try simp only [Int.add_zero] at h0 h1 h2
  have key : (Γ (α 0) = 40 ∧ tyO Γ M (α 0) [(1, 41, [(0, 2), (10, 154), (298, 442)])] ∧ Q126 g (vw M (α 0) 1 [(0, 2), (10, 154), (298, 442)]) (clp [] (M.2.2.2.2 (α 0))) (ρ 1 + 1) (ρ 2 + 0)) ∧ True := by
    try simp only [Int.add_zero]
    have a : ρ 2 + (-1) = (cntT (clp [(0, 2), (10, 154), (298, 442)] (M.2.2.2.2 (fl M (α 0) 1))) (ρ 1).toNat : Int) := h0.2.2
    have b : ρ 3 = chg (clp [(0, 2), (10, 154), (298, 442)] (M.2.2.2.2 (fl M (α 0) 1))) (ρ 1) := h1.2.2
    have q := cntT_s (clp [(0, 2), (10, 154), (298, 442)] (M.2.2.2.2 (fl M (α 0) 1))) (ρ 1).toNat
    rw [show (((ρ 1).toNat : Nat) : Int) = ρ 1 by omega] at q
    refine ⟨⟨g0, tyO_of hT g0 (by decide) (by decide), ?_⟩, trivial⟩
    show ρ 2 = (cntT (clp [(0, 2), (10, 154), (298, 442)] (M.2.2.2.2 (fl M (α 0) 1))) (ρ 1 + 1).toNat : Int)
    rw [show (ρ 1 + 1).toNat = (ρ 1).toNat + 1 by omega]
    rw [q.2 (by omega)]
    omega
  exact ⟨nB, qB (key.1) (nB)⟩
def t_lt4 : KT := ((0, 0, 0, 0), [(2, 0, 40, 0), (1, 1, 0, 0), (1, 2, 0, 0), (1, 3, 0, 0)], [(0, 0), (0, 144), (-2147483648, 2147483647), (-2147483648, 2147483647)], [(126, [(2, 0, 40, 0), (1, 1, 0, 0), (1, 2, 0, 0)]), (10, [(2, 0, 40, 0), (0, 0, 0, 9), (1, 2, 0, 0)]), (94, [(2, 0, 40, 0), (1, 3, 0, 0)]), (6, [(1, 3, 0, 0), (1, 1, 0, 0)])], (0, 0, 0), [], [], ([], [(129, [(2, 0, 40, 0)])]), ([], []))
theorem l_lt4 (g : GG) : LOK Yt (PSt g) t_lt4 := by
  intro ρ α Γ M as hT hB hA hP
  have g0 : Γ (α 0) = 40 := tyAt hA (i := 0) rfl
  have b1 : 0 ≤ ρ 1 ∧ ρ 1 ≤ 144 := hB 1
  have b2 : -2147483648 ≤ ρ 2 ∧ ρ 2 ≤ 2147483647 := hB 2
  have b3 : -2147483648 ≤ ρ 3 ∧ ρ 3 ≤ 2147483647 := hB 3
  have h0 : Γ (α 0) = 40 ∧ tyO Γ M (α 0) [(1, 41, [(0, 2), (10, 154), (298, 442)])] ∧ Q126 g (vw M (α 0) 1 [(0, 2), (10, 154), (298, 442)]) (clp [] (M.2.2.2.2 (α 0))) (ρ 1 + 0) (ρ 2 + 0) := hP _ (List.mem_of_getElem? (i := 0) rfl)
  have h1 : 0 ≤ (9 : Int) ∧ M.2.2.2.2 (α 0) (9 : Int).toNat = ρ 2 + 0 := hP _ (List.mem_of_getElem? (i := 1) rfl)
  have h2 : nwE Γ M (α 0) fun r c => ρ 3 + 0 = r * c := hP _ (List.mem_of_getElem? (i := 2) rfl)
  have h3 : ρ 3 + 0 ≤ ρ 1 + 0 := hP _ (List.mem_of_getElem? (i := 3) rfl)
  try simp only [Int.add_zero] at h0 h1 h2 h3
  have key : (Γ (α 0) = 40 ∧ tyO Γ M (α 0) [(1, 41, [(0, 2), (10, 154), (298, 442)])] ∧ Q129 g (vw M (α 0) 1 [(0, 2), (10, 154), (298, 442)]) (clp [(9, 10)] (M.2.2.2.2 (α 0))) ) ∧ True := by
    try simp only [Int.add_zero]
    have a : ρ 2 = (cntT (clp [(0, 2), (10, 154), (298, 442)] (M.2.2.2.2 (fl M (α 0) 1))) (ρ 1).toNat : Int) := h0.2.2
    have e : M.2.2.2.2 (α 0) 9 = ρ 2 := h1.2
    have hm := nwF h2
    refine ⟨⟨g0, tyO_of hT g0 (by decide) (by decide), ?_⟩, trivial⟩
    show clp [(9, 10)] (M.2.2.2.2 (α 0)) 9 = (cntT (clp [(0, 2), (10, 154), (298, 442)] (M.2.2.2.2 (fl M (α 0) 1))) (manyR (clp [(0, 2), (10, 154), (298, 442)] (M.2.2.2.2 (fl M (α 0) 1)))) : Int)
    rw [c99, e, a]
    have hq : manyR (clp [(0, 2), (10, 154), (298, 442)] (M.2.2.2.2 (fl M (α 0) 1))) ≤ (ρ 1).toNat := by
      unfold manyR
      rw [rt0, rt1]
      omega
    rw [cntT_many (clp [(0, 2), (10, 154), (298, 442)] (M.2.2.2.2 (fl M (α 0) 1))) hq]
  exact ⟨nB, qB (key.1) (nB)⟩
def t_kj1 : KT := ((0, 0, 0, 0), [(2, 0, 40, 0), (1, 1, 0, 0)], [(0, 0), (1, 1)], [], (0, 0, 0), [], [], ([], [(127, [(2, 0, 40, 0), (1, 1, 0, 0)])]), ([], []))
theorem l_kj1 (g : GG) : LOK Yt (PSt g) t_kj1 := by
  intro ρ α Γ M as hT hB hA hP
  have g0 : Γ (α 0) = 40 := tyAt hA (i := 0) rfl
  have b1 : 1 ≤ ρ 1 ∧ ρ 1 ≤ 1 := hB 1
  have key : (Γ (α 0) = 40 ∧ tyO Γ M (α 0) [(1, 41, [(0, 2), (10, 154), (298, 442)])] ∧ Q127 g (vw M (α 0) 1 [(0, 2), (10, 154), (298, 442)]) (clp [] (M.2.2.2.2 (α 0))) (ρ 1 + 0)) ∧ True := by
    try simp only [Int.add_zero]
    exact ⟨⟨g0, tyO_of hT g0 (by decide) (by decide), fun h => by omega⟩, trivial⟩
  exact ⟨nB, qB (key.1) (nB)⟩
def t_kj2 : KT := ((0, 0, 0, 0), [(2, 0, 40, 0), (1, 1, 0, 0), (1, 2, 0, 0)], [(0, 0), (-2147483648, 2147483647), (-2147483648, 12)], [(129, [(2, 0, 40, 0)]), (10, [(2, 0, 40, 0), (0, 0, 0, 9), (1, 2, 0, 0)])], (0, 0, 0), [], [], ([], [(127, [(2, 0, 40, 0), (1, 1, 0, 0)])]), ([], []))
theorem l_kj2 (g : GG) : LOK Yt (PSt g) t_kj2 := by
  intro ρ α Γ M as hT hB hA hP
  have g0 : Γ (α 0) = 40 := tyAt hA (i := 0) rfl
  have b1 : -2147483648 ≤ ρ 1 ∧ ρ 1 ≤ 2147483647 := hB 1
  have b2 : -2147483648 ≤ ρ 2 ∧ ρ 2 ≤ 12 := hB 2
  have h0 : Γ (α 0) = 40 ∧ tyO Γ M (α 0) [(1, 41, [(0, 2), (10, 154), (298, 442)])] ∧ Q129 g (vw M (α 0) 1 [(0, 2), (10, 154), (298, 442)]) (clp [(9, 10)] (M.2.2.2.2 (α 0)))  := hP _ (List.mem_of_getElem? (i := 0) rfl)
  have h1 : 0 ≤ (9 : Int) ∧ M.2.2.2.2 (α 0) (9 : Int).toNat = ρ 2 + 0 := hP _ (List.mem_of_getElem? (i := 1) rfl)
  try simp only [Int.add_zero] at h0 h1
  have key : (Γ (α 0) = 40 ∧ tyO Γ M (α 0) [(1, 41, [(0, 2), (10, 154), (298, 442)])] ∧ Q127 g (vw M (α 0) 1 [(0, 2), (10, 154), (298, 442)]) (clp [] (M.2.2.2.2 (α 0))) (ρ 1 + 0)) ∧ True := by
    try simp only [Int.add_zero]
    have a : clp [(9, 10)] (M.2.2.2.2 (α 0)) 9 = (cntT (clp [(0, 2), (10, 154), (298, 442)] (M.2.2.2.2 (fl M (α 0) 1))) (manyR (clp [(0, 2), (10, 154), (298, 442)] (M.2.2.2.2 (fl M (α 0) 1)))) : Int) := h0.2.2
    rw [c99, show M.2.2.2.2 (α 0) 9 = ρ 2 from h1.2] at a
    refine ⟨⟨g0, tyO_of hT g0 (by decide) (by decide), fun _ => ?_⟩, trivial⟩
    show cntT (clp [(0, 2), (10, 154), (298, 442)] (M.2.2.2.2 (fl M (α 0) 1))) (manyR (clp [(0, 2), (10, 154), (298, 442)] (M.2.2.2.2 (fl M (α 0) 1)))) ≤ 12
    omega
  exact ⟨nB, qB (key.1) (nB)⟩
