/-! what facts tell of one another -/
def t_row : KT := ((0, 0, 0, 0), [(2, 0, 1, 0), (1, 1, 0, 0), (1, 2, 0, 0), (1, 3, 0, 0)], [(0, 0), (0, 2147483647), (-2147483648, 2147483647), (-2147483648, 2147483647)], [(26, [(1, 1, 0, 0), (1, 2, 0, 0), (1, 3, 0, 0)]), (10, [(2, 0, 1, 0), (0, 0, 0, 1), (1, 2, 0, 0)])], (0, 0, 0), [], [], ([], [(71, [(2, 0, 1, 0), (1, 1, 0, 0), (1, 3, 0, 0)])]), ([], []))
set_option maxRecDepth 100000 in
theorem l_row (g : GG) : LOK Yt (PSt g) t_row := by
  intro ρ α Γ M as hT hB hA hP
  have g0 : Γ (α 0) = 1 := tyAt hA (i := 0) rfl
  have b1 : 0 ≤ ρ 1 ∧ ρ 1 ≤ 2147483647 := hB 1
  have b2 : -2147483648 ≤ ρ 2 ∧ ρ 2 ≤ 2147483647 := hB 2
  have b3 : -2147483648 ≤ ρ 3 ∧ ρ 3 ≤ 2147483647 := hB 3
  have h0 : ρ 3 + 0 = wI ((ρ 1 + 0 : Int).tdiv (ρ 2 + 0)) := hP _ (List.mem_of_getElem? (i := 0) rfl)
  have h1 : 0 ≤ (1 : Int) ∧ M.2.2.2.2 (α 0) (1 : Int).toNat = ρ 2 + 0 := hP _ (List.mem_of_getElem? (i := 1) rfl)
  try simp only [Int.add_zero] at h0 h1
  have key : (Γ (α 0) = 1 ∧ ρ 3 + 0 = (ρ 1 + 0) / M.2.2.2.2 (α 0) 1) ∧ True := by
    try simp only [Int.add_zero]
    obtain ⟨-, hc⟩ := ch_dims hT g0
    have e : M.2.2.2.2 (α 0) 1 = ρ 2 := h1.2
    rw [e] at hc ⊢
    obtain ⟨d1, d2, d3, d4, d5, d6, d7⟩ := dm b1.1 (show 0 < ρ 2 by omega)
    rw [d1] at h0
    rw [wI_id (by unfold inI; omega)] at h0
    exact ⟨⟨g0, h0⟩, trivial⟩
  exact ⟨nB, qB (key.1) (nB)⟩
def t_col : KT := ((0, 0, 0, 0), [(2, 0, 1, 0), (1, 1, 0, 0), (1, 2, 0, 0), (1, 3, 0, 0)], [(0, 0), (0, 2147483647), (-2147483648, 2147483647), (-2147483648, 2147483647)], [(27, [(1, 1, 0, 0), (1, 2, 0, 0), (1, 3, 0, 0)]), (10, [(2, 0, 1, 0), (0, 0, 0, 1), (1, 2, 0, 0)])], (0, 0, 0), [], [], ([], [(72, [(2, 0, 1, 0), (1, 1, 0, 0), (1, 3, 0, 0)])]), ([], []))
set_option maxRecDepth 100000 in
theorem l_col (g : GG) : LOK Yt (PSt g) t_col := by
  intro ρ α Γ M as hT hB hA hP
  have g0 : Γ (α 0) = 1 := tyAt hA (i := 0) rfl
  have b1 : 0 ≤ ρ 1 ∧ ρ 1 ≤ 2147483647 := hB 1
  have b2 : -2147483648 ≤ ρ 2 ∧ ρ 2 ≤ 2147483647 := hB 2
  have b3 : -2147483648 ≤ ρ 3 ∧ ρ 3 ≤ 2147483647 := hB 3
  have h0 : ρ 3 + 0 = (ρ 1 + 0 : Int).tmod (ρ 2 + 0) := hP _ (List.mem_of_getElem? (i := 0) rfl)
  have h1 : 0 ≤ (1 : Int) ∧ M.2.2.2.2 (α 0) (1 : Int).toNat = ρ 2 + 0 := hP _ (List.mem_of_getElem? (i := 1) rfl)
  try simp only [Int.add_zero] at h0 h1
  have key : (Γ (α 0) = 1 ∧ ρ 3 + 0 = (ρ 1 + 0) % M.2.2.2.2 (α 0) 1) ∧ True := by
    try simp only [Int.add_zero]
    obtain ⟨-, hc⟩ := ch_dims hT g0
    have e : M.2.2.2.2 (α 0) 1 = ρ 2 := h1.2
    rw [e] at hc ⊢
    obtain ⟨d1, d2, d3, d4, d5, d6, d7⟩ := dm b1.1 (show 0 < ρ 2 by omega)
    rw [d2] at h0
    exact ⟨⟨g0, h0⟩, trivial⟩
  exact ⟨nB, qB (key.1) (nB)⟩
def t_rowp : KT := ((0, 0, 0, 0), [(2, 0, 1, 0), (1, 1, 0, 0), (1, 2, 0, 0)], [(0, 0), (0, 143), (-2147483648, 2147483647)], [(2, [(2, 0, 1, 0), (1, 1, 0, 0)]), (71, [(2, 0, 1, 0), (1, 1, 0, 0), (1, 2, 0, 0)])], (0, 0, 0), [], [], ([(2, 0, 11)], []), ([], []))
set_option maxRecDepth 100000 in
theorem l_rowp (g : GG) : LOK Yt (PSt g) t_rowp := by
  intro ρ α Γ M as hT hB hA hP
  have g0 : Γ (α 0) = 1 := tyAt hA (i := 0) rfl
  have b1 : 0 ≤ ρ 1 ∧ ρ 1 ≤ 143 := hB 1
  have b2 : -2147483648 ≤ ρ 2 ∧ ρ 2 ≤ 2147483647 := hB 2
  have h0 : Γ (α 0) = 1 ∧ 0 ≤ ρ 1 + 0 ∧ ρ 1 + 0 < M.2.2.2.2 (α 0) 0 * M.2.2.2.2 (α 0) 1 := hP _ (List.mem_of_getElem? (i := 0) rfl)
  have h1 : Γ (α 0) = 1 ∧ ρ 2 + 0 = (ρ 1 + 0) / M.2.2.2.2 (α 0) 1 := hP _ (List.mem_of_getElem? (i := 1) rfl)
  try simp only [Int.add_zero] at h0 h1
  have key : (0 ≤ ρ 2 ∧ ρ 2 ≤ 11) ∧ True := by
    try simp only [Int.add_zero]
    obtain ⟨hr, hc⟩ := ch_dims hT g0
    have := row_lt (show 0 < M.2.2.2.2 (α 0) 1 by omega) h0.2.2
    have h2 := (dm h0.2.1 (show 0 < M.2.2.2.2 (α 0) 1 by omega)).2.2.2.2.2.1
    rw [← h1.2] at this h2
    exact ⟨⟨h2, by omega⟩, trivial⟩
  exact ⟨qB (key.1) (nB), nB⟩
def t_edh : KT := ((0, 0, 0, 0), [(2, 0, 1, 0), (1, 1, 0, 0), (1, 2, 0, 0), (1, 3, 0, 0), (1, 4, 0, 0), (1, 5, 0, 0), (1, 6, 0, 0), (1, 7, 0, 0)], [(0, 0), (0, 287), (-2147483648, 2147483647), (0, 0), (-2147483648, 2147483647), (-2147483648, 2147483647), (-2147483648, 2147483647), (-2147483648, 2147483647)], [(26, [(1, 1, 0, 0), (0, 0, 0, 2), (1, 2, 0, 0)]), (27, [(1, 1, 0, 0), (0, 0, 0, 2), (1, 3, 0, 0)]), (72, [(2, 0, 1, 0), (1, 2, 0, 0), (1, 4, 0, 0)]), (21, [(1, 4, 0, 0), (1, 5, 0, -1)]), (10, [(2, 0, 1, 0), (0, 0, 0, 1), (1, 5, 0, 0)]), (5, [(2, 0, 1, 0), (1, 6, 0, 0)]), (25, [(0, 0, 0, 2), (1, 6, 0, 0), (1, 7, 0, 0)]), (21, [(1, 1, 0, 0), (1, 7, 0, 0)])], (0, 0, 0), [], [], ([], [(3, [(2, 0, 1, 0), (1, 1, 0, 0)])]), ([], []))
set_option maxRecDepth 100000 in
theorem l_edh (g : GG) : LOK Yt (PSt g) t_edh := by
  intro ρ α Γ M as hT hB hA hP
  have g0 : Γ (α 0) = 1 := tyAt hA (i := 0) rfl
  have b1 : 0 ≤ ρ 1 ∧ ρ 1 ≤ 287 := hB 1
  have b2 : -2147483648 ≤ ρ 2 ∧ ρ 2 ≤ 2147483647 := hB 2
  have b3 : 0 ≤ ρ 3 ∧ ρ 3 ≤ 0 := hB 3
  have b4 : -2147483648 ≤ ρ 4 ∧ ρ 4 ≤ 2147483647 := hB 4
  have b5 : -2147483648 ≤ ρ 5 ∧ ρ 5 ≤ 2147483647 := hB 5
  have b6 : -2147483648 ≤ ρ 6 ∧ ρ 6 ≤ 2147483647 := hB 6
  have b7 : -2147483648 ≤ ρ 7 ∧ ρ 7 ≤ 2147483647 := hB 7
  have h0 : ρ 2 + 0 = wI ((ρ 1 + 0 : Int).tdiv (2)) := hP _ (List.mem_of_getElem? (i := 0) rfl)
  have h1 : ρ 3 + 0 = (ρ 1 + 0 : Int).tmod (2) := hP _ (List.mem_of_getElem? (i := 1) rfl)
  have h2 : Γ (α 0) = 1 ∧ ρ 4 + 0 = (ρ 2 + 0) % M.2.2.2.2 (α 0) 1 := hP _ (List.mem_of_getElem? (i := 2) rfl)
  have h3 : ρ 4 + 0 < ρ 5 + (-1) := hP _ (List.mem_of_getElem? (i := 3) rfl)
  have h4 : 0 ≤ (1 : Int) ∧ M.2.2.2.2 (α 0) (1 : Int).toNat = ρ 5 + 0 := hP _ (List.mem_of_getElem? (i := 4) rfl)
  have h5 : Γ (α 0) = 1 ∧ ρ 6 + 0 = M.2.2.2.2 (α 0) 0 * M.2.2.2.2 (α 0) 1 := hP _ (List.mem_of_getElem? (i := 5) rfl)
  have h6 : ρ 7 + 0 = wI ((2) * (ρ 6 + 0)) := hP _ (List.mem_of_getElem? (i := 6) rfl)
  have h7 : ρ 1 + 0 < ρ 7 + 0 := hP _ (List.mem_of_getElem? (i := 7) rfl)
  try simp only [Int.add_zero] at h0 h1 h2 h3 h4 h5 h6 h7
  have key : (Γ (α 0) = 1 ∧ edP (M.2.2.2.2 (α 0) 0) (M.2.2.2.2 (α 0) 1) (ρ 1 + 0)) ∧ True := by
    try simp only [Int.add_zero]
    obtain ⟨hr, hc⟩ := ch_dims hT g0
    have hrc := rc_bd hr hc
    obtain ⟨d1, d2, d3, d4, d5, d6, d7⟩ := dm (p := ρ 1) b1.1 (show (0 : Int) < 2 by decide)
    rw [d1] at h0
    rw [wI_id (by unfold inI; omega)] at h0
    rw [d2] at h1
    have h6 := h6
    rw [h5.2] at h6
    rw [wI_id (by unfold inI; omega)] at h6
    
    have e : M.2.2.2.2 (α 0) 1 = ρ 5 := h4.2
    have h2 := h2.2
    rw [h0, e] at h2
    rw [e] at h6 ⊢
    refine ⟨⟨g0, b1.1, by omega, fun _ => by rw [← h2]; omega, fun hn => absurd (show ρ 1 % 2 = 0 by omega) hn⟩, trivial⟩
  exact ⟨nB, qB (key.1) (nB)⟩
def t_edv : KT := ((0, 0, 0, 0), [(2, 0, 1, 0), (1, 1, 0, 0), (1, 2, 0, 0), (1, 3, 0, 0), (1, 4, 0, 0), (1, 5, 0, 0), (1, 6, 0, 0), (1, 7, 0, 0)], [(0, 0), (0, 287), (-2147483648, 2147483647), (1, 1), (-2147483648, 2147483647), (-2147483648, 2147483647), (-2147483648, 2147483647), (-2147483648, 2147483647)], [(26, [(1, 1, 0, 0), (0, 0, 0, 2), (1, 2, 0, 0)]), (27, [(1, 1, 0, 0), (0, 0, 0, 2), (1, 3, 0, 0)]), (71, [(2, 0, 1, 0), (1, 2, 0, 0), (1, 4, 0, 0)]), (21, [(1, 4, 0, 0), (1, 5, 0, -1)]), (10, [(2, 0, 1, 0), (0, 0, 0, 0), (1, 5, 0, 0)]), (5, [(2, 0, 1, 0), (1, 6, 0, 0)]), (25, [(0, 0, 0, 2), (1, 6, 0, 0), (1, 7, 0, 0)]), (21, [(1, 1, 0, 0), (1, 7, 0, 0)])], (0, 0, 0), [], [], ([], [(3, [(2, 0, 1, 0), (1, 1, 0, 0)])]), ([], []))
set_option maxRecDepth 100000 in
theorem l_edv (g : GG) : LOK Yt (PSt g) t_edv := by
  intro ρ α Γ M as hT hB hA hP
  have g0 : Γ (α 0) = 1 := tyAt hA (i := 0) rfl
  have b1 : 0 ≤ ρ 1 ∧ ρ 1 ≤ 287 := hB 1
  have b2 : -2147483648 ≤ ρ 2 ∧ ρ 2 ≤ 2147483647 := hB 2
  have b3 : 1 ≤ ρ 3 ∧ ρ 3 ≤ 1 := hB 3
  have b4 : -2147483648 ≤ ρ 4 ∧ ρ 4 ≤ 2147483647 := hB 4
  have b5 : -2147483648 ≤ ρ 5 ∧ ρ 5 ≤ 2147483647 := hB 5
  have b6 : -2147483648 ≤ ρ 6 ∧ ρ 6 ≤ 2147483647 := hB 6
  have b7 : -2147483648 ≤ ρ 7 ∧ ρ 7 ≤ 2147483647 := hB 7
  have h0 : ρ 2 + 0 = wI ((ρ 1 + 0 : Int).tdiv (2)) := hP _ (List.mem_of_getElem? (i := 0) rfl)
  have h1 : ρ 3 + 0 = (ρ 1 + 0 : Int).tmod (2) := hP _ (List.mem_of_getElem? (i := 1) rfl)
  have h2 : Γ (α 0) = 1 ∧ ρ 4 + 0 = (ρ 2 + 0) / M.2.2.2.2 (α 0) 1 := hP _ (List.mem_of_getElem? (i := 2) rfl)
  have h3 : ρ 4 + 0 < ρ 5 + (-1) := hP _ (List.mem_of_getElem? (i := 3) rfl)
  have h4 : 0 ≤ (0 : Int) ∧ M.2.2.2.2 (α 0) (0 : Int).toNat = ρ 5 + 0 := hP _ (List.mem_of_getElem? (i := 4) rfl)
  have h5 : Γ (α 0) = 1 ∧ ρ 6 + 0 = M.2.2.2.2 (α 0) 0 * M.2.2.2.2 (α 0) 1 := hP _ (List.mem_of_getElem? (i := 5) rfl)
  have h6 : ρ 7 + 0 = wI ((2) * (ρ 6 + 0)) := hP _ (List.mem_of_getElem? (i := 6) rfl)
  have h7 : ρ 1 + 0 < ρ 7 + 0 := hP _ (List.mem_of_getElem? (i := 7) rfl)
  try simp only [Int.add_zero] at h0 h1 h2 h3 h4 h5 h6 h7
  have key : (Γ (α 0) = 1 ∧ edP (M.2.2.2.2 (α 0) 0) (M.2.2.2.2 (α 0) 1) (ρ 1 + 0)) ∧ True := by
    try simp only [Int.add_zero]
    obtain ⟨hr, hc⟩ := ch_dims hT g0
    have hrc := rc_bd hr hc
    obtain ⟨d1, d2, d3, d4, d5, d6, d7⟩ := dm (p := ρ 1) b1.1 (show (0 : Int) < 2 by decide)
    rw [d1] at h0
    rw [wI_id (by unfold inI; omega)] at h0
    rw [d2] at h1
    have h6 := h6
    rw [h5.2] at h6
    rw [wI_id (by unfold inI; omega)] at h6
    
    have e : M.2.2.2.2 (α 0) 0 = ρ 5 := h4.2
    have h2 := h2.2
    rw [h0] at h2
    rw [e] at h6 ⊢
    refine ⟨⟨g0, b1.1, by omega, fun hn => absurd hn (show ¬ ρ 1 % 2 = 0 by omega), fun _ => by rw [← h2]; omega⟩, trivial⟩
  exact ⟨nB, qB (key.1) (nB)⟩
def t_ring : KT := ((0, 0, 0, 0), [(2, 0, 1, 0), (1, 1, 0, 0), (1, 2, 0, 0), (1, 3, 0, 0), (1, 4, 0, 0), (1, 5, 0, 0)], [(0, 0), (0, 143), (-2147483648, 2147483647), (-2147483648, 2147483647), (-2147483648, 2147483647), (-2147483648, 2147483647)], [(2, [(2, 0, 1, 0), (1, 1, 0, 0)]), (71, [(2, 0, 1, 0), (1, 1, 0, 0), (1, 2, 0, 0)]), (21, [(1, 2, 0, 0), (1, 3, 0, -1)]), (10, [(2, 0, 1, 0), (0, 0, 0, 0), (1, 3, 0, 0)]), (72, [(2, 0, 1, 0), (1, 1, 0, 0), (1, 4, 0, 0)]), (21, [(1, 4, 0, 0), (1, 5, 0, -1)]), (10, [(2, 0, 1, 0), (0, 0, 0, 1), (1, 5, 0, 0)])], (0, 0, 0), [], [], ([], [(4, [(2, 0, 1, 0), (1, 1, 0, 0)])]), ([], []))
set_option maxRecDepth 100000 in
theorem l_ring (g : GG) : LOK Yt (PSt g) t_ring := by
  intro ρ α Γ M as hT hB hA hP
  have g0 : Γ (α 0) = 1 := tyAt hA (i := 0) rfl
  have b1 : 0 ≤ ρ 1 ∧ ρ 1 ≤ 143 := hB 1
  have b2 : -2147483648 ≤ ρ 2 ∧ ρ 2 ≤ 2147483647 := hB 2
  have b3 : -2147483648 ≤ ρ 3 ∧ ρ 3 ≤ 2147483647 := hB 3
  have b4 : -2147483648 ≤ ρ 4 ∧ ρ 4 ≤ 2147483647 := hB 4
  have b5 : -2147483648 ≤ ρ 5 ∧ ρ 5 ≤ 2147483647 := hB 5
  have h0 : Γ (α 0) = 1 ∧ 0 ≤ ρ 1 + 0 ∧ ρ 1 + 0 < M.2.2.2.2 (α 0) 0 * M.2.2.2.2 (α 0) 1 := hP _ (List.mem_of_getElem? (i := 0) rfl)
  have h1 : Γ (α 0) = 1 ∧ ρ 2 + 0 = (ρ 1 + 0) / M.2.2.2.2 (α 0) 1 := hP _ (List.mem_of_getElem? (i := 1) rfl)
  have h2 : ρ 2 + 0 < ρ 3 + (-1) := hP _ (List.mem_of_getElem? (i := 2) rfl)
  have h3 : 0 ≤ (0 : Int) ∧ M.2.2.2.2 (α 0) (0 : Int).toNat = ρ 3 + 0 := hP _ (List.mem_of_getElem? (i := 3) rfl)
  have h4 : Γ (α 0) = 1 ∧ ρ 4 + 0 = (ρ 1 + 0) % M.2.2.2.2 (α 0) 1 := hP _ (List.mem_of_getElem? (i := 4) rfl)
  have h5 : ρ 4 + 0 < ρ 5 + (-1) := hP _ (List.mem_of_getElem? (i := 5) rfl)
  have h6 : 0 ≤ (1 : Int) ∧ M.2.2.2.2 (α 0) (1 : Int).toNat = ρ 5 + 0 := hP _ (List.mem_of_getElem? (i := 6) rfl)
  try simp only [Int.add_zero] at h0 h1 h2 h3 h4 h5 h6
  have key : (Γ (α 0) = 1 ∧ rgP (M.2.2.2.2 (α 0) 0) (M.2.2.2.2 (α 0) 1) (ρ 1 + 0)) ∧ True := by
    try simp only [Int.add_zero]
    have e0 : M.2.2.2.2 (α 0) 0 = ρ 3 := h3.2
    have e1 : M.2.2.2.2 (α 0) 1 = ρ 5 := h6.2
    have h1 := h1.2
    have h4 := h4.2
    have h0 := h0.2
    rw [e1] at h1 h4
    rw [e0, e1] at h0 ⊢
    exact ⟨⟨g0, h0.1, h0.2, by rw [← h1]; omega, by rw [← h4]; omega⟩, trivial⟩
  exact ⟨nB, qB (key.1) (nB)⟩
def t_tip0 : KT := ((0, 0, 0, 0), [(2, 0, 1, 0), (1, 1, 0, 0), (1, 2, 0, 0), (1, 3, 0, 0)], [(0, 0), (0, 287), (0, 0), (-2147483648, 2147483647)], [(3, [(2, 0, 1, 0), (1, 1, 0, 0)]), (27, [(1, 1, 0, 0), (0, 0, 0, 2), (1, 2, 0, 0)]), (26, [(1, 1, 0, 0), (0, 0, 0, 2), (1, 3, 0, -1)])], (0, 0, 0), [], [], ([(3, 0, 143)], [(2, [(2, 0, 1, 0), (1, 3, 0, 0)])]), ([], []))
set_option maxRecDepth 100000 in
theorem l_tip0 (g : GG) : LOK Yt (PSt g) t_tip0 := by
  intro ρ α Γ M as hT hB hA hP
  have g0 : Γ (α 0) = 1 := tyAt hA (i := 0) rfl
  have b1 : 0 ≤ ρ 1 ∧ ρ 1 ≤ 287 := hB 1
  have b2 : 0 ≤ ρ 2 ∧ ρ 2 ≤ 0 := hB 2
  have b3 : -2147483648 ≤ ρ 3 ∧ ρ 3 ≤ 2147483647 := hB 3
  have h0 : Γ (α 0) = 1 ∧ edP (M.2.2.2.2 (α 0) 0) (M.2.2.2.2 (α 0) 1) (ρ 1 + 0) := hP _ (List.mem_of_getElem? (i := 0) rfl)
  have h1 : ρ 2 + 0 = (ρ 1 + 0 : Int).tmod (2) := hP _ (List.mem_of_getElem? (i := 1) rfl)
  have h2 : ρ 3 + (-1) = wI ((ρ 1 + 0 : Int).tdiv (2)) := hP _ (List.mem_of_getElem? (i := 2) rfl)
  try simp only [Int.add_zero] at h0 h1 h2
  have key : (0 ≤ ρ 3 ∧ ρ 3 ≤ 143) ∧ (Γ (α 0) = 1 ∧ 0 ≤ ρ 3 + 0 ∧ ρ 3 + 0 < M.2.2.2.2 (α 0) 0 * M.2.2.2.2 (α 0) 1) ∧ True := by
    try simp only [Int.add_zero]
    obtain ⟨hr, hc⟩ := ch_dims hT g0
    have hrc := rc_bd hr hc
    obtain ⟨d1, d2, d3, d4, d5, d6, d7⟩ := dm (p := ρ 1) b1.1 (show (0 : Int) < 2 by decide)
    rw [d1] at h2
    rw [wI_id (by unfold inI; omega)] at h2
    rw [d2] at h1
    obtain ⟨-, -, x2, x3, -⟩ := h0
    have x3 := x3 (by omega)
    obtain ⟨-, -, y3, y4, y5, y6, -⟩ := dm (p := ρ 1 / 2) d6 (show 0 < M.2.2.2.2 (α 0) 1 by omega)
    have y7 := row_lt (r := M.2.2.2.2 (α 0) 0) (p := ρ 1 / 2) (show 0 < M.2.2.2.2 (α 0) 1 by omega) (by omega)
    have l := low_lt (k := 0) d6 (show 0 < M.2.2.2.2 (α 0) 1 by omega) (show ρ 1 / 2 / M.2.2.2.2 (α 0) 1 ≤ M.2.2.2.2 (α 0) 0 - 1 - 0 by omega) (by decide)
    exact ⟨⟨by omega, by omega⟩, ⟨g0, by omega, by omega⟩, trivial⟩
  exact ⟨qB (key.1) (nB), qB (key.2.1) (nB)⟩
def t_tip1 : KT := ((0, 0, 0, 0), [(2, 0, 1, 0), (1, 1, 0, 0), (1, 2, 0, 0), (1, 3, 0, 0), (1, 4, 0, 0), (1, 5, 0, 0)], [(0, 0), (0, 287), (1, 1), (-2147483648, 2147483647), (-2147483648, 2147483647), (-2147483648, 2147483647)], [(3, [(2, 0, 1, 0), (1, 1, 0, 0)]), (27, [(1, 1, 0, 0), (0, 0, 0, 2), (1, 2, 0, 0)]), (26, [(1, 1, 0, 0), (0, 0, 0, 2), (1, 3, 0, 0)]), (23, [(1, 3, 0, 0), (1, 4, 0, 0), (1, 5, 0, 0)]), (10, [(2, 0, 1, 0), (0, 0, 0, 1), (1, 4, 0, 0)])], (0, 0, 0), [], [], ([(5, 0, 143)], [(2, [(2, 0, 1, 0), (1, 5, 0, 0)])]), ([], []))
set_option maxRecDepth 100000 in
theorem l_tip1 (g : GG) : LOK Yt (PSt g) t_tip1 := by
  intro ρ α Γ M as hT hB hA hP
  have g0 : Γ (α 0) = 1 := tyAt hA (i := 0) rfl
  have b1 : 0 ≤ ρ 1 ∧ ρ 1 ≤ 287 := hB 1
  have b2 : 1 ≤ ρ 2 ∧ ρ 2 ≤ 1 := hB 2
  have b3 : -2147483648 ≤ ρ 3 ∧ ρ 3 ≤ 2147483647 := hB 3
  have b4 : -2147483648 ≤ ρ 4 ∧ ρ 4 ≤ 2147483647 := hB 4
  have b5 : -2147483648 ≤ ρ 5 ∧ ρ 5 ≤ 2147483647 := hB 5
  have h0 : Γ (α 0) = 1 ∧ edP (M.2.2.2.2 (α 0) 0) (M.2.2.2.2 (α 0) 1) (ρ 1 + 0) := hP _ (List.mem_of_getElem? (i := 0) rfl)
  have h1 : ρ 2 + 0 = (ρ 1 + 0 : Int).tmod (2) := hP _ (List.mem_of_getElem? (i := 1) rfl)
  have h2 : ρ 3 + 0 = wI ((ρ 1 + 0 : Int).tdiv (2)) := hP _ (List.mem_of_getElem? (i := 2) rfl)
  have h3 : ρ 5 + 0 = wI ((ρ 3 + 0) + (ρ 4 + 0)) := hP _ (List.mem_of_getElem? (i := 3) rfl)
  have h4 : 0 ≤ (1 : Int) ∧ M.2.2.2.2 (α 0) (1 : Int).toNat = ρ 4 + 0 := hP _ (List.mem_of_getElem? (i := 4) rfl)
  try simp only [Int.add_zero] at h0 h1 h2 h3 h4
  have key : (0 ≤ ρ 5 ∧ ρ 5 ≤ 143) ∧ (Γ (α 0) = 1 ∧ 0 ≤ ρ 5 + 0 ∧ ρ 5 + 0 < M.2.2.2.2 (α 0) 0 * M.2.2.2.2 (α 0) 1) ∧ True := by
    try simp only [Int.add_zero]
    obtain ⟨hr, hc⟩ := ch_dims hT g0
    have hrc := rc_bd hr hc
    have e : M.2.2.2.2 (α 0) 1 = ρ 4 := h4.2
    obtain ⟨d1, d2, d3, d4, d5, d6, d7⟩ := dm (p := ρ 1) b1.1 (show (0 : Int) < 2 by decide)
    rw [d1] at h2
    rw [wI_id (by unfold inI; omega)] at h2
    rw [d2] at h1
    rw [e] at h0 hc hrc ⊢
    rw [wI_id (by unfold inI; omega)] at h3
    obtain ⟨-, -, x2, -, x3⟩ := h0
    have x3 := x3 (by omega)
    obtain ⟨-, -, y3, y4, y5, y6, -⟩ := dm (p := ρ 1 / 2) d6 (show 0 < ρ 4 by omega)
    have l := low_lt (k := 1) d6 (show 0 < ρ 4 by omega) (show ρ 1 / 2 / ρ 4 ≤ M.2.2.2.2 (α 0) 0 - 1 - 1 by omega) (by decide)
    exact ⟨⟨by omega, by omega⟩, ⟨g0, by omega, by omega⟩, trivial⟩
  exact ⟨qB (key.1) (nB), qB (key.2.1) (nB)⟩
def t_b0 : KT := ((0, 0, 0, 0), [(2, 0, 1, 0), (1, 1, 0, 0), (1, 2, 0, 0), (1, 3, 0, 0), (1, 4, 0, 0)], [(0, 0), (0, 143), (0, 0), (-2147483648, 2147483647), (-2147483648, 2147483647)], [(2, [(2, 0, 1, 0), (1, 1, 0, 0)]), (6, [(1, 3, 0, 0), (1, 1, 0, 0)]), (10, [(2, 0, 1, 0), (0, 0, 0, 1), (1, 3, 0, 0)]), (24, [(1, 1, 0, 0), (1, 3, 0, 0), (1, 4, 0, 0)])], (0, 0, 0), [], [], ([(4, 0, 143)], [(15, [(2, 0, 1, 0), (1, 4, 0, 0)]), (17, [(2, 0, 1, 0), (1, 1, 0, 0), (1, 2, 0, 0), (1, 4, 0, 0)])]), ([], []))
set_option maxRecDepth 100000 in
theorem l_b0 (g : GG) : LOK Yt (PSt g) t_b0 := by
  intro ρ α Γ M as hT hB hA hP
  have g0 : Γ (α 0) = 1 := tyAt hA (i := 0) rfl
  have b1 : 0 ≤ ρ 1 ∧ ρ 1 ≤ 143 := hB 1
  have b2 : 0 ≤ ρ 2 ∧ ρ 2 ≤ 0 := hB 2
  have b3 : -2147483648 ≤ ρ 3 ∧ ρ 3 ≤ 2147483647 := hB 3
  have b4 : -2147483648 ≤ ρ 4 ∧ ρ 4 ≤ 2147483647 := hB 4
  have h0 : Γ (α 0) = 1 ∧ 0 ≤ ρ 1 + 0 ∧ ρ 1 + 0 < M.2.2.2.2 (α 0) 0 * M.2.2.2.2 (α 0) 1 := hP _ (List.mem_of_getElem? (i := 0) rfl)
  have h1 : ρ 3 + 0 ≤ ρ 1 + 0 := hP _ (List.mem_of_getElem? (i := 1) rfl)
  have h2 : 0 ≤ (1 : Int) ∧ M.2.2.2.2 (α 0) (1 : Int).toNat = ρ 3 + 0 := hP _ (List.mem_of_getElem? (i := 2) rfl)
  have h3 : ρ 4 + 0 = wI ((ρ 1 + 0) - (ρ 3 + 0)) := hP _ (List.mem_of_getElem? (i := 3) rfl)
  try simp only [Int.add_zero] at h0 h1 h2 h3
  have key : (0 ≤ ρ 4 ∧ ρ 4 ≤ 143) ∧ (Γ (α 0) = 1 ∧ (ρ 4 + 0 = -1 ∨ isPx (M.2.2.2.2 (α 0) 0) (M.2.2.2.2 (α 0) 1) (ρ 4 + 0))) ∧ (Γ (α 0) = 1 ∧ (ρ 4 + 0 ≠ -1 → nbP (M.2.2.2.2 (α 0) 0) (M.2.2.2.2 (α 0) 1) (ρ 1 + 0) (ρ 2 + 0))) ∧ True := by
    try simp only [Int.add_zero]
    obtain ⟨hr, hc⟩ := ch_dims hT g0
    have e : M.2.2.2.2 (α 0) 1 = ρ 3 := h2.2
    rw [e] at h0 hc ⊢
    rw [wI_id (by unfold inI; omega)] at h3
    exact ⟨⟨by omega, by omega⟩, ⟨g0, Or.inr ⟨by omega, by omega⟩⟩, ⟨g0, fun _ => ⟨fun _ => by omega, fun h => by omega, fun h => by omega, fun h => by omega⟩⟩, trivial⟩
  exact ⟨qB (key.1) (nB), qB (key.2.1) (qB (key.2.2.1) (nB))⟩
def t_bn : KT := ((0, 0, 0, 0), [(2, 0, 1, 0), (1, 1, 0, 0), (1, 2, 0, 0), (1, 3, 0, 0)], [(0, 0), (0, 143), (0, 3), (-1, -1)], [], (0, 0, 0), [], [], ([], [(15, [(2, 0, 1, 0), (1, 3, 0, 0)]), (17, [(2, 0, 1, 0), (1, 1, 0, 0), (1, 2, 0, 0), (1, 3, 0, 0)])]), ([], []))
set_option maxRecDepth 100000 in
theorem l_bn (g : GG) : LOK Yt (PSt g) t_bn := by
  intro ρ α Γ M as hT hB hA hP
  have g0 : Γ (α 0) = 1 := tyAt hA (i := 0) rfl
  have b1 : 0 ≤ ρ 1 ∧ ρ 1 ≤ 143 := hB 1
  have b2 : 0 ≤ ρ 2 ∧ ρ 2 ≤ 3 := hB 2
  have b3 : -1 ≤ ρ 3 ∧ ρ 3 ≤ -1 := hB 3
  have key : (Γ (α 0) = 1 ∧ (ρ 3 + 0 = -1 ∨ isPx (M.2.2.2.2 (α 0) 0) (M.2.2.2.2 (α 0) 1) (ρ 3 + 0))) ∧ (Γ (α 0) = 1 ∧ (ρ 3 + 0 ≠ -1 → nbP (M.2.2.2.2 (α 0) 0) (M.2.2.2.2 (α 0) 1) (ρ 1 + 0) (ρ 2 + 0))) ∧ True := by
    try simp only [Int.add_zero]
    exact ⟨⟨g0, Or.inl (by omega)⟩, ⟨g0, fun h => absurd (show ρ 3 = -1 by omega) h⟩, trivial⟩
  exact ⟨nB, qB (key.1) (qB (key.2.1) (nB))⟩
def t_b1 : KT := ((0, 0, 0, 0), [(2, 0, 1, 0), (1, 1, 0, 0), (1, 2, 0, 0), (1, 3, 0, 0)], [(0, 0), (0, 143), (1, 1), (1, 143)], [(2, [(2, 0, 1, 0), (1, 1, 0, 0)]), (72, [(2, 0, 1, 0), (1, 1, 0, 0), (1, 3, 0, 0)])], (0, 0, 0), [], [], ([(1, 1, 143)], [(15, [(2, 0, 1, 0), (1, 1, 0, -1)]), (17, [(2, 0, 1, 0), (1, 1, 0, 0), (1, 2, 0, 0), (1, 1, 0, -1)])]), ([], []))
set_option maxRecDepth 100000 in
theorem l_b1 (g : GG) : LOK Yt (PSt g) t_b1 := by
  intro ρ α Γ M as hT hB hA hP
  have g0 : Γ (α 0) = 1 := tyAt hA (i := 0) rfl
  have b1 : 0 ≤ ρ 1 ∧ ρ 1 ≤ 143 := hB 1
  have b2 : 1 ≤ ρ 2 ∧ ρ 2 ≤ 1 := hB 2
  have b3 : 1 ≤ ρ 3 ∧ ρ 3 ≤ 143 := hB 3
  have h0 : Γ (α 0) = 1 ∧ 0 ≤ ρ 1 + 0 ∧ ρ 1 + 0 < M.2.2.2.2 (α 0) 0 * M.2.2.2.2 (α 0) 1 := hP _ (List.mem_of_getElem? (i := 0) rfl)
  have h1 : Γ (α 0) = 1 ∧ ρ 3 + 0 = (ρ 1 + 0) % M.2.2.2.2 (α 0) 1 := hP _ (List.mem_of_getElem? (i := 1) rfl)
  try simp only [Int.add_zero] at h0 h1
  have key : (1 ≤ ρ 1 ∧ ρ 1 ≤ 143) ∧ (Γ (α 0) = 1 ∧ (ρ 1 + (-1) = -1 ∨ isPx (M.2.2.2.2 (α 0) 0) (M.2.2.2.2 (α 0) 1) (ρ 1 + (-1)))) ∧ (Γ (α 0) = 1 ∧ (ρ 1 + (-1) ≠ -1 → nbP (M.2.2.2.2 (α 0) 0) (M.2.2.2.2 (α 0) 1) (ρ 1 + 0) (ρ 2 + 0))) ∧ True := by
    try simp only [Int.add_zero]
    obtain ⟨hr, hc⟩ := ch_dims hT g0
    obtain ⟨-, -, y3, y4, y5, y6, y7⟩ := dm (p := ρ 1) b1.1 (show 0 < M.2.2.2.2 (α 0) 1 by omega)
    have hp : 1 ≤ ρ 1 := by
      by_cases h : ρ 1 = 0
      · rw [h, Int.zero_emod] at h1
        omega
      · omega
    exact ⟨⟨hp, b1.2⟩, ⟨g0, Or.inr ⟨by omega, by omega⟩⟩, ⟨g0, fun _ => ⟨fun h => by omega, fun _ => by rw [← h1.2]; omega, fun h => by omega, fun h => by omega⟩⟩, trivial⟩
  exact ⟨qB (key.1) (nB), qB (key.2.1) (qB (key.2.2.1) (nB))⟩
def t_b2 : KT := ((0, 0, 0, 0), [(2, 0, 1, 0), (1, 1, 0, 0), (1, 2, 0, 0), (1, 3, 0, 0), (1, 4, 0, 0)], [(0, 0), (0, 143), (2, 2), (-2147483648, 2147483647), (-2147483648, 2147483647)], [(2, [(2, 0, 1, 0), (1, 1, 0, 0)]), (72, [(2, 0, 1, 0), (1, 1, 0, 0), (1, 3, 0, 0)]), (21, [(1, 3, 0, 0), (1, 4, 0, -1)]), (10, [(2, 0, 1, 0), (0, 0, 0, 1), (1, 4, 0, 0)])], (0, 0, 0), [], [], ([(1, 0, 142)], [(15, [(2, 0, 1, 0), (1, 1, 0, 1)]), (17, [(2, 0, 1, 0), (1, 1, 0, 0), (1, 2, 0, 0), (1, 1, 0, 1)])]), ([], []))
set_option maxRecDepth 100000 in
theorem l_b2 (g : GG) : LOK Yt (PSt g) t_b2 := by
  intro ρ α Γ M as hT hB hA hP
  have g0 : Γ (α 0) = 1 := tyAt hA (i := 0) rfl
  have b1 : 0 ≤ ρ 1 ∧ ρ 1 ≤ 143 := hB 1
  have b2 : 2 ≤ ρ 2 ∧ ρ 2 ≤ 2 := hB 2
  have b3 : -2147483648 ≤ ρ 3 ∧ ρ 3 ≤ 2147483647 := hB 3
  have b4 : -2147483648 ≤ ρ 4 ∧ ρ 4 ≤ 2147483647 := hB 4
  have h0 : Γ (α 0) = 1 ∧ 0 ≤ ρ 1 + 0 ∧ ρ 1 + 0 < M.2.2.2.2 (α 0) 0 * M.2.2.2.2 (α 0) 1 := hP _ (List.mem_of_getElem? (i := 0) rfl)
  have h1 : Γ (α 0) = 1 ∧ ρ 3 + 0 = (ρ 1 + 0) % M.2.2.2.2 (α 0) 1 := hP _ (List.mem_of_getElem? (i := 1) rfl)
  have h2 : ρ 3 + 0 < ρ 4 + (-1) := hP _ (List.mem_of_getElem? (i := 2) rfl)
  have h3 : 0 ≤ (1 : Int) ∧ M.2.2.2.2 (α 0) (1 : Int).toNat = ρ 4 + 0 := hP _ (List.mem_of_getElem? (i := 3) rfl)
  try simp only [Int.add_zero] at h0 h1 h2 h3
  have key : (0 ≤ ρ 1 ∧ ρ 1 ≤ 142) ∧ (Γ (α 0) = 1 ∧ (ρ 1 + 1 = -1 ∨ isPx (M.2.2.2.2 (α 0) 0) (M.2.2.2.2 (α 0) 1) (ρ 1 + 1))) ∧ (Γ (α 0) = 1 ∧ (ρ 1 + 1 ≠ -1 → nbP (M.2.2.2.2 (α 0) 0) (M.2.2.2.2 (α 0) 1) (ρ 1 + 0) (ρ 2 + 0))) ∧ True := by
    try simp only [Int.add_zero]
    obtain ⟨hr, hc⟩ := ch_dims hT g0
    have hrc := rc_bd hr hc
    have e : M.2.2.2.2 (α 0) 1 = ρ 4 := h3.2
    rw [e] at h0 h1 hc hrc ⊢
    obtain ⟨-, -, y3, y4, y5, y6, y7⟩ := dm (p := ρ 1) b1.1 (show 0 < ρ 4 by omega)
    have z := row_lt (show 0 < ρ 4 by omega) h0.2.2
    have l := low_lt (k := 0) b1.1 (show 0 < ρ 4 by omega) (show ρ 1 / ρ 4 ≤ M.2.2.2.2 (α 0) 0 - 1 - 0 by omega) (by decide)
    exact ⟨⟨b1.1, by omega⟩, ⟨g0, Or.inr ⟨by omega, by omega⟩⟩, ⟨g0, fun _ => ⟨fun h => by omega, fun h => by omega, fun _ => by rw [← h1.2]; omega, fun h1 h2 h3 => by omega⟩⟩, trivial⟩
  exact ⟨qB (key.1) (nB), qB (key.2.1) (qB (key.2.2.1) (nB))⟩
def t_b3 : KT := ((0, 0, 0, 0), [(2, 0, 1, 0), (1, 1, 0, 0), (1, 2, 0, 0), (1, 3, 0, 0), (1, 4, 0, 0), (1, 5, 0, 0), (1, 6, 0, 0)], [(0, 0), (0, 143), (3, 3), (-2147483648, 2147483647), (-2147483648, 2147483647), (-2147483648, 2147483647), (-2147483648, 2147483647)], [(2, [(2, 0, 1, 0), (1, 1, 0, 0)]), (71, [(2, 0, 1, 0), (1, 1, 0, 0), (1, 3, 0, 0)]), (21, [(1, 3, 0, 0), (1, 4, 0, -1)]), (10, [(2, 0, 1, 0), (0, 0, 0, 0), (1, 4, 0, 0)]), (10, [(2, 0, 1, 0), (0, 0, 0, 1), (1, 5, 0, 0)]), (23, [(1, 1, 0, 0), (1, 5, 0, 0), (1, 6, 0, 0)])], (0, 0, 0), [], [], ([(6, 0, 143)], [(15, [(2, 0, 1, 0), (1, 6, 0, 0)]), (17, [(2, 0, 1, 0), (1, 1, 0, 0), (1, 2, 0, 0), (1, 6, 0, 0)])]), ([], []))
set_option maxRecDepth 100000 in
theorem l_b3 (g : GG) : LOK Yt (PSt g) t_b3 := by
  intro ρ α Γ M as hT hB hA hP
  have g0 : Γ (α 0) = 1 := tyAt hA (i := 0) rfl
  have b1 : 0 ≤ ρ 1 ∧ ρ 1 ≤ 143 := hB 1
  have b2 : 3 ≤ ρ 2 ∧ ρ 2 ≤ 3 := hB 2
  have b3 : -2147483648 ≤ ρ 3 ∧ ρ 3 ≤ 2147483647 := hB 3
  have b4 : -2147483648 ≤ ρ 4 ∧ ρ 4 ≤ 2147483647 := hB 4
  have b5 : -2147483648 ≤ ρ 5 ∧ ρ 5 ≤ 2147483647 := hB 5
  have b6 : -2147483648 ≤ ρ 6 ∧ ρ 6 ≤ 2147483647 := hB 6
  have h0 : Γ (α 0) = 1 ∧ 0 ≤ ρ 1 + 0 ∧ ρ 1 + 0 < M.2.2.2.2 (α 0) 0 * M.2.2.2.2 (α 0) 1 := hP _ (List.mem_of_getElem? (i := 0) rfl)
  have h1 : Γ (α 0) = 1 ∧ ρ 3 + 0 = (ρ 1 + 0) / M.2.2.2.2 (α 0) 1 := hP _ (List.mem_of_getElem? (i := 1) rfl)
  have h2 : ρ 3 + 0 < ρ 4 + (-1) := hP _ (List.mem_of_getElem? (i := 2) rfl)
  have h3 : 0 ≤ (0 : Int) ∧ M.2.2.2.2 (α 0) (0 : Int).toNat = ρ 4 + 0 := hP _ (List.mem_of_getElem? (i := 3) rfl)
  have h4 : 0 ≤ (1 : Int) ∧ M.2.2.2.2 (α 0) (1 : Int).toNat = ρ 5 + 0 := hP _ (List.mem_of_getElem? (i := 4) rfl)
  have h5 : ρ 6 + 0 = wI ((ρ 1 + 0) + (ρ 5 + 0)) := hP _ (List.mem_of_getElem? (i := 5) rfl)
  try simp only [Int.add_zero] at h0 h1 h2 h3 h4 h5
  have key : (0 ≤ ρ 6 ∧ ρ 6 ≤ 143) ∧ (Γ (α 0) = 1 ∧ (ρ 6 + 0 = -1 ∨ isPx (M.2.2.2.2 (α 0) 0) (M.2.2.2.2 (α 0) 1) (ρ 6 + 0))) ∧ (Γ (α 0) = 1 ∧ (ρ 6 + 0 ≠ -1 → nbP (M.2.2.2.2 (α 0) 0) (M.2.2.2.2 (α 0) 1) (ρ 1 + 0) (ρ 2 + 0))) ∧ True := by
    try simp only [Int.add_zero]
    obtain ⟨hr, hc⟩ := ch_dims hT g0
    have hrc := rc_bd hr hc
    have e : M.2.2.2.2 (α 0) 1 = ρ 5 := h4.2
    have e0 : M.2.2.2.2 (α 0) 0 = ρ 4 := h3.2
    rw [e] at h1
    rw [e, e0] at h0 hrc ⊢
    rw [e] at hc
    rw [e0] at hr
    obtain ⟨-, -, y3, y4, y5, y6, y7⟩ := dm (p := ρ 1) b1.1 (show 0 < ρ 5 by omega)
    rw [wI_id (by unfold inI; omega)] at h5
    have l := low_lt (r := ρ 4) (k := 1) b1.1 (show 0 < ρ 5 by omega) (show ρ 1 / ρ 5 ≤ ρ 4 - 1 - 1 by have := h1.2; omega) (by decide)
    exact ⟨⟨by omega, by omega⟩, ⟨g0, Or.inr ⟨by omega, by omega⟩⟩, ⟨g0, fun _ => ⟨fun h => by omega, fun h => by omega, fun h => by omega, fun _ _ _ => by rw [← h1.2]; omega⟩⟩, trivial⟩
  exact ⟨qB (key.1) (nB), qB (key.2.1) (qB (key.2.2.1) (nB))⟩
def t_e0 : KT := ((0, 0, 0, 0), [(2, 0, 1, 0), (1, 1, 0, 0), (1, 2, 0, 0), (1, 3, 0, 0), (1, 4, 0, 0)], [(0, 0), (0, 143), (0, 0), (-2147483648, 2147483647), (-2147483648, 2147483647)], [(16, [(2, 0, 1, 0), (1, 1, 0, 0), (1, 2, 0, 0)]), (10, [(2, 0, 1, 0), (0, 0, 0, 1), (1, 3, 0, 0)]), (24, [(1, 1, 0, 0), (1, 3, 0, 0), (1, 4, 0, 0)])], (0, 0, 0), [], [], ([(4, 0, 143)], []), ([], []))
set_option maxRecDepth 100000 in
theorem l_e0 (g : GG) : LOK Yt (PSt g) t_e0 := by
  intro ρ α Γ M as hT hB hA hP
  have g0 : Γ (α 0) = 1 := tyAt hA (i := 0) rfl
  have b1 : 0 ≤ ρ 1 ∧ ρ 1 ≤ 143 := hB 1
  have b2 : 0 ≤ ρ 2 ∧ ρ 2 ≤ 0 := hB 2
  have b3 : -2147483648 ≤ ρ 3 ∧ ρ 3 ≤ 2147483647 := hB 3
  have b4 : -2147483648 ≤ ρ 4 ∧ ρ 4 ≤ 2147483647 := hB 4
  have h0 : Γ (α 0) = 1 ∧ nbP (M.2.2.2.2 (α 0) 0) (M.2.2.2.2 (α 0) 1) (ρ 1 + 0) (ρ 2 + 0) := hP _ (List.mem_of_getElem? (i := 0) rfl)
  have h1 : 0 ≤ (1 : Int) ∧ M.2.2.2.2 (α 0) (1 : Int).toNat = ρ 3 + 0 := hP _ (List.mem_of_getElem? (i := 1) rfl)
  have h2 : ρ 4 + 0 = wI ((ρ 1 + 0) - (ρ 3 + 0)) := hP _ (List.mem_of_getElem? (i := 2) rfl)
  try simp only [Int.add_zero] at h0 h1 h2
  have key : (0 ≤ ρ 4 ∧ ρ 4 ≤ 143) ∧ True := by
    try simp only [Int.add_zero]
    obtain ⟨hr, hc⟩ := ch_dims hT g0
    have e : M.2.2.2.2 (α 0) 1 = ρ 3 := h1.2
    rw [e] at h0 hc
    rw [wI_id (by unfold inI; omega)] at h2
    have := h0.2.1 (by omega)
    exact ⟨⟨by omega, by omega⟩, trivial⟩
  exact ⟨qB (key.1) (nB), nB⟩
def t_e1 : KT := ((0, 0, 0, 0), [(2, 0, 1, 0), (1, 1, 0, 0), (1, 2, 0, 0)], [(0, 0), (0, 143), (1, 1)], [(16, [(2, 0, 1, 0), (1, 1, 0, 0), (1, 2, 0, 0)])], (0, 0, 0), [], [], ([(1, 1, 143)], []), ([], []))
set_option maxRecDepth 100000 in
theorem l_e1 (g : GG) : LOK Yt (PSt g) t_e1 := by
  intro ρ α Γ M as hT hB hA hP
  have g0 : Γ (α 0) = 1 := tyAt hA (i := 0) rfl
  have b1 : 0 ≤ ρ 1 ∧ ρ 1 ≤ 143 := hB 1
  have b2 : 1 ≤ ρ 2 ∧ ρ 2 ≤ 1 := hB 2
  have h0 : Γ (α 0) = 1 ∧ nbP (M.2.2.2.2 (α 0) 0) (M.2.2.2.2 (α 0) 1) (ρ 1 + 0) (ρ 2 + 0) := hP _ (List.mem_of_getElem? (i := 0) rfl)
  try simp only [Int.add_zero] at h0
  have key : (1 ≤ ρ 1 ∧ ρ 1 ≤ 143) ∧ True := by
    try simp only [Int.add_zero]
    obtain ⟨hr, hc⟩ := ch_dims hT g0
    have h1 := h0.2.2.1 (by omega)
    have hp : 1 ≤ ρ 1 := by
      by_cases h : ρ 1 = 0
      · rw [h, Int.zero_emod] at h1
        omega
      · omega
    exact ⟨⟨hp, b1.2⟩, trivial⟩
  exact ⟨qB (key.1) (nB), nB⟩
def t_c0 : KT := ((0, 0, 0, 0), [(2, 0, 1, 0), (1, 1, 0, 0)], [(0, 0), (0, 143)], [(4, [(2, 0, 1, 0), (1, 1, 0, 0)])], (0, 0, 0), [], [], ([(1, 0, 140)], []), ([], []))
set_option maxRecDepth 100000 in
theorem l_c0 (g : GG) : LOK Yt (PSt g) t_c0 := by
  intro ρ α Γ M as hT hB hA hP
  have g0 : Γ (α 0) = 1 := tyAt hA (i := 0) rfl
  have b1 : 0 ≤ ρ 1 ∧ ρ 1 ≤ 143 := hB 1
  have h0 : Γ (α 0) = 1 ∧ rgP (M.2.2.2.2 (α 0) 0) (M.2.2.2.2 (α 0) 1) (ρ 1 + 0) := hP _ (List.mem_of_getElem? (i := 0) rfl)
  try simp only [Int.add_zero] at h0
  have key : (0 ≤ ρ 1 ∧ ρ 1 ≤ 140) ∧ True := by
    try simp only [Int.add_zero]
    obtain ⟨hr, hc⟩ := ch_dims hT g0
    have hrc := rc_bd hr hc
    obtain ⟨-, x0, x1, x2, x3⟩ := h0
    have l := low_lt (r := M.2.2.2.2 (α 0) 0) (k := 1) x0 (show 0 < M.2.2.2.2 (α 0) 1 by omega) (by omega) (by decide)
    exact ⟨⟨x0, by omega⟩, trivial⟩
  exact ⟨qB (key.1) (nB), nB⟩
def t_c1 : KT := ((0, 0, 0, 0), [(2, 0, 1, 0), (1, 1, 0, 0), (1, 2, 0, 0), (1, 3, 0, 0)], [(0, 0), (0, 143), (-2147483648, 2147483647), (-2147483648, 2147483647)], [(4, [(2, 0, 1, 0), (1, 1, 0, 0)]), (23, [(1, 1, 0, 0), (1, 2, 0, 0), (1, 3, 0, 0)]), (10, [(2, 0, 1, 0), (0, 0, 0, 1), (1, 2, 0, 0)])], (0, 0, 0), [], [], ([(3, 0, 142)], []), ([], []))
set_option maxRecDepth 100000 in
theorem l_c1 (g : GG) : LOK Yt (PSt g) t_c1 := by
  intro ρ α Γ M as hT hB hA hP
  have g0 : Γ (α 0) = 1 := tyAt hA (i := 0) rfl
  have b1 : 0 ≤ ρ 1 ∧ ρ 1 ≤ 143 := hB 1
  have b2 : -2147483648 ≤ ρ 2 ∧ ρ 2 ≤ 2147483647 := hB 2
  have b3 : -2147483648 ≤ ρ 3 ∧ ρ 3 ≤ 2147483647 := hB 3
  have h0 : Γ (α 0) = 1 ∧ rgP (M.2.2.2.2 (α 0) 0) (M.2.2.2.2 (α 0) 1) (ρ 1 + 0) := hP _ (List.mem_of_getElem? (i := 0) rfl)
  have h1 : ρ 3 + 0 = wI ((ρ 1 + 0) + (ρ 2 + 0)) := hP _ (List.mem_of_getElem? (i := 1) rfl)
  have h2 : 0 ≤ (1 : Int) ∧ M.2.2.2.2 (α 0) (1 : Int).toNat = ρ 2 + 0 := hP _ (List.mem_of_getElem? (i := 2) rfl)
  try simp only [Int.add_zero] at h0 h1 h2
  have key : (0 ≤ ρ 3 ∧ ρ 3 ≤ 142) ∧ True := by
    try simp only [Int.add_zero]
    obtain ⟨hr, hc⟩ := ch_dims hT g0
    have hrc := rc_bd hr hc
    have e : M.2.2.2.2 (α 0) 1 = ρ 2 := h2.2
    rw [e] at h0 hc hrc
    rw [wI_id (by unfold inI; omega)] at h1
    obtain ⟨-, x0, x1, x2, x3⟩ := h0
    have l := low_lt (r := M.2.2.2.2 (α 0) 0) (k := 1) x0 (show 0 < ρ 2 by omega) (by omega) (by decide)
    exact ⟨⟨by omega, by omega⟩, trivial⟩
  exact ⟨qB (key.1) (nB), nB⟩
def t_w3 : KT := ((0, 0, 0, 0), [(2, 0, 38, 0), (2, 1, 1, 0), (1, 2, 0, 0)], [(0, 0), (0, 0), (0, 287)], [(11, [(2, 0, 38, 0), (0, 0, 0, 0), (2, 1, 1, 0)]), (3, [(2, 1, 1, 0), (1, 2, 0, 0)])], (0, 0, 0), [], [], ([], [(73, [(2, 0, 38, 0), (1, 2, 0, 0)])]), ([], []))
set_option maxRecDepth 100000 in
theorem l_w3 (g : GG) : LOK Yt (PSt g) t_w3 := by
  intro ρ α Γ M as hT hB hA hP
  have g0 : Γ (α 0) = 38 := tyAt hA (i := 0) rfl
  have g1 : Γ (α 1) = 1 := tyAt hA (i := 1) rfl
  have b2 : 0 ≤ ρ 2 ∧ ρ 2 ≤ 287 := hB 2
  have h0 : 0 ≤ (0 : Int) ∧ M.2.2.2.1 (α 0) (0 : Int).toNat = some (α 1) := hP _ (List.mem_of_getElem? (i := 0) rfl)
  have h1 : Γ (α 1) = 1 ∧ edP (M.2.2.2.2 (α 1) 0) (M.2.2.2.2 (α 1) 1) (ρ 2 + 0) := hP _ (List.mem_of_getElem? (i := 1) rfl)
  try simp only [Int.add_zero] at h0 h1
  have key : (Γ (α 0) = 38 ∧ ∃ b, M.2.2.2.1 (α 0) 0 = some b ∧ Γ b = 1 ∧ edP (M.2.2.2.2 b 0) (M.2.2.2.2 b 1) (ρ 2 + 0)) ∧ True := by
    try simp only [Int.add_zero]
    exact ⟨⟨g0, α 1, h0.2, h1.1, h1.2⟩, trivial⟩
  exact ⟨nB, qB (key.1) (nB)⟩
def t_v3 : KT := ((0, 0, 0, 0), [(2, 0, 38, 0), (2, 1, 1, 0), (1, 2, 0, 0)], [(0, 0), (0, 0), (0, 287)], [(11, [(2, 0, 38, 0), (0, 0, 0, 0), (2, 1, 1, 0)]), (73, [(2, 0, 38, 0), (1, 2, 0, 0)])], (0, 0, 0), [], [], ([], [(3, [(2, 1, 1, 0), (1, 2, 0, 0)])]), ([], []))
set_option maxRecDepth 100000 in
theorem l_v3 (g : GG) : LOK Yt (PSt g) t_v3 := by
  intro ρ α Γ M as hT hB hA hP
  have g0 : Γ (α 0) = 38 := tyAt hA (i := 0) rfl
  have g1 : Γ (α 1) = 1 := tyAt hA (i := 1) rfl
  have b2 : 0 ≤ ρ 2 ∧ ρ 2 ≤ 287 := hB 2
  have h0 : 0 ≤ (0 : Int) ∧ M.2.2.2.1 (α 0) (0 : Int).toNat = some (α 1) := hP _ (List.mem_of_getElem? (i := 0) rfl)
  have h1 : Γ (α 0) = 38 ∧ ∃ b, M.2.2.2.1 (α 0) 0 = some b ∧ Γ b = 1 ∧ edP (M.2.2.2.2 b 0) (M.2.2.2.2 b 1) (ρ 2 + 0) := hP _ (List.mem_of_getElem? (i := 1) rfl)
  try simp only [Int.add_zero] at h0 h1
  have key : (Γ (α 1) = 1 ∧ edP (M.2.2.2.2 (α 1) 0) (M.2.2.2.2 (α 1) 1) (ρ 2 + 0)) ∧ True := by
    try simp only [Int.add_zero]
    obtain ⟨-, b, h2, h3, h4⟩ := h1
    have h5 : M.2.2.2.1 (α 0) 0 = some (α 1) := h0.2
    rw [h5] at h2
    cases h2
    exact ⟨⟨h3, h4⟩, trivial⟩
  exact ⟨nB, qB (key.1) (nB)⟩
def t_q16 : KT := ((0, 0, 0, 0), [(2, 0, 1, 0), (1, 1, 0, 0), (1, 2, 0, 0), (1, 3, 0, 0)], [(0, 0), (0, 143), (0, 3), (0, 143)], [(17, [(2, 0, 1, 0), (1, 1, 0, 0), (1, 2, 0, 0), (1, 3, 0, 0)])], (0, 0, 0), [], [], ([], [(16, [(2, 0, 1, 0), (1, 1, 0, 0), (1, 2, 0, 0)])]), ([], []))
set_option maxRecDepth 100000 in
theorem l_q16 (g : GG) : LOK Yt (PSt g) t_q16 := by
  intro ρ α Γ M as hT hB hA hP
  have g0 : Γ (α 0) = 1 := tyAt hA (i := 0) rfl
  have b1 : 0 ≤ ρ 1 ∧ ρ 1 ≤ 143 := hB 1
  have b2 : 0 ≤ ρ 2 ∧ ρ 2 ≤ 3 := hB 2
  have b3 : 0 ≤ ρ 3 ∧ ρ 3 ≤ 143 := hB 3
  have h0 : Γ (α 0) = 1 ∧ (ρ 3 + 0 ≠ -1 → nbP (M.2.2.2.2 (α 0) 0) (M.2.2.2.2 (α 0) 1) (ρ 1 + 0) (ρ 2 + 0)) := hP _ (List.mem_of_getElem? (i := 0) rfl)
  try simp only [Int.add_zero] at h0
  have key : (Γ (α 0) = 1 ∧ nbP (M.2.2.2.2 (α 0) 0) (M.2.2.2.2 (α 0) 1) (ρ 1 + 0) (ρ 2 + 0)) ∧ True := by
    try simp only [Int.add_zero]
    exact ⟨⟨g0, h0.2 (by omega)⟩, trivial⟩
  exact ⟨nB, qB (key.1) (nB)⟩
def t_q2 : KT := ((0, 0, 0, 0), [(2, 0, 1, 0), (1, 1, 0, 0)], [(0, 0), (0, 143)], [(15, [(2, 0, 1, 0), (1, 1, 0, 0)])], (0, 0, 0), [], [], ([], [(2, [(2, 0, 1, 0), (1, 1, 0, 0)])]), ([], []))
set_option maxRecDepth 100000 in
theorem l_q2 (g : GG) : LOK Yt (PSt g) t_q2 := by
  intro ρ α Γ M as hT hB hA hP
  have g0 : Γ (α 0) = 1 := tyAt hA (i := 0) rfl
  have b1 : 0 ≤ ρ 1 ∧ ρ 1 ≤ 143 := hB 1
  have h0 : Γ (α 0) = 1 ∧ (ρ 1 + 0 = -1 ∨ isPx (M.2.2.2.2 (α 0) 0) (M.2.2.2.2 (α 0) 1) (ρ 1 + 0)) := hP _ (List.mem_of_getElem? (i := 0) rfl)
  try simp only [Int.add_zero] at h0
  have key : (Γ (α 0) = 1 ∧ 0 ≤ ρ 1 + 0 ∧ ρ 1 + 0 < M.2.2.2.2 (α 0) 0 * M.2.2.2.2 (α 0) 1) ∧ True := by
    try simp only [Int.add_zero]
    rcases h0.2 with h | h
    · omega
    · exact ⟨⟨g0, h.1, h.2⟩, trivial⟩
  exact ⟨nB, qB (key.1) (nB)⟩
def t_rg0 : KT := ((0, 0, 0, 0), [(2, 0, 21, 0), (2, 1, 1, 0), (1, 2, 0, 0)], [(0, 0), (0, 0), (0, 0)], [(10, [(2, 0, 21, 0), (0, 0, 0, 0), (1, 2, 0, 0)])], (0, 0, 0), [], [], ([], [(70, [(2, 0, 21, 0), (2, 1, 1, 0)])]), ([], []))
set_option maxRecDepth 100000 in
theorem l_rg0 (g : GG) : LOK Yt (PSt g) t_rg0 := by
  intro ρ α Γ M as hT hB hA hP
  have g0 : Γ (α 0) = 21 := tyAt hA (i := 0) rfl
  have g1 : Γ (α 1) = 1 := tyAt hA (i := 1) rfl
  have b2 : 0 ≤ ρ 2 ∧ ρ 2 ≤ 0 := hB 2
  have h0 : 0 ≤ (0 : Int) ∧ M.2.2.2.2 (α 0) (0 : Int).toNat = ρ 2 + 0 := hP _ (List.mem_of_getElem? (i := 0) rfl)
  try simp only [Int.add_zero] at h0
  have key : (Γ (α 0) = 21 ∧ Γ (α 1) = 1 ∧ ∃ a, M.2.2.2.1 (α 0) 1 = some a ∧ Γ a = 22 ∧ ∀ j : Nat, (j : Int) < M.2.2.2.2 (α 0) 0 → isPx (M.2.2.2.2 (α 1) 0) (M.2.2.2.2 (α 1) 1) (M.2.2.2.2 a j)) ∧ True := by
    try simp only [Int.add_zero]
    obtain ⟨a, h1, h2⟩ := tyR hT g0 (by decide) (j := 1) (τ2 := 22) (by decide)
    have e : M.2.2.2.2 (α 0) 0 = ρ 2 := h0.2
    exact ⟨⟨g0, g1, a, h1, h2, fun j hj => by omega⟩, trivial⟩
  exact ⟨nB, qB (key.1) (nB)⟩
def t_rg1 : KT := ((0, 0, 0, 0), [(2, 0, 21, 0), (2, 1, 1, 0), (2, 2, 22, 0), (1, 3, 0, 0)], [(0, 0), (0, 0), (0, 0), (-2147483648, 2147483647)], [(70, [(2, 0, 21, 0), (2, 1, 1, 0)]), (11, [(2, 0, 21, 0), (0, 0, 0, 1), (2, 2, 22, 0)]), (10, [(2, 0, 21, 0), (0, 0, 0, 0), (1, 3, 0, 0)])], (0, 0, 0), [], [], ([], [(60, [(2, 2, 22, 0), (1, 3, 0, 0), (2, 0, 21, 0), (2, 1, 1, 0)])]), ([], []))
set_option maxRecDepth 100000 in
theorem l_rg1 (g : GG) : LOK Yt (PSt g) t_rg1 := by
  intro ρ α Γ M as hT hB hA hP
  have g0 : Γ (α 0) = 21 := tyAt hA (i := 0) rfl
  have g1 : Γ (α 1) = 1 := tyAt hA (i := 1) rfl
  have g2 : Γ (α 2) = 22 := tyAt hA (i := 2) rfl
  have b3 : -2147483648 ≤ ρ 3 ∧ ρ 3 ≤ 2147483647 := hB 3
  have h0 : Γ (α 0) = 21 ∧ Γ (α 1) = 1 ∧ ∃ a, M.2.2.2.1 (α 0) 1 = some a ∧ Γ a = 22 ∧ ∀ j : Nat, (j : Int) < M.2.2.2.2 (α 0) 0 → isPx (M.2.2.2.2 (α 1) 0) (M.2.2.2.2 (α 1) 1) (M.2.2.2.2 a j) := hP _ (List.mem_of_getElem? (i := 0) rfl)
  have h1 : 0 ≤ (1 : Int) ∧ M.2.2.2.1 (α 0) (1 : Int).toNat = some (α 2) := hP _ (List.mem_of_getElem? (i := 1) rfl)
  have h2 : 0 ≤ (0 : Int) ∧ M.2.2.2.2 (α 0) (0 : Int).toNat = ρ 3 + 0 := hP _ (List.mem_of_getElem? (i := 2) rfl)
  try simp only [Int.add_zero] at h0 h1 h2
  have key : (Γ (α 0) = 21 ∧ Γ (α 1) = 1 ∧ M.2.2.2.1 (α 0) 1 = some (α 2) ∧ Γ (α 2) = 22 ∧ M.2.2.2.2 (α 0) 0 = ρ 3 + 0 ∧ ∀ j : Nat, (j : Int) < ρ 3 + 0 → isPx (M.2.2.2.2 (α 1) 0) (M.2.2.2.2 (α 1) 1) (M.2.2.2.2 (α 2) j)) ∧ True := by
    try simp only [Int.add_zero]
    obtain ⟨-, -, a, x1, x2, x3⟩ := h0
    have e1 : M.2.2.2.1 (α 0) 1 = some (α 2) := h1.2
    rw [e1] at x1
    cases x1
    have e : M.2.2.2.2 (α 0) 0 = ρ 3 := h2.2
    rw [e] at x3
    exact ⟨⟨g0, g1, e1, x2, e, x3⟩, trivial⟩
  exact ⟨nB, qB (key.1) (nB)⟩
def t_rg2 : KT := ((0, 0, 0, 0), [(2, 0, 21, 0), (2, 1, 1, 0), (2, 2, 22, 0), (1, 3, 0, 0), (1, 4, 0, 0)], [(0, 0), (0, 0), (0, 0), (0, 120), (0, 143)], [(60, [(2, 2, 22, 0), (1, 3, 0, 0), (2, 0, 21, 0), (2, 1, 1, 0)]), (10, [(2, 2, 22, 0), (1, 3, 0, 0), (1, 4, 0, 0)]), (2, [(2, 1, 1, 0), (1, 4, 0, 0)])], (0, 0, 0), [], [], ([], [(61, [(2, 0, 21, 0), (0, 0, 0, 0), (2, 2, 22, 0), (2, 1, 1, 0), (1, 3, 0, 1)])]), ([], []))
set_option maxRecDepth 100000 in
theorem l_rg2 (g : GG) : LOK Yt (PSt g) t_rg2 := by
  intro ρ α Γ M as hT hB hA hP
  have g0 : Γ (α 0) = 21 := tyAt hA (i := 0) rfl
  have g1 : Γ (α 1) = 1 := tyAt hA (i := 1) rfl
  have g2 : Γ (α 2) = 22 := tyAt hA (i := 2) rfl
  have b3 : 0 ≤ ρ 3 ∧ ρ 3 ≤ 120 := hB 3
  have b4 : 0 ≤ ρ 4 ∧ ρ 4 ≤ 143 := hB 4
  have h0 : Γ (α 0) = 21 ∧ Γ (α 1) = 1 ∧ M.2.2.2.1 (α 0) 1 = some (α 2) ∧ Γ (α 2) = 22 ∧ M.2.2.2.2 (α 0) 0 = ρ 3 + 0 ∧ ∀ j : Nat, (j : Int) < ρ 3 + 0 → isPx (M.2.2.2.2 (α 1) 0) (M.2.2.2.2 (α 1) 1) (M.2.2.2.2 (α 2) j) := hP _ (List.mem_of_getElem? (i := 0) rfl)
  have h1 : 0 ≤ (ρ 3 + 0 : Int) ∧ M.2.2.2.2 (α 2) (ρ 3 + 0 : Int).toNat = ρ 4 + 0 := hP _ (List.mem_of_getElem? (i := 1) rfl)
  have h2 : Γ (α 1) = 1 ∧ 0 ≤ ρ 4 + 0 ∧ ρ 4 + 0 < M.2.2.2.2 (α 1) 0 * M.2.2.2.2 (α 1) 1 := hP _ (List.mem_of_getElem? (i := 2) rfl)
  try simp only [Int.add_zero] at h0 h1 h2
  have key : ((0 : Int) = 0 ∧ ρ 3 + 1 ≤ 121 ∧ Γ (α 0) = 21 ∧ Γ (α 1) = 1 ∧ M.2.2.2.1 (α 0) 1 = some (α 2) ∧ Γ (α 2) = 22 ∧ ∀ j : Nat, (j : Int) < ρ 3 + 1 → isPx (M.2.2.2.2 (α 1) 0) (M.2.2.2.2 (α 1) 1) (M.2.2.2.2 (α 2) j)) ∧ True := by
    try simp only [Int.add_zero]
    obtain ⟨-, -, e1, x2, e, x3⟩ := h0
    refine ⟨⟨by trivial, by omega, g0, g1, e1, x2, fun j hj => ?_⟩, trivial⟩
    by_cases hj2 : (j : Int) < ρ 3
    · exact x3 j hj2
    · have hq : j = (ρ 3).toNat := by omega
      rw [hq, h1.2]
      exact h2.2
  exact ⟨nB, qB (key.1) (nB)⟩
def t_rg3 : KT := ((0, 0, 0, 0), [(2, 0, 21, 0), (2, 1, 1, 0), (2, 2, 22, 0), (1, 3, 0, 0)], [(0, 0), (0, 0), (0, 0), (-2147483648, 2147483647)], [(61, [(2, 0, 21, 0), (0, 0, 0, 0), (2, 2, 22, 0), (2, 1, 1, 0), (1, 3, 0, 0)]), (10, [(2, 0, 21, 0), (0, 0, 0, 0), (1, 3, 0, 0)])], (0, 0, 0), [], [], ([], [(70, [(2, 0, 21, 0), (2, 1, 1, 0)])]), ([], []))
set_option maxRecDepth 100000 in
theorem l_rg3 (g : GG) : LOK Yt (PSt g) t_rg3 := by
  intro ρ α Γ M as hT hB hA hP
  have g0 : Γ (α 0) = 21 := tyAt hA (i := 0) rfl
  have g1 : Γ (α 1) = 1 := tyAt hA (i := 1) rfl
  have g2 : Γ (α 2) = 22 := tyAt hA (i := 2) rfl
  have b3 : -2147483648 ≤ ρ 3 ∧ ρ 3 ≤ 2147483647 := hB 3
  have h0 : (0 : Int) = 0 ∧ ρ 3 + 0 ≤ 121 ∧ Γ (α 0) = 21 ∧ Γ (α 1) = 1 ∧ M.2.2.2.1 (α 0) 1 = some (α 2) ∧ Γ (α 2) = 22 ∧ ∀ j : Nat, (j : Int) < ρ 3 + 0 → isPx (M.2.2.2.2 (α 1) 0) (M.2.2.2.2 (α 1) 1) (M.2.2.2.2 (α 2) j) := hP _ (List.mem_of_getElem? (i := 0) rfl)
  have h1 : 0 ≤ (0 : Int) ∧ M.2.2.2.2 (α 0) (0 : Int).toNat = ρ 3 + 0 := hP _ (List.mem_of_getElem? (i := 1) rfl)
  try simp only [Int.add_zero] at h0 h1
  have key : (Γ (α 0) = 21 ∧ Γ (α 1) = 1 ∧ ∃ a, M.2.2.2.1 (α 0) 1 = some a ∧ Γ a = 22 ∧ ∀ j : Nat, (j : Int) < M.2.2.2.2 (α 0) 0 → isPx (M.2.2.2.2 (α 1) 0) (M.2.2.2.2 (α 1) 1) (M.2.2.2.2 a j)) ∧ True := by
    try simp only [Int.add_zero]
    obtain ⟨-, -, -, -, e1, x2, x3⟩ := h0
    have e : M.2.2.2.2 (α 0) 0 = ρ 3 := h1.2
    exact ⟨⟨g0, g1, α 2, e1, x2, fun j hj => x3 j (by rw [e] at hj; exact hj)⟩, trivial⟩
  exact ⟨nB, qB (key.1) (nB)⟩
def t_rg4 : KT := ((0, 0, 0, 0), [(2, 0, 21, 0), (2, 1, 1, 0), (2, 2, 22, 0), (1, 3, 0, 0), (1, 4, 0, 0), (1, 5, 0, 0)], [(0, 0), (0, 0), (0, 0), (0, 200), (-2147483648, 2147483647), (0, 143)], [(70, [(2, 0, 21, 0), (2, 1, 1, 0)]), (11, [(2, 0, 21, 0), (0, 0, 0, 1), (2, 2, 22, 0)]), (10, [(2, 0, 21, 0), (0, 0, 0, 0), (1, 4, 0, 0)]), (21, [(1, 3, 0, 0), (1, 4, 0, 0)]), (10, [(2, 2, 22, 0), (1, 3, 0, 0), (1, 5, 0, 0)])], (0, 0, 0), [], [], ([], [(2, [(2, 1, 1, 0), (1, 5, 0, 0)])]), ([], []))
set_option maxRecDepth 100000 in
theorem l_rg4 (g : GG) : LOK Yt (PSt g) t_rg4 := by
  intro ρ α Γ M as hT hB hA hP
  have g0 : Γ (α 0) = 21 := tyAt hA (i := 0) rfl
  have g1 : Γ (α 1) = 1 := tyAt hA (i := 1) rfl
  have g2 : Γ (α 2) = 22 := tyAt hA (i := 2) rfl
  have b3 : 0 ≤ ρ 3 ∧ ρ 3 ≤ 200 := hB 3
  have b4 : -2147483648 ≤ ρ 4 ∧ ρ 4 ≤ 2147483647 := hB 4
  have b5 : 0 ≤ ρ 5 ∧ ρ 5 ≤ 143 := hB 5
  have h0 : Γ (α 0) = 21 ∧ Γ (α 1) = 1 ∧ ∃ a, M.2.2.2.1 (α 0) 1 = some a ∧ Γ a = 22 ∧ ∀ j : Nat, (j : Int) < M.2.2.2.2 (α 0) 0 → isPx (M.2.2.2.2 (α 1) 0) (M.2.2.2.2 (α 1) 1) (M.2.2.2.2 a j) := hP _ (List.mem_of_getElem? (i := 0) rfl)
  have h1 : 0 ≤ (1 : Int) ∧ M.2.2.2.1 (α 0) (1 : Int).toNat = some (α 2) := hP _ (List.mem_of_getElem? (i := 1) rfl)
  have h2 : 0 ≤ (0 : Int) ∧ M.2.2.2.2 (α 0) (0 : Int).toNat = ρ 4 + 0 := hP _ (List.mem_of_getElem? (i := 2) rfl)
  have h3 : ρ 3 + 0 < ρ 4 + 0 := hP _ (List.mem_of_getElem? (i := 3) rfl)
  have h4 : 0 ≤ (ρ 3 + 0 : Int) ∧ M.2.2.2.2 (α 2) (ρ 3 + 0 : Int).toNat = ρ 5 + 0 := hP _ (List.mem_of_getElem? (i := 4) rfl)
  try simp only [Int.add_zero] at h0 h1 h2 h3 h4
  have key : (Γ (α 1) = 1 ∧ 0 ≤ ρ 5 + 0 ∧ ρ 5 + 0 < M.2.2.2.2 (α 1) 0 * M.2.2.2.2 (α 1) 1) ∧ True := by
    try simp only [Int.add_zero]
    obtain ⟨-, -, a, x1, x2, x3⟩ := h0
    have e1 : M.2.2.2.1 (α 0) 1 = some (α 2) := h1.2
    rw [e1] at x1
    cases x1
    have e : M.2.2.2.2 (α 0) 0 = ρ 4 := h2.2
    have := x3 (ρ 3).toNat (by omega)
    rw [h4.2] at this
    exact ⟨⟨g1, this⟩, trivial⟩
  exact ⟨nB, qB (key.1) (nB)⟩
def t_of1 : KT := ((0, 0, 0, 0), [(2, 0, 26, 0), (2, 1, 30, 0), (2, 2, 28, 0), (1, 3, 0, 0)], [(0, 0), (0, 0), (0, 0), (-2147483648, 2147483647)], [(51, [(2, 0, 26, 0)]), (11, [(2, 0, 26, 0), (0, 0, 0, 3), (2, 1, 30, 0)]), (11, [(2, 0, 26, 0), (0, 0, 0, 1), (2, 2, 28, 0)]), (10, [(2, 0, 26, 0), (0, 0, 0, 4), (1, 3, 0, 0)])], (0, 0, 0), [], [], ([], [(62, [(2, 1, 30, 0), (1, 3, 0, 0), (2, 0, 26, 0), (2, 2, 28, 0)])]), ([], []))
set_option maxRecDepth 100000 in
theorem l_of1 (g : GG) : LOK Yt (PSt g) t_of1 := by
  intro ρ α Γ M as hT hB hA hP
  have g0 : Γ (α 0) = 26 := tyAt hA (i := 0) rfl
  have g1 : Γ (α 1) = 30 := tyAt hA (i := 1) rfl
  have g2 : Γ (α 2) = 28 := tyAt hA (i := 2) rfl
  have b3 : -2147483648 ≤ ρ 3 ∧ ρ 3 ≤ 2147483647 := hB 3
  have h0 : ∃ w v, frT Γ M (α 0) w v ∧ ∀ j : Nat, (j : Int) < M.2.2.2.2 (α 0) 4 → okW g v M (M.2.2.2.2 w j) := hP _ (List.mem_of_getElem? (i := 0) rfl)
  have h1 : 0 ≤ (3 : Int) ∧ M.2.2.2.1 (α 0) (3 : Int).toNat = some (α 1) := hP _ (List.mem_of_getElem? (i := 1) rfl)
  have h2 : 0 ≤ (1 : Int) ∧ M.2.2.2.1 (α 0) (1 : Int).toNat = some (α 2) := hP _ (List.mem_of_getElem? (i := 2) rfl)
  have h3 : 0 ≤ (4 : Int) ∧ M.2.2.2.2 (α 0) (4 : Int).toNat = ρ 3 + 0 := hP _ (List.mem_of_getElem? (i := 3) rfl)
  try simp only [Int.add_zero] at h0 h1 h2 h3
  have key : (frT Γ M (α 0) (α 1) (α 2) ∧ M.2.2.2.2 (α 0) 4 = ρ 3 + 0 ∧ ∀ j : Nat, (j : Int) < ρ 3 + 0 → okW g (α 2) M (M.2.2.2.2 (α 1) j)) ∧ True := by
    try simp only [Int.add_zero]
    obtain ⟨w, v, ht, x⟩ := h0
    have e1 : M.2.2.2.1 (α 0) 3 = some (α 1) := h1.2
    have e2 : M.2.2.2.1 (α 0) 1 = some (α 2) := h2.2
    have q1 := ht.2.2.2.1
    have q2 := ht.2.2.2.2
    rw [e1] at q1
    rw [e2] at q2
    cases q1
    cases q2
    have e : M.2.2.2.2 (α 0) 4 = ρ 3 := h3.2
    rw [e] at x
    exact ⟨⟨ht, e, x⟩, trivial⟩
  exact ⟨nB, qB (key.1) (nB)⟩
def t_of2 : KT := ((0, 0, 0, 0), [(2, 0, 26, 0), (2, 1, 30, 0), (2, 2, 28, 0), (1, 3, 0, 0), (1, 4, 0, 0)], [(0, 0), (0, 0), (0, 0), (0, 143), (0, 143)], [(62, [(2, 1, 30, 0), (1, 3, 0, 0), (2, 0, 26, 0), (2, 2, 28, 0)]), (10, [(2, 1, 30, 0), (1, 3, 0, 0), (1, 4, 0, 0)]), (52, [(1, 4, 0, 0)])], (0, 0, 0), [], [], ([], [(63, [(2, 0, 26, 0), (0, 0, 0, 4), (2, 1, 30, 0), (2, 2, 28, 0), (1, 3, 0, 1), (1, 4, 0, 0)])]), ([], []))
set_option maxRecDepth 100000 in
theorem l_of2 (g : GG) : LOK Yt (PSt g) t_of2 := by
  intro ρ α Γ M as hT hB hA hP
  have g0 : Γ (α 0) = 26 := tyAt hA (i := 0) rfl
  have g1 : Γ (α 1) = 30 := tyAt hA (i := 1) rfl
  have g2 : Γ (α 2) = 28 := tyAt hA (i := 2) rfl
  have b3 : 0 ≤ ρ 3 ∧ ρ 3 ≤ 143 := hB 3
  have b4 : 0 ≤ ρ 4 ∧ ρ 4 ≤ 143 := hB 4
  have h0 : frT Γ M (α 0) (α 1) (α 2) ∧ M.2.2.2.2 (α 0) 4 = ρ 3 + 0 ∧ ∀ j : Nat, (j : Int) < ρ 3 + 0 → okW g (α 2) M (M.2.2.2.2 (α 1) j) := hP _ (List.mem_of_getElem? (i := 0) rfl)
  have h1 : 0 ≤ (ρ 3 + 0 : Int) ∧ M.2.2.2.2 (α 1) (ρ 3 + 0 : Int).toNat = ρ 4 + 0 := hP _ (List.mem_of_getElem? (i := 1) rfl)
  have h2 : 0 ≤ ρ 4 + 0 ∧ ρ 4 + 0 < (g.1 : Int) := hP _ (List.mem_of_getElem? (i := 2) rfl)
  try simp only [Int.add_zero] at h0 h1 h2
  have key : ((4 : Int) = 4 ∧ ρ 3 + 1 ≤ 144 ∧ frT Γ M (α 0) (α 1) (α 2) ∧ ∀ j : Nat, (j : Int) < ρ 3 + 1 → (0 ≤ M.2.2.2.2 (α 1) j ∧ M.2.2.2.2 (α 1) j < (g.1 : Int)) ∧ (M.2.2.2.2 (α 1) j = ρ 4 + 0 ∨ 0 ≤ M.2.2.2.2 (α 2) (M.2.2.2.2 (α 1) j).toNat)) ∧ True := by
    try simp only [Int.add_zero]
    obtain ⟨ht, e, x⟩ := h0
    refine ⟨⟨by trivial, by omega, ht, fun j hj => ?_⟩, trivial⟩
    by_cases hj2 : (j : Int) < ρ 3
    · exact ⟨(x j hj2).1, Or.inr (x j hj2).2⟩
    · have hq : j = (ρ 3).toNat := by omega
      rw [hq, h1.2]
      exact ⟨h2, Or.inl rfl⟩
  exact ⟨nB, qB (key.1) (nB)⟩
def t_of3 : KT := ((0, 0, 0, 0), [(2, 0, 26, 0), (2, 1, 30, 0), (2, 2, 28, 0), (1, 3, 0, 0), (1, 4, 0, 0)], [(0, 0), (0, 0), (0, 0), (-2147483648, 2147483647), (0, 143)], [(63, [(2, 0, 26, 0), (0, 0, 0, 4), (2, 1, 30, 0), (2, 2, 28, 0), (1, 3, 0, 0), (1, 4, 0, 0)]), (10, [(2, 0, 26, 0), (0, 0, 0, 4), (1, 3, 0, 0)])], (0, 0, 0), [], [], ([], [(64, [(2, 2, 28, 0), (1, 4, 0, 0), (2, 0, 26, 0)])]), ([], []))
set_option maxRecDepth 100000 in
theorem l_of3 (g : GG) : LOK Yt (PSt g) t_of3 := by
  intro ρ α Γ M as hT hB hA hP
  have g0 : Γ (α 0) = 26 := tyAt hA (i := 0) rfl
  have g1 : Γ (α 1) = 30 := tyAt hA (i := 1) rfl
  have g2 : Γ (α 2) = 28 := tyAt hA (i := 2) rfl
  have b3 : -2147483648 ≤ ρ 3 ∧ ρ 3 ≤ 2147483647 := hB 3
  have b4 : 0 ≤ ρ 4 ∧ ρ 4 ≤ 143 := hB 4
  have h0 : (4 : Int) = 4 ∧ ρ 3 + 0 ≤ 144 ∧ frT Γ M (α 0) (α 1) (α 2) ∧ ∀ j : Nat, (j : Int) < ρ 3 + 0 → (0 ≤ M.2.2.2.2 (α 1) j ∧ M.2.2.2.2 (α 1) j < (g.1 : Int)) ∧ (M.2.2.2.2 (α 1) j = ρ 4 + 0 ∨ 0 ≤ M.2.2.2.2 (α 2) (M.2.2.2.2 (α 1) j).toNat) := hP _ (List.mem_of_getElem? (i := 0) rfl)
  have h1 : 0 ≤ (4 : Int) ∧ M.2.2.2.2 (α 0) (4 : Int).toNat = ρ 3 + 0 := hP _ (List.mem_of_getElem? (i := 1) rfl)
  try simp only [Int.add_zero] at h0 h1
  have key : (∃ w, frT Γ M (α 0) (w) (α 2) ∧ ∀ j : Nat, (j : Int) < M.2.2.2.2 (α 0) 4 → (0 ≤ M.2.2.2.2 w j ∧ M.2.2.2.2 w j < (g.1 : Int)) ∧ (M.2.2.2.2 w j = ρ 4 + 0 ∨ 0 ≤ M.2.2.2.2 (α 2) (M.2.2.2.2 w j).toNat)) ∧ True := by
    try simp only [Int.add_zero]
    obtain ⟨-, -, ht, x⟩ := h0
    have e : M.2.2.2.2 (α 0) 4 = ρ 3 := h1.2
    refine ⟨⟨α 1, ht, fun j hj => ?_⟩, trivial⟩
    rw [e] at hj
    exact x j hj
  exact ⟨nB, qB (key.1) (nB)⟩
def t_of5 : KT := ((0, 0, 0, 0), [(2, 0, 26, 0), (2, 1, 28, 0), (1, 2, 0, 0), (1, 3, 0, 0)], [(0, 0), (0, 0), (0, 143), (0, 143)], [(64, [(2, 1, 28, 0), (1, 2, 0, 0), (2, 0, 26, 0)]), (10, [(2, 1, 28, 0), (1, 2, 0, 0), (1, 3, 0, 0)])], (0, 0, 0), [], [], ([], [(51, [(2, 0, 26, 0)])]), ([], []))
set_option maxRecDepth 100000 in
theorem l_of5 (g : GG) : LOK Yt (PSt g) t_of5 := by
  intro ρ α Γ M as hT hB hA hP
  have g0 : Γ (α 0) = 26 := tyAt hA (i := 0) rfl
  have g1 : Γ (α 1) = 28 := tyAt hA (i := 1) rfl
  have b2 : 0 ≤ ρ 2 ∧ ρ 2 ≤ 143 := hB 2
  have b3 : 0 ≤ ρ 3 ∧ ρ 3 ≤ 143 := hB 3
  have h0 : ∃ w, frT Γ M (α 0) (w) (α 1) ∧ ∀ j : Nat, (j : Int) < M.2.2.2.2 (α 0) 4 → (0 ≤ M.2.2.2.2 w j ∧ M.2.2.2.2 w j < (g.1 : Int)) ∧ (M.2.2.2.2 w j = ρ 2 + 0 ∨ 0 ≤ M.2.2.2.2 (α 1) (M.2.2.2.2 w j).toNat) := hP _ (List.mem_of_getElem? (i := 0) rfl)
  have h1 : 0 ≤ (ρ 2 + 0 : Int) ∧ M.2.2.2.2 (α 1) (ρ 2 + 0 : Int).toNat = ρ 3 + 0 := hP _ (List.mem_of_getElem? (i := 1) rfl)
  try simp only [Int.add_zero] at h0 h1
  have key : (∃ w v, frT Γ M (α 0) w v ∧ ∀ j : Nat, (j : Int) < M.2.2.2.2 (α 0) 4 → okW g v M (M.2.2.2.2 w j)) ∧ True := by
    try simp only [Int.add_zero]
    obtain ⟨w, ht, x⟩ := h0
    refine ⟨⟨w, α 1, ht, fun j hj => ?_⟩, trivial⟩
    obtain ⟨x1, x2⟩ := x j hj
    refine ⟨x1, ?_⟩
    rcases x2 with x2 | x2
    · rw [x2, h1.2]
      exact b3.1
    · exact x2
  exact ⟨nB, qB (key.1) (nB)⟩
def t_of6 : KT := ((0, 0, 0, 0), [(2, 0, 26, 0), (2, 1, 28, 0), (1, 2, 0, 0)], [(0, 0), (0, 0), (0, 143)], [(51, [(2, 0, 26, 0)]), (11, [(2, 0, 26, 0), (0, 0, 0, 1), (2, 1, 28, 0)])], (0, 0, 0), [], [], ([], [(64, [(2, 1, 28, 0), (1, 2, 0, 0), (2, 0, 26, 0)])]), ([], []))
set_option maxRecDepth 100000 in
theorem l_of6 (g : GG) : LOK Yt (PSt g) t_of6 := by
  intro ρ α Γ M as hT hB hA hP
  have g0 : Γ (α 0) = 26 := tyAt hA (i := 0) rfl
  have g1 : Γ (α 1) = 28 := tyAt hA (i := 1) rfl
  have b2 : 0 ≤ ρ 2 ∧ ρ 2 ≤ 143 := hB 2
  have h0 : ∃ w v, frT Γ M (α 0) w v ∧ ∀ j : Nat, (j : Int) < M.2.2.2.2 (α 0) 4 → okW g v M (M.2.2.2.2 w j) := hP _ (List.mem_of_getElem? (i := 0) rfl)
  have h1 : 0 ≤ (1 : Int) ∧ M.2.2.2.1 (α 0) (1 : Int).toNat = some (α 1) := hP _ (List.mem_of_getElem? (i := 1) rfl)
  try simp only [Int.add_zero] at h0 h1
  have key : (∃ w, frT Γ M (α 0) (w) (α 1) ∧ ∀ j : Nat, (j : Int) < M.2.2.2.2 (α 0) 4 → (0 ≤ M.2.2.2.2 w j ∧ M.2.2.2.2 w j < (g.1 : Int)) ∧ (M.2.2.2.2 w j = ρ 2 + 0 ∨ 0 ≤ M.2.2.2.2 (α 1) (M.2.2.2.2 w j).toNat)) ∧ True := by
    try simp only [Int.add_zero]
    obtain ⟨w, v, ht, x⟩ := h0
    have e2 : M.2.2.2.1 (α 0) 1 = some (α 1) := h1.2
    have q2 := ht.2.2.2.2
    rw [e2] at q2
    cases q2
    exact ⟨⟨w, ht, fun j hj => ⟨(x j hj).1, Or.inr (x j hj).2⟩⟩, trivial⟩
  exact ⟨nB, qB (key.1) (nB)⟩
def t_p52 : KT := ((0, 0, 0, 0), [(2, 0, 1, 0), (1, 1, 0, 0)], [(0, 0), (0, 143)], [(50, [(2, 0, 1, 0)]), (2, [(2, 0, 1, 0), (1, 1, 0, 0)])], (0, 0, 0), [], [], ([], [(52, [(1, 1, 0, 0)])]), ([], []))
set_option maxRecDepth 100000 in
theorem l_p52 (g : GG) : LOK Yt (PSt g) t_p52 := by
  intro ρ α Γ M as hT hB hA hP
  have g0 : Γ (α 0) = 1 := tyAt hA (i := 0) rfl
  have b1 : 0 ≤ ρ 1 ∧ ρ 1 ≤ 143 := hB 1
  have h0 : Γ (α 0) = 1 ∧ M.2.2.2.2 (α 0) 0 * M.2.2.2.2 (α 0) 1 = (g.1 : Int) := hP _ (List.mem_of_getElem? (i := 0) rfl)
  have h1 : Γ (α 0) = 1 ∧ 0 ≤ ρ 1 + 0 ∧ ρ 1 + 0 < M.2.2.2.2 (α 0) 0 * M.2.2.2.2 (α 0) 1 := hP _ (List.mem_of_getElem? (i := 1) rfl)
  try simp only [Int.add_zero] at h0 h1
  have key : (0 ≤ ρ 1 + 0 ∧ ρ 1 + 0 < (g.1 : Int)) ∧ True := by
    try simp only [Int.add_zero]
    exact ⟨⟨h1.2.1, by rw [← h0.2]; exact h1.2.2⟩, trivial⟩
  exact ⟨nB, qB (key.1) (nB)⟩
def t_p25 : KT := ((0, 0, 0, 0), [(2, 0, 1, 0), (1, 1, 0, 0)], [(0, 0), (0, 143)], [(50, [(2, 0, 1, 0)]), (52, [(1, 1, 0, 0)])], (0, 0, 0), [], [], ([], [(2, [(2, 0, 1, 0), (1, 1, 0, 0)])]), ([], []))
set_option maxRecDepth 100000 in
theorem l_p25 (g : GG) : LOK Yt (PSt g) t_p25 := by
  intro ρ α Γ M as hT hB hA hP
  have g0 : Γ (α 0) = 1 := tyAt hA (i := 0) rfl
  have b1 : 0 ≤ ρ 1 ∧ ρ 1 ≤ 143 := hB 1
  have h0 : Γ (α 0) = 1 ∧ M.2.2.2.2 (α 0) 0 * M.2.2.2.2 (α 0) 1 = (g.1 : Int) := hP _ (List.mem_of_getElem? (i := 0) rfl)
  have h1 : 0 ≤ ρ 1 + 0 ∧ ρ 1 + 0 < (g.1 : Int) := hP _ (List.mem_of_getElem? (i := 1) rfl)
  try simp only [Int.add_zero] at h0 h1
  have key : (Γ (α 0) = 1 ∧ 0 ≤ ρ 1 + 0 ∧ ρ 1 + 0 < M.2.2.2.2 (α 0) 0 * M.2.2.2.2 (α 0) 1) ∧ True := by
    try simp only [Int.add_zero]
    exact ⟨⟨g0, h1.1, by rw [h0.2]; exact h1.2⟩, trivial⟩
  exact ⟨nB, qB (key.1) (nB)⟩
def t_tb0 : KT := ((0, 0, 0, 0), [(2, 0, 26, 0), (1, 1, 0, 0)], [(0, 0), (-1, -1)], [], (0, 0, 0), [], [], ([], [(12, [(2, 0, 26, 0), (1, 1, 0, 0)])]), ([], []))
set_option maxRecDepth 100000 in
theorem l_tb0 (g : GG) : LOK Yt (PSt g) t_tb0 := by
  intro ρ α Γ M as hT hB hA hP
  have g0 : Γ (α 0) = 26 := tyAt hA (i := 0) rfl
  have b1 : -1 ≤ ρ 1 ∧ ρ 1 ≤ -1 := hB 1
  have key : (Γ (α 0) = 26 ∧ (ρ 1 + 0 = -1 ∨ (0 ≤ ρ 1 + 0 ∧ ρ 1 + 0 < M.2.2.2.2 (α 0) 4))) ∧ True := by
    try simp only [Int.add_zero]
    exact ⟨⟨g0, Or.inl (by omega)⟩, trivial⟩
  exact ⟨nB, qB (key.1) (nB)⟩
def t_tb1 : KT := ((0, 0, 0, 0), [(2, 0, 26, 0), (1, 1, 0, 0), (1, 2, 0, 0)], [(0, 0), (0, 200), (-2147483648, 2147483647)], [(21, [(1, 1, 0, 0), (1, 2, 0, 0)]), (10, [(2, 0, 26, 0), (0, 0, 0, 4), (1, 2, 0, 0)])], (0, 0, 0), [], [], ([], [(12, [(2, 0, 26, 0), (1, 1, 0, 0)])]), ([], []))
set_option maxRecDepth 100000 in
theorem l_tb1 (g : GG) : LOK Yt (PSt g) t_tb1 := by
  intro ρ α Γ M as hT hB hA hP
  have g0 : Γ (α 0) = 26 := tyAt hA (i := 0) rfl
  have b1 : 0 ≤ ρ 1 ∧ ρ 1 ≤ 200 := hB 1
  have b2 : -2147483648 ≤ ρ 2 ∧ ρ 2 ≤ 2147483647 := hB 2
  have h0 : ρ 1 + 0 < ρ 2 + 0 := hP _ (List.mem_of_getElem? (i := 0) rfl)
  have h1 : 0 ≤ (4 : Int) ∧ M.2.2.2.2 (α 0) (4 : Int).toNat = ρ 2 + 0 := hP _ (List.mem_of_getElem? (i := 1) rfl)
  try simp only [Int.add_zero] at h0 h1
  have key : (Γ (α 0) = 26 ∧ (ρ 1 + 0 = -1 ∨ (0 ≤ ρ 1 + 0 ∧ ρ 1 + 0 < M.2.2.2.2 (α 0) 4))) ∧ True := by
    try simp only [Int.add_zero]
    have e : M.2.2.2.2 (α 0) 4 = ρ 2 := h1.2
    exact ⟨⟨g0, Or.inr ⟨b1.1, by omega⟩⟩, trivial⟩
  exact ⟨nB, qB (key.1) (nB)⟩
def t_tbn : KT := ((0, 0, 0, 0), [(2, 0, 26, 0), (1, 1, 0, 0)], [(0, 0), (-1, -1)], [], (0, 0, 0), [], [], ([], [(53, [(2, 0, 26, 0), (1, 1, 0, 0)])]), ([], []))
set_option maxRecDepth 100000 in
theorem l_tbn (g : GG) : LOK Yt (PSt g) t_tbn := by
  intro ρ α Γ M as hT hB hA hP
  have g0 : Γ (α 0) = 26 := tyAt hA (i := 0) rfl
  have b1 : -1 ≤ ρ 1 ∧ ρ 1 ≤ -1 := hB 1
  have key : (Γ (α 0) = 26 ∧ (ρ 1 + 0 = -1 ∨ (ρ 1 + 0 < 144 ∧ ∃ v, M.2.2.2.1 (α 0) 1 = some v ∧ Γ v = 28 ∧ okW g v M (ρ 1 + 0)))) ∧ True := by
    try simp only [Int.add_zero]
    exact ⟨⟨g0, Or.inl (by omega)⟩, trivial⟩
  exact ⟨nB, qB (key.1) (nB)⟩
def t_tb2 : KT := ((0, 0, 0, 0), [(2, 0, 26, 0), (2, 1, 30, 0), (1, 2, 0, 0), (1, 3, 0, 0)], [(0, 0), (0, 0), (0, 143), (0, 143)], [(51, [(2, 0, 26, 0)]), (11, [(2, 0, 26, 0), (0, 0, 0, 3), (2, 1, 30, 0)]), (12, [(2, 0, 26, 0), (1, 2, 0, 0)]), (10, [(2, 1, 30, 0), (1, 2, 0, 0), (1, 3, 0, 0)])], (0, 0, 0), [], [], ([], [(53, [(2, 0, 26, 0), (1, 3, 0, 0)])]), ([], []))
set_option maxRecDepth 100000 in
theorem l_tb2 (g : GG) : LOK Yt (PSt g) t_tb2 := by
  intro ρ α Γ M as hT hB hA hP
  have g0 : Γ (α 0) = 26 := tyAt hA (i := 0) rfl
  have g1 : Γ (α 1) = 30 := tyAt hA (i := 1) rfl
  have b2 : 0 ≤ ρ 2 ∧ ρ 2 ≤ 143 := hB 2
  have b3 : 0 ≤ ρ 3 ∧ ρ 3 ≤ 143 := hB 3
  have h0 : ∃ w v, frT Γ M (α 0) w v ∧ ∀ j : Nat, (j : Int) < M.2.2.2.2 (α 0) 4 → okW g v M (M.2.2.2.2 w j) := hP _ (List.mem_of_getElem? (i := 0) rfl)
  have h1 : 0 ≤ (3 : Int) ∧ M.2.2.2.1 (α 0) (3 : Int).toNat = some (α 1) := hP _ (List.mem_of_getElem? (i := 1) rfl)
  have h2 : Γ (α 0) = 26 ∧ (ρ 2 + 0 = -1 ∨ (0 ≤ ρ 2 + 0 ∧ ρ 2 + 0 < M.2.2.2.2 (α 0) 4)) := hP _ (List.mem_of_getElem? (i := 2) rfl)
  have h3 : 0 ≤ (ρ 2 + 0 : Int) ∧ M.2.2.2.2 (α 1) (ρ 2 + 0 : Int).toNat = ρ 3 + 0 := hP _ (List.mem_of_getElem? (i := 3) rfl)
  try simp only [Int.add_zero] at h0 h1 h2 h3
  have key : (Γ (α 0) = 26 ∧ (ρ 3 + 0 = -1 ∨ (ρ 3 + 0 < 144 ∧ ∃ v, M.2.2.2.1 (α 0) 1 = some v ∧ Γ v = 28 ∧ okW g v M (ρ 3 + 0)))) ∧ True := by
    try simp only [Int.add_zero]
    obtain ⟨w, v, ht, x⟩ := h0
    have e1 : M.2.2.2.1 (α 0) 3 = some (α 1) := h1.2
    have q1 := ht.2.2.2.1
    rw [e1] at q1
    cases q1
    
    have h2 := h2.2
    have := x (ρ 2).toNat (by omega)
    rw [h3.2] at this
    exact ⟨⟨g0, Or.inr ⟨by omega, v, ht.2.2.2.2, ht.2.2.1, this⟩⟩, trivial⟩
  exact ⟨nB, qB (key.1) (nB)⟩
def t_tb3 : KT := ((0, 0, 0, 0), [(2, 0, 26, 0), (2, 1, 30, 0), (1, 2, 0, 0), (1, 3, 0, 0)], [(0, 0), (0, 0), (1, 144), (0, 143)], [(51, [(2, 0, 26, 0)]), (11, [(2, 0, 26, 0), (0, 0, 0, 3), (2, 1, 30, 0)]), (10, [(2, 0, 26, 0), (0, 0, 0, 4), (1, 2, 0, 0)]), (53, [(2, 0, 26, 0), (1, 3, 0, 0)])], (0, 0, 0), [], [], ([], [(87, [(2, 0, 26, 0), (0, 0, 0, 4), (2, 1, 30, 0), (1, 2, 0, 0)])]), ([], []))
set_option maxRecDepth 100000 in
theorem l_tb3 (g : GG) : LOK Yt (PSt g) t_tb3 := by
  intro ρ α Γ M as hT hB hA hP
  have g0 : Γ (α 0) = 26 := tyAt hA (i := 0) rfl
  have g1 : Γ (α 1) = 30 := tyAt hA (i := 1) rfl
  have b2 : 1 ≤ ρ 2 ∧ ρ 2 ≤ 144 := hB 2
  have b3 : 0 ≤ ρ 3 ∧ ρ 3 ≤ 143 := hB 3
  have h0 : ∃ w v, frT Γ M (α 0) w v ∧ ∀ j : Nat, (j : Int) < M.2.2.2.2 (α 0) 4 → okW g v M (M.2.2.2.2 w j) := hP _ (List.mem_of_getElem? (i := 0) rfl)
  have h1 : 0 ≤ (3 : Int) ∧ M.2.2.2.1 (α 0) (3 : Int).toNat = some (α 1) := hP _ (List.mem_of_getElem? (i := 1) rfl)
  have h2 : 0 ≤ (4 : Int) ∧ M.2.2.2.2 (α 0) (4 : Int).toNat = ρ 2 + 0 := hP _ (List.mem_of_getElem? (i := 2) rfl)
  have h3 : Γ (α 0) = 26 ∧ (ρ 3 + 0 = -1 ∨ (ρ 3 + 0 < 144 ∧ ∃ v, M.2.2.2.1 (α 0) 1 = some v ∧ Γ v = 28 ∧ okW g v M (ρ 3 + 0))) := hP _ (List.mem_of_getElem? (i := 3) rfl)
  try simp only [Int.add_zero] at h0 h1 h2 h3
  have key : ((4 : Int) = 4 ∧ ρ 2 + 0 ≤ 144 ∧ ∃ v, frT Γ M (α 0) (α 1) v ∧ ∀ j : Nat, (j : Int) < ρ 2 + 0 → okW g v M (M.2.2.2.2 (α 1) j)) ∧ True := by
    try simp only [Int.add_zero]
    obtain ⟨w, v, ht, x⟩ := h0
    have e1 : M.2.2.2.1 (α 0) 3 = some (α 1) := h1.2
    have q1 := ht.2.2.2.1
    rw [e1] at q1
    cases q1
    
    have e : M.2.2.2.2 (α 0) 4 = ρ 2 := h2.2
    exact ⟨⟨by trivial, b2.2, v, ht, fun j hj => x j (by rw [e]; exact hj)⟩, trivial⟩
  exact ⟨nB, qB (key.1) (nB)⟩
def t_tbc : KT := ((0, 0, 0, 0), [(2, 0, 26, 0), (1, 1, 0, 0), (1, 2, 0, 0)], [(0, 0), (0, 143), (0, 144)], [(12, [(2, 0, 26, 0), (1, 1, 0, 0)]), (10, [(2, 0, 26, 0), (0, 0, 0, 4), (1, 2, 0, 0)])], (0, 0, 0), [], [], ([(2, 1, 144)], []), ([], []))
set_option maxRecDepth 100000 in
theorem l_tbc (g : GG) : LOK Yt (PSt g) t_tbc := by
  intro ρ α Γ M as hT hB hA hP
  have g0 : Γ (α 0) = 26 := tyAt hA (i := 0) rfl
  have b1 : 0 ≤ ρ 1 ∧ ρ 1 ≤ 143 := hB 1
  have b2 : 0 ≤ ρ 2 ∧ ρ 2 ≤ 144 := hB 2
  have h0 : Γ (α 0) = 26 ∧ (ρ 1 + 0 = -1 ∨ (0 ≤ ρ 1 + 0 ∧ ρ 1 + 0 < M.2.2.2.2 (α 0) 4)) := hP _ (List.mem_of_getElem? (i := 0) rfl)
  have h1 : 0 ≤ (4 : Int) ∧ M.2.2.2.2 (α 0) (4 : Int).toNat = ρ 2 + 0 := hP _ (List.mem_of_getElem? (i := 1) rfl)
  try simp only [Int.add_zero] at h0 h1
  have key : (1 ≤ ρ 2 ∧ ρ 2 ≤ 144) ∧ True := by
    try simp only [Int.add_zero]
    have e : M.2.2.2.2 (α 0) 4 = ρ 2 := h1.2
    rcases h0.2 with h | h
    · omega
    · exact ⟨⟨by omega, b2.2⟩, trivial⟩
  exact ⟨qB (key.1) (nB), nB⟩
def t_tb4 : KT := ((0, 0, 0, 0), [(2, 0, 26, 0), (2, 1, 30, 0), (1, 2, 0, 0), (1, 3, 0, 0), (1, 4, 0, 0)], [(0, 0), (0, 0), (0, 143), (0, 143), (0, 143)], [(87, [(2, 0, 26, 0), (0, 0, 0, 4), (2, 1, 30, 0), (1, 2, 0, 1)]), (10, [(2, 0, 26, 0), (0, 0, 0, 4), (1, 2, 0, 0)]), (10, [(2, 1, 30, 0), (1, 2, 0, 0), (1, 4, 0, 0)])], (0, 0, 0), [], [], ([], [(66, [(2, 1, 30, 0), (1, 3, 0, 0), (2, 0, 26, 0)]), (53, [(2, 0, 26, 0), (1, 4, 0, 0)])]), ([], []))
set_option maxRecDepth 100000 in
theorem l_tb4 (g : GG) : LOK Yt (PSt g) t_tb4 := by
  intro ρ α Γ M as hT hB hA hP
  have g0 : Γ (α 0) = 26 := tyAt hA (i := 0) rfl
  have g1 : Γ (α 1) = 30 := tyAt hA (i := 1) rfl
  have b2 : 0 ≤ ρ 2 ∧ ρ 2 ≤ 143 := hB 2
  have b3 : 0 ≤ ρ 3 ∧ ρ 3 ≤ 143 := hB 3
  have b4 : 0 ≤ ρ 4 ∧ ρ 4 ≤ 143 := hB 4
  have h0 : (4 : Int) = 4 ∧ ρ 2 + 1 ≤ 144 ∧ ∃ v, frT Γ M (α 0) (α 1) v ∧ ∀ j : Nat, (j : Int) < ρ 2 + 1 → okW g v M (M.2.2.2.2 (α 1) j) := hP _ (List.mem_of_getElem? (i := 0) rfl)
  have h1 : 0 ≤ (4 : Int) ∧ M.2.2.2.2 (α 0) (4 : Int).toNat = ρ 2 + 0 := hP _ (List.mem_of_getElem? (i := 1) rfl)
  have h2 : 0 ≤ (ρ 2 + 0 : Int) ∧ M.2.2.2.2 (α 1) (ρ 2 + 0 : Int).toNat = ρ 4 + 0 := hP _ (List.mem_of_getElem? (i := 2) rfl)
  try simp only [Int.add_zero] at h0 h1 h2
  have key : (∃ v, frT Γ M (α 0) (α 1) (v) ∧ ∀ j : Nat, (j : Int) < M.2.2.2.2 (α 0) 4 → (j : Int) ≠ ρ 3 + 0 → okW g v M (M.2.2.2.2 (α 1) j)) ∧ (Γ (α 0) = 26 ∧ (ρ 4 + 0 = -1 ∨ (ρ 4 + 0 < 144 ∧ ∃ v, M.2.2.2.1 (α 0) 1 = some v ∧ Γ v = 28 ∧ okW g v M (ρ 4 + 0)))) ∧ True := by
    try simp only [Int.add_zero]
    obtain ⟨-, -, v, ht, x⟩ := h0
    have e : M.2.2.2.2 (α 0) 4 = ρ 2 := h1.2
    refine ⟨⟨v, ht, fun j hj _ => x j (by rw [e] at hj; omega)⟩, ⟨g0, Or.inr ⟨by omega, v, ht.2.2.2.2, ht.2.2.1, ?_⟩⟩, trivial⟩
    have := x (ρ 2).toNat (by omega)
    rw [h2.2] at this
    exact this
  exact ⟨nB, qB (key.1) (qB (key.2.1) (nB))⟩
def t_tb5 : KT := ((0, 0, 0, 0), [(2, 0, 26, 0), (2, 1, 30, 0), (1, 2, 0, 0), (1, 3, 0, 0)], [(0, 0), (0, 0), (0, 143), (0, 143)], [(66, [(2, 1, 30, 0), (1, 2, 0, 0), (2, 0, 26, 0)]), (10, [(2, 1, 30, 0), (1, 2, 0, 0), (1, 3, 0, 0)]), (53, [(2, 0, 26, 0), (1, 3, 0, 0)])], (0, 0, 0), [], [], ([], [(51, [(2, 0, 26, 0)])]), ([], []))
set_option maxRecDepth 100000 in
theorem l_tb5 (g : GG) : LOK Yt (PSt g) t_tb5 := by
  intro ρ α Γ M as hT hB hA hP
  have g0 : Γ (α 0) = 26 := tyAt hA (i := 0) rfl
  have g1 : Γ (α 1) = 30 := tyAt hA (i := 1) rfl
  have b2 : 0 ≤ ρ 2 ∧ ρ 2 ≤ 143 := hB 2
  have b3 : 0 ≤ ρ 3 ∧ ρ 3 ≤ 143 := hB 3
  have h0 : ∃ v, frT Γ M (α 0) (α 1) (v) ∧ ∀ j : Nat, (j : Int) < M.2.2.2.2 (α 0) 4 → (j : Int) ≠ ρ 2 + 0 → okW g v M (M.2.2.2.2 (α 1) j) := hP _ (List.mem_of_getElem? (i := 0) rfl)
  have h1 : 0 ≤ (ρ 2 + 0 : Int) ∧ M.2.2.2.2 (α 1) (ρ 2 + 0 : Int).toNat = ρ 3 + 0 := hP _ (List.mem_of_getElem? (i := 1) rfl)
  have h2 : Γ (α 0) = 26 ∧ (ρ 3 + 0 = -1 ∨ (ρ 3 + 0 < 144 ∧ ∃ v, M.2.2.2.1 (α 0) 1 = some v ∧ Γ v = 28 ∧ okW g v M (ρ 3 + 0))) := hP _ (List.mem_of_getElem? (i := 2) rfl)
  try simp only [Int.add_zero] at h0 h1 h2
  have key : (∃ w v, frT Γ M (α 0) w v ∧ ∀ j : Nat, (j : Int) < M.2.2.2.2 (α 0) 4 → okW g v M (M.2.2.2.2 w j)) ∧ True := by
    try simp only [Int.add_zero]
    obtain ⟨v, ht, x⟩ := h0
    refine ⟨⟨α 1, v, ht, fun j hj => ?_⟩, trivial⟩
    by_cases hq : (j : Int) = ρ 2
    · have hq2 : j = (ρ 2).toNat := by omega
      rw [hq2, h1.2]
      rcases h2.2 with h | ⟨-, v2, h3, -, h4⟩
      · omega
      · have := ht.2.2.2.2
        rw [this] at h3
        cases h3
        exact h4
    · exact x j hj hq
  exact ⟨nB, qB (key.1) (nB)⟩
def t_ga0 : KT := ((0, 0, 0, 0), [(2, 0, 26, 0), (1, 1, 0, 0)], [(0, 0), (0, 0)], [(10, [(2, 0, 26, 0), (0, 0, 0, 4), (1, 1, 0, 0)])], (0, 0, 0), [], [], ([], [(51, [(2, 0, 26, 0)])]), ([], []))
set_option maxRecDepth 100000 in
theorem l_ga0 (g : GG) : LOK Yt (PSt g) t_ga0 := by
  intro ρ α Γ M as hT hB hA hP
  have g0 : Γ (α 0) = 26 := tyAt hA (i := 0) rfl
  have b1 : 0 ≤ ρ 1 ∧ ρ 1 ≤ 0 := hB 1
  have h0 : 0 ≤ (4 : Int) ∧ M.2.2.2.2 (α 0) (4 : Int).toNat = ρ 1 + 0 := hP _ (List.mem_of_getElem? (i := 0) rfl)
  try simp only [Int.add_zero] at h0
  have key : (∃ w v, frT Γ M (α 0) w v ∧ ∀ j : Nat, (j : Int) < M.2.2.2.2 (α 0) 4 → okW g v M (M.2.2.2.2 w j)) ∧ True := by
    try simp only [Int.add_zero]
    obtain ⟨w, w1, w2⟩ := tyR hT g0 (by decide) (j := 3) (τ2 := 30) (by decide)
    obtain ⟨v, v1, v2⟩ := tyR hT g0 (by decide) (j := 1) (τ2 := 28) (by decide)
    have e : M.2.2.2.2 (α 0) 4 = ρ 1 := h0.2
    exact ⟨⟨w, v, ⟨g0, w2, v2, w1, v1⟩, fun j hj => by omega⟩, trivial⟩
  exact ⟨nB, qB (key.1) (nB)⟩
def t_w50 : KT := ((0, 0, 0, 0), [(2, 0, 38, 0), (2, 1, 1, 0)], [(0, 0), (0, 0)], [(55, [(2, 0, 38, 0)]), (11, [(2, 0, 38, 0), (0, 0, 0, 0), (2, 1, 1, 0)])], (0, 0, 0), [], [], ([], [(50, [(2, 1, 1, 0)])]), ([], []))
set_option maxRecDepth 100000 in
theorem l_w50 (g : GG) : LOK Yt (PSt g) t_w50 := by
  intro ρ α Γ M as hT hB hA hP
  have g0 : Γ (α 0) = 38 := tyAt hA (i := 0) rfl
  have g1 : Γ (α 1) = 1 := tyAt hA (i := 1) rfl
  have h0 : Γ (α 0) = 38 ∧ ∃ c, M.2.2.2.1 (α 0) 0 = some c ∧ Γ c = 1 ∧ M.2.2.2.2 c 0 * M.2.2.2.2 c 1 = (g.1 : Int) := hP _ (List.mem_of_getElem? (i := 0) rfl)
  have h1 : 0 ≤ (0 : Int) ∧ M.2.2.2.1 (α 0) (0 : Int).toNat = some (α 1) := hP _ (List.mem_of_getElem? (i := 1) rfl)
  try simp only [Int.add_zero] at h0 h1
  have key : (Γ (α 1) = 1 ∧ M.2.2.2.2 (α 1) 0 * M.2.2.2.2 (α 1) 1 = (g.1 : Int)) ∧ True := by
    try simp only [Int.add_zero]
    obtain ⟨-, c, h2, h3, h4⟩ := h0
    have e : M.2.2.2.1 (α 0) 0 = some (α 1) := h1.2
    rw [e] at h2
    cases h2
    exact ⟨⟨h3, h4⟩, trivial⟩
  exact ⟨nB, qB (key.1) (nB)⟩
def t_ad0 : KT := ((0, 0, 0, 0), [(2, 0, 26, 0), (2, 1, 28, 0), (1, 2, 0, 0), (1, 3, 0, 0)], [(0, 0), (0, 0), (0, 143), (-2147483648, 2147483647)], [(53, [(2, 0, 26, 0), (1, 2, 0, 0)]), (11, [(2, 0, 26, 0), (0, 0, 0, 1), (2, 1, 28, 0)]), (10, [(2, 1, 28, 0), (1, 2, 0, 0), (1, 3, 0, 0)])], (0, 0, 0), [], [], ([(3, 0, 2147483647)], [(52, [(1, 2, 0, 0)])]), ([], []))
set_option maxRecDepth 100000 in
theorem l_ad0 (g : GG) : LOK Yt (PSt g) t_ad0 := by
  intro ρ α Γ M as hT hB hA hP
  have g0 : Γ (α 0) = 26 := tyAt hA (i := 0) rfl
  have g1 : Γ (α 1) = 28 := tyAt hA (i := 1) rfl
  have b2 : 0 ≤ ρ 2 ∧ ρ 2 ≤ 143 := hB 2
  have b3 : -2147483648 ≤ ρ 3 ∧ ρ 3 ≤ 2147483647 := hB 3
  have h0 : Γ (α 0) = 26 ∧ (ρ 2 + 0 = -1 ∨ (ρ 2 + 0 < 144 ∧ ∃ v, M.2.2.2.1 (α 0) 1 = some v ∧ Γ v = 28 ∧ okW g v M (ρ 2 + 0))) := hP _ (List.mem_of_getElem? (i := 0) rfl)
  have h1 : 0 ≤ (1 : Int) ∧ M.2.2.2.1 (α 0) (1 : Int).toNat = some (α 1) := hP _ (List.mem_of_getElem? (i := 1) rfl)
  have h2 : 0 ≤ (ρ 2 + 0 : Int) ∧ M.2.2.2.2 (α 1) (ρ 2 + 0 : Int).toNat = ρ 3 + 0 := hP _ (List.mem_of_getElem? (i := 2) rfl)
  try simp only [Int.add_zero] at h0 h1 h2
  have key : (0 ≤ ρ 3 ∧ ρ 3 ≤ 2147483647) ∧ (0 ≤ ρ 2 + 0 ∧ ρ 2 + 0 < (g.1 : Int)) ∧ True := by
    try simp only [Int.add_zero]
    rcases h0.2 with h | ⟨-, v, h3, -, h4⟩
    · omega
    · have e : M.2.2.2.1 (α 0) 1 = some (α 1) := h1.2
      rw [e] at h3
      cases h3
      have := h4.2
      rw [h2.2] at this
      exact ⟨⟨this, b3.2⟩, h4.1, trivial⟩
  exact ⟨qB (key.1) (nB), qB (key.2.1) (nB)⟩
def t_bl0 : KT := ((0, 0, 0, 0), [(2, 0, 1, 0), (1, 1, 0, 0)], [(0, 0), (-1, -1)], [], (0, 0, 0), [], [], ([], [(15, [(2, 0, 1, 0), (1, 1, 0, 0)])]), ([], []))
set_option maxRecDepth 100000 in
theorem l_bl0 (g : GG) : LOK Yt (PSt g) t_bl0 := by
  intro ρ α Γ M as hT hB hA hP
  have g0 : Γ (α 0) = 1 := tyAt hA (i := 0) rfl
  have b1 : -1 ≤ ρ 1 ∧ ρ 1 ≤ -1 := hB 1
  have key : (Γ (α 0) = 1 ∧ (ρ 1 + 0 = -1 ∨ isPx (M.2.2.2.2 (α 0) 0) (M.2.2.2.2 (α 0) 1) (ρ 1 + 0))) ∧ True := by
    try simp only [Int.add_zero]
    exact ⟨⟨g0, Or.inl (by omega)⟩, trivial⟩
  exact ⟨nB, qB (key.1) (nB)⟩
def t_bl1 : KT := ((0, 0, 0, 0), [(2, 0, 1, 0), (1, 1, 0, 0)], [(0, 0), (0, 143)], [(2, [(2, 0, 1, 0), (1, 1, 0, 0)])], (0, 0, 0), [], [], ([], [(15, [(2, 0, 1, 0), (1, 1, 0, 0)])]), ([], []))
set_option maxRecDepth 100000 in
theorem l_bl1 (g : GG) : LOK Yt (PSt g) t_bl1 := by
  intro ρ α Γ M as hT hB hA hP
  have g0 : Γ (α 0) = 1 := tyAt hA (i := 0) rfl
  have b1 : 0 ≤ ρ 1 ∧ ρ 1 ≤ 143 := hB 1
  have h0 : Γ (α 0) = 1 ∧ 0 ≤ ρ 1 + 0 ∧ ρ 1 + 0 < M.2.2.2.2 (α 0) 0 * M.2.2.2.2 (α 0) 1 := hP _ (List.mem_of_getElem? (i := 0) rfl)
  try simp only [Int.add_zero] at h0
  have key : (Γ (α 0) = 1 ∧ (ρ 1 + 0 = -1 ∨ isPx (M.2.2.2.2 (α 0) 0) (M.2.2.2.2 (α 0) 1) (ρ 1 + 0))) ∧ True := by
    try simp only [Int.add_zero]
    exact ⟨⟨g0, Or.inr h0.2⟩, trivial⟩
  exact ⟨nB, qB (key.1) (nB)⟩
def t_ar1 : KT := ((0, 0, 0, 0), [(2, 0, 35, 0), (2, 1, 37, 0), (1, 2, 0, 0)], [(0, 0), (0, 0), (-2147483648, 2147483647)], [(54, [(2, 0, 35, 0)]), (11, [(2, 0, 35, 0), (0, 0, 0, 4), (2, 1, 37, 0)]), (10, [(2, 0, 35, 0), (0, 0, 0, 5), (1, 2, 0, 0)])], (0, 0, 0), [], [], ([], [(65, [(2, 1, 37, 0), (1, 2, 0, 0), (2, 0, 35, 0)])]), ([], []))
set_option maxRecDepth 100000 in
theorem l_ar1 (g : GG) : LOK Yt (PSt g) t_ar1 := by
  intro ρ α Γ M as hT hB hA hP
  have g0 : Γ (α 0) = 35 := tyAt hA (i := 0) rfl
  have g1 : Γ (α 1) = 37 := tyAt hA (i := 1) rfl
  have b2 : -2147483648 ≤ ρ 2 ∧ ρ 2 ≤ 2147483647 := hB 2
  have h0 : Γ (α 0) = 35 ∧ ∃ s, M.2.2.2.1 (α 0) 4 = some s ∧ Γ s = 37 ∧ ∀ j : Nat, (j : Int) < M.2.2.2.2 (α 0) 5 → 0 ≤ M.2.2.2.2 s j ∧ M.2.2.2.2 s j < (g.1 : Int) := hP _ (List.mem_of_getElem? (i := 0) rfl)
  have h1 : 0 ≤ (4 : Int) ∧ M.2.2.2.1 (α 0) (4 : Int).toNat = some (α 1) := hP _ (List.mem_of_getElem? (i := 1) rfl)
  have h2 : 0 ≤ (5 : Int) ∧ M.2.2.2.2 (α 0) (5 : Int).toNat = ρ 2 + 0 := hP _ (List.mem_of_getElem? (i := 2) rfl)
  try simp only [Int.add_zero] at h0 h1 h2
  have key : (Γ (α 0) = 35 ∧ M.2.2.2.1 (α 0) 4 = some (α 1) ∧ Γ (α 1) = 37 ∧ M.2.2.2.2 (α 0) 5 = ρ 2 + 0 ∧ ∀ j : Nat, (j : Int) < ρ 2 + 0 → 0 ≤ M.2.2.2.2 (α 1) j ∧ M.2.2.2.2 (α 1) j < (g.1 : Int)) ∧ True := by
    try simp only [Int.add_zero]
    obtain ⟨-, s, x1, x2, x3⟩ := h0
    have e1 : M.2.2.2.1 (α 0) 4 = some (α 1) := h1.2
    rw [e1] at x1
    cases x1
    have e : M.2.2.2.2 (α 0) 5 = ρ 2 := h2.2
    rw [e] at x3
    exact ⟨⟨g0, e1, x2, e, x3⟩, trivial⟩
  exact ⟨nB, qB (key.1) (nB)⟩
def t_ar2 : KT := ((0, 0, 0, 0), [(2, 0, 35, 0), (2, 1, 37, 0), (1, 2, 0, 0), (1, 3, 0, 0)], [(0, 0), (0, 0), (0, 143), (0, 143)], [(65, [(2, 1, 37, 0), (1, 2, 0, 0), (2, 0, 35, 0)]), (10, [(2, 1, 37, 0), (1, 2, 0, 0), (1, 3, 0, 0)]), (52, [(1, 3, 0, 0)])], (0, 0, 0), [], [], ([], [(86, [(2, 0, 35, 0), (0, 0, 0, 5), (2, 1, 37, 0), (1, 2, 0, 1)])]), ([], []))
set_option maxRecDepth 100000 in
theorem l_ar2 (g : GG) : LOK Yt (PSt g) t_ar2 := by
  intro ρ α Γ M as hT hB hA hP
  have g0 : Γ (α 0) = 35 := tyAt hA (i := 0) rfl
  have g1 : Γ (α 1) = 37 := tyAt hA (i := 1) rfl
  have b2 : 0 ≤ ρ 2 ∧ ρ 2 ≤ 143 := hB 2
  have b3 : 0 ≤ ρ 3 ∧ ρ 3 ≤ 143 := hB 3
  have h0 : Γ (α 0) = 35 ∧ M.2.2.2.1 (α 0) 4 = some (α 1) ∧ Γ (α 1) = 37 ∧ M.2.2.2.2 (α 0) 5 = ρ 2 + 0 ∧ ∀ j : Nat, (j : Int) < ρ 2 + 0 → 0 ≤ M.2.2.2.2 (α 1) j ∧ M.2.2.2.2 (α 1) j < (g.1 : Int) := hP _ (List.mem_of_getElem? (i := 0) rfl)
  have h1 : 0 ≤ (ρ 2 + 0 : Int) ∧ M.2.2.2.2 (α 1) (ρ 2 + 0 : Int).toNat = ρ 3 + 0 := hP _ (List.mem_of_getElem? (i := 1) rfl)
  have h2 : 0 ≤ ρ 3 + 0 ∧ ρ 3 + 0 < (g.1 : Int) := hP _ (List.mem_of_getElem? (i := 2) rfl)
  try simp only [Int.add_zero] at h0 h1 h2
  have key : ((5 : Int) = 5 ∧ ρ 2 + 1 ≤ 144 ∧ Γ (α 0) = 35 ∧ M.2.2.2.1 (α 0) 4 = some (α 1) ∧ Γ (α 1) = 37 ∧ ∀ j : Nat, (j : Int) < ρ 2 + 1 → 0 ≤ M.2.2.2.2 (α 1) j ∧ M.2.2.2.2 (α 1) j < (g.1 : Int)) ∧ True := by
    try simp only [Int.add_zero]
    obtain ⟨-, e1, x2, e, x3⟩ := h0
    refine ⟨⟨by trivial, by omega, g0, e1, x2, fun j hj => ?_⟩, trivial⟩
    by_cases hj2 : (j : Int) < ρ 2
    · exact x3 j hj2
    · have hq : j = (ρ 2).toNat := by omega
      rw [hq, h1.2]
      exact h2
  exact ⟨nB, qB (key.1) (nB)⟩
def t_ar3 : KT := ((0, 0, 0, 0), [(2, 0, 35, 0), (2, 1, 37, 0), (1, 2, 0, 0)], [(0, 0), (0, 0), (-2147483648, 2147483647)], [(86, [(2, 0, 35, 0), (0, 0, 0, 5), (2, 1, 37, 0), (1, 2, 0, 0)]), (10, [(2, 0, 35, 0), (0, 0, 0, 5), (1, 2, 0, 0)])], (0, 0, 0), [], [], ([], [(54, [(2, 0, 35, 0)])]), ([], []))
set_option maxRecDepth 100000 in
theorem l_ar3 (g : GG) : LOK Yt (PSt g) t_ar3 := by
  intro ρ α Γ M as hT hB hA hP
  have g0 : Γ (α 0) = 35 := tyAt hA (i := 0) rfl
  have g1 : Γ (α 1) = 37 := tyAt hA (i := 1) rfl
  have b2 : -2147483648 ≤ ρ 2 ∧ ρ 2 ≤ 2147483647 := hB 2
  have h0 : (5 : Int) = 5 ∧ ρ 2 + 0 ≤ 144 ∧ Γ (α 0) = 35 ∧ M.2.2.2.1 (α 0) 4 = some (α 1) ∧ Γ (α 1) = 37 ∧ ∀ j : Nat, (j : Int) < ρ 2 + 0 → 0 ≤ M.2.2.2.2 (α 1) j ∧ M.2.2.2.2 (α 1) j < (g.1 : Int) := hP _ (List.mem_of_getElem? (i := 0) rfl)
  have h1 : 0 ≤ (5 : Int) ∧ M.2.2.2.2 (α 0) (5 : Int).toNat = ρ 2 + 0 := hP _ (List.mem_of_getElem? (i := 1) rfl)
  try simp only [Int.add_zero] at h0 h1
  have key : (Γ (α 0) = 35 ∧ ∃ s, M.2.2.2.1 (α 0) 4 = some s ∧ Γ s = 37 ∧ ∀ j : Nat, (j : Int) < M.2.2.2.2 (α 0) 5 → 0 ≤ M.2.2.2.2 s j ∧ M.2.2.2.2 s j < (g.1 : Int)) ∧ True := by
    try simp only [Int.add_zero]
    obtain ⟨-, -, -, e1, x2, x3⟩ := h0
    have e : M.2.2.2.2 (α 0) 5 = ρ 2 := h1.2
    exact ⟨⟨g0, α 1, e1, x2, fun j hj => x3 j (by rw [e] at hj; exact hj)⟩, trivial⟩
  exact ⟨nB, qB (key.1) (nB)⟩
def t_ar0 : KT := ((0, 0, 0, 0), [(2, 0, 35, 0), (1, 1, 0, 0)], [(0, 0), (0, 0)], [(10, [(2, 0, 35, 0), (0, 0, 0, 5), (1, 1, 0, 0)])], (0, 0, 0), [], [], ([], [(54, [(2, 0, 35, 0)])]), ([], []))
set_option maxRecDepth 100000 in
theorem l_ar0 (g : GG) : LOK Yt (PSt g) t_ar0 := by
  intro ρ α Γ M as hT hB hA hP
  have g0 : Γ (α 0) = 35 := tyAt hA (i := 0) rfl
  have b1 : 0 ≤ ρ 1 ∧ ρ 1 ≤ 0 := hB 1
  have h0 : 0 ≤ (5 : Int) ∧ M.2.2.2.2 (α 0) (5 : Int).toNat = ρ 1 + 0 := hP _ (List.mem_of_getElem? (i := 0) rfl)
  try simp only [Int.add_zero] at h0
  have key : (Γ (α 0) = 35 ∧ ∃ s, M.2.2.2.1 (α 0) 4 = some s ∧ Γ s = 37 ∧ ∀ j : Nat, (j : Int) < M.2.2.2.2 (α 0) 5 → 0 ≤ M.2.2.2.2 s j ∧ M.2.2.2.2 s j < (g.1 : Int)) ∧ True := by
    try simp only [Int.add_zero]
    obtain ⟨s, s1, s2⟩ := tyR hT g0 (by decide) (j := 4) (τ2 := 37) (by decide)
    have e : M.2.2.2.2 (α 0) 5 = ρ 1 := h0.2
    exact ⟨⟨g0, s, s1, s2, fun j hj => by omega⟩, trivial⟩
  exact ⟨nB, qB (key.1) (nB)⟩
def t_ar4 : KT := ((0, 0, 0, 0), [(2, 0, 35, 0), (1, 1, 0, 0)], [(0, 0), (1, 144)], [(54, [(2, 0, 35, 0)]), (10, [(2, 0, 35, 0), (0, 0, 0, 5), (1, 1, 0, 0)])], (0, 0, 0), [], [], ([], [(88, [(2, 0, 35, 0), (0, 0, 0, 5), (1, 1, 0, 0)])]), ([], []))
set_option maxRecDepth 100000 in
theorem l_ar4 (g : GG) : LOK Yt (PSt g) t_ar4 := by
  intro ρ α Γ M as hT hB hA hP
  have g0 : Γ (α 0) = 35 := tyAt hA (i := 0) rfl
  have b1 : 1 ≤ ρ 1 ∧ ρ 1 ≤ 144 := hB 1
  have h0 : Γ (α 0) = 35 ∧ ∃ s, M.2.2.2.1 (α 0) 4 = some s ∧ Γ s = 37 ∧ ∀ j : Nat, (j : Int) < M.2.2.2.2 (α 0) 5 → 0 ≤ M.2.2.2.2 s j ∧ M.2.2.2.2 s j < (g.1 : Int) := hP _ (List.mem_of_getElem? (i := 0) rfl)
  have h1 : 0 ≤ (5 : Int) ∧ M.2.2.2.2 (α 0) (5 : Int).toNat = ρ 1 + 0 := hP _ (List.mem_of_getElem? (i := 1) rfl)
  try simp only [Int.add_zero] at h0 h1
  have key : ((5 : Int) = 5 ∧ ρ 1 + 0 ≤ 144 ∧ Γ (α 0) = 35 ∧ ∃ s, M.2.2.2.1 (α 0) 4 = some s ∧ Γ s = 37 ∧ ∀ j : Nat, (j : Int) < ρ 1 + 0 → 0 ≤ M.2.2.2.2 s j ∧ M.2.2.2.2 s j < (g.1 : Int)) ∧ True := by
    try simp only [Int.add_zero]
    obtain ⟨-, s, x1, x2, x3⟩ := h0
    have e : M.2.2.2.2 (α 0) 5 = ρ 1 := h1.2
    rw [e] at x3
    exact ⟨⟨by trivial, b1.2, g0, s, x1, x2, x3⟩, trivial⟩
  exact ⟨nB, qB (key.1) (nB)⟩
def t_ar5 : KT := ((0, 0, 0, 0), [(2, 0, 35, 0), (2, 1, 37, 0), (1, 2, 0, 0), (1, 3, 0, 0)], [(0, 0), (0, 0), (0, 143), (0, 143)], [(88, [(2, 0, 35, 0), (0, 0, 0, 5), (1, 2, 0, 1)]), (10, [(2, 0, 35, 0), (0, 0, 0, 5), (1, 2, 0, 0)]), (11, [(2, 0, 35, 0), (0, 0, 0, 4), (2, 1, 37, 0)]), (10, [(2, 1, 37, 0), (1, 2, 0, 0), (1, 3, 0, 0)])], (0, 0, 0), [], [], ([], [(54, [(2, 0, 35, 0)]), (52, [(1, 3, 0, 0)])]), ([], []))
set_option maxRecDepth 100000 in
theorem l_ar5 (g : GG) : LOK Yt (PSt g) t_ar5 := by
  intro ρ α Γ M as hT hB hA hP
  have g0 : Γ (α 0) = 35 := tyAt hA (i := 0) rfl
  have g1 : Γ (α 1) = 37 := tyAt hA (i := 1) rfl
  have b2 : 0 ≤ ρ 2 ∧ ρ 2 ≤ 143 := hB 2
  have b3 : 0 ≤ ρ 3 ∧ ρ 3 ≤ 143 := hB 3
  have h0 : (5 : Int) = 5 ∧ ρ 2 + 1 ≤ 144 ∧ Γ (α 0) = 35 ∧ ∃ s, M.2.2.2.1 (α 0) 4 = some s ∧ Γ s = 37 ∧ ∀ j : Nat, (j : Int) < ρ 2 + 1 → 0 ≤ M.2.2.2.2 s j ∧ M.2.2.2.2 s j < (g.1 : Int) := hP _ (List.mem_of_getElem? (i := 0) rfl)
  have h1 : 0 ≤ (5 : Int) ∧ M.2.2.2.2 (α 0) (5 : Int).toNat = ρ 2 + 0 := hP _ (List.mem_of_getElem? (i := 1) rfl)
  have h2 : 0 ≤ (4 : Int) ∧ M.2.2.2.1 (α 0) (4 : Int).toNat = some (α 1) := hP _ (List.mem_of_getElem? (i := 2) rfl)
  have h3 : 0 ≤ (ρ 2 + 0 : Int) ∧ M.2.2.2.2 (α 1) (ρ 2 + 0 : Int).toNat = ρ 3 + 0 := hP _ (List.mem_of_getElem? (i := 3) rfl)
  try simp only [Int.add_zero] at h0 h1 h2 h3
  have key : (Γ (α 0) = 35 ∧ ∃ s, M.2.2.2.1 (α 0) 4 = some s ∧ Γ s = 37 ∧ ∀ j : Nat, (j : Int) < M.2.2.2.2 (α 0) 5 → 0 ≤ M.2.2.2.2 s j ∧ M.2.2.2.2 s j < (g.1 : Int)) ∧ (0 ≤ ρ 3 + 0 ∧ ρ 3 + 0 < (g.1 : Int)) ∧ True := by
    try simp only [Int.add_zero]
    obtain ⟨-, -, -, s, x1, x2, x3⟩ := h0
    have e : M.2.2.2.2 (α 0) 5 = ρ 2 := h1.2
    have e1 : M.2.2.2.1 (α 0) 4 = some (α 1) := h2.2
    rw [e1] at x1
    cases x1
    refine ⟨⟨g0, α 1, e1, x2, fun j hj => x3 j (by rw [e] at hj; omega)⟩, ?_, trivial⟩
    have := x3 (ρ 2).toNat (by omega)
    rw [h3.2] at this
    exact this
  exact ⟨nB, qB (key.1) (qB (key.2.1) (nB))⟩
def t_lg0 : KT := ((0, 0, 0, 0), [(2, 0, 17, 0), (1, 1, 0, 0), (1, 2, 0, 0), (1, 3, 0, 0)], [(0, 0), (0, 2147483647), (-2147483648, 2147483647), (-2147483648, 2147483647)], [(85, [(1, 2, 0, 0), (0, 0, 0, 60), (1, 3, 0, 0)]), (21, [(1, 1, 0, 0), (1, 3, 0, 0)]), (10, [(2, 0, 17, 0), (0, 0, 0, 0), (1, 2, 0, 0)])], (0, 0, 0), [], [], ([], [(22, [(2, 0, 17, 0), (1, 1, 0, 0)])]), ([], []))
set_option maxRecDepth 100000 in
theorem l_lg0 (g : GG) : LOK Yt (PSt g) t_lg0 := by
  intro ρ α Γ M as hT hB hA hP
  have g0 : Γ (α 0) = 17 := tyAt hA (i := 0) rfl
  have b1 : 0 ≤ ρ 1 ∧ ρ 1 ≤ 2147483647 := hB 1
  have b2 : -2147483648 ≤ ρ 2 ∧ ρ 2 ≤ 2147483647 := hB 2
  have b3 : -2147483648 ≤ ρ 3 ∧ ρ 3 ≤ 2147483647 := hB 3
  have h0 : ρ 3 + 0 = mnI (ρ 2 + 0) (60) := hP _ (List.mem_of_getElem? (i := 0) rfl)
  have h1 : ρ 1 + 0 < ρ 3 + 0 := hP _ (List.mem_of_getElem? (i := 1) rfl)
  have h2 : 0 ≤ (0 : Int) ∧ M.2.2.2.2 (α 0) (0 : Int).toNat = ρ 2 + 0 := hP _ (List.mem_of_getElem? (i := 2) rfl)
  try simp only [Int.add_zero] at h0 h1 h2
  have key : (Γ (α 0) = 17 ∧ 0 ≤ ρ 1 + 0 ∧ ρ 1 + 0 < M.2.2.2.2 (α 0) 0) ∧ True := by
    try simp only [Int.add_zero]
    have e : M.2.2.2.2 (α 0) 0 = ρ 2 := h2.2
    refine ⟨⟨g0, b1.1, ?_⟩, trivial⟩
    rw [e]
    unfold mnI at h0
    split at h0 <;> omega
  exact ⟨nB, qB (key.1) (nB)⟩
def t_lg1 : KT := ((0, 0, 0, 0), [(2, 0, 17, 0), (1, 1, 0, 0), (1, 2, 0, 0), (1, 3, 0, 0)], [(0, 0), (0, 2147483647), (0, 2147483647), (-2147483648, 2147483647)], [(22, [(2, 0, 17, 0), (1, 1, 0, 0)]), (10, [(2, 0, 17, 0), (0, 0, 0, 0), (1, 2, 0, 0)]), (24, [(1, 2, 0, -1), (1, 1, 0, 0), (1, 3, 0, 0)])], (0, 0, 0), [], [], ([(3, 0, 2147483647)], []), ([], []))
set_option maxRecDepth 100000 in
theorem l_lg1 (g : GG) : LOK Yt (PSt g) t_lg1 := by
  intro ρ α Γ M as hT hB hA hP
  have g0 : Γ (α 0) = 17 := tyAt hA (i := 0) rfl
  have b1 : 0 ≤ ρ 1 ∧ ρ 1 ≤ 2147483647 := hB 1
  have b2 : 0 ≤ ρ 2 ∧ ρ 2 ≤ 2147483647 := hB 2
  have b3 : -2147483648 ≤ ρ 3 ∧ ρ 3 ≤ 2147483647 := hB 3
  have h0 : Γ (α 0) = 17 ∧ 0 ≤ ρ 1 + 0 ∧ ρ 1 + 0 < M.2.2.2.2 (α 0) 0 := hP _ (List.mem_of_getElem? (i := 0) rfl)
  have h1 : 0 ≤ (0 : Int) ∧ M.2.2.2.2 (α 0) (0 : Int).toNat = ρ 2 + 0 := hP _ (List.mem_of_getElem? (i := 1) rfl)
  have h2 : ρ 3 + 0 = wI ((ρ 2 + (-1)) - (ρ 1 + 0)) := hP _ (List.mem_of_getElem? (i := 2) rfl)
  try simp only [Int.add_zero] at h0 h1 h2
  have key : (0 ≤ ρ 3 ∧ ρ 3 ≤ 2147483647) ∧ True := by
    try simp only [Int.add_zero]
    have e : M.2.2.2.2 (α 0) 0 = ρ 2 := h1.2
    have h0 := h0.2
    rw [wI_id (by unfold inI; omega)] at h2
    exact ⟨⟨by omega, b3.2⟩, trivial⟩
  exact ⟨qB (key.1) (nB), nB⟩
def t_il0 : KT := ((0, 0, 0, 0), [(2, 0, 10, 0), (1, 1, 0, 0), (2, 2, 13, 0), (1, 3, 0, 0)], [(0, 0), (0, 143), (0, 0), (-2147483648, 2147483647)], [(11, [(2, 0, 10, 0), (0, 0, 0, 6), (2, 2, 13, 0)]), (10, [(2, 2, 13, 0), (1, 1, 0, 0), (1, 3, 0, 0)])], (0, 0, 0), [], [], ([], [(75, [(2, 0, 10, 0), (1, 1, 0, 0), (1, 3, 0, 0)])]), ([], []))
set_option maxRecDepth 100000 in
theorem l_il0 (g : GG) : LOK Yt (PSt g) t_il0 := by
  intro ρ α Γ M as hT hB hA hP
  have g0 : Γ (α 0) = 10 := tyAt hA (i := 0) rfl
  have b1 : 0 ≤ ρ 1 ∧ ρ 1 ≤ 143 := hB 1
  have g2 : Γ (α 2) = 13 := tyAt hA (i := 2) rfl
  have b3 : -2147483648 ≤ ρ 3 ∧ ρ 3 ≤ 2147483647 := hB 3
  have h0 : 0 ≤ (6 : Int) ∧ M.2.2.2.1 (α 0) (6 : Int).toNat = some (α 2) := hP _ (List.mem_of_getElem? (i := 0) rfl)
  have h1 : 0 ≤ (ρ 1 + 0 : Int) ∧ M.2.2.2.2 (α 2) (ρ 1 + 0 : Int).toNat = ρ 3 + 0 := hP _ (List.mem_of_getElem? (i := 1) rfl)
  try simp only [Int.add_zero] at h0 h1
  have key : (Γ (α 0) = 10 ∧ 0 ≤ ρ 1 + 0 ∧ ρ 1 + 0 < 144 ∧ ∃ s, M.2.2.2.1 (α 0) 6 = some s ∧ Γ s = 13 ∧ M.2.2.2.2 s (ρ 1 + 0 : Int).toNat = ρ 3 + 0) ∧ True := by
    try simp only [Int.add_zero]
    exact ⟨⟨g0, b1.1, by omega, α 2, h0.2, g2, h1.2⟩, trivial⟩
  exact ⟨nB, qB (key.1) (nB)⟩
def t_il1 : KT := ((0, 0, 0, 0), [(2, 0, 10, 0), (1, 1, 0, 0), (1, 2, 0, 0)], [(0, 0), (0, 143), (0, 143)], [(75, [(2, 0, 10, 0), (1, 1, 0, 0), (1, 2, 0, 0)])], (0, 0, 0), [], [], ([], [(74, [(2, 0, 10, 0), (1, 1, 0, 0)])]), ([], []))
set_option maxRecDepth 100000 in
theorem l_il1 (g : GG) : LOK Yt (PSt g) t_il1 := by
  intro ρ α Γ M as hT hB hA hP
  have g0 : Γ (α 0) = 10 := tyAt hA (i := 0) rfl
  have b1 : 0 ≤ ρ 1 ∧ ρ 1 ≤ 143 := hB 1
  have b2 : 0 ≤ ρ 2 ∧ ρ 2 ≤ 143 := hB 2
  have h0 : Γ (α 0) = 10 ∧ 0 ≤ ρ 1 + 0 ∧ ρ 1 + 0 < 144 ∧ ∃ s, M.2.2.2.1 (α 0) 6 = some s ∧ Γ s = 13 ∧ M.2.2.2.2 s (ρ 1 + 0 : Int).toNat = ρ 2 + 0 := hP _ (List.mem_of_getElem? (i := 0) rfl)
  try simp only [Int.add_zero] at h0
  have key : (Γ (α 0) = 10 ∧ 0 ≤ ρ 1 + 0 ∧ ρ 1 + 0 < 144 ∧ ∃ s, M.2.2.2.1 (α 0) 6 = some s ∧ Γ s = 13 ∧ 0 ≤ M.2.2.2.2 s (ρ 1 + 0 : Int).toNat) ∧ True := by
    try simp only [Int.add_zero]
    obtain ⟨-, h2, h3, s, h4, h5, h6⟩ := h0
    exact ⟨⟨g0, h2, h3, s, h4, h5, by rw [h6]; exact b2.1⟩, trivial⟩
  exact ⟨nB, qB (key.1) (nB)⟩
def t_il2 : KT := ((0, 0, 0, 0), [(2, 0, 10, 0), (1, 1, 0, 0), (2, 2, 13, 0), (1, 3, 0, 0)], [(0, 0), (0, 143), (0, 0), (-2147483648, 2147483647)], [(74, [(2, 0, 10, 0), (1, 1, 0, 0)]), (11, [(2, 0, 10, 0), (0, 0, 0, 6), (2, 2, 13, 0)]), (10, [(2, 2, 13, 0), (1, 1, 0, 0), (1, 3, 0, 0)])], (0, 0, 0), [], [], ([(3, 0, 2147483647)], []), ([], []))
set_option maxRecDepth 100000 in
theorem l_il2 (g : GG) : LOK Yt (PSt g) t_il2 := by
  intro ρ α Γ M as hT hB hA hP
  have g0 : Γ (α 0) = 10 := tyAt hA (i := 0) rfl
  have b1 : 0 ≤ ρ 1 ∧ ρ 1 ≤ 143 := hB 1
  have g2 : Γ (α 2) = 13 := tyAt hA (i := 2) rfl
  have b3 : -2147483648 ≤ ρ 3 ∧ ρ 3 ≤ 2147483647 := hB 3
  have h0 : Γ (α 0) = 10 ∧ 0 ≤ ρ 1 + 0 ∧ ρ 1 + 0 < 144 ∧ ∃ s, M.2.2.2.1 (α 0) 6 = some s ∧ Γ s = 13 ∧ 0 ≤ M.2.2.2.2 s (ρ 1 + 0 : Int).toNat := hP _ (List.mem_of_getElem? (i := 0) rfl)
  have h1 : 0 ≤ (6 : Int) ∧ M.2.2.2.1 (α 0) (6 : Int).toNat = some (α 2) := hP _ (List.mem_of_getElem? (i := 1) rfl)
  have h2 : 0 ≤ (ρ 1 + 0 : Int) ∧ M.2.2.2.2 (α 2) (ρ 1 + 0 : Int).toNat = ρ 3 + 0 := hP _ (List.mem_of_getElem? (i := 2) rfl)
  try simp only [Int.add_zero] at h0 h1 h2
  have key : (0 ≤ ρ 3 ∧ ρ 3 ≤ 2147483647) ∧ True := by
    try simp only [Int.add_zero]
    obtain ⟨-, -, -, s, h4, -, h6⟩ := h0
    have e : M.2.2.2.1 (α 0) 6 = some (α 2) := h1.2
    rw [e] at h4
    cases h4
    rw [h2.2] at h6
    exact ⟨⟨h6, b3.2⟩, trivial⟩
  exact ⟨qB (key.1) (nB), nB⟩
def t_le0 : KT := ((0, 0, 0, 0), [(1, 0, 0, 0), (1, 1, 0, 0)], [(0, 0), (0, 0)], [], (0, 0, 0), [], [], ([], [(6, [(1, 0, 0, 0), (1, 1, 0, 0)])]), ([], []))
set_option maxRecDepth 100000 in
theorem l_le0 (g : GG) : LOK Yt (PSt g) t_le0 := by
  intro ρ α Γ M as hT hB hA hP
  have b0 : 0 ≤ ρ 0 ∧ ρ 0 ≤ 0 := hB 0
  have b1 : 0 ≤ ρ 1 ∧ ρ 1 ≤ 0 := hB 1
  have key : (ρ 0 + 0 ≤ ρ 1 + 0) ∧ True := by
    try simp only [Int.add_zero]
    exact ⟨by omega, trivial⟩
  exact ⟨nB, qB (key.1) (nB)⟩
def t_le1 : KT := ((0, 0, 0, 0), [(1, 0, 0, 0), (1, 1, 0, 0)], [(-2147483648, 2147483647), (-2147483648, 2147483647)], [(6, [(1, 0, 0, -1), (1, 1, 0, -1)])], (0, 0, 0), [], [], ([], [(6, [(1, 0, 0, 0), (1, 1, 0, 0)])]), ([], []))
set_option maxRecDepth 100000 in
theorem l_le1 (g : GG) : LOK Yt (PSt g) t_le1 := by
  intro ρ α Γ M as hT hB hA hP
  have b0 : -2147483648 ≤ ρ 0 ∧ ρ 0 ≤ 2147483647 := hB 0
  have b1 : -2147483648 ≤ ρ 1 ∧ ρ 1 ≤ 2147483647 := hB 1
  have h0 : ρ 0 + (-1) ≤ ρ 1 + (-1) := hP _ (List.mem_of_getElem? (i := 0) rfl)
  try simp only [Int.add_zero] at h0
  have key : (ρ 0 + 0 ≤ ρ 1 + 0) ∧ True := by
    try simp only [Int.add_zero]
    exact ⟨by omega, trivial⟩
  exact ⟨nB, qB (key.1) (nB)⟩
def t_le2 : KT := ((0, 0, 0, 0), [(1, 0, 0, 0), (1, 1, 0, 0)], [(-2147483648, 2147483647), (-2147483648, 2147483647)], [(6, [(1, 0, 0, 0), (1, 1, 0, -1)])], (0, 0, 0), [], [], ([], [(6, [(1, 0, 0, 0), (1, 1, 0, 0)])]), ([], []))
set_option maxRecDepth 100000 in
theorem l_le2 (g : GG) : LOK Yt (PSt g) t_le2 := by
  intro ρ α Γ M as hT hB hA hP
  have b0 : -2147483648 ≤ ρ 0 ∧ ρ 0 ≤ 2147483647 := hB 0
  have b1 : -2147483648 ≤ ρ 1 ∧ ρ 1 ≤ 2147483647 := hB 1
  have h0 : ρ 0 + 0 ≤ ρ 1 + (-1) := hP _ (List.mem_of_getElem? (i := 0) rfl)
  try simp only [Int.add_zero] at h0
  have key : (ρ 0 + 0 ≤ ρ 1 + 0) ∧ True := by
    try simp only [Int.add_zero]
    exact ⟨by omega, trivial⟩
  exact ⟨nB, qB (key.1) (nB)⟩
def t_leb4 : KT := ((0, 0, 0, 0), [(1, 0, 0, 0), (1, 1, 0, 0)], [(-2147483648, 2147483647), (0, 4)], [(6, [(1, 0, 0, 0), (1, 1, 0, 0)])], (0, 0, 0), [], [], ([(0, -2147483648, 4)], []), ([], []))
set_option maxRecDepth 100000 in
theorem l_leb4 (g : GG) : LOK Yt (PSt g) t_leb4 := by
  intro ρ α Γ M as hT hB hA hP
  have b0 : -2147483648 ≤ ρ 0 ∧ ρ 0 ≤ 2147483647 := hB 0
  have b1 : 0 ≤ ρ 1 ∧ ρ 1 ≤ 4 := hB 1
  have h0 : ρ 0 + 0 ≤ ρ 1 + 0 := hP _ (List.mem_of_getElem? (i := 0) rfl)
  try simp only [Int.add_zero] at h0
  have key : (-2147483648 ≤ ρ 0 ∧ ρ 0 ≤ 4) ∧ True := by
    try simp only [Int.add_zero]
    exact ⟨⟨b0.1, by omega⟩, trivial⟩
  exact ⟨qB (key.1) (nB), nB⟩
def t_tf0 : KT := ((0, 0, 0, 0), [(1, 0, 0, 0), (1, 1, 0, 0), (1, 2, 0, 0)], [(0, 0), (0, 0), (0, 0)], [], (0, 0, 0), [], [], ([], [(13, [(1, 0, 0, 0), (1, 1, 0, 0), (1, 2, 0, 0)])]), ([], []))
set_option maxRecDepth 100000 in
theorem l_tf0 (g : GG) : LOK Yt (PSt g) t_tf0 := by
  intro ρ α Γ M as hT hB hA hP
  have b0 : 0 ≤ ρ 0 ∧ ρ 0 ≤ 0 := hB 0
  have b1 : 0 ≤ ρ 1 ∧ ρ 1 ≤ 0 := hB 1
  have b2 : 0 ≤ ρ 2 ∧ ρ 2 ≤ 0 := hB 2
  have key : (ρ 0 + 0 ≤ 25 * (ρ 1 + 0) + (ρ 2 + 0)) ∧ True := by
    try simp only [Int.add_zero]
    exact ⟨by omega, trivial⟩
  exact ⟨nB, qB (key.1) (nB)⟩
def t_tf1 : KT := ((0, 0, 0, 0), [(1, 0, 0, 0), (1, 1, 0, 0), (1, 2, 0, 0)], [(-2147483648, 2147483647), (-2147483648, 2147483647), (-2147483648, 2147483647)], [(13, [(1, 0, 0, -1), (1, 1, 0, 0), (1, 2, 0, -1)])], (0, 0, 0), [], [], ([], [(13, [(1, 0, 0, 0), (1, 1, 0, 0), (1, 2, 0, 0)])]), ([], []))
set_option maxRecDepth 100000 in
theorem l_tf1 (g : GG) : LOK Yt (PSt g) t_tf1 := by
  intro ρ α Γ M as hT hB hA hP
  have b0 : -2147483648 ≤ ρ 0 ∧ ρ 0 ≤ 2147483647 := hB 0
  have b1 : -2147483648 ≤ ρ 1 ∧ ρ 1 ≤ 2147483647 := hB 1
  have b2 : -2147483648 ≤ ρ 2 ∧ ρ 2 ≤ 2147483647 := hB 2
  have h0 : ρ 0 + (-1) ≤ 25 * (ρ 1 + 0) + (ρ 2 + (-1)) := hP _ (List.mem_of_getElem? (i := 0) rfl)
  try simp only [Int.add_zero] at h0
  have key : (ρ 0 + 0 ≤ 25 * (ρ 1 + 0) + (ρ 2 + 0)) ∧ True := by
    try simp only [Int.add_zero]
    exact ⟨by omega, trivial⟩
  exact ⟨nB, qB (key.1) (nB)⟩
def t_tf2 : KT := ((0, 0, 0, 0), [(1, 0, 0, 0), (1, 1, 0, 0), (1, 2, 0, 0), (1, 3, 0, 0)], [(-2147483648, 2147483647), (-2147483648, 2147483647), (0, 0), (0, 24)], [(13, [(1, 0, 0, -1), (1, 1, 0, -1), (1, 3, 0, 0)])], (0, 0, 0), [], [], ([], [(13, [(1, 0, 0, 0), (1, 1, 0, 0), (1, 2, 0, 0)])]), ([], []))
set_option maxRecDepth 100000 in
theorem l_tf2 (g : GG) : LOK Yt (PSt g) t_tf2 := by
  intro ρ α Γ M as hT hB hA hP
  have b0 : -2147483648 ≤ ρ 0 ∧ ρ 0 ≤ 2147483647 := hB 0
  have b1 : -2147483648 ≤ ρ 1 ∧ ρ 1 ≤ 2147483647 := hB 1
  have b2 : 0 ≤ ρ 2 ∧ ρ 2 ≤ 0 := hB 2
  have b3 : 0 ≤ ρ 3 ∧ ρ 3 ≤ 24 := hB 3
  have h0 : ρ 0 + (-1) ≤ 25 * (ρ 1 + (-1)) + (ρ 3 + 0) := hP _ (List.mem_of_getElem? (i := 0) rfl)
  try simp only [Int.add_zero] at h0
  have key : (ρ 0 + 0 ≤ 25 * (ρ 1 + 0) + (ρ 2 + 0)) ∧ True := by
    try simp only [Int.add_zero]
    exact ⟨by omega, trivial⟩
  exact ⟨nB, qB (key.1) (nB)⟩
def t_tf3 : KT := ((0, 0, 0, 0), [(2, 0, 19, 0), (1, 1, 0, 0), (1, 2, 0, 0), (1, 3, 0, 0), (1, 4, 0, 0)], [(0, 0), (-2147483648, 2147483647), (-2147483648, 2147483647), (0, 11), (0, 24)], [(10, [(2, 0, 19, 0), (0, 0, 0, 0), (1, 1, 0, 0)]), (6, [(1, 1, 0, 0), (1, 2, 0, 0)]), (13, [(1, 2, 0, 0), (1, 3, 0, 0), (1, 4, 0, 0)]), (2217, [(2, 0, 19, 0), (0, 0, 0, 2), (0, 0, 0, 12)]), (2218, [(2, 0, 19, 0), (0, 0, 0, 2), (0, 0, 0, 12)])], (0, 0, 0), [], [], ([], [(18, [(2, 0, 19, 0), (0, 0, 0, -1)])]), ([], []))
set_option maxRecDepth 100000 in
theorem l_tf3 (g : GG) : LOK Yt (PSt g) t_tf3 := by
  intro ρ α Γ M as hT hB hA hP
  have g0 : Γ (α 0) = 19 := tyAt hA (i := 0) rfl
  have b1 : -2147483648 ≤ ρ 1 ∧ ρ 1 ≤ 2147483647 := hB 1
  have b2 : -2147483648 ≤ ρ 2 ∧ ρ 2 ≤ 2147483647 := hB 2
  have b3 : 0 ≤ ρ 3 ∧ ρ 3 ≤ 11 := hB 3
  have b4 : 0 ≤ ρ 4 ∧ ρ 4 ≤ 24 := hB 4
  have h0 : 0 ≤ (0 : Int) ∧ M.2.2.2.2 (α 0) (0 : Int).toNat = ρ 1 + 0 := hP _ (List.mem_of_getElem? (i := 0) rfl)
  have h1 : ρ 1 + 0 ≤ ρ 2 + 0 := hP _ (List.mem_of_getElem? (i := 1) rfl)
  have h2 : ρ 2 + 0 ≤ 25 * (ρ 3 + 0) + (ρ 4 + 0) := hP _ (List.mem_of_getElem? (i := 2) rfl)
  have h3 : Γ (α 0) = 19 ∧ 19 ≠ 0 ∧ 2 ≤ M.2.2.2.2 (α 0) 1 ∧ M.2.2.2.2 (α 0) 1 ≤ 12 := (fId_eq g 19 1 (α 0) (2) (12) Γ M (by decide)).mp (hP _ (List.mem_of_getElem? (i := 3) rfl))
  have h4 : Γ (α 0) = 19 ∧ 19 ≠ 0 ∧ 2 ≤ M.2.2.2.2 (α 0) 2 ∧ M.2.2.2.2 (α 0) 2 ≤ 12 := (fId_eq g 19 2 (α 0) (2) (12) Γ M (by decide)).mp (hP _ (List.mem_of_getElem? (i := 4) rfl))
  try simp only [Int.add_zero] at h0 h1 h2 h3 h4
  have key : (Γ (α 0) = 19 ∧ ((-1) = -1 → M.2.2.2.2 (α 0) 0 ≤ 399 ∧ (2 ≤ M.2.2.2.2 (α 0) 1 ∧ M.2.2.2.2 (α 0) 1 ≤ 12) ∧ 2 ≤ M.2.2.2.2 (α 0) 2 ∧ M.2.2.2.2 (α 0) 2 ≤ 12)) ∧ True := by
    try simp only [Int.add_zero]
    have e : M.2.2.2.2 (α 0) 0 = ρ 1 := h0.2
    exact ⟨⟨g0, fun _ => ⟨by omega, h3.2.2, h4.2.2⟩⟩, trivial⟩
  exact ⟨nB, qB (key.1) (nB)⟩
def t_tf4 : KT := ((0, 0, 0, 0), [(2, 0, 19, 0), (1, 1, 0, 0)], [(0, 0), (0, 400)], [], (0, 0, 0), [], [], ([], [(18, [(2, 0, 19, 0), (1, 1, 0, 0)])]), ([], []))
set_option maxRecDepth 100000 in
theorem l_tf4 (g : GG) : LOK Yt (PSt g) t_tf4 := by
  intro ρ α Γ M as hT hB hA hP
  have g0 : Γ (α 0) = 19 := tyAt hA (i := 0) rfl
  have b1 : 0 ≤ ρ 1 ∧ ρ 1 ≤ 400 := hB 1
  have key : (Γ (α 0) = 19 ∧ (ρ 1 + 0 = -1 → M.2.2.2.2 (α 0) 0 ≤ 399 ∧ (2 ≤ M.2.2.2.2 (α 0) 1 ∧ M.2.2.2.2 (α 0) 1 ≤ 12) ∧ 2 ≤ M.2.2.2.2 (α 0) 2 ∧ M.2.2.2.2 (α 0) 2 ≤ 12)) ∧ True := by
    try simp only [Int.add_zero]
    exact ⟨⟨g0, fun h => by omega⟩, trivial⟩
  exact ⟨nB, qB (key.1) (nB)⟩
def t_tf5 : KT := ((0, 0, 0, 0), [(2, 0, 19, 0), (1, 1, 0, 0)], [(0, 0), (-1, -1)], [(18, [(2, 0, 19, 0), (1, 1, 0, 0)])], (0, 0, 0), [], [], ([], [(2216, [(2, 0, 19, 0), (0, 0, 0, 0), (0, 0, 0, 399)]), (2217, [(2, 0, 19, 0), (0, 0, 0, 2), (0, 0, 0, 12)]), (2218, [(2, 0, 19, 0), (0, 0, 0, 2), (0, 0, 0, 12)])]), ([], []))
set_option maxRecDepth 100000 in
theorem l_tf5 (g : GG) : LOK Yt (PSt g) t_tf5 := by
  intro ρ α Γ M as hT hB hA hP
  have g0 : Γ (α 0) = 19 := tyAt hA (i := 0) rfl
  have b1 : -1 ≤ ρ 1 ∧ ρ 1 ≤ -1 := hB 1
  have h0 : Γ (α 0) = 19 ∧ (ρ 1 + 0 = -1 → M.2.2.2.2 (α 0) 0 ≤ 399 ∧ (2 ≤ M.2.2.2.2 (α 0) 1 ∧ M.2.2.2.2 (α 0) 1 ≤ 12) ∧ 2 ≤ M.2.2.2.2 (α 0) 2 ∧ M.2.2.2.2 (α 0) 2 ≤ 12) := hP _ (List.mem_of_getElem? (i := 0) rfl)
  try simp only [Int.add_zero] at h0
  have key : (Γ (α 0) = 19 ∧ 19 ≠ 0 ∧ 0 ≤ M.2.2.2.2 (α 0) 0 ∧ M.2.2.2.2 (α 0) 0 ≤ 399) ∧ (Γ (α 0) = 19 ∧ 19 ≠ 0 ∧ 2 ≤ M.2.2.2.2 (α 0) 1 ∧ M.2.2.2.2 (α 0) 1 ≤ 12) ∧ (Γ (α 0) = 19 ∧ 19 ≠ 0 ∧ 2 ≤ M.2.2.2.2 (α 0) 2 ∧ M.2.2.2.2 (α 0) 2 ≤ 12) ∧ True := by
    try simp only [Int.add_zero]
    have h := h0.2 (by omega)
    have hb := tyB hT g0 (by decide) (r := (0, 1, 0, 400)) (by decide) (j := 0) (Nat.le_refl _) (by decide)
    exact ⟨⟨g0, by decide, hb.1, h.1⟩, ⟨g0, by decide, h.2.1⟩, ⟨g0, by decide, h.2.2⟩, trivial⟩
  exact ⟨nB, qB ((fId_eq g 19 0 (α 0) (0) (399) Γ M (by decide)).mpr (key.1)) (qB ((fId_eq g 19 1 (α 0) (2) (12) Γ M (by decide)).mpr (key.2.1)) (qB ((fId_eq g 19 2 (α 0) (2) (12) Γ M (by decide)).mpr (key.2.2.1)) (nB)))⟩
def t_nt0 : KT := ((0, 0, 0, 0), [(2, 0, 17, 0), (1, 1, 0, 0), (1, 2, 0, 0)], [(0, 0), (0, 1000), (0, 2147483647)], [(77, [(2, 0, 17, 0), (1, 1, 0, 0)]), (78, [(0, 0, 0, 0)]), (10, [(2, 0, 17, 0), (0, 0, 0, 0), (1, 2, 0, 0)])], (0, 0, 0), [], [], ([(2, 0, 999999)], [(59, [(1, 2, 0, 0), (1, 1, 0, 0)])]), ([], []))
set_option maxRecDepth 100000 in
theorem l_nt0 (g : GG) : LOK Yt (PSt g) t_nt0 := by
  intro ρ α Γ M as hT hB hA hP
  have g0 : Γ (α 0) = 17 := tyAt hA (i := 0) rfl
  have b1 : 0 ≤ ρ 1 ∧ ρ 1 ≤ 1000 := hB 1
  have b2 : 0 ≤ ρ 2 ∧ ρ 2 ≤ 2147483647 := hB 2
  have h0 : Γ (α 0) = 17 ∧ M.2.2.2.2 (α 0) 0 ≤ (g.2.1 : Int) + (ρ 1 + 0) := hP _ (List.mem_of_getElem? (i := 0) rfl)
  have h1 : (0 : Int) = 0 ∧ (g.2.1 : Int) ≤ 900000 := hP _ (List.mem_of_getElem? (i := 1) rfl)
  have h2 : 0 ≤ (0 : Int) ∧ M.2.2.2.2 (α 0) (0 : Int).toNat = ρ 2 + 0 := hP _ (List.mem_of_getElem? (i := 2) rfl)
  try simp only [Int.add_zero] at h0 h1 h2
  have key : (0 ≤ ρ 2 ∧ ρ 2 ≤ 999999) ∧ (ρ 2 + 0 ≤ (g.2.1 : Int) + (ρ 1 + 0)) ∧ True := by
    try simp only [Int.add_zero]
    have e : M.2.2.2.2 (α 0) 0 = ρ 2 := h2.2
    have h0 := h0.2
    have h1 : (g.2.1 : Int) ≤ 900000 := (show P78 g [vi 0] Γ M from hP _ (List.mem_of_getElem? (i := 1) rfl)).2
    exact ⟨⟨b2.1, by omega⟩, by omega, trivial⟩
  exact ⟨qB (key.1) (nB), qB (key.2.1) (nB)⟩
def t_ta56 : KT := ((0, 0, 0, 0), [(2, 0, 54, 0), (2, 1, 26, 0)], [(0, 0), (0, 0)], [(56, [(2, 0, 54, 0)]), (11, [(2, 0, 54, 0), (0, 0, 0, 6), (2, 1, 26, 0)])], (0, 0, 0), [], [], ([], [(51, [(2, 1, 26, 0)])]), ([], []))
set_option maxRecDepth 100000 in
theorem l_ta56 (g : GG) : LOK Yt (PSt g) t_ta56 := by
  intro ρ α Γ M as hT hB hA hP
  have g0 : Γ (α 0) = 54 := tyAt hA (i := 0) rfl
  have g1 : Γ (α 1) = 26 := tyAt hA (i := 1) rfl
  have h0 : Γ (α 0) = 54 ∧ ∃ f, M.2.2.2.1 (α 0) 6 = some f ∧ ∃ w v, frT Γ M f w v ∧ ∀ j : Nat, (j : Int) < M.2.2.2.2 f 4 → okW g v M (M.2.2.2.2 w j) := hP _ (List.mem_of_getElem? (i := 0) rfl)
  have h1 : 0 ≤ (6 : Int) ∧ M.2.2.2.1 (α 0) (6 : Int).toNat = some (α 1) := hP _ (List.mem_of_getElem? (i := 1) rfl)
  try simp only [Int.add_zero] at h0 h1
  have key : (∃ w v, frT Γ M (α 1) w v ∧ ∀ j : Nat, (j : Int) < M.2.2.2.2 (α 1) 4 → okW g v M (M.2.2.2.2 w j)) ∧ True := by
    try simp only [Int.add_zero]
    obtain ⟨-, f, h2, h3⟩ := h0
    have e : M.2.2.2.1 (α 0) 6 = some (α 1) := h1.2
    rw [e] at h2
    cases h2
    exact ⟨h3, trivial⟩
  exact ⟨nB, qB (key.1) (nB)⟩
def t_tb56 : KT := ((0, 0, 0, 0), [(2, 0, 54, 0), (2, 1, 26, 0)], [(0, 0), (0, 0)], [(51, [(2, 1, 26, 0)]), (11, [(2, 0, 54, 0), (0, 0, 0, 6), (2, 1, 26, 0)])], (0, 0, 0), [], [], ([], [(56, [(2, 0, 54, 0)])]), ([], []))
set_option maxRecDepth 100000 in
theorem l_tb56 (g : GG) : LOK Yt (PSt g) t_tb56 := by
  intro ρ α Γ M as hT hB hA hP
  have g0 : Γ (α 0) = 54 := tyAt hA (i := 0) rfl
  have g1 : Γ (α 1) = 26 := tyAt hA (i := 1) rfl
  have h0 : ∃ w v, frT Γ M (α 1) w v ∧ ∀ j : Nat, (j : Int) < M.2.2.2.2 (α 1) 4 → okW g v M (M.2.2.2.2 w j) := hP _ (List.mem_of_getElem? (i := 0) rfl)
  have h1 : 0 ≤ (6 : Int) ∧ M.2.2.2.1 (α 0) (6 : Int).toNat = some (α 1) := hP _ (List.mem_of_getElem? (i := 1) rfl)
  try simp only [Int.add_zero] at h0 h1
  have key : (Γ (α 0) = 54 ∧ ∃ f, M.2.2.2.1 (α 0) 6 = some f ∧ ∃ w v, frT Γ M f w v ∧ ∀ j : Nat, (j : Int) < M.2.2.2.2 f 4 → okW g v M (M.2.2.2.2 w j)) ∧ True := by
    try simp only [Int.add_zero]
    exact ⟨⟨g0, α 1, h1.2, h0⟩, trivial⟩
  exact ⟨nB, qB (key.1) (nB)⟩
def t_ta57_0 : KT := ((0, 0, 0, 0), [(2, 0, 54, 0), (2, 1, 38, 0)], [(0, 0), (0, 0)], [(57, [(2, 0, 54, 0), (0, 0, 0, 0)]), (11, [(2, 0, 54, 0), (0, 0, 0, 0), (2, 1, 38, 0)])], (0, 0, 0), [], [], ([], [(55, [(2, 1, 38, 0)])]), ([], []))
set_option maxRecDepth 100000 in
theorem l_ta57_0 (g : GG) : LOK Yt (PSt g) t_ta57_0 := by
  intro ρ α Γ M as hT hB hA hP
  have g0 : Γ (α 0) = 54 := tyAt hA (i := 0) rfl
  have g1 : Γ (α 1) = 38 := tyAt hA (i := 1) rfl
  have h0 : Γ (α 0) = 54 ∧ ((0 : Int) = 0 ∨ (0 : Int) = 1) ∧ ∃ w, M.2.2.2.1 (α 0) (0 : Int).toNat = some w ∧ Γ w = 38 ∧ ∃ c, M.2.2.2.1 w 0 = some c ∧ Γ c = 1 ∧ M.2.2.2.2 c 0 * M.2.2.2.2 c 1 = (g.1 : Int) := hP _ (List.mem_of_getElem? (i := 0) rfl)
  have h1 : 0 ≤ (0 : Int) ∧ M.2.2.2.1 (α 0) (0 : Int).toNat = some (α 1) := hP _ (List.mem_of_getElem? (i := 1) rfl)
  try simp only [Int.add_zero] at h0 h1
  have key : (Γ (α 1) = 38 ∧ ∃ c, M.2.2.2.1 (α 1) 0 = some c ∧ Γ c = 1 ∧ M.2.2.2.2 c 0 * M.2.2.2.2 c 1 = (g.1 : Int)) ∧ True := by
    try simp only [Int.add_zero]
    obtain ⟨-, -, w, h2, h3, h4⟩ := h0
    have h2 : M.2.2.2.1 (α 0) 0 = some w := h2
    have e : M.2.2.2.1 (α 0) 0 = some (α 1) := h1.2
    rw [e] at h2
    cases h2
    exact ⟨⟨h3, h4⟩, trivial⟩
  exact ⟨nB, qB (key.1) (nB)⟩
def t_ta57_1 : KT := ((0, 0, 0, 0), [(2, 0, 54, 0), (2, 1, 38, 0)], [(0, 0), (0, 0)], [(57, [(2, 0, 54, 0), (0, 0, 0, 1)]), (11, [(2, 0, 54, 0), (0, 0, 0, 1), (2, 1, 38, 0)])], (0, 0, 0), [], [], ([], [(55, [(2, 1, 38, 0)])]), ([], []))
set_option maxRecDepth 100000 in
theorem l_ta57_1 (g : GG) : LOK Yt (PSt g) t_ta57_1 := by
  intro ρ α Γ M as hT hB hA hP
  have g0 : Γ (α 0) = 54 := tyAt hA (i := 0) rfl
  have g1 : Γ (α 1) = 38 := tyAt hA (i := 1) rfl
  have h0 : Γ (α 0) = 54 ∧ ((1 : Int) = 0 ∨ (1 : Int) = 1) ∧ ∃ w, M.2.2.2.1 (α 0) (1 : Int).toNat = some w ∧ Γ w = 38 ∧ ∃ c, M.2.2.2.1 w 0 = some c ∧ Γ c = 1 ∧ M.2.2.2.2 c 0 * M.2.2.2.2 c 1 = (g.1 : Int) := hP _ (List.mem_of_getElem? (i := 0) rfl)
  have h1 : 0 ≤ (1 : Int) ∧ M.2.2.2.1 (α 0) (1 : Int).toNat = some (α 1) := hP _ (List.mem_of_getElem? (i := 1) rfl)
  try simp only [Int.add_zero] at h0 h1
  have key : (Γ (α 1) = 38 ∧ ∃ c, M.2.2.2.1 (α 1) 0 = some c ∧ Γ c = 1 ∧ M.2.2.2.2 c 0 * M.2.2.2.2 c 1 = (g.1 : Int)) ∧ True := by
    try simp only [Int.add_zero]
    obtain ⟨-, -, w, h2, h3, h4⟩ := h0
    have h2 : M.2.2.2.1 (α 0) 1 = some w := h2
    have e : M.2.2.2.1 (α 0) 1 = some (α 1) := h1.2
    rw [e] at h2
    cases h2
    exact ⟨⟨h3, h4⟩, trivial⟩
  exact ⟨nB, qB (key.1) (nB)⟩
def t_ta58 : KT := ((0, 0, 0, 0), [(2, 0, 54, 0), (2, 1, 17, 0), (1, 2, 0, 0)], [(0, 0), (0, 0), (-2147483648, 2147483647)], [(58, [(2, 0, 54, 0), (1, 2, 0, 0)]), (11, [(2, 0, 54, 0), (0, 0, 0, 3), (2, 1, 17, 0)])], (0, 0, 0), [], [], ([], [(77, [(2, 1, 17, 0), (1, 2, 0, 0)])]), ([], []))
set_option maxRecDepth 100000 in
theorem l_ta58 (g : GG) : LOK Yt (PSt g) t_ta58 := by
  intro ρ α Γ M as hT hB hA hP
  have g0 : Γ (α 0) = 54 := tyAt hA (i := 0) rfl
  have g1 : Γ (α 1) = 17 := tyAt hA (i := 1) rfl
  have b2 : -2147483648 ≤ ρ 2 ∧ ρ 2 ≤ 2147483647 := hB 2
  have h0 : Γ (α 0) = 54 ∧ ∃ b, M.2.2.2.1 (α 0) 3 = some b ∧ Γ b = 17 ∧ M.2.2.2.2 b 0 ≤ (g.2.1 : Int) + (ρ 2 + 0) := hP _ (List.mem_of_getElem? (i := 0) rfl)
  have h1 : 0 ≤ (3 : Int) ∧ M.2.2.2.1 (α 0) (3 : Int).toNat = some (α 1) := hP _ (List.mem_of_getElem? (i := 1) rfl)
  try simp only [Int.add_zero] at h0 h1
  have key : (Γ (α 1) = 17 ∧ M.2.2.2.2 (α 1) 0 ≤ (g.2.1 : Int) + (ρ 2 + 0)) ∧ True := by
    try simp only [Int.add_zero]
    obtain ⟨-, b, h2, h3, h4⟩ := h0
    have e : M.2.2.2.1 (α 0) 3 = some (α 1) := h1.2
    rw [e] at h2
    cases h2
    exact ⟨⟨h3, h4⟩, trivial⟩
  exact ⟨nB, qB (key.1) (nB)⟩
def t_tb58 : KT := ((0, 0, 0, 0), [(2, 0, 54, 0), (2, 1, 17, 0), (1, 2, 0, 0)], [(0, 0), (0, 0), (-2147483648, 2147483647)], [(77, [(2, 1, 17, 0), (1, 2, 0, 0)]), (11, [(2, 0, 54, 0), (0, 0, 0, 3), (2, 1, 17, 0)])], (0, 0, 0), [], [], ([], [(58, [(2, 0, 54, 0), (1, 2, 0, 0)])]), ([], []))
set_option maxRecDepth 100000 in
theorem l_tb58 (g : GG) : LOK Yt (PSt g) t_tb58 := by
  intro ρ α Γ M as hT hB hA hP
  have g0 : Γ (α 0) = 54 := tyAt hA (i := 0) rfl
  have g1 : Γ (α 1) = 17 := tyAt hA (i := 1) rfl
  have b2 : -2147483648 ≤ ρ 2 ∧ ρ 2 ≤ 2147483647 := hB 2
  have h0 : Γ (α 1) = 17 ∧ M.2.2.2.2 (α 1) 0 ≤ (g.2.1 : Int) + (ρ 2 + 0) := hP _ (List.mem_of_getElem? (i := 0) rfl)
  have h1 : 0 ≤ (3 : Int) ∧ M.2.2.2.1 (α 0) (3 : Int).toNat = some (α 1) := hP _ (List.mem_of_getElem? (i := 1) rfl)
  try simp only [Int.add_zero] at h0 h1
  have key : (Γ (α 0) = 54 ∧ ∃ b, M.2.2.2.1 (α 0) 3 = some b ∧ Γ b = 17 ∧ M.2.2.2.2 b 0 ≤ (g.2.1 : Int) + (ρ 2 + 0)) ∧ True := by
    try simp only [Int.add_zero]
    exact ⟨⟨g0, α 1, h1.2, h0.1, h0.2⟩, trivial⟩
  exact ⟨nB, qB (key.1) (nB)⟩
def t_up58 : KT := ((0, 0, 0, 0), [(2, 0, 54, 0), (1, 1, 0, 0)], [(0, 0), (-2147483648, 2147483647)], [(58, [(2, 0, 54, 0), (1, 1, 0, -1)])], (0, 0, 0), [], [], ([], [(58, [(2, 0, 54, 0), (1, 1, 0, 0)])]), ([], []))
set_option maxRecDepth 100000 in
theorem l_up58 (g : GG) : LOK Yt (PSt g) t_up58 := by
  intro ρ α Γ M as hT hB hA hP
  have g0 : Γ (α 0) = 54 := tyAt hA (i := 0) rfl
  have b1 : -2147483648 ≤ ρ 1 ∧ ρ 1 ≤ 2147483647 := hB 1
  have h0 : Γ (α 0) = 54 ∧ ∃ b, M.2.2.2.1 (α 0) 3 = some b ∧ Γ b = 17 ∧ M.2.2.2.2 b 0 ≤ (g.2.1 : Int) + (ρ 1 + (-1)) := hP _ (List.mem_of_getElem? (i := 0) rfl)
  try simp only [Int.add_zero] at h0
  have key : (Γ (α 0) = 54 ∧ ∃ b, M.2.2.2.1 (α 0) 3 = some b ∧ Γ b = 17 ∧ M.2.2.2.2 b 0 ≤ (g.2.1 : Int) + (ρ 1 + 0)) ∧ True := by
    try simp only [Int.add_zero]
    obtain ⟨-, b, h2, h3, h4⟩ := h0
    exact ⟨⟨g0, b, h2, h3, by omega⟩, trivial⟩
  exact ⟨nB, qB (key.1) (nB)⟩
def t_w58 : KT := ((0, 0, 0, 0), [(2, 0, 54, 0), (1, 1, 0, 0)], [(0, 0), (0, 150)], [(58, [(2, 0, 54, 0), (1, 1, 0, 0)])], (0, 0, 0), [], [], ([], [(58, [(2, 0, 54, 0), (0, 0, 0, 150)])]), ([], []))
set_option maxRecDepth 100000 in
theorem l_w58 (g : GG) : LOK Yt (PSt g) t_w58 := by
  intro ρ α Γ M as hT hB hA hP
  have g0 : Γ (α 0) = 54 := tyAt hA (i := 0) rfl
  have b1 : 0 ≤ ρ 1 ∧ ρ 1 ≤ 150 := hB 1
  have h0 : Γ (α 0) = 54 ∧ ∃ b, M.2.2.2.1 (α 0) 3 = some b ∧ Γ b = 17 ∧ M.2.2.2.2 b 0 ≤ (g.2.1 : Int) + (ρ 1 + 0) := hP _ (List.mem_of_getElem? (i := 0) rfl)
  try simp only [Int.add_zero] at h0
  have key : (Γ (α 0) = 54 ∧ ∃ b, M.2.2.2.1 (α 0) 3 = some b ∧ Γ b = 17 ∧ M.2.2.2.2 b 0 ≤ (g.2.1 : Int) + (150)) ∧ True := by
    try simp only [Int.add_zero]
    obtain ⟨-, b, h2, h3, h4⟩ := h0
    exact ⟨⟨g0, b, h2, h3, by omega⟩, trivial⟩
  exact ⟨nB, qB (key.1) (nB)⟩
def t_ta79 : KT := ((0, 0, 0, 0), [(2, 0, 54, 0), (2, 1, 38, 0), (2, 2, 1, 0), (1, 3, 0, 0)], [(0, 0), (0, 0), (0, 0), (0, 143)], [(2, [(2, 2, 1, 0), (1, 3, 0, 0)]), (11, [(2, 0, 54, 0), (0, 0, 0, 0), (2, 1, 38, 0)]), (11, [(2, 1, 38, 0), (0, 0, 0, 0), (2, 2, 1, 0)])], (0, 0, 0), [], [], ([], [(79, [(2, 0, 54, 0), (1, 3, 0, 0)])]), ([], []))
set_option maxRecDepth 100000 in
theorem l_ta79 (g : GG) : LOK Yt (PSt g) t_ta79 := by
  intro ρ α Γ M as hT hB hA hP
  have g0 : Γ (α 0) = 54 := tyAt hA (i := 0) rfl
  have g1 : Γ (α 1) = 38 := tyAt hA (i := 1) rfl
  have g2 : Γ (α 2) = 1 := tyAt hA (i := 2) rfl
  have b3 : 0 ≤ ρ 3 ∧ ρ 3 ≤ 143 := hB 3
  have h0 : Γ (α 2) = 1 ∧ 0 ≤ ρ 3 + 0 ∧ ρ 3 + 0 < M.2.2.2.2 (α 2) 0 * M.2.2.2.2 (α 2) 1 := hP _ (List.mem_of_getElem? (i := 0) rfl)
  have h1 : 0 ≤ (0 : Int) ∧ M.2.2.2.1 (α 0) (0 : Int).toNat = some (α 1) := hP _ (List.mem_of_getElem? (i := 1) rfl)
  have h2 : 0 ≤ (0 : Int) ∧ M.2.2.2.1 (α 1) (0 : Int).toNat = some (α 2) := hP _ (List.mem_of_getElem? (i := 2) rfl)
  try simp only [Int.add_zero] at h0 h1 h2
  have key : (Γ (α 0) = 54 ∧ ∃ w, M.2.2.2.1 (α 0) 0 = some w ∧ Γ w = 38 ∧ ∃ c, M.2.2.2.1 w 0 = some c ∧ Γ c = 1 ∧ isPx (M.2.2.2.2 c 0) (M.2.2.2.2 c 1) (ρ 3 + 0)) ∧ True := by
    try simp only [Int.add_zero]
    exact ⟨⟨g0, α 1, h1.2, g1, α 2, h2.2, g2, h0.2⟩, trivial⟩
  exact ⟨nB, qB (key.1) (nB)⟩
def t_tb79 : KT := ((0, 0, 0, 0), [(2, 0, 54, 0), (2, 1, 38, 0), (2, 2, 1, 0), (1, 3, 0, 0)], [(0, 0), (0, 0), (0, 0), (0, 143)], [(79, [(2, 0, 54, 0), (1, 3, 0, 0)]), (11, [(2, 0, 54, 0), (0, 0, 0, 0), (2, 1, 38, 0)]), (11, [(2, 1, 38, 0), (0, 0, 0, 0), (2, 2, 1, 0)])], (0, 0, 0), [], [], ([], [(2, [(2, 2, 1, 0), (1, 3, 0, 0)])]), ([], []))
set_option maxRecDepth 100000 in
theorem l_tb79 (g : GG) : LOK Yt (PSt g) t_tb79 := by
  intro ρ α Γ M as hT hB hA hP
  have g0 : Γ (α 0) = 54 := tyAt hA (i := 0) rfl
  have g1 : Γ (α 1) = 38 := tyAt hA (i := 1) rfl
  have g2 : Γ (α 2) = 1 := tyAt hA (i := 2) rfl
  have b3 : 0 ≤ ρ 3 ∧ ρ 3 ≤ 143 := hB 3
  have h0 : Γ (α 0) = 54 ∧ ∃ w, M.2.2.2.1 (α 0) 0 = some w ∧ Γ w = 38 ∧ ∃ c, M.2.2.2.1 w 0 = some c ∧ Γ c = 1 ∧ isPx (M.2.2.2.2 c 0) (M.2.2.2.2 c 1) (ρ 3 + 0) := hP _ (List.mem_of_getElem? (i := 0) rfl)
  have h1 : 0 ≤ (0 : Int) ∧ M.2.2.2.1 (α 0) (0 : Int).toNat = some (α 1) := hP _ (List.mem_of_getElem? (i := 1) rfl)
  have h2 : 0 ≤ (0 : Int) ∧ M.2.2.2.1 (α 1) (0 : Int).toNat = some (α 2) := hP _ (List.mem_of_getElem? (i := 2) rfl)
  try simp only [Int.add_zero] at h0 h1 h2
  have key : (Γ (α 2) = 1 ∧ 0 ≤ ρ 3 + 0 ∧ ρ 3 + 0 < M.2.2.2.2 (α 2) 0 * M.2.2.2.2 (α 2) 1) ∧ True := by
    try simp only [Int.add_zero]
    obtain ⟨-, w, x1, x2, c, x3, x4, x5⟩ := h0
    have e : M.2.2.2.1 (α 0) 0 = some (α 1) := h1.2
    rw [e] at x1
    cases x1
    have e : M.2.2.2.1 (α 1) 0 = some (α 2) := h2.2
    rw [e] at x3
    cases x3
    exact ⟨⟨g2, x5⟩, trivial⟩
  exact ⟨nB, qB (key.1) (nB)⟩
def t_nt1 : KT := ((0, 0, 0, 0), [(2, 0, 17, 0), (1, 1, 0, 0), (1, 2, 0, 0)], [(0, 0), (0, 1000), (0, 2147483647)], [(59, [(1, 2, 0, -1), (1, 1, 0, 0)]), (10, [(2, 0, 17, 0), (0, 0, 0, 0), (1, 2, 0, 0)])], (0, 0, 0), [], [], ([], [(77, [(2, 0, 17, 0), (1, 1, 0, 1)])]), ([], []))
set_option maxRecDepth 100000 in
theorem l_nt1 (g : GG) : LOK Yt (PSt g) t_nt1 := by
  intro ρ α Γ M as hT hB hA hP
  have g0 : Γ (α 0) = 17 := tyAt hA (i := 0) rfl
  have b1 : 0 ≤ ρ 1 ∧ ρ 1 ≤ 1000 := hB 1
  have b2 : 0 ≤ ρ 2 ∧ ρ 2 ≤ 2147483647 := hB 2
  have h0 : ρ 2 + (-1) ≤ (g.2.1 : Int) + (ρ 1 + 0) := hP _ (List.mem_of_getElem? (i := 0) rfl)
  have h1 : 0 ≤ (0 : Int) ∧ M.2.2.2.2 (α 0) (0 : Int).toNat = ρ 2 + 0 := hP _ (List.mem_of_getElem? (i := 1) rfl)
  try simp only [Int.add_zero] at h0 h1
  have key : (Γ (α 0) = 17 ∧ M.2.2.2.2 (α 0) 0 ≤ (g.2.1 : Int) + (ρ 1 + 1)) ∧ True := by
    try simp only [Int.add_zero]
    have e : M.2.2.2.2 (α 0) 0 = ρ 2 := h1.2
    exact ⟨⟨g0, by omega⟩, trivial⟩
  exact ⟨nB, qB (key.1) (nB)⟩
def t_sol : KT := ((0, 0, 0, 0), [(1, 0, 0, 0)], [(-2147483648, 1)], [], (0, 0, 0), [], [], ([], [(440, [(1, 0, 0, 0), (0, 0, 0, 2), (0, 0, 0, 12)])]), ([], []))
set_option maxRecDepth 100000 in
theorem l_sol (g : GG) : LOK Yt (PSt g) t_sol := by
  intro ρ α Γ M as hT hB hA hP
  have b0 : -2147483648 ≤ ρ 0 ∧ ρ 0 ≤ 1 := hB 0
  have key : ((ρ 0 + 0) < 2 ∨ 12 < (ρ 0 + 0)) ∧ True := by
    try simp only [Int.add_zero]
    exact ⟨Or.inl (by omega), trivial⟩
  exact ⟨nB, qB (key.1) (nB)⟩
def t_soh : KT := ((0, 0, 0, 0), [(1, 0, 0, 0)], [(13, 2147483647)], [], (0, 0, 0), [], [], ([], [(440, [(1, 0, 0, 0), (0, 0, 0, 2), (0, 0, 0, 12)])]), ([], []))
set_option maxRecDepth 100000 in
theorem l_soh (g : GG) : LOK Yt (PSt g) t_soh := by
  intro ρ α Γ M as hT hB hA hP
  have b0 : 13 ≤ ρ 0 ∧ ρ 0 ≤ 2147483647 := hB 0
  have key : ((ρ 0 + 0) < 2 ∨ 12 < (ρ 0 + 0)) ∧ True := by
    try simp only [Int.add_zero]
    exact ⟨Or.inr (by omega), trivial⟩
  exact ⟨nB, qB (key.1) (nB)⟩
def t_srl : KT := ((0, 0, 0, 0), [(1, 0, 0, 0)], [(-2147483648, -1000)], [], (0, 0, 0), [], [], ([], [(440, [(1, 0, 0, 0), (0, 0, 0, -999), (0, 0, 0, 999)])]), ([], []))
set_option maxRecDepth 100000 in
theorem l_srl (g : GG) : LOK Yt (PSt g) t_srl := by
  intro ρ α Γ M as hT hB hA hP
  have b0 : -2147483648 ≤ ρ 0 ∧ ρ 0 ≤ -1000 := hB 0
  have key : ((ρ 0 + 0) < (-999) ∨ 999 < (ρ 0 + 0)) ∧ True := by
    try simp only [Int.add_zero]
    exact ⟨Or.inl (by omega), trivial⟩
  exact ⟨nB, qB (key.1) (nB)⟩
def t_srh : KT := ((0, 0, 0, 0), [(1, 0, 0, 0)], [(1000, 2147483647)], [], (0, 0, 0), [], [], ([], [(440, [(1, 0, 0, 0), (0, 0, 0, -999), (0, 0, 0, 999)])]), ([], []))
set_option maxRecDepth 100000 in
theorem l_srh (g : GG) : LOK Yt (PSt g) t_srh := by
  intro ρ α Γ M as hT hB hA hP
  have b0 : 1000 ≤ ρ 0 ∧ ρ 0 ≤ 2147483647 := hB 0
  have key : ((ρ 0 + 0) < (-999) ∨ 999 < (ρ 0 + 0)) ∧ True := by
    try simp only [Int.add_zero]
    exact ⟨Or.inr (by omega), trivial⟩
  exact ⟨nB, qB (key.1) (nB)⟩
def t_snl : KT := ((0, 0, 0, 0), [(1, 0, 0, 0)], [(-2147483648, 0)], [], (0, 0, 0), [], [], ([], [(440, [(1, 0, 0, 0), (0, 0, 0, 1), (0, 0, 0, 60)])]), ([], []))
set_option maxRecDepth 100000 in
theorem l_snl (g : GG) : LOK Yt (PSt g) t_snl := by
  intro ρ α Γ M as hT hB hA hP
  have b0 : -2147483648 ≤ ρ 0 ∧ ρ 0 ≤ 0 := hB 0
  have key : ((ρ 0 + 0) < 1 ∨ 60 < (ρ 0 + 0)) ∧ True := by
    try simp only [Int.add_zero]
    exact ⟨Or.inl (by omega), trivial⟩
  exact ⟨nB, qB (key.1) (nB)⟩
def t_snh : KT := ((0, 0, 0, 0), [(1, 0, 0, 0)], [(61, 2147483647)], [], (0, 0, 0), [], [], ([], [(440, [(1, 0, 0, 0), (0, 0, 0, 1), (0, 0, 0, 60)])]), ([], []))
set_option maxRecDepth 100000 in
theorem l_snh (g : GG) : LOK Yt (PSt g) t_snh := by
  intro ρ α Γ M as hT hB hA hP
  have b0 : 61 ≤ ρ 0 ∧ ρ 0 ≤ 2147483647 := hB 0
  have key : ((ρ 0 + 0) < 1 ∨ 60 < (ρ 0 + 0)) ∧ True := by
    try simp only [Int.add_zero]
    exact ⟨Or.inr (by omega), trivial⟩
  exact ⟨nB, qB (key.1) (nB)⟩
def t_soa : KT := ((0, 0, 0, 0), [(1, 0, 0, 0), (1, 1, 0, 0)], [(-2147483648, 2147483647), (-2147483648, 2147483647)], [(440, [(1, 0, 0, 0), (0, 0, 0, 2), (0, 0, 0, 12)])], (0, 0, 0), [], [], ([], [(441, [(1, 0, 0, 0), (1, 1, 0, 0), (0, 0, 0, 2), (0, 0, 0, 12)])]), ([], []))
set_option maxRecDepth 100000 in
theorem l_soa (g : GG) : LOK Yt (PSt g) t_soa := by
  intro ρ α Γ M as hT hB hA hP
  have b0 : -2147483648 ≤ ρ 0 ∧ ρ 0 ≤ 2147483647 := hB 0
  have b1 : -2147483648 ≤ ρ 1 ∧ ρ 1 ≤ 2147483647 := hB 1
  have h0 : (ρ 0 + 0) < 2 ∨ 12 < (ρ 0 + 0) := hP _ (List.mem_of_getElem? (i := 0) rfl)
  try simp only [Int.add_zero] at h0
  have key : (((ρ 0 + 0) < 2 ∨ 12 < (ρ 0 + 0)) ∨ ((ρ 1 + 0) < 2 ∨ 12 < (ρ 1 + 0))) ∧ True := by
    try simp only [Int.add_zero]
    exact ⟨Or.inl h0, trivial⟩
  exact ⟨nB, qB (key.1) (nB)⟩
def t_sob : KT := ((0, 0, 0, 0), [(1, 0, 0, 0), (1, 1, 0, 0)], [(-2147483648, 2147483647), (-2147483648, 2147483647)], [(440, [(1, 1, 0, 0), (0, 0, 0, 2), (0, 0, 0, 12)])], (0, 0, 0), [], [], ([], [(441, [(1, 0, 0, 0), (1, 1, 0, 0), (0, 0, 0, 2), (0, 0, 0, 12)])]), ([], []))
set_option maxRecDepth 100000 in
theorem l_sob (g : GG) : LOK Yt (PSt g) t_sob := by
  intro ρ α Γ M as hT hB hA hP
  have b0 : -2147483648 ≤ ρ 0 ∧ ρ 0 ≤ 2147483647 := hB 0
  have b1 : -2147483648 ≤ ρ 1 ∧ ρ 1 ≤ 2147483647 := hB 1
  have h0 : (ρ 1 + 0) < 2 ∨ 12 < (ρ 1 + 0) := hP _ (List.mem_of_getElem? (i := 0) rfl)
  try simp only [Int.add_zero] at h0
  have key : (((ρ 0 + 0) < 2 ∨ 12 < (ρ 0 + 0)) ∨ ((ρ 1 + 0) < 2 ∨ 12 < (ρ 1 + 0))) ∧ True := by
    try simp only [Int.add_zero]
    exact ⟨Or.inr h0, trivial⟩
  exact ⟨nB, qB (key.1) (nB)⟩
def t_sra : KT := ((0, 0, 0, 0), [(1, 0, 0, 0), (1, 1, 0, 0)], [(-2147483648, 2147483647), (-2147483648, 2147483647)], [(440, [(1, 0, 0, 0), (0, 0, 0, -999), (0, 0, 0, 999)])], (0, 0, 0), [], [], ([], [(441, [(1, 0, 0, 0), (1, 1, 0, 0), (0, 0, 0, -999), (0, 0, 0, 999)])]), ([], []))
set_option maxRecDepth 100000 in
theorem l_sra (g : GG) : LOK Yt (PSt g) t_sra := by
  intro ρ α Γ M as hT hB hA hP
  have b0 : -2147483648 ≤ ρ 0 ∧ ρ 0 ≤ 2147483647 := hB 0
  have b1 : -2147483648 ≤ ρ 1 ∧ ρ 1 ≤ 2147483647 := hB 1
  have h0 : (ρ 0 + 0) < (-999) ∨ 999 < (ρ 0 + 0) := hP _ (List.mem_of_getElem? (i := 0) rfl)
  try simp only [Int.add_zero] at h0
  have key : (((ρ 0 + 0) < (-999) ∨ 999 < (ρ 0 + 0)) ∨ ((ρ 1 + 0) < (-999) ∨ 999 < (ρ 1 + 0))) ∧ True := by
    try simp only [Int.add_zero]
    exact ⟨Or.inl h0, trivial⟩
  exact ⟨nB, qB (key.1) (nB)⟩
def t_srb : KT := ((0, 0, 0, 0), [(1, 0, 0, 0), (1, 1, 0, 0)], [(-2147483648, 2147483647), (-2147483648, 2147483647)], [(440, [(1, 1, 0, 0), (0, 0, 0, -999), (0, 0, 0, 999)])], (0, 0, 0), [], [], ([], [(441, [(1, 0, 0, 0), (1, 1, 0, 0), (0, 0, 0, -999), (0, 0, 0, 999)])]), ([], []))
set_option maxRecDepth 100000 in
theorem l_srb (g : GG) : LOK Yt (PSt g) t_srb := by
  intro ρ α Γ M as hT hB hA hP
  have b0 : -2147483648 ≤ ρ 0 ∧ ρ 0 ≤ 2147483647 := hB 0
  have b1 : -2147483648 ≤ ρ 1 ∧ ρ 1 ≤ 2147483647 := hB 1
  have h0 : (ρ 1 + 0) < (-999) ∨ 999 < (ρ 1 + 0) := hP _ (List.mem_of_getElem? (i := 0) rfl)
  try simp only [Int.add_zero] at h0
  have key : (((ρ 0 + 0) < (-999) ∨ 999 < (ρ 0 + 0)) ∨ ((ρ 1 + 0) < (-999) ∨ 999 < (ρ 1 + 0))) ∧ True := by
    try simp only [Int.add_zero]
    exact ⟨Or.inr h0, trivial⟩
  exact ⟨nB, qB (key.1) (nB)⟩
def t_lg1k : KT := ((0, 0, 0, 0), [(2, 0, 17, 0), (1, 1, 0, 0)], [(0, 0), (-2147483648, 2147483647)], [(431, [(2, 0, 17, 0), (0, 0, 0, 0)]), (10, [(2, 0, 17, 0), (0, 0, 0, 0), (1, 1, 0, 0)])], (0, 0, 0), [], [], ([], [(59, [(1, 1, 0, 0), (0, 0, 0, 0)])]), ([], []))
set_option maxRecDepth 100000 in
theorem l_lg1k (g : GG) : LOK Yt (PSt g) t_lg1k := by
  intro ρ α Γ M as hT hB hA hP
  have g0 : Γ (α 0) = 17 := tyAt hA (i := 0) rfl
  have b1 : -2147483648 ≤ ρ 1 ∧ ρ 1 ≤ 2147483647 := hB 1
  have h0 : (Γ (α 0) = 17 ∨ Γ (α 0) = 77) ∧ M.2.2.2.2 (α 0) 0 ≤ (g.2.1 : Int) + (0) := hP _ (List.mem_of_getElem? (i := 0) rfl)
  have h1 : 0 ≤ (0 : Int) ∧ M.2.2.2.2 (α 0) (0 : Int).toNat = ρ 1 + 0 := hP _ (List.mem_of_getElem? (i := 1) rfl)
  try simp only [Int.add_zero] at h0 h1
  have key : (ρ 1 + 0 ≤ (g.2.1 : Int) + (0)) ∧ True := by
    try simp only [Int.add_zero]
    have e : M.2.2.2.2 (α 0) 0 = ρ 1 := h1.2
    exact ⟨by have := h0.2; omega, trivial⟩
  exact ⟨nB, qB (key.1) (nB)⟩
def t_lg2k : KT := ((0, 0, 0, 0), [(2, 0, 77, 0), (1, 1, 0, 0)], [(0, 0), (-2147483648, 2147483647)], [(59, [(1, 1, 0, 0), (0, 0, 0, 0)]), (10, [(2, 0, 77, 0), (0, 0, 0, 0), (1, 1, 0, 0)])], (0, 0, 0), [], [], ([], [(431, [(2, 0, 77, 0), (0, 0, 0, 0)])]), ([], []))
set_option maxRecDepth 100000 in
theorem l_lg2k (g : GG) : LOK Yt (PSt g) t_lg2k := by
  intro ρ α Γ M as hT hB hA hP
  have g0 : Γ (α 0) = 77 := tyAt hA (i := 0) rfl
  have b1 : -2147483648 ≤ ρ 1 ∧ ρ 1 ≤ 2147483647 := hB 1
  have h0 : ρ 1 + 0 ≤ (g.2.1 : Int) + (0) := hP _ (List.mem_of_getElem? (i := 0) rfl)
  have h1 : 0 ≤ (0 : Int) ∧ M.2.2.2.2 (α 0) (0 : Int).toNat = ρ 1 + 0 := hP _ (List.mem_of_getElem? (i := 1) rfl)
  try simp only [Int.add_zero] at h0 h1
  have key : ((Γ (α 0) = 17 ∨ Γ (α 0) = 77) ∧ M.2.2.2.2 (α 0) 0 ≤ (g.2.1 : Int) + (0)) ∧ True := by
    try simp only [Int.add_zero]
    have e : M.2.2.2.2 (α 0) 0 = ρ 1 := h1.2
    exact ⟨⟨Or.inr g0, by omega⟩, trivial⟩
  exact ⟨nB, qB (key.1) (nB)⟩
def t_lg1b : KT := ((0, 0, 0, 0), [(2, 0, 77, 0), (1, 1, 0, 0)], [(0, 0), (-2147483648, 2147483647)], [(431, [(2, 0, 77, 0), (0, 0, 0, 0)]), (10, [(2, 0, 77, 0), (0, 0, 0, 0), (1, 1, 0, 0)])], (0, 0, 0), [], [], ([], [(59, [(1, 1, 0, 0), (0, 0, 0, 0)])]), ([], []))
set_option maxRecDepth 100000 in
theorem l_lg1b (g : GG) : LOK Yt (PSt g) t_lg1b := by
  intro ρ α Γ M as hT hB hA hP
  have g0 : Γ (α 0) = 77 := tyAt hA (i := 0) rfl
  have b1 : -2147483648 ≤ ρ 1 ∧ ρ 1 ≤ 2147483647 := hB 1
  have h0 : (Γ (α 0) = 17 ∨ Γ (α 0) = 77) ∧ M.2.2.2.2 (α 0) 0 ≤ (g.2.1 : Int) + (0) := hP _ (List.mem_of_getElem? (i := 0) rfl)
  have h1 : 0 ≤ (0 : Int) ∧ M.2.2.2.2 (α 0) (0 : Int).toNat = ρ 1 + 0 := hP _ (List.mem_of_getElem? (i := 1) rfl)
  try simp only [Int.add_zero] at h0 h1
  have key : (ρ 1 + 0 ≤ (g.2.1 : Int) + (0)) ∧ True := by
    try simp only [Int.add_zero]
    have e : M.2.2.2.2 (α 0) 0 = ρ 1 := h1.2
    exact ⟨by have := h0.2; omega, trivial⟩
  exact ⟨nB, qB (key.1) (nB)⟩
def t_lg2b : KT := ((0, 0, 0, 0), [(2, 0, 17, 0), (1, 1, 0, 0)], [(0, 0), (-2147483648, 2147483647)], [(59, [(1, 1, 0, 0), (0, 0, 0, 0)]), (10, [(2, 0, 17, 0), (0, 0, 0, 0), (1, 1, 0, 0)])], (0, 0, 0), [], [], ([], [(431, [(2, 0, 17, 0), (0, 0, 0, 0)])]), ([], []))
set_option maxRecDepth 100000 in
theorem l_lg2b (g : GG) : LOK Yt (PSt g) t_lg2b := by
  intro ρ α Γ M as hT hB hA hP
  have g0 : Γ (α 0) = 17 := tyAt hA (i := 0) rfl
  have b1 : -2147483648 ≤ ρ 1 ∧ ρ 1 ≤ 2147483647 := hB 1
  have h0 : ρ 1 + 0 ≤ (g.2.1 : Int) + (0) := hP _ (List.mem_of_getElem? (i := 0) rfl)
  have h1 : 0 ≤ (0 : Int) ∧ M.2.2.2.2 (α 0) (0 : Int).toNat = ρ 1 + 0 := hP _ (List.mem_of_getElem? (i := 1) rfl)
  try simp only [Int.add_zero] at h0 h1
  have key : ((Γ (α 0) = 17 ∨ Γ (α 0) = 77) ∧ M.2.2.2.2 (α 0) 0 ≤ (g.2.1 : Int) + (0)) ∧ True := by
    try simp only [Int.add_zero]
    have e : M.2.2.2.2 (α 0) 0 = ρ 1 := h1.2
    exact ⟨⟨Or.inl g0, by omega⟩, trivial⟩
  exact ⟨nB, qB (key.1) (nB)⟩
def t_gs0 : KT := ((0, 0, 0, 0), [(1, 0, 0, 0), (1, 1, 0, 0)], [(0, 0), (0, 0)], [], (0, 0, 0), [], [], ([], [(19, [(1, 0, 0, 0), (1, 1, 0, 0)])]), ([], []))
set_option maxRecDepth 100000 in
theorem l_gs0 (g : GG) : LOK Yt (PSt g) t_gs0 := by
  intro ρ α Γ M as hT hB hA hP
  have b0 : 0 ≤ ρ 0 ∧ ρ 0 ≤ 0 := hB 0
  have b1 : 0 ≤ ρ 1 ∧ ρ 1 ≤ 0 := hB 1
  have key : (0 ≤ (ρ 0 + 0) ∧ (ρ 0 + 0) ≤ 127 * (ρ 1 + 0)) ∧ True := by
    try simp only [Int.add_zero]
    exact ⟨⟨by omega, by omega⟩, trivial⟩
  exact ⟨nB, qB (key.1) (nB)⟩
def t_gs1 : KT := ((0, 0, 0, 0), [(1, 0, 0, 0), (1, 1, 0, 0), (1, 2, 0, 0), (1, 3, 0, 0)], [(-2147483648, 2147483647), (0, 127), (-2147483648, 2147483647), (0, 4)], [(19, [(1, 0, 0, 0), (1, 3, 0, 0)]), (23, [(1, 0, 0, 0), (1, 1, 0, 0), (1, 2, 0, 0)])], (0, 0, 0), [], [], ([(2, 0, 635)], [(19, [(1, 2, 0, 0), (1, 3, 0, 1)])]), ([], []))
set_option maxRecDepth 100000 in
theorem l_gs1 (g : GG) : LOK Yt (PSt g) t_gs1 := by
  intro ρ α Γ M as hT hB hA hP
  have b0 : -2147483648 ≤ ρ 0 ∧ ρ 0 ≤ 2147483647 := hB 0
  have b1 : 0 ≤ ρ 1 ∧ ρ 1 ≤ 127 := hB 1
  have b2 : -2147483648 ≤ ρ 2 ∧ ρ 2 ≤ 2147483647 := hB 2
  have b3 : 0 ≤ ρ 3 ∧ ρ 3 ≤ 4 := hB 3
  have h0 : 0 ≤ (ρ 0 + 0) ∧ (ρ 0 + 0) ≤ 127 * (ρ 3 + 0) := hP _ (List.mem_of_getElem? (i := 0) rfl)
  have h1 : ρ 2 + 0 = wI ((ρ 0 + 0) + (ρ 1 + 0)) := hP _ (List.mem_of_getElem? (i := 1) rfl)
  try simp only [Int.add_zero] at h0 h1
  have key : (0 ≤ ρ 2 ∧ ρ 2 ≤ 635) ∧ (0 ≤ (ρ 2 + 0) ∧ (ρ 2 + 0) ≤ 127 * (ρ 3 + 1)) ∧ True := by
    try simp only [Int.add_zero]
    rw [wI_id (by unfold inI; omega)] at h1
    exact ⟨⟨by omega, by omega⟩, ⟨by omega, by omega⟩, trivial⟩
  exact ⟨qB (key.1) (nB), qB (key.2.1) (nB)⟩
def t_gsb : KT := ((0, 0, 0, 0), [(1, 0, 0, 0), (1, 1, 0, 0)], [(-2147483648, 2147483647), (0, 4)], [(19, [(1, 0, 0, 0), (1, 1, 0, 0)])], (0, 0, 0), [], [], ([(0, 0, 508)], []), ([], []))
set_option maxRecDepth 100000 in
theorem l_gsb (g : GG) : LOK Yt (PSt g) t_gsb := by
  intro ρ α Γ M as hT hB hA hP
  have b0 : -2147483648 ≤ ρ 0 ∧ ρ 0 ≤ 2147483647 := hB 0
  have b1 : 0 ≤ ρ 1 ∧ ρ 1 ≤ 4 := hB 1
  have h0 : 0 ≤ (ρ 0 + 0) ∧ (ρ 0 + 0) ≤ 127 * (ρ 1 + 0) := hP _ (List.mem_of_getElem? (i := 0) rfl)
  try simp only [Int.add_zero] at h0
  have key : (0 ≤ ρ 0 ∧ ρ 0 ≤ 508) ∧ True := by
    try simp only [Int.add_zero]
    exact ⟨⟨by omega, by omega⟩, trivial⟩
  exact ⟨qB (key.1) (nB), nB⟩
def t_wa0 : KT := ((0, 0, 0, 0), [(2, 0, 19, 0), (1, 1, 0, 0), (1, 2, 0, 0), (1, 3, 0, 0)], [(0, 0), (-2147483648, 2147483647), (0, 396), (-2147483648, 2147483647)], [(455, [(2, 0, 19, 0), (1, 2, 0, 0)]), (10, [(2, 0, 19, 0), (0, 0, 0, 0), (1, 1, 0, 0)]), (471, [(2, 0, 19, 0), (1, 2, 0, 0)]), (472, [(1, 3, 0, 0), (1, 2, 0, 0)])], (0, 0, 0), [], [], ([(1, 0, 396)], [(471, [(2, 0, 19, 0), (1, 1, 0, 0)]), (472, [(1, 3, 0, 0), (1, 1, 0, 0)]), (476, [(1, 1, 0, 0), (1, 2, 0, 0)])]), ([], []))
set_option maxRecDepth 100000 in
theorem l_wa0 (g : GG) : LOK Yt (PSt g) t_wa0 := by
  intro ρ α Γ M as hT hB hA hP
  have g0 : Γ (α 0) = 19 := tyAt hA (i := 0) rfl
  have b1 : -2147483648 ≤ ρ 1 ∧ ρ 1 ≤ 2147483647 := hB 1
  have b2 : 0 ≤ ρ 2 ∧ ρ 2 ≤ 396 := hB 2
  have b3 : -2147483648 ≤ ρ 3 ∧ ρ 3 ≤ 2147483647 := hB 3
  have h0 : Γ (α 0) = 19 ∧ tyO Γ M (α 0) [] ∧ Q455 g  (clp [(0, 1)] (M.2.2.2.2 (α 0))) (ρ 2 + 0) := hP _ (List.mem_of_getElem? (i := 0) rfl)
  have h1 : 0 ≤ (0 : Int) ∧ M.2.2.2.2 (α 0) (0 : Int).toNat = ρ 1 + 0 := hP _ (List.mem_of_getElem? (i := 1) rfl)
  have h2 : Γ (α 0) = 19 ∧ tyO Γ M (α 0) [(3, 20, [(0, 400)])] ∧ Q471 g (vw M (α 0) 3 [(0, 400)]) (clp [] (M.2.2.2.2 (α 0))) (ρ 2 + 0) := hP _ (List.mem_of_getElem? (i := 2) rfl)
  have h3 : 0 ≤ (ρ 2 + 0 : Int) ∧ ∀ r : Nat, r < 4 → tqB g ((ρ 2 + 0 : Int).toNat + r) = aNd (sHr (ρ 3 + 0) (24 - 8 * (r : Int))) 255 := hP _ (List.mem_of_getElem? (i := 3) rfl)
  try simp only [Int.add_zero] at h0 h1 h2 h3
  have key : (0 ≤ ρ 1 ∧ ρ 1 ≤ 396) ∧ (Γ (α 0) = 19 ∧ tyO Γ M (α 0) [(3, 20, [(0, 400)])] ∧ Q471 g (vw M (α 0) 3 [(0, 400)]) (clp [] (M.2.2.2.2 (α 0))) (ρ 1 + 0)) ∧ (0 ≤ (ρ 1 + 0 : Int) ∧ ∀ r : Nat, r < 4 → tqB g ((ρ 1 + 0 : Int).toNat + r) = aNd (sHr (ρ 3 + 0) (24 - 8 * (r : Int))) 255) ∧ ((ρ 1 + 0 : Int) = ρ 2 + 0) ∧ True := by
    try simp only [Int.add_zero]
    obtain ⟨-, -, q⟩ := h0
    have q : M.2.2.2.2 (α 0) 0 = ρ 2 := q
    have e : M.2.2.2.2 (α 0) 0 = ρ 1 := h1.2
    have ew : ρ 1 = ρ 2 := by omega
    rw [ew]
    exact ⟨⟨by omega, by omega⟩, h2, h3, rfl, trivial⟩
  exact ⟨qB (key.1) (nB), qB (key.2.1) (qB (key.2.2.1) (qB (key.2.2.2.1) (nB)))⟩
def t_wa1_0 : KT := ((0, 0, 0, 0), [(2, 0, 19, 0), (2, 1, 20, 0), (1, 2, 0, 0), (1, 3, 0, 0), (1, 4, 0, 0), (1, 5, 0, 0)], [(0, 0), (0, 0), (-2147483648, 2147483647), (-2147483648, 2147483647), (-2147483648, 2147483647), (-2147483648, 2147483647)], [(471, [(2, 0, 19, 0), (1, 2, 0, 0)]), (11, [(2, 0, 19, 0), (0, 0, 0, 3), (2, 1, 20, 0)]), (472, [(1, 3, 0, 0), (1, 2, 0, 0)]), (81, [(1, 3, 0, 0), (0, 0, 0, 24), (1, 4, 0, 0)]), (82, [(1, 4, 0, 0), (0, 0, 0, 255), (1, 5, 0, 0)])], (0, 0, 0), [], [], ([], [(295, [(2, 1, 20, 0), (1, 2, 0, 0), (2, 0, 19, 0)]), (475, [(1, 5, 0, 0), (1, 2, 0, 0)])]), ([], []))
set_option maxRecDepth 100000 in
theorem l_wa1_0 (g : GG) : LOK Yt (PSt g) t_wa1_0 := by
  intro ρ α Γ M as hT hB hA hP
  have g0 : Γ (α 0) = 19 := tyAt hA (i := 0) rfl
  have g1 : Γ (α 1) = 20 := tyAt hA (i := 1) rfl
  have b2 : -2147483648 ≤ ρ 2 ∧ ρ 2 ≤ 2147483647 := hB 2
  have b3 : -2147483648 ≤ ρ 3 ∧ ρ 3 ≤ 2147483647 := hB 3
  have b4 : -2147483648 ≤ ρ 4 ∧ ρ 4 ≤ 2147483647 := hB 4
  have b5 : -2147483648 ≤ ρ 5 ∧ ρ 5 ≤ 2147483647 := hB 5
  have h0 : Γ (α 0) = 19 ∧ tyO Γ M (α 0) [(3, 20, [(0, 400)])] ∧ Q471 g (vw M (α 0) 3 [(0, 400)]) (clp [] (M.2.2.2.2 (α 0))) (ρ 2 + 0) := hP _ (List.mem_of_getElem? (i := 0) rfl)
  have h1 : 0 ≤ (3 : Int) ∧ M.2.2.2.1 (α 0) (3 : Int).toNat = some (α 1) := hP _ (List.mem_of_getElem? (i := 1) rfl)
  have h2 : 0 ≤ (ρ 2 + 0 : Int) ∧ ∀ r : Nat, r < 4 → tqB g ((ρ 2 + 0 : Int).toNat + r) = aNd (sHr (ρ 3 + 0) (24 - 8 * (r : Int))) 255 := hP _ (List.mem_of_getElem? (i := 2) rfl)
  have h3 : ρ 4 + 0 = sHr (ρ 3 + 0) (24) := hP _ (List.mem_of_getElem? (i := 3) rfl)
  have h4 : ρ 5 + 0 = aNd (ρ 4 + 0) (255) := hP _ (List.mem_of_getElem? (i := 4) rfl)
  try simp only [Int.add_zero] at h0 h1 h2 h3 h4
  have key : (Γ (α 0) = 19 ∧ M.2.2.2.1 (α 0) 3 = some (α 1) ∧ Γ (α 1) = 20 ∧ tyO Γ M (α 0) [] ∧ Q295 g (hcl [vi (ρ 2 + 0)] (clp [(0, 400)] (M.2.2.2.2 (α 1))))  (clp [] (M.2.2.2.2 (α 0))) (ρ 2 + 0)) ∧ (0 ≤ (ρ 2 + 0 : Int) ∧ ρ 5 + 0 = tqB g (ρ 2 + 0 : Int).toNat) ∧ True := by
    try simp only [Int.add_zero]
    have e3 : fl M (α 0) 3 = α 1 := fl_eq (show M.2.2.2.1 (α 0) 3 = some (α 1) from h1.2)
    obtain ⟨-, -, h⟩ := h0
    have h : ∀ j : Nat, (j : Int) < ρ 2 → clp [(0, 400)] (M.2.2.2.2 (fl M (α 0) 3)) j = tqB g j := h
    rw [e3] at h
    obtain ⟨h20, h2⟩ := h2
    refine ⟨⟨g0, h1.2, g1, fun _ h => absurd h List.not_mem_nil, fun j hj => ?_⟩, ⟨by omega, ?_⟩, trivial⟩
    · rw [hcl1 (by omega)]
      exact h j hj
    · have x : tqB g ((ρ 2).toNat + 0) = aNd (sHr (ρ 3) 24) 255 := h2 0 (by decide)
      rw [h4, h3, show (ρ 2).toNat = (ρ 2).toNat + 0 by omega, x]
  exact ⟨nB, qB (key.1) (qB (key.2.1) (nB))⟩
def t_wa1_1 : KT := ((0, 0, 0, 0), [(2, 0, 19, 0), (2, 1, 20, 0), (1, 2, 0, 0), (1, 3, 0, 0), (1, 4, 0, 0), (1, 5, 0, 0)], [(0, 0), (0, 0), (-2147483648, 2147483647), (-2147483648, 2147483647), (-2147483648, 2147483647), (-2147483648, 2147483647)], [(471, [(2, 0, 19, 0), (1, 2, 0, 1)]), (11, [(2, 0, 19, 0), (0, 0, 0, 3), (2, 1, 20, 0)]), (472, [(1, 3, 0, 0), (1, 2, 0, 0)]), (81, [(1, 3, 0, 0), (0, 0, 0, 16), (1, 4, 0, 0)]), (82, [(1, 4, 0, 0), (0, 0, 0, 255), (1, 5, 0, 0)])], (0, 0, 0), [], [], ([], [(295, [(2, 1, 20, 0), (1, 2, 0, 1), (2, 0, 19, 0)]), (475, [(1, 5, 0, 0), (1, 2, 0, 1)])]), ([], []))
set_option maxRecDepth 100000 in
theorem l_wa1_1 (g : GG) : LOK Yt (PSt g) t_wa1_1 := by
  intro ρ α Γ M as hT hB hA hP
  have g0 : Γ (α 0) = 19 := tyAt hA (i := 0) rfl
  have g1 : Γ (α 1) = 20 := tyAt hA (i := 1) rfl
  have b2 : -2147483648 ≤ ρ 2 ∧ ρ 2 ≤ 2147483647 := hB 2
  have b3 : -2147483648 ≤ ρ 3 ∧ ρ 3 ≤ 2147483647 := hB 3
  have b4 : -2147483648 ≤ ρ 4 ∧ ρ 4 ≤ 2147483647 := hB 4
  have b5 : -2147483648 ≤ ρ 5 ∧ ρ 5 ≤ 2147483647 := hB 5
  have h0 : Γ (α 0) = 19 ∧ tyO Γ M (α 0) [(3, 20, [(0, 400)])] ∧ Q471 g (vw M (α 0) 3 [(0, 400)]) (clp [] (M.2.2.2.2 (α 0))) (ρ 2 + 1) := hP _ (List.mem_of_getElem? (i := 0) rfl)
  have h1 : 0 ≤ (3 : Int) ∧ M.2.2.2.1 (α 0) (3 : Int).toNat = some (α 1) := hP _ (List.mem_of_getElem? (i := 1) rfl)
  have h2 : 0 ≤ (ρ 2 + 0 : Int) ∧ ∀ r : Nat, r < 4 → tqB g ((ρ 2 + 0 : Int).toNat + r) = aNd (sHr (ρ 3 + 0) (24 - 8 * (r : Int))) 255 := hP _ (List.mem_of_getElem? (i := 2) rfl)
  have h3 : ρ 4 + 0 = sHr (ρ 3 + 0) (16) := hP _ (List.mem_of_getElem? (i := 3) rfl)
  have h4 : ρ 5 + 0 = aNd (ρ 4 + 0) (255) := hP _ (List.mem_of_getElem? (i := 4) rfl)
  try simp only [Int.add_zero] at h0 h1 h2 h3 h4
  have key : (Γ (α 0) = 19 ∧ M.2.2.2.1 (α 0) 3 = some (α 1) ∧ Γ (α 1) = 20 ∧ tyO Γ M (α 0) [] ∧ Q295 g (hcl [vi (ρ 2 + 1)] (clp [(0, 400)] (M.2.2.2.2 (α 1))))  (clp [] (M.2.2.2.2 (α 0))) (ρ 2 + 1)) ∧ (0 ≤ (ρ 2 + 1 : Int) ∧ ρ 5 + 0 = tqB g (ρ 2 + 1 : Int).toNat) ∧ True := by
    try simp only [Int.add_zero]
    have e3 : fl M (α 0) 3 = α 1 := fl_eq (show M.2.2.2.1 (α 0) 3 = some (α 1) from h1.2)
    obtain ⟨-, -, h⟩ := h0
    have h : ∀ j : Nat, (j : Int) < ρ 2 + 1 → clp [(0, 400)] (M.2.2.2.2 (fl M (α 0) 3)) j = tqB g j := h
    rw [e3] at h
    obtain ⟨h20, h2⟩ := h2
    refine ⟨⟨g0, h1.2, g1, fun _ h => absurd h List.not_mem_nil, fun j hj => ?_⟩, ⟨by omega, ?_⟩, trivial⟩
    · rw [hcl1 (by omega)]
      exact h j hj
    · have x : tqB g ((ρ 2).toNat + 1) = aNd (sHr (ρ 3) 16) 255 := h2 1 (by decide)
      rw [h4, h3, show (ρ 2 + 1).toNat = (ρ 2).toNat + 1 by omega, x]
  exact ⟨nB, qB (key.1) (qB (key.2.1) (nB))⟩
def t_wa1_2 : KT := ((0, 0, 0, 0), [(2, 0, 19, 0), (2, 1, 20, 0), (1, 2, 0, 0), (1, 3, 0, 0), (1, 4, 0, 0), (1, 5, 0, 0)], [(0, 0), (0, 0), (-2147483648, 2147483647), (-2147483648, 2147483647), (-2147483648, 2147483647), (-2147483648, 2147483647)], [(471, [(2, 0, 19, 0), (1, 2, 0, 2)]), (11, [(2, 0, 19, 0), (0, 0, 0, 3), (2, 1, 20, 0)]), (472, [(1, 3, 0, 0), (1, 2, 0, 0)]), (81, [(1, 3, 0, 0), (0, 0, 0, 8), (1, 4, 0, 0)]), (82, [(1, 4, 0, 0), (0, 0, 0, 255), (1, 5, 0, 0)])], (0, 0, 0), [], [], ([], [(295, [(2, 1, 20, 0), (1, 2, 0, 2), (2, 0, 19, 0)]), (475, [(1, 5, 0, 0), (1, 2, 0, 2)])]), ([], []))
set_option maxRecDepth 100000 in
theorem l_wa1_2 (g : GG) : LOK Yt (PSt g) t_wa1_2 := by
  intro ρ α Γ M as hT hB hA hP
  have g0 : Γ (α 0) = 19 := tyAt hA (i := 0) rfl
  have g1 : Γ (α 1) = 20 := tyAt hA (i := 1) rfl
  have b2 : -2147483648 ≤ ρ 2 ∧ ρ 2 ≤ 2147483647 := hB 2
  have b3 : -2147483648 ≤ ρ 3 ∧ ρ 3 ≤ 2147483647 := hB 3
  have b4 : -2147483648 ≤ ρ 4 ∧ ρ 4 ≤ 2147483647 := hB 4
  have b5 : -2147483648 ≤ ρ 5 ∧ ρ 5 ≤ 2147483647 := hB 5
  have h0 : Γ (α 0) = 19 ∧ tyO Γ M (α 0) [(3, 20, [(0, 400)])] ∧ Q471 g (vw M (α 0) 3 [(0, 400)]) (clp [] (M.2.2.2.2 (α 0))) (ρ 2 + 2) := hP _ (List.mem_of_getElem? (i := 0) rfl)
  have h1 : 0 ≤ (3 : Int) ∧ M.2.2.2.1 (α 0) (3 : Int).toNat = some (α 1) := hP _ (List.mem_of_getElem? (i := 1) rfl)
  have h2 : 0 ≤ (ρ 2 + 0 : Int) ∧ ∀ r : Nat, r < 4 → tqB g ((ρ 2 + 0 : Int).toNat + r) = aNd (sHr (ρ 3 + 0) (24 - 8 * (r : Int))) 255 := hP _ (List.mem_of_getElem? (i := 2) rfl)
  have h3 : ρ 4 + 0 = sHr (ρ 3 + 0) (8) := hP _ (List.mem_of_getElem? (i := 3) rfl)
  have h4 : ρ 5 + 0 = aNd (ρ 4 + 0) (255) := hP _ (List.mem_of_getElem? (i := 4) rfl)
  try simp only [Int.add_zero] at h0 h1 h2 h3 h4
  have key : (Γ (α 0) = 19 ∧ M.2.2.2.1 (α 0) 3 = some (α 1) ∧ Γ (α 1) = 20 ∧ tyO Γ M (α 0) [] ∧ Q295 g (hcl [vi (ρ 2 + 2)] (clp [(0, 400)] (M.2.2.2.2 (α 1))))  (clp [] (M.2.2.2.2 (α 0))) (ρ 2 + 2)) ∧ (0 ≤ (ρ 2 + 2 : Int) ∧ ρ 5 + 0 = tqB g (ρ 2 + 2 : Int).toNat) ∧ True := by
    try simp only [Int.add_zero]
    have e3 : fl M (α 0) 3 = α 1 := fl_eq (show M.2.2.2.1 (α 0) 3 = some (α 1) from h1.2)
    obtain ⟨-, -, h⟩ := h0
    have h : ∀ j : Nat, (j : Int) < ρ 2 + 2 → clp [(0, 400)] (M.2.2.2.2 (fl M (α 0) 3)) j = tqB g j := h
    rw [e3] at h
    obtain ⟨h20, h2⟩ := h2
    refine ⟨⟨g0, h1.2, g1, fun _ h => absurd h List.not_mem_nil, fun j hj => ?_⟩, ⟨by omega, ?_⟩, trivial⟩
    · rw [hcl1 (by omega)]
      exact h j hj
    · have x : tqB g ((ρ 2).toNat + 2) = aNd (sHr (ρ 3) 8) 255 := h2 2 (by decide)
      rw [h4, h3, show (ρ 2 + 2).toNat = (ρ 2).toNat + 2 by omega, x]
  exact ⟨nB, qB (key.1) (qB (key.2.1) (nB))⟩
def t_wa1_3 : KT := ((0, 0, 0, 0), [(2, 0, 19, 0), (2, 1, 20, 0), (1, 2, 0, 0), (1, 3, 0, 0), (1, 4, 0, 0), (1, 5, 0, 0)], [(0, 0), (0, 0), (-2147483648, 2147483647), (-2147483648, 2147483647), (-2147483648, 2147483647), (-2147483648, 2147483647)], [(471, [(2, 0, 19, 0), (1, 2, 0, 3)]), (11, [(2, 0, 19, 0), (0, 0, 0, 3), (2, 1, 20, 0)]), (472, [(1, 3, 0, 0), (1, 2, 0, 0)]), (81, [(1, 3, 0, 0), (0, 0, 0, 0), (1, 4, 0, 0)]), (82, [(1, 4, 0, 0), (0, 0, 0, 255), (1, 5, 0, 0)])], (0, 0, 0), [], [], ([], [(295, [(2, 1, 20, 0), (1, 2, 0, 3), (2, 0, 19, 0)]), (475, [(1, 5, 0, 0), (1, 2, 0, 3)])]), ([], []))
set_option maxRecDepth 100000 in
theorem l_wa1_3 (g : GG) : LOK Yt (PSt g) t_wa1_3 := by
  intro ρ α Γ M as hT hB hA hP
  have g0 : Γ (α 0) = 19 := tyAt hA (i := 0) rfl
  have g1 : Γ (α 1) = 20 := tyAt hA (i := 1) rfl
  have b2 : -2147483648 ≤ ρ 2 ∧ ρ 2 ≤ 2147483647 := hB 2
  have b3 : -2147483648 ≤ ρ 3 ∧ ρ 3 ≤ 2147483647 := hB 3
  have b4 : -2147483648 ≤ ρ 4 ∧ ρ 4 ≤ 2147483647 := hB 4
  have b5 : -2147483648 ≤ ρ 5 ∧ ρ 5 ≤ 2147483647 := hB 5
  have h0 : Γ (α 0) = 19 ∧ tyO Γ M (α 0) [(3, 20, [(0, 400)])] ∧ Q471 g (vw M (α 0) 3 [(0, 400)]) (clp [] (M.2.2.2.2 (α 0))) (ρ 2 + 3) := hP _ (List.mem_of_getElem? (i := 0) rfl)
  have h1 : 0 ≤ (3 : Int) ∧ M.2.2.2.1 (α 0) (3 : Int).toNat = some (α 1) := hP _ (List.mem_of_getElem? (i := 1) rfl)
  have h2 : 0 ≤ (ρ 2 + 0 : Int) ∧ ∀ r : Nat, r < 4 → tqB g ((ρ 2 + 0 : Int).toNat + r) = aNd (sHr (ρ 3 + 0) (24 - 8 * (r : Int))) 255 := hP _ (List.mem_of_getElem? (i := 2) rfl)
  have h3 : ρ 4 + 0 = sHr (ρ 3 + 0) (0) := hP _ (List.mem_of_getElem? (i := 3) rfl)
  have h4 : ρ 5 + 0 = aNd (ρ 4 + 0) (255) := hP _ (List.mem_of_getElem? (i := 4) rfl)
  try simp only [Int.add_zero] at h0 h1 h2 h3 h4
  have key : (Γ (α 0) = 19 ∧ M.2.2.2.1 (α 0) 3 = some (α 1) ∧ Γ (α 1) = 20 ∧ tyO Γ M (α 0) [] ∧ Q295 g (hcl [vi (ρ 2 + 3)] (clp [(0, 400)] (M.2.2.2.2 (α 1))))  (clp [] (M.2.2.2.2 (α 0))) (ρ 2 + 3)) ∧ (0 ≤ (ρ 2 + 3 : Int) ∧ ρ 5 + 0 = tqB g (ρ 2 + 3 : Int).toNat) ∧ True := by
    try simp only [Int.add_zero]
    have e3 : fl M (α 0) 3 = α 1 := fl_eq (show M.2.2.2.1 (α 0) 3 = some (α 1) from h1.2)
    obtain ⟨-, -, h⟩ := h0
    have h : ∀ j : Nat, (j : Int) < ρ 2 + 3 → clp [(0, 400)] (M.2.2.2.2 (fl M (α 0) 3)) j = tqB g j := h
    rw [e3] at h
    obtain ⟨h20, h2⟩ := h2
    refine ⟨⟨g0, h1.2, g1, fun _ h => absurd h List.not_mem_nil, fun j hj => ?_⟩, ⟨by omega, ?_⟩, trivial⟩
    · rw [hcl1 (by omega)]
      exact h j hj
    · have x : tqB g ((ρ 2).toNat + 3) = aNd (sHr (ρ 3) 0) 255 := h2 3 (by decide)
      rw [h4, h3, show (ρ 2 + 3).toNat = (ρ 2).toNat + 3 by omega, x]
  exact ⟨nB, qB (key.1) (qB (key.2.1) (nB))⟩
def t_wa2 : KT := ((0, 0, 0, 0), [(2, 0, 19, 0), (2, 1, 20, 0), (1, 2, 0, 0), (1, 3, 0, 0)], [(0, 0), (0, 0), (0, 399), (-2147483648, 2147483647)], [(295, [(2, 1, 20, 0), (1, 2, 0, 0), (2, 0, 19, 0)]), (10, [(2, 1, 20, 0), (1, 2, 0, 0), (1, 3, 0, 0)]), (475, [(1, 3, 0, 0), (1, 2, 0, 0)])], (0, 0, 0), [], [], ([], [(471, [(2, 0, 19, 0), (1, 2, 0, 1)])]), ([], []))
set_option maxRecDepth 100000 in
theorem l_wa2 (g : GG) : LOK Yt (PSt g) t_wa2 := by
  intro ρ α Γ M as hT hB hA hP
  have g0 : Γ (α 0) = 19 := tyAt hA (i := 0) rfl
  have g1 : Γ (α 1) = 20 := tyAt hA (i := 1) rfl
  have b2 : 0 ≤ ρ 2 ∧ ρ 2 ≤ 399 := hB 2
  have b3 : -2147483648 ≤ ρ 3 ∧ ρ 3 ≤ 2147483647 := hB 3
  have h0 : Γ (α 0) = 19 ∧ M.2.2.2.1 (α 0) 3 = some (α 1) ∧ Γ (α 1) = 20 ∧ tyO Γ M (α 0) [] ∧ Q295 g (hcl [vi (ρ 2 + 0)] (clp [(0, 400)] (M.2.2.2.2 (α 1))))  (clp [] (M.2.2.2.2 (α 0))) (ρ 2 + 0) := hP _ (List.mem_of_getElem? (i := 0) rfl)
  have h1 : 0 ≤ (ρ 2 + 0 : Int) ∧ M.2.2.2.2 (α 1) (ρ 2 + 0 : Int).toNat = ρ 3 + 0 := hP _ (List.mem_of_getElem? (i := 1) rfl)
  have h2 : 0 ≤ (ρ 2 + 0 : Int) ∧ ρ 3 + 0 = tqB g (ρ 2 + 0 : Int).toNat := hP _ (List.mem_of_getElem? (i := 2) rfl)
  try simp only [Int.add_zero] at h0 h1 h2
  have key : (Γ (α 0) = 19 ∧ tyO Γ M (α 0) [(3, 20, [(0, 400)])] ∧ Q471 g (vw M (α 0) 3 [(0, 400)]) (clp [] (M.2.2.2.2 (α 0))) (ρ 2 + 1)) ∧ True := by
    try simp only [Int.add_zero]
    obtain ⟨-, hr, -, -, h⟩ := h0
    have h : ∀ j : Nat, (j : Int) < ρ 2 → hcl [vi (ρ 2)] (clp [(0, 400)] (M.2.2.2.2 (α 1))) j = tqB g j := h
    have e3 : fl M (α 0) 3 = α 1 := fl_eq hr
    refine ⟨⟨g0, tyO_of hT g0 (by decide) (by decide), fun j hj => ?_⟩, trivial⟩
    show clp [(0, 400)] (M.2.2.2.2 (fl M (α 0) 3)) j = tqB g j
    rw [e3]
    by_cases hc : (j : Int) < ρ 2
    · have := h j hc
      rw [hcl1 (by omega)] at this
      exact this
    · have ej : j = (ρ 2).toNat := by omega
      rw [ej, cAll (by omega), h1.2]
      exact h2.2
  exact ⟨nB, qB (key.1) (nB)⟩
def t_wa3 : KT := ((0, 0, 0, 0), [(2, 0, 19, 0), (1, 1, 0, 0), (1, 2, 0, 0)], [(0, 0), (-2147483648, 2147483647), (0, 396)], [(10, [(2, 0, 19, 0), (0, 0, 0, 0), (1, 1, 0, 4)]), (476, [(1, 1, 0, 0), (1, 2, 0, 0)]), (471, [(2, 0, 19, 0), (1, 1, 0, 4)])], (0, 0, 0), [], [], ([], [(455, [(2, 0, 19, 0), (1, 2, 0, 4)]), (471, [(2, 0, 19, 0), (1, 2, 0, 4)])]), ([], []))
set_option maxRecDepth 100000 in
theorem l_wa3 (g : GG) : LOK Yt (PSt g) t_wa3 := by
  intro ρ α Γ M as hT hB hA hP
  have g0 : Γ (α 0) = 19 := tyAt hA (i := 0) rfl
  have b1 : -2147483648 ≤ ρ 1 ∧ ρ 1 ≤ 2147483647 := hB 1
  have b2 : 0 ≤ ρ 2 ∧ ρ 2 ≤ 396 := hB 2
  have h0 : 0 ≤ (0 : Int) ∧ M.2.2.2.2 (α 0) (0 : Int).toNat = ρ 1 + 4 := hP _ (List.mem_of_getElem? (i := 0) rfl)
  have h1 : (ρ 1 + 0 : Int) = ρ 2 + 0 := hP _ (List.mem_of_getElem? (i := 1) rfl)
  have h2 : Γ (α 0) = 19 ∧ tyO Γ M (α 0) [(3, 20, [(0, 400)])] ∧ Q471 g (vw M (α 0) 3 [(0, 400)]) (clp [] (M.2.2.2.2 (α 0))) (ρ 1 + 4) := hP _ (List.mem_of_getElem? (i := 2) rfl)
  try simp only [Int.add_zero] at h0 h1 h2
  have key : (Γ (α 0) = 19 ∧ tyO Γ M (α 0) [] ∧ Q455 g  (clp [(0, 1)] (M.2.2.2.2 (α 0))) (ρ 2 + 4)) ∧ (Γ (α 0) = 19 ∧ tyO Γ M (α 0) [(3, 20, [(0, 400)])] ∧ Q471 g (vw M (α 0) 3 [(0, 400)]) (clp [] (M.2.2.2.2 (α 0))) (ρ 2 + 4)) ∧ True := by
    try simp only [Int.add_zero]
    have e : M.2.2.2.2 (α 0) 0 = ρ 1 + 4 := h0.2
    rw [h1] at e h2
    exact ⟨⟨g0, fun _ h => absurd h List.not_mem_nil, e⟩, h2, trivial⟩
  exact ⟨nB, qB (key.1) (qB (key.2.1) (nB))⟩
def t_wfd0 : KT := ((0, 0, 0, 0), [(2, 0, 54, 0), (2, 1, 19, 0), (1, 2, 0, 0), (1, 3, 0, 0)], [(0, 0), (0, 0), (-2147483648, 2147483647), (0, 400)], [(474, [(2, 0, 54, 0), (1, 3, 0, 0)]), (11, [(2, 0, 54, 0), (0, 0, 0, 4), (2, 1, 19, 0)]), (10, [(2, 1, 19, 0), (0, 0, 0, 0), (1, 2, 0, 0)])], (0, 0, 0), [], [], ([], [(476, [(1, 2, 0, 0), (1, 3, 0, 0)])]), ([], []))
set_option maxRecDepth 100000 in
theorem l_wfd0 (g : GG) : LOK Yt (PSt g) t_wfd0 := by
  intro ρ α Γ M as hT hB hA hP
  have g0 : Γ (α 0) = 54 := tyAt hA (i := 0) rfl
  have g1 : Γ (α 1) = 19 := tyAt hA (i := 1) rfl
  have b2 : -2147483648 ≤ ρ 2 ∧ ρ 2 ≤ 2147483647 := hB 2
  have b3 : 0 ≤ ρ 3 ∧ ρ 3 ≤ 400 := hB 3
  have h0 : taP g (α 0) (ρ 3 + 0) Γ M := hP _ (List.mem_of_getElem? (i := 0) rfl)
  have h1 : 0 ≤ (4 : Int) ∧ M.2.2.2.1 (α 0) (4 : Int).toNat = some (α 1) := hP _ (List.mem_of_getElem? (i := 1) rfl)
  have h2 : 0 ≤ (0 : Int) ∧ M.2.2.2.2 (α 1) (0 : Int).toNat = ρ 2 + 0 := hP _ (List.mem_of_getElem? (i := 2) rfl)
  try simp only [Int.add_zero] at h0 h1 h2
  have key : ((ρ 2 + 0 : Int) = ρ 3 + 0) ∧ True := by
    try simp only [Int.add_zero]
    obtain ⟨-, b, q1, q2, c, q3, q4, q5, q6⟩ := h0
    have e : M.2.2.2.1 (α 0) 4 = some (α 1) := h1.2
    rw [e] at q1
    cases q1
    
    have e2 : M.2.2.2.2 (α 1) 0 = ρ 2 := h2.2
    exact ⟨by omega, trivial⟩
  exact ⟨nB, qB (key.1) (nB)⟩
def t_wfd1 : KT := ((0, 0, 0, 0), [(2, 0, 54, 0), (1, 1, 0, 0), (1, 2, 0, 0)], [(0, 0), (381, 400), (0, 400)], [(476, [(1, 1, 0, 0), (1, 2, 0, 0)]), (474, [(2, 0, 54, 0), (1, 2, 0, 0)])], (0, 0, 0), [], [], ([], [(477, [(0, 0, 0, -1), (1, 2, 0, 0)]), (478, [(2, 0, 54, 0), (1, 2, 0, 0)])]), ([], []))
set_option maxRecDepth 100000 in
theorem l_wfd1 (g : GG) : LOK Yt (PSt g) t_wfd1 := by
  intro ρ α Γ M as hT hB hA hP
  have g0 : Γ (α 0) = 54 := tyAt hA (i := 0) rfl
  have b1 : 381 ≤ ρ 1 ∧ ρ 1 ≤ 400 := hB 1
  have b2 : 0 ≤ ρ 2 ∧ ρ 2 ≤ 400 := hB 2
  have h0 : (ρ 1 + 0 : Int) = ρ 2 + 0 := hP _ (List.mem_of_getElem? (i := 0) rfl)
  have h1 : taP g (α 0) (ρ 2 + 0) Γ M := hP _ (List.mem_of_getElem? (i := 1) rfl)
  try simp only [Int.add_zero] at h0 h1
  have key : (((-1) : Int) = fedR (ρ 2 + 0)) ∧ (taP g (α 0) (fedL (ρ 2 + 0)) Γ M) ∧ True := by
    try simp only [Int.add_zero]
    have hl : ¬ ρ 2 ≤ 380 := by omega
    have eR : fedR (ρ 2) = -1 := if_neg hl
    have eL : fedL (ρ 2) = ρ 2 := if_neg hl
    rw [eR, eL]
    exact ⟨rfl, h1, trivial⟩
  exact ⟨nB, qB (key.1) (qB (key.2.1) (nB))⟩
def t_wfd2 : KT := ((0, 0, 0, 0), [(2, 0, 54, 0), (2, 1, 19, 0), (1, 2, 0, 0), (1, 3, 0, 0)], [(0, 0), (0, 0), (0, 380), (0, 400)], [(476, [(1, 2, 0, 0), (1, 3, 0, 0)]), (474, [(2, 0, 54, 0), (1, 3, 0, 0)]), (11, [(2, 0, 54, 0), (0, 0, 0, 4), (2, 1, 19, 0)])], (0, 0, 0), [], [], ([(3, 0, 380)], [(455, [(2, 1, 19, 0), (1, 3, 0, 0)]), (471, [(2, 1, 19, 0), (1, 3, 0, 0)])]), ([], []))
set_option maxRecDepth 100000 in
theorem l_wfd2 (g : GG) : LOK Yt (PSt g) t_wfd2 := by
  intro ρ α Γ M as hT hB hA hP
  have g0 : Γ (α 0) = 54 := tyAt hA (i := 0) rfl
  have g1 : Γ (α 1) = 19 := tyAt hA (i := 1) rfl
  have b2 : 0 ≤ ρ 2 ∧ ρ 2 ≤ 380 := hB 2
  have b3 : 0 ≤ ρ 3 ∧ ρ 3 ≤ 400 := hB 3
  have h0 : (ρ 2 + 0 : Int) = ρ 3 + 0 := hP _ (List.mem_of_getElem? (i := 0) rfl)
  have h1 : taP g (α 0) (ρ 3 + 0) Γ M := hP _ (List.mem_of_getElem? (i := 1) rfl)
  have h2 : 0 ≤ (4 : Int) ∧ M.2.2.2.1 (α 0) (4 : Int).toNat = some (α 1) := hP _ (List.mem_of_getElem? (i := 2) rfl)
  try simp only [Int.add_zero] at h0 h1 h2
  have key : (0 ≤ ρ 3 ∧ ρ 3 ≤ 380) ∧ (Γ (α 1) = 19 ∧ tyO Γ M (α 1) [] ∧ Q455 g  (clp [(0, 1)] (M.2.2.2.2 (α 1))) (ρ 3 + 0)) ∧ (Γ (α 1) = 19 ∧ tyO Γ M (α 1) [(3, 20, [(0, 400)])] ∧ Q471 g (vw M (α 1) 3 [(0, 400)]) (clp [] (M.2.2.2.2 (α 1))) (ρ 3 + 0)) ∧ True := by
    try simp only [Int.add_zero]
    obtain ⟨-, b, q1, q2, c, q3, q4, q5, q6⟩ := h1
    have e : M.2.2.2.1 (α 0) 4 = some (α 1) := h2.2
    rw [e] at q1
    cases q1
    
    refine ⟨⟨by omega, by omega⟩, ⟨g1, fun _ h => absurd h List.not_mem_nil, q5⟩, ⟨g1, tyO_of hT g1 (by decide) (by decide), fun j hj => ?_⟩, trivial⟩
    show clp [(0, 400)] (M.2.2.2.2 (fl M (α 1) 3)) j = tqB g j
    rw [fl_eq q3, cAll (by omega)]
    exact q6 j hj
  exact ⟨qB (key.1) (nB), qB (key.2.1) (qB (key.2.2.1) (nB))⟩
def t_wfd3 : KT := ((0, 0, 0, 0), [(2, 0, 54, 0), (2, 1, 19, 0), (1, 2, 0, 0), (1, 3, 0, 0)], [(0, 0), (0, 0), (-2147483648, 2147483647), (0, 380)], [(455, [(2, 1, 19, 0), (1, 3, 0, 20)]), (471, [(2, 1, 19, 0), (1, 3, 0, 20)]), (11, [(2, 0, 54, 0), (0, 0, 0, 4), (2, 1, 19, 0)]), (10, [(2, 1, 19, 0), (0, 0, 0, 0), (1, 2, 0, 0)])], (0, 0, 0), [], [], ([], [(477, [(1, 2, 0, 0), (1, 3, 0, 0)]), (478, [(2, 0, 54, 0), (1, 3, 0, 0)])]), ([], []))
set_option maxRecDepth 100000 in
theorem l_wfd3 (g : GG) : LOK Yt (PSt g) t_wfd3 := by
  intro ρ α Γ M as hT hB hA hP
  have g0 : Γ (α 0) = 54 := tyAt hA (i := 0) rfl
  have g1 : Γ (α 1) = 19 := tyAt hA (i := 1) rfl
  have b2 : -2147483648 ≤ ρ 2 ∧ ρ 2 ≤ 2147483647 := hB 2
  have b3 : 0 ≤ ρ 3 ∧ ρ 3 ≤ 380 := hB 3
  have h0 : Γ (α 1) = 19 ∧ tyO Γ M (α 1) [] ∧ Q455 g  (clp [(0, 1)] (M.2.2.2.2 (α 1))) (ρ 3 + 20) := hP _ (List.mem_of_getElem? (i := 0) rfl)
  have h1 : Γ (α 1) = 19 ∧ tyO Γ M (α 1) [(3, 20, [(0, 400)])] ∧ Q471 g (vw M (α 1) 3 [(0, 400)]) (clp [] (M.2.2.2.2 (α 1))) (ρ 3 + 20) := hP _ (List.mem_of_getElem? (i := 1) rfl)
  have h2 : 0 ≤ (4 : Int) ∧ M.2.2.2.1 (α 0) (4 : Int).toNat = some (α 1) := hP _ (List.mem_of_getElem? (i := 2) rfl)
  have h3 : 0 ≤ (0 : Int) ∧ M.2.2.2.2 (α 1) (0 : Int).toNat = ρ 2 + 0 := hP _ (List.mem_of_getElem? (i := 3) rfl)
  try simp only [Int.add_zero] at h0 h1 h2 h3
  have key : ((ρ 2 + 0 : Int) = fedR (ρ 3 + 0)) ∧ (taP g (α 0) (fedL (ρ 3 + 0)) Γ M) ∧ True := by
    try simp only [Int.add_zero]
    obtain ⟨-, -, q⟩ := h0
    have q : M.2.2.2.2 (α 1) 0 = ρ 3 + 20 := q
    have e : M.2.2.2.2 (α 1) 0 = ρ 2 := h3.2
    have hl : ρ 3 ≤ 380 := by omega
    have eL : fedL (ρ 3) = ρ 3 + 20 := if_pos hl
    have eR : fedR (ρ 3) = ρ 3 + 20 := if_pos hl
    obtain ⟨c, c1, c2⟩ := tyR hT g1 (by decide) (j := 3) (τ2 := 20) (by decide)
    obtain ⟨-, -, h⟩ := h1
    have h : ∀ j : Nat, (j : Int) < ρ 3 + 20 → clp [(0, 400)] (M.2.2.2.2 (fl M (α 1) 3)) j = tqB g j := h
    rw [eR, eL]
    refine ⟨by omega, ⟨g0, α 1, h2.2, g1, c, c1, c2, q, fun j hj => ?_⟩, trivial⟩
    have h := h j hj
    rw [fl_eq c1, cAll (by omega)] at h
    exact h
  exact ⟨nB, qB (key.1) (qB (key.2.1) (nB))⟩
def t_wen0 : KT := ((0, 0, 0, 0), [(1, 0, 0, 0), (1, 1, 0, 0)], [(-2147483648, -1), (0, 400)], [], (0, 0, 0), [], [], ([], [(483, [(1, 0, 0, 0), (1, 1, 0, 0)])]), ([], []))
set_option maxRecDepth 100000 in
theorem l_wen0 (g : GG) : LOK Yt (PSt g) t_wen0 := by
  intro ρ α Γ M as hT hB hA hP
  have b0 : -2147483648 ≤ ρ 0 ∧ ρ 0 ≤ -1 := hB 0
  have b1 : 0 ≤ ρ 1 ∧ ρ 1 ≤ 400 := hB 1
  have key : ((ρ 0 + 0 : Int) < 0 ∨ (ρ 1 + 0 : Int) < ρ 0 + 0) ∧ True := by
    try simp only [Int.add_zero]
    exact ⟨Or.inl (by omega), trivial⟩
  exact ⟨nB, qB (key.1) (nB)⟩
def t_wen1 : KT := ((0, 0, 0, 0), [(1, 0, 0, 0), (1, 1, 0, 0), (1, 2, 0, 0)], [(-2147483648, 2147483647), (-2147483648, 2147483647), (0, 400)], [(21, [(1, 1, 0, 0), (1, 0, 0, 0)]), (476, [(1, 1, 0, 0), (1, 2, 0, 0)])], (0, 0, 0), [], [], ([], [(483, [(1, 0, 0, 0), (1, 2, 0, 0)])]), ([], []))
set_option maxRecDepth 100000 in
theorem l_wen1 (g : GG) : LOK Yt (PSt g) t_wen1 := by
  intro ρ α Γ M as hT hB hA hP
  have b0 : -2147483648 ≤ ρ 0 ∧ ρ 0 ≤ 2147483647 := hB 0
  have b1 : -2147483648 ≤ ρ 1 ∧ ρ 1 ≤ 2147483647 := hB 1
  have b2 : 0 ≤ ρ 2 ∧ ρ 2 ≤ 400 := hB 2
  have h0 : ρ 1 + 0 < ρ 0 + 0 := hP _ (List.mem_of_getElem? (i := 0) rfl)
  have h1 : (ρ 1 + 0 : Int) = ρ 2 + 0 := hP _ (List.mem_of_getElem? (i := 1) rfl)
  try simp only [Int.add_zero] at h0 h1
  have key : ((ρ 0 + 0 : Int) < 0 ∨ (ρ 2 + 0 : Int) < ρ 0 + 0) ∧ True := by
    try simp only [Int.add_zero]
    exact ⟨Or.inr (by omega), trivial⟩
  exact ⟨nB, qB (key.1) (nB)⟩
def t_wen2 : KT := ((0, 0, 0, 0), [(2, 0, 54, 0), (2, 1, 19, 0), (1, 2, 0, 0), (1, 3, 0, 0), (1, 4, 0, 0)], [(0, 0), (0, 0), (0, 400), (-2147483648, 2147483647), (0, 400)], [(474, [(2, 0, 54, 0), (1, 4, 0, 0)]), (11, [(2, 0, 54, 0), (0, 0, 0, 4), (2, 1, 19, 0)]), (6, [(1, 2, 0, 0), (1, 3, 0, 0)]), (476, [(1, 3, 0, 0), (1, 4, 0, 0)])], (0, 0, 0), [], [], ([], [(471, [(2, 1, 19, 0), (1, 2, 0, 0)]), (482, [(1, 2, 0, 0), (1, 4, 0, 0)])]), ([], []))
set_option maxRecDepth 100000 in
theorem l_wen2 (g : GG) : LOK Yt (PSt g) t_wen2 := by
  intro ρ α Γ M as hT hB hA hP
  have g0 : Γ (α 0) = 54 := tyAt hA (i := 0) rfl
  have g1 : Γ (α 1) = 19 := tyAt hA (i := 1) rfl
  have b2 : 0 ≤ ρ 2 ∧ ρ 2 ≤ 400 := hB 2
  have b3 : -2147483648 ≤ ρ 3 ∧ ρ 3 ≤ 2147483647 := hB 3
  have b4 : 0 ≤ ρ 4 ∧ ρ 4 ≤ 400 := hB 4
  have h0 : taP g (α 0) (ρ 4 + 0) Γ M := hP _ (List.mem_of_getElem? (i := 0) rfl)
  have h1 : 0 ≤ (4 : Int) ∧ M.2.2.2.1 (α 0) (4 : Int).toNat = some (α 1) := hP _ (List.mem_of_getElem? (i := 1) rfl)
  have h2 : ρ 2 + 0 ≤ ρ 3 + 0 := hP _ (List.mem_of_getElem? (i := 2) rfl)
  have h3 : (ρ 3 + 0 : Int) = ρ 4 + 0 := hP _ (List.mem_of_getElem? (i := 3) rfl)
  try simp only [Int.add_zero] at h0 h1 h2 h3
  have key : (Γ (α 1) = 19 ∧ tyO Γ M (α 1) [(3, 20, [(0, 400)])] ∧ Q471 g (vw M (α 1) 3 [(0, 400)]) (clp [] (M.2.2.2.2 (α 1))) (ρ 2 + 0)) ∧ (0 ≤ (ρ 2 + 0 : Int) ∧ (ρ 2 + 0 : Int) ≤ ρ 4 + 0) ∧ True := by
    try simp only [Int.add_zero]
    obtain ⟨-, b, q1, q2, c, q3, q4, q5, q6⟩ := h0
    have e : M.2.2.2.1 (α 0) 4 = some (α 1) := h1.2
    rw [e] at q1
    cases q1
    
    refine ⟨⟨g1, tyO_of hT g1 (by decide) (by decide), fun j hj => ?_⟩, ⟨by omega, by omega⟩, trivial⟩
    show clp [(0, 400)] (M.2.2.2.2 (fl M (α 1) 3)) j = tqB g j
    rw [fl_eq q3, cAll (by omega)]
    exact q6 j (by omega)
  exact ⟨nB, qB (key.1) (qB (key.2.1) (nB))⟩
def t_wen3 : KT := ((0, 0, 0, 0), [(2, 0, 54, 0), (2, 1, 19, 0), (1, 2, 0, 0)], [(0, 0), (0, 0), (0, 400)], [(471, [(2, 1, 19, 0), (1, 2, 0, 0)]), (11, [(2, 0, 54, 0), (0, 0, 0, 4), (2, 1, 19, 0)]), (10, [(2, 1, 19, 0), (0, 0, 0, 0), (1, 2, 0, 0)])], (0, 0, 0), [], [], ([], [(474, [(2, 0, 54, 0), (1, 2, 0, 0)])]), ([], []))
set_option maxRecDepth 100000 in
theorem l_wen3 (g : GG) : LOK Yt (PSt g) t_wen3 := by
  intro ρ α Γ M as hT hB hA hP
  have g0 : Γ (α 0) = 54 := tyAt hA (i := 0) rfl
  have g1 : Γ (α 1) = 19 := tyAt hA (i := 1) rfl
  have b2 : 0 ≤ ρ 2 ∧ ρ 2 ≤ 400 := hB 2
  have h0 : Γ (α 1) = 19 ∧ tyO Γ M (α 1) [(3, 20, [(0, 400)])] ∧ Q471 g (vw M (α 1) 3 [(0, 400)]) (clp [] (M.2.2.2.2 (α 1))) (ρ 2 + 0) := hP _ (List.mem_of_getElem? (i := 0) rfl)
  have h1 : 0 ≤ (4 : Int) ∧ M.2.2.2.1 (α 0) (4 : Int).toNat = some (α 1) := hP _ (List.mem_of_getElem? (i := 1) rfl)
  have h2 : 0 ≤ (0 : Int) ∧ M.2.2.2.2 (α 1) (0 : Int).toNat = ρ 2 + 0 := hP _ (List.mem_of_getElem? (i := 2) rfl)
  try simp only [Int.add_zero] at h0 h1 h2
  have key : (taP g (α 0) (ρ 2 + 0) Γ M) ∧ True := by
    try simp only [Int.add_zero]
    obtain ⟨c, c1, c2⟩ := tyR hT g1 (by decide) (j := 3) (τ2 := 20) (by decide)
    obtain ⟨-, -, h⟩ := h0
    have h : ∀ j : Nat, (j : Int) < ρ 2 → clp [(0, 400)] (M.2.2.2.2 (fl M (α 1) 3)) j = tqB g j := h
    have e : M.2.2.2.2 (α 1) 0 = ρ 2 := h2.2
    refine ⟨⟨g0, α 1, h1.2, g1, c, c1, c2, e, fun j hj => ?_⟩, trivial⟩
    have h := h j hj
    rw [fl_eq c1, cAll (by omega)] at h
    exact h
  exact ⟨nB, qB (key.1) (nB)⟩
def t_wtx0 : KT := ((0, 0, 0, 0), [(2, 0, 54, 0), (2, 1, 19, 0)], [(0, 0), (0, 0)], [(11, [(2, 0, 54, 0), (0, 0, 0, 4), (2, 1, 19, 0)]), (10, [(2, 1, 19, 0), (0, 0, 0, 0), (0, 0, 0, 0)])], (0, 0, 0), [], [], ([], [(474, [(2, 0, 54, 0), (0, 0, 0, 0)])]), ([], []))
set_option maxRecDepth 100000 in
theorem l_wtx0 (g : GG) : LOK Yt (PSt g) t_wtx0 := by
  intro ρ α Γ M as hT hB hA hP
  have g0 : Γ (α 0) = 54 := tyAt hA (i := 0) rfl
  have g1 : Γ (α 1) = 19 := tyAt hA (i := 1) rfl
  have h0 : 0 ≤ (4 : Int) ∧ M.2.2.2.1 (α 0) (4 : Int).toNat = some (α 1) := hP _ (List.mem_of_getElem? (i := 0) rfl)
  have h1 : 0 ≤ (0 : Int) ∧ M.2.2.2.2 (α 1) (0 : Int).toNat = 0 := hP _ (List.mem_of_getElem? (i := 1) rfl)
  try simp only [Int.add_zero] at h0 h1
  have key : (taP g (α 0) (0) Γ M) ∧ True := by
    try simp only [Int.add_zero]
    obtain ⟨c, c1, c2⟩ := tyR hT g1 (by decide) (j := 3) (τ2 := 20) (by decide)
    exact ⟨⟨g0, α 1, h0.2, g1, c, c1, c2, h1.2, fun j hj => absurd hj (by omega)⟩, trivial⟩
  exact ⟨nB, qB (key.1) (nB)⟩
def t_udg1 : KT := ((0, 0, 0, 0), [(1, 0, 0, 0)], [(48, 57)], [], (0, 0, 0), [], [], ([], [(467, [(1, 0, 0, -48), (1, 0, 0, 0)])]), ([], []))
set_option maxRecDepth 100000 in
theorem l_udg1 (g : GG) : LOK Yt (PSt g) t_udg1 := by
  intro ρ α Γ M as hT hB hA hP
  have b0 : 48 ≤ ρ 0 ∧ ρ 0 ≤ 57 := hB 0
  have key : ((ρ 0 + (-48) : Int) = -1 ↔ ¬ dgt (ρ 0 + 0 : Int)) ∧ True := by
    try simp only [Int.add_zero]
    exact ⟨⟨fun h => by omega, fun h => absurd (Or.inl ⟨by omega, by omega⟩) h⟩, trivial⟩
  exact ⟨nB, qB (key.1) (nB)⟩
def t_udg5 : KT := ((0, 0, 0, 0), [(1, 0, 0, 0)], [(97, 102)], [], (0, 0, 0), [], [], ([], [(467, [(1, 0, 0, -87), (1, 0, 0, 0)])]), ([], []))
set_option maxRecDepth 100000 in
theorem l_udg5 (g : GG) : LOK Yt (PSt g) t_udg5 := by
  intro ρ α Γ M as hT hB hA hP
  have b0 : 97 ≤ ρ 0 ∧ ρ 0 ≤ 102 := hB 0
  have key : ((ρ 0 + (-87) : Int) = -1 ↔ ¬ dgt (ρ 0 + 0 : Int)) ∧ True := by
    try simp only [Int.add_zero]
    exact ⟨⟨fun h => by omega, fun h => absurd (Or.inr ⟨by omega, by omega⟩) h⟩, trivial⟩
  exact ⟨nB, qB (key.1) (nB)⟩
def t_udg2 : KT := ((0, 0, 0, 0), [(1, 0, 0, 0)], [(-2147483648, 47)], [], (0, 0, 0), [], [], ([], [(467, [(0, 0, 0, -1), (1, 0, 0, 0)])]), ([], []))
set_option maxRecDepth 100000 in
theorem l_udg2 (g : GG) : LOK Yt (PSt g) t_udg2 := by
  intro ρ α Γ M as hT hB hA hP
  have b0 : -2147483648 ≤ ρ 0 ∧ ρ 0 ≤ 47 := hB 0
  have key : (((-1) : Int) = -1 ↔ ¬ dgt (ρ 0 + 0 : Int)) ∧ True := by
    try simp only [Int.add_zero]
    exact ⟨⟨fun _ h => by rcases h with h | h <;> omega, fun _ => by first | rfl | trivial⟩, trivial⟩
  exact ⟨nB, qB (key.1) (nB)⟩
def t_udg3 : KT := ((0, 0, 0, 0), [(1, 0, 0, 0)], [(58, 96)], [], (0, 0, 0), [], [], ([], [(467, [(0, 0, 0, -1), (1, 0, 0, 0)])]), ([], []))
set_option maxRecDepth 100000 in
theorem l_udg3 (g : GG) : LOK Yt (PSt g) t_udg3 := by
  intro ρ α Γ M as hT hB hA hP
  have b0 : 58 ≤ ρ 0 ∧ ρ 0 ≤ 96 := hB 0
  have key : (((-1) : Int) = -1 ↔ ¬ dgt (ρ 0 + 0 : Int)) ∧ True := by
    try simp only [Int.add_zero]
    exact ⟨⟨fun _ h => by rcases h with h | h <;> omega, fun _ => by first | rfl | trivial⟩, trivial⟩
  exact ⟨nB, qB (key.1) (nB)⟩
def t_udg4 : KT := ((0, 0, 0, 0), [(1, 0, 0, 0)], [(103, 2147483647)], [], (0, 0, 0), [], [], ([], [(467, [(0, 0, 0, -1), (1, 0, 0, 0)])]), ([], []))
set_option maxRecDepth 100000 in
theorem l_udg4 (g : GG) : LOK Yt (PSt g) t_udg4 := by
  intro ρ α Γ M as hT hB hA hP
  have b0 : 103 ≤ ρ 0 ∧ ρ 0 ≤ 2147483647 := hB 0
  have key : (((-1) : Int) = -1 ↔ ¬ dgt (ρ 0 + 0 : Int)) ∧ True := by
    try simp only [Int.add_zero]
    exact ⟨⟨fun _ h => by rcases h with h | h <;> omega, fun _ => by first | rfl | trivial⟩, trivial⟩
  exact ⟨nB, qB (key.1) (nB)⟩
def t_uce1 : KT := ((0, 0, 0, 0), [(1, 0, 0, 0), (1, 1, 0, 0), (1, 2, 0, 0)], [(0, 24), (0, 24), (-2147483648, 2147483647)], [(27, [(1, 0, 0, 0), (0, 0, 0, 2), (1, 2, 0, 0)]), (99, [(1, 2, 0, 0), (0, 0, 0, 0), (0, 0, 0, 0)])], (0, 0, 0), [], [], ([], [(463, [(1, 0, 0, 0), (1, 1, 0, 0)])]), ([], []))
set_option maxRecDepth 100000 in
theorem l_uce1 (g : GG) : LOK Yt (PSt g) t_uce1 := by
  intro ρ α Γ M as hT hB hA hP
  have b0 : 0 ≤ ρ 0 ∧ ρ 0 ≤ 24 := hB 0
  have b1 : 0 ≤ ρ 1 ∧ ρ 1 ≤ 24 := hB 1
  have b2 : -2147483648 ≤ ρ 2 ∧ ρ 2 ≤ 2147483647 := hB 2
  have h0 : ρ 2 + 0 = (ρ 0 + 0 : Int).tmod (2) := hP _ (List.mem_of_getElem? (i := 0) rfl)
  have h1 : (ρ 2 + 0 : Int) ≠ 0 := hP _ (List.mem_of_getElem? (i := 1) rfl)
  try simp only [Int.add_zero] at h0 h1
  have key : (¬ cEnd (ρ 0 + 0 : Int) (ρ 1 + 0 : Int)) ∧ True := by
    try simp only [Int.add_zero]
    obtain ⟨d1, d2, -⟩ := dm (p := ρ 0) (by omega) (show (0 : Int) < 2 by decide)
    rw [d2] at h0
    
    exact ⟨fun h => h1 (h0.trans h.1), trivial⟩
  exact ⟨nB, qB (key.1) (nB)⟩
def t_uce2 : KT := ((0, 0, 0, 0), [(1, 0, 0, 0), (1, 1, 0, 0)], [(0, 3), (0, 24)], [], (0, 0, 0), [], [], ([], [(463, [(1, 0, 0, 0), (1, 1, 0, 0)])]), ([], []))
set_option maxRecDepth 100000 in
theorem l_uce2 (g : GG) : LOK Yt (PSt g) t_uce2 := by
  intro ρ α Γ M as hT hB hA hP
  have b0 : 0 ≤ ρ 0 ∧ ρ 0 ≤ 3 := hB 0
  have b1 : 0 ≤ ρ 1 ∧ ρ 1 ≤ 24 := hB 1
  have key : (¬ cEnd (ρ 0 + 0 : Int) (ρ 1 + 0 : Int)) ∧ True := by
    try simp only [Int.add_zero]
    exact ⟨fun h => by have := h.2.1; omega, trivial⟩
  exact ⟨nB, qB (key.1) (nB)⟩
def t_uce3 : KT := ((0, 0, 0, 0), [(1, 0, 0, 0), (1, 1, 0, 0)], [(0, 24), (1, 24)], [(99, [(1, 0, 0, 0), (1, 1, 0, 0), (0, 0, 0, 0)])], (0, 0, 0), [], [], ([], [(463, [(1, 0, 0, 0), (1, 1, 0, 0)])]), ([], []))
set_option maxRecDepth 100000 in
theorem l_uce3 (g : GG) : LOK Yt (PSt g) t_uce3 := by
  intro ρ α Γ M as hT hB hA hP
  have b0 : 0 ≤ ρ 0 ∧ ρ 0 ≤ 24 := hB 0
  have b1 : 1 ≤ ρ 1 ∧ ρ 1 ≤ 24 := hB 1
  have h0 : (ρ 0 + 0 : Int) ≠ ρ 1 + 0 := hP _ (List.mem_of_getElem? (i := 0) rfl)
  try simp only [Int.add_zero] at h0
  have key : (¬ cEnd (ρ 0 + 0 : Int) (ρ 1 + 0 : Int)) ∧ True := by
    try simp only [Int.add_zero]
    exact ⟨fun h => by rcases h.2.2 with h2 | h2; · omega
                       · exact h0 h2, trivial⟩
  exact ⟨nB, qB (key.1) (nB)⟩
def t_uce4 : KT := ((0, 0, 0, 0), [(1, 0, 0, 0), (1, 1, 0, 0), (1, 2, 0, 0)], [(4, 24), (0, 0), (0, 0)], [(27, [(1, 0, 0, 0), (0, 0, 0, 2), (1, 2, 0, 0)])], (0, 0, 0), [], [], ([], [(462, [(1, 0, 0, 0), (1, 1, 0, 0)])]), ([], []))
set_option maxRecDepth 100000 in
theorem l_uce4 (g : GG) : LOK Yt (PSt g) t_uce4 := by
  intro ρ α Γ M as hT hB hA hP
  have b0 : 4 ≤ ρ 0 ∧ ρ 0 ≤ 24 := hB 0
  have b1 : 0 ≤ ρ 1 ∧ ρ 1 ≤ 0 := hB 1
  have b2 : 0 ≤ ρ 2 ∧ ρ 2 ≤ 0 := hB 2
  have h0 : ρ 2 + 0 = (ρ 0 + 0 : Int).tmod (2) := hP _ (List.mem_of_getElem? (i := 0) rfl)
  try simp only [Int.add_zero] at h0
  have key : (cEnd (ρ 0 + 0 : Int) (ρ 1 + 0 : Int)) ∧ True := by
    try simp only [Int.add_zero]
    obtain ⟨d1, d2, -⟩ := dm (p := ρ 0) (by omega) (show (0 : Int) < 2 by decide)
    rw [d2] at h0
    
    exact ⟨⟨by omega, by omega, Or.inl (by omega)⟩, trivial⟩
  exact ⟨nB, qB (key.1) (nB)⟩
def t_uce5 : KT := ((0, 0, 0, 0), [(1, 0, 0, 0), (1, 1, 0, 0), (1, 2, 0, 0)], [(4, 24), (0, 24), (0, 0)], [(27, [(1, 0, 0, 0), (0, 0, 0, 2), (1, 2, 0, 0)]), (6, [(1, 0, 0, 0), (1, 1, 0, 0)]), (6, [(1, 1, 0, 0), (1, 0, 0, 0)])], (0, 0, 0), [], [], ([], [(462, [(1, 0, 0, 0), (1, 1, 0, 0)])]), ([], []))
set_option maxRecDepth 100000 in
theorem l_uce5 (g : GG) : LOK Yt (PSt g) t_uce5 := by
  intro ρ α Γ M as hT hB hA hP
  have b0 : 4 ≤ ρ 0 ∧ ρ 0 ≤ 24 := hB 0
  have b1 : 0 ≤ ρ 1 ∧ ρ 1 ≤ 24 := hB 1
  have b2 : 0 ≤ ρ 2 ∧ ρ 2 ≤ 0 := hB 2
  have h0 : ρ 2 + 0 = (ρ 0 + 0 : Int).tmod (2) := hP _ (List.mem_of_getElem? (i := 0) rfl)
  have h1 : ρ 0 + 0 ≤ ρ 1 + 0 := hP _ (List.mem_of_getElem? (i := 1) rfl)
  have h2 : ρ 1 + 0 ≤ ρ 0 + 0 := hP _ (List.mem_of_getElem? (i := 2) rfl)
  try simp only [Int.add_zero] at h0 h1 h2
  have key : (cEnd (ρ 0 + 0 : Int) (ρ 1 + 0 : Int)) ∧ True := by
    try simp only [Int.add_zero]
    obtain ⟨d1, d2, -⟩ := dm (p := ρ 0) (by omega) (show (0 : Int) < 2 by decide)
    rw [d2] at h0
    
    exact ⟨⟨by omega, by omega, Or.inr (by omega)⟩, trivial⟩
  exact ⟨nB, qB (key.1) (nB)⟩
def t_ucs0 : KT := ((0, 0, 0, 0), [(2, 0, 19, 0), (2, 1, 20, 0), (1, 2, 0, 0), (1, 3, 0, 0)], [(0, 0), (0, 0), (-2147483648, 2147483647), (0, 399)], [(457, [(2, 0, 19, 0)]), (11, [(2, 0, 19, 0), (0, 0, 0, 3), (2, 1, 20, 0)]), (10, [(2, 1, 20, 0), (1, 3, 0, 0), (1, 2, 0, 0)]), (460, [(1, 3, 0, 0)])], (0, 0, 0), [], [], ([], [(475, [(1, 2, 0, 0), (1, 3, 0, 0)])]), ([], []))
set_option maxRecDepth 100000 in
theorem l_ucs0 (g : GG) : LOK Yt (PSt g) t_ucs0 := by
  intro ρ α Γ M as hT hB hA hP
  have g0 : Γ (α 0) = 19 := tyAt hA (i := 0) rfl
  have g1 : Γ (α 1) = 20 := tyAt hA (i := 1) rfl
  have b2 : -2147483648 ≤ ρ 2 ∧ ρ 2 ≤ 2147483647 := hB 2
  have b3 : 0 ≤ ρ 3 ∧ ρ 3 ≤ 399 := hB 3
  have h0 : Γ (α 0) = 19 ∧ tyO Γ M (α 0) [(3, 20, [(0, 400)])] ∧ Q457 g (vw M (α 0) 3 [(0, 400)]) (clp [(0, 1)] (M.2.2.2.2 (α 0)))  := hP _ (List.mem_of_getElem? (i := 0) rfl)
  have h1 : 0 ≤ (3 : Int) ∧ M.2.2.2.1 (α 0) (3 : Int).toNat = some (α 1) := hP _ (List.mem_of_getElem? (i := 1) rfl)
  have h2 : 0 ≤ (ρ 3 + 0 : Int) ∧ M.2.2.2.2 (α 1) (ρ 3 + 0 : Int).toNat = ρ 2 + 0 := hP _ (List.mem_of_getElem? (i := 2) rfl)
  have h3 : 0 ≤ (ρ 3 + 0 : Int) ∧ (ρ 3 + 0 : Int) < tqL g := hP _ (List.mem_of_getElem? (i := 3) rfl)
  try simp only [Int.add_zero] at h0 h1 h2 h3
  have key : (0 ≤ (ρ 3 + 0 : Int) ∧ ρ 2 + 0 = tqB g (ρ 3 + 0 : Int).toNat) ∧ True := by
    try simp only [Int.add_zero]
    have e3 : fl M (α 0) 3 = α 1 := fl_eq (show M.2.2.2.1 (α 0) 3 = some (α 1) from h1.2)
    obtain ⟨-, -, -, h⟩ := h0
    have h : ∀ j : Nat, (j : Int) < tqL g → clp [(0, 400)] (M.2.2.2.2 (fl M (α 0) 3)) j = tqB g j := h
    have x := h (ρ 3).toNat (by omega)
    rw [e3, cAll (by omega), h2.2] at x
    exact ⟨⟨by omega, x⟩, trivial⟩
  exact ⟨nB, qB (key.1) (nB)⟩
def t_ucs6 : KT := ((0, 0, 0, 0), [(2, 0, 19, 0), (2, 1, 20, 0), (1, 2, 0, 0), (1, 3, 0, 0)], [(0, 0), (0, 0), (-2147483648, 2147483647), (1, 399)], [(457, [(2, 0, 19, 0)]), (11, [(2, 0, 19, 0), (0, 0, 0, 3), (2, 1, 20, 0)]), (10, [(2, 1, 20, 0), (1, 3, 0, -1), (1, 2, 0, 0)]), (460, [(1, 3, 0, 0)])], (0, 0, 0), [], [], ([], [(475, [(1, 2, 0, 0), (1, 3, 0, -1)])]), ([], []))
set_option maxRecDepth 100000 in
theorem l_ucs6 (g : GG) : LOK Yt (PSt g) t_ucs6 := by
  intro ρ α Γ M as hT hB hA hP
  have g0 : Γ (α 0) = 19 := tyAt hA (i := 0) rfl
  have g1 : Γ (α 1) = 20 := tyAt hA (i := 1) rfl
  have b2 : -2147483648 ≤ ρ 2 ∧ ρ 2 ≤ 2147483647 := hB 2
  have b3 : 1 ≤ ρ 3 ∧ ρ 3 ≤ 399 := hB 3
  have h0 : Γ (α 0) = 19 ∧ tyO Γ M (α 0) [(3, 20, [(0, 400)])] ∧ Q457 g (vw M (α 0) 3 [(0, 400)]) (clp [(0, 1)] (M.2.2.2.2 (α 0)))  := hP _ (List.mem_of_getElem? (i := 0) rfl)
  have h1 : 0 ≤ (3 : Int) ∧ M.2.2.2.1 (α 0) (3 : Int).toNat = some (α 1) := hP _ (List.mem_of_getElem? (i := 1) rfl)
  have h2 : 0 ≤ (ρ 3 + (-1) : Int) ∧ M.2.2.2.2 (α 1) (ρ 3 + (-1) : Int).toNat = ρ 2 + 0 := hP _ (List.mem_of_getElem? (i := 2) rfl)
  have h3 : 0 ≤ (ρ 3 + 0 : Int) ∧ (ρ 3 + 0 : Int) < tqL g := hP _ (List.mem_of_getElem? (i := 3) rfl)
  try simp only [Int.add_zero] at h0 h1 h2 h3
  have key : (0 ≤ (ρ 3 + (-1) : Int) ∧ ρ 2 + 0 = tqB g (ρ 3 + (-1) : Int).toNat) ∧ True := by
    try simp only [Int.add_zero]
    have e3 : fl M (α 0) 3 = α 1 := fl_eq (show M.2.2.2.1 (α 0) 3 = some (α 1) from h1.2)
    obtain ⟨-, -, -, h⟩ := h0
    have h : ∀ j : Nat, (j : Int) < tqL g → clp [(0, 400)] (M.2.2.2.2 (fl M (α 0) 3)) j = tqB g j := h
    have x := h (ρ 3 + -1).toNat (by omega)
    rw [e3, cAll (by omega), h2.2] at x
    exact ⟨⟨by omega, x⟩, trivial⟩
  exact ⟨nB, qB (key.1) (nB)⟩
def t_ucs1 : KT := ((0, 0, 0, 0), [(1, 0, 0, 0), (1, 1, 0, 0)], [(0, 15), (-2147483648, 2147483647)], [(467, [(1, 0, 0, 0), (1, 1, 0, 0)])], (0, 0, 0), [], [], ([], [(489, [(1, 1, 0, 0)])]), ([], []))
set_option maxRecDepth 100000 in
theorem l_ucs1 (g : GG) : LOK Yt (PSt g) t_ucs1 := by
  intro ρ α Γ M as hT hB hA hP
  have b0 : 0 ≤ ρ 0 ∧ ρ 0 ≤ 15 := hB 0
  have b1 : -2147483648 ≤ ρ 1 ∧ ρ 1 ≤ 2147483647 := hB 1
  have h0 : (ρ 0 + 0 : Int) = -1 ↔ ¬ dgt (ρ 1 + 0 : Int) := hP _ (List.mem_of_getElem? (i := 0) rfl)
  try simp only [Int.add_zero] at h0
  have key : (dgt (ρ 1 + 0 : Int)) ∧ True := by
    try simp only [Int.add_zero]
    exact ⟨Decidable.byContradiction fun h => by have := h0.mpr h; omega, trivial⟩
  exact ⟨nB, qB (key.1) (nB)⟩
def t_ucs2 : KT := ((0, 0, 0, 0), [(1, 0, 0, 0), (1, 1, 0, 0)], [(-1, -1), (-2147483648, 2147483647)], [(467, [(1, 0, 0, 0), (1, 1, 0, 0)])], (0, 0, 0), [], [], ([], [(490, [(1, 1, 0, 0)])]), ([], []))
set_option maxRecDepth 100000 in
theorem l_ucs2 (g : GG) : LOK Yt (PSt g) t_ucs2 := by
  intro ρ α Γ M as hT hB hA hP
  have b0 : -1 ≤ ρ 0 ∧ ρ 0 ≤ -1 := hB 0
  have b1 : -2147483648 ≤ ρ 1 ∧ ρ 1 ≤ 2147483647 := hB 1
  have h0 : (ρ 0 + 0 : Int) = -1 ↔ ¬ dgt (ρ 1 + 0 : Int) := hP _ (List.mem_of_getElem? (i := 0) rfl)
  try simp only [Int.add_zero] at h0
  have key : (¬ dgt (ρ 1 + 0 : Int)) ∧ True := by
    try simp only [Int.add_zero]
    exact ⟨h0.mp (by omega), trivial⟩
  exact ⟨nB, qB (key.1) (nB)⟩
def t_ucs3a : KT := ((0, 0, 0, 0), [(1, 0, 0, 0), (1, 1, 0, 0), (1, 2, 0, 0), (1, 3, 0, 0)], [(-2147483648, 2147483647), (0, 24), (-2147483648, 2147483647), (0, 0)], [(475, [(1, 2, 0, 0), (1, 0, 0, 0)]), (27, [(1, 1, 0, 0), (0, 0, 0, 2), (1, 3, 0, 0)]), (489, [(1, 2, 0, 0)])], (0, 0, 0), [], [], ([], [(464, [(1, 0, 0, 0), (1, 1, 0, 0)])]), ([], []))
set_option maxRecDepth 100000 in
theorem l_ucs3a (g : GG) : LOK Yt (PSt g) t_ucs3a := by
  intro ρ α Γ M as hT hB hA hP
  have b0 : -2147483648 ≤ ρ 0 ∧ ρ 0 ≤ 2147483647 := hB 0
  have b1 : 0 ≤ ρ 1 ∧ ρ 1 ≤ 24 := hB 1
  have b2 : -2147483648 ≤ ρ 2 ∧ ρ 2 ≤ 2147483647 := hB 2
  have b3 : 0 ≤ ρ 3 ∧ ρ 3 ≤ 0 := hB 3
  have h0 : 0 ≤ (ρ 0 + 0 : Int) ∧ ρ 2 + 0 = tqB g (ρ 0 + 0 : Int).toNat := hP _ (List.mem_of_getElem? (i := 0) rfl)
  have h1 : ρ 3 + 0 = (ρ 1 + 0 : Int).tmod (2) := hP _ (List.mem_of_getElem? (i := 1) rfl)
  have h2 : dgt (ρ 2 + 0 : Int) := hP _ (List.mem_of_getElem? (i := 2) rfl)
  try simp only [Int.add_zero] at h0 h1 h2
  have key : (cStd (tqB g) (ρ 0 + 0 : Int).toNat (ρ 1 + 0 : Int)) ∧ True := by
    try simp only [Int.add_zero]
    have cb : tqB g (ρ 0).toNat = ρ 2 := (h0.2).symm
    obtain ⟨d1, d2, -⟩ := dm (p := ρ 1) (by omega) (show (0 : Int) < 2 by decide)
    rw [d2] at h1
    have ev : ρ 1 % 2 = 0 ∨ (ρ 0).toNat = 0 := Or.inl (by omega)
    exact ⟨⟨fun _ => by rw [cb]; exact Or.inl h2, fun h => absurd ev h⟩, trivial⟩
  exact ⟨nB, qB (key.1) (nB)⟩
def t_ucs4a : KT := ((0, 0, 0, 0), [(1, 0, 0, 0), (1, 1, 0, 0), (1, 2, 0, 0), (1, 3, 0, 0)], [(-2147483648, 2147483647), (0, 24), (46, 46), (0, 0)], [(475, [(1, 2, 0, 0), (1, 0, 0, 0)]), (27, [(1, 1, 0, 0), (0, 0, 0, 2), (1, 3, 0, 0)])], (0, 0, 0), [], [], ([], [(464, [(1, 0, 0, 0), (1, 1, 0, 0)])]), ([], []))
set_option maxRecDepth 100000 in
theorem l_ucs4a (g : GG) : LOK Yt (PSt g) t_ucs4a := by
  intro ρ α Γ M as hT hB hA hP
  have b0 : -2147483648 ≤ ρ 0 ∧ ρ 0 ≤ 2147483647 := hB 0
  have b1 : 0 ≤ ρ 1 ∧ ρ 1 ≤ 24 := hB 1
  have b2 : 46 ≤ ρ 2 ∧ ρ 2 ≤ 46 := hB 2
  have b3 : 0 ≤ ρ 3 ∧ ρ 3 ≤ 0 := hB 3
  have h0 : 0 ≤ (ρ 0 + 0 : Int) ∧ ρ 2 + 0 = tqB g (ρ 0 + 0 : Int).toNat := hP _ (List.mem_of_getElem? (i := 0) rfl)
  have h1 : ρ 3 + 0 = (ρ 1 + 0 : Int).tmod (2) := hP _ (List.mem_of_getElem? (i := 1) rfl)
  try simp only [Int.add_zero] at h0 h1
  have key : (cStd (tqB g) (ρ 0 + 0 : Int).toNat (ρ 1 + 0 : Int)) ∧ True := by
    try simp only [Int.add_zero]
    have cb : tqB g (ρ 0).toNat = ρ 2 := (h0.2).symm
    obtain ⟨d1, d2, -⟩ := dm (p := ρ 1) (by omega) (show (0 : Int) < 2 by decide)
    rw [d2] at h1
    have ev : ρ 1 % 2 = 0 ∨ (ρ 0).toNat = 0 := Or.inl (by omega)
    exact ⟨⟨fun _ => by rw [cb]; exact Or.inr (by omega), fun h => absurd ev h⟩, trivial⟩
  exact ⟨nB, qB (key.1) (nB)⟩
def t_ucs5a : KT := ((0, 0, 0, 0), [(1, 0, 0, 0), (1, 1, 0, 0), (1, 2, 0, 0), (1, 3, 0, 0)], [(-2147483648, 2147483647), (0, 24), (-2147483648, 2147483647), (0, 0)], [(475, [(1, 2, 0, 0), (1, 0, 0, 0)]), (27, [(1, 1, 0, 0), (0, 0, 0, 2), (1, 3, 0, 0)]), (490, [(1, 2, 0, 0)]), (99, [(1, 2, 0, 0), (0, 0, 0, 46), (0, 0, 0, 0)])], (0, 0, 0), [], [], ([], [(465, [(1, 0, 0, 0), (1, 1, 0, 0)])]), ([], []))
set_option maxRecDepth 100000 in
theorem l_ucs5a (g : GG) : LOK Yt (PSt g) t_ucs5a := by
  intro ρ α Γ M as hT hB hA hP
  have b0 : -2147483648 ≤ ρ 0 ∧ ρ 0 ≤ 2147483647 := hB 0
  have b1 : 0 ≤ ρ 1 ∧ ρ 1 ≤ 24 := hB 1
  have b2 : -2147483648 ≤ ρ 2 ∧ ρ 2 ≤ 2147483647 := hB 2
  have b3 : 0 ≤ ρ 3 ∧ ρ 3 ≤ 0 := hB 3
  have h0 : 0 ≤ (ρ 0 + 0 : Int) ∧ ρ 2 + 0 = tqB g (ρ 0 + 0 : Int).toNat := hP _ (List.mem_of_getElem? (i := 0) rfl)
  have h1 : ρ 3 + 0 = (ρ 1 + 0 : Int).tmod (2) := hP _ (List.mem_of_getElem? (i := 1) rfl)
  have h2 : ¬ dgt (ρ 2 + 0 : Int) := hP _ (List.mem_of_getElem? (i := 2) rfl)
  have h3 : (ρ 2 + 0 : Int) ≠ 46 := hP _ (List.mem_of_getElem? (i := 3) rfl)
  try simp only [Int.add_zero] at h0 h1 h2 h3
  have key : (¬ cStd (tqB g) (ρ 0 + 0 : Int).toNat (ρ 1 + 0 : Int)) ∧ True := by
    try simp only [Int.add_zero]
    have cb : tqB g (ρ 0).toNat = ρ 2 := (h0.2).symm
    obtain ⟨d1, d2, -⟩ := dm (p := ρ 1) (by omega) (show (0 : Int) < 2 by decide)
    rw [d2] at h1
    have ev : ρ 1 % 2 = 0 ∨ (ρ 0).toNat = 0 := Or.inl (by omega)
    exact ⟨fun h => by
      have := h.1 ev
      rw [cb] at this
      rcases this with x | x
      · exact h2 x
      · exact h3 x, trivial⟩
  exact ⟨nB, qB (key.1) (nB)⟩
def t_ucs3b : KT := ((0, 0, 0, 0), [(1, 0, 0, 0), (1, 1, 0, 0), (1, 2, 0, 0), (1, 3, 0, 0)], [(0, 0), (0, 24), (-2147483648, 2147483647), (-2147483648, 2147483647)], [(475, [(1, 2, 0, 0), (1, 0, 0, 0)]), (489, [(1, 2, 0, 0)])], (0, 0, 0), [], [], ([], [(464, [(1, 0, 0, 0), (1, 1, 0, 0)])]), ([], []))
set_option maxRecDepth 100000 in
theorem l_ucs3b (g : GG) : LOK Yt (PSt g) t_ucs3b := by
  intro ρ α Γ M as hT hB hA hP
  have b0 : 0 ≤ ρ 0 ∧ ρ 0 ≤ 0 := hB 0
  have b1 : 0 ≤ ρ 1 ∧ ρ 1 ≤ 24 := hB 1
  have b2 : -2147483648 ≤ ρ 2 ∧ ρ 2 ≤ 2147483647 := hB 2
  have b3 : -2147483648 ≤ ρ 3 ∧ ρ 3 ≤ 2147483647 := hB 3
  have h0 : 0 ≤ (ρ 0 + 0 : Int) ∧ ρ 2 + 0 = tqB g (ρ 0 + 0 : Int).toNat := hP _ (List.mem_of_getElem? (i := 0) rfl)
  have h1 : dgt (ρ 2 + 0 : Int) := hP _ (List.mem_of_getElem? (i := 1) rfl)
  try simp only [Int.add_zero] at h0 h1
  have key : (cStd (tqB g) (ρ 0 + 0 : Int).toNat (ρ 1 + 0 : Int)) ∧ True := by
    try simp only [Int.add_zero]
    have cb : tqB g (ρ 0).toNat = ρ 2 := (h0.2).symm
    have ev : ρ 1 % 2 = 0 ∨ (ρ 0).toNat = 0 := Or.inr (by omega)
    exact ⟨⟨fun _ => by rw [cb]; exact Or.inl h1, fun h => absurd ev h⟩, trivial⟩
  exact ⟨nB, qB (key.1) (nB)⟩
def t_ucs4b : KT := ((0, 0, 0, 0), [(1, 0, 0, 0), (1, 1, 0, 0), (1, 2, 0, 0), (1, 3, 0, 0)], [(0, 0), (0, 24), (46, 46), (-2147483648, 2147483647)], [(475, [(1, 2, 0, 0), (1, 0, 0, 0)])], (0, 0, 0), [], [], ([], [(464, [(1, 0, 0, 0), (1, 1, 0, 0)])]), ([], []))
set_option maxRecDepth 100000 in
theorem l_ucs4b (g : GG) : LOK Yt (PSt g) t_ucs4b := by
  intro ρ α Γ M as hT hB hA hP
  have b0 : 0 ≤ ρ 0 ∧ ρ 0 ≤ 0 := hB 0
  have b1 : 0 ≤ ρ 1 ∧ ρ 1 ≤ 24 := hB 1
  have b2 : 46 ≤ ρ 2 ∧ ρ 2 ≤ 46 := hB 2
  have b3 : -2147483648 ≤ ρ 3 ∧ ρ 3 ≤ 2147483647 := hB 3
  have h0 : 0 ≤ (ρ 0 + 0 : Int) ∧ ρ 2 + 0 = tqB g (ρ 0 + 0 : Int).toNat := hP _ (List.mem_of_getElem? (i := 0) rfl)
  try simp only [Int.add_zero] at h0
  have key : (cStd (tqB g) (ρ 0 + 0 : Int).toNat (ρ 1 + 0 : Int)) ∧ True := by
    try simp only [Int.add_zero]
    have cb : tqB g (ρ 0).toNat = ρ 2 := (h0.2).symm
    have ev : ρ 1 % 2 = 0 ∨ (ρ 0).toNat = 0 := Or.inr (by omega)
    exact ⟨⟨fun _ => by rw [cb]; exact Or.inr (by omega), fun h => absurd ev h⟩, trivial⟩
  exact ⟨nB, qB (key.1) (nB)⟩
def t_ucs5b : KT := ((0, 0, 0, 0), [(1, 0, 0, 0), (1, 1, 0, 0), (1, 2, 0, 0), (1, 3, 0, 0)], [(0, 0), (0, 24), (-2147483648, 2147483647), (-2147483648, 2147483647)], [(475, [(1, 2, 0, 0), (1, 0, 0, 0)]), (490, [(1, 2, 0, 0)]), (99, [(1, 2, 0, 0), (0, 0, 0, 46), (0, 0, 0, 0)])], (0, 0, 0), [], [], ([], [(465, [(1, 0, 0, 0), (1, 1, 0, 0)])]), ([], []))
set_option maxRecDepth 100000 in
theorem l_ucs5b (g : GG) : LOK Yt (PSt g) t_ucs5b := by
  intro ρ α Γ M as hT hB hA hP
  have b0 : 0 ≤ ρ 0 ∧ ρ 0 ≤ 0 := hB 0
  have b1 : 0 ≤ ρ 1 ∧ ρ 1 ≤ 24 := hB 1
  have b2 : -2147483648 ≤ ρ 2 ∧ ρ 2 ≤ 2147483647 := hB 2
  have b3 : -2147483648 ≤ ρ 3 ∧ ρ 3 ≤ 2147483647 := hB 3
  have h0 : 0 ≤ (ρ 0 + 0 : Int) ∧ ρ 2 + 0 = tqB g (ρ 0 + 0 : Int).toNat := hP _ (List.mem_of_getElem? (i := 0) rfl)
  have h1 : ¬ dgt (ρ 2 + 0 : Int) := hP _ (List.mem_of_getElem? (i := 1) rfl)
  have h2 : (ρ 2 + 0 : Int) ≠ 46 := hP _ (List.mem_of_getElem? (i := 2) rfl)
  try simp only [Int.add_zero] at h0 h1 h2
  have key : (¬ cStd (tqB g) (ρ 0 + 0 : Int).toNat (ρ 1 + 0 : Int)) ∧ True := by
    try simp only [Int.add_zero]
    have cb : tqB g (ρ 0).toNat = ρ 2 := (h0.2).symm
    have ev : ρ 1 % 2 = 0 ∨ (ρ 0).toNat = 0 := Or.inr (by omega)
    exact ⟨fun h => by
      have := h.1 ev
      rw [cb] at this
      rcases this with x | x
      · exact h1 x
      · exact h2 x, trivial⟩
  exact ⟨nB, qB (key.1) (nB)⟩
def t_ucs7 : KT := ((0, 0, 0, 0), [(1, 0, 0, 0), (1, 1, 0, 0), (1, 2, 0, 0), (1, 3, 0, 0), (1, 4, 0, 0)], [(1, 399), (0, 24), (46, 46), (1, 1), (46, 46)], [(475, [(1, 2, 0, 0), (1, 0, 0, 0)]), (475, [(1, 4, 0, 0), (1, 0, 0, -1)]), (27, [(1, 1, 0, 0), (0, 0, 0, 2), (1, 3, 0, 0)])], (0, 0, 0), [], [], ([], [(464, [(1, 0, 0, 0), (1, 1, 0, 0)])]), ([], []))
set_option maxRecDepth 100000 in
theorem l_ucs7 (g : GG) : LOK Yt (PSt g) t_ucs7 := by
  intro ρ α Γ M as hT hB hA hP
  have b0 : 1 ≤ ρ 0 ∧ ρ 0 ≤ 399 := hB 0
  have b1 : 0 ≤ ρ 1 ∧ ρ 1 ≤ 24 := hB 1
  have b2 : 46 ≤ ρ 2 ∧ ρ 2 ≤ 46 := hB 2
  have b3 : 1 ≤ ρ 3 ∧ ρ 3 ≤ 1 := hB 3
  have b4 : 46 ≤ ρ 4 ∧ ρ 4 ≤ 46 := hB 4
  have h0 : 0 ≤ (ρ 0 + 0 : Int) ∧ ρ 2 + 0 = tqB g (ρ 0 + 0 : Int).toNat := hP _ (List.mem_of_getElem? (i := 0) rfl)
  have h1 : 0 ≤ (ρ 0 + (-1) : Int) ∧ ρ 4 + 0 = tqB g (ρ 0 + (-1) : Int).toNat := hP _ (List.mem_of_getElem? (i := 1) rfl)
  have h2 : ρ 3 + 0 = (ρ 1 + 0 : Int).tmod (2) := hP _ (List.mem_of_getElem? (i := 2) rfl)
  try simp only [Int.add_zero] at h0 h1 h2
  have key : (cStd (tqB g) (ρ 0 + 0 : Int).toNat (ρ 1 + 0 : Int)) ∧ True := by
    try simp only [Int.add_zero]
    have cb : tqB g (ρ 0).toNat = ρ 2 := (h0.2).symm
    have pb : tqB g ((ρ 0).toNat - 1) = ρ 4 := by rw [show (ρ 0).toNat - 1 = (ρ 0 + -1).toNat by omega]; exact (h1.2).symm
    obtain ⟨d1, d2, -⟩ := dm (p := ρ 1) (by omega) (show (0 : Int) < 2 by decide)
    rw [d2] at h2
    have od : ¬ (ρ 1 % 2 = 0 ∨ (ρ 0).toNat = 0) := by omega
    exact ⟨⟨fun h => absurd h od, fun _ => ⟨fun _ => by rw [cb]; omega, fun h => absurd (by rw [pb]; omega) h⟩⟩, trivial⟩
  exact ⟨nB, qB (key.1) (nB)⟩
def t_ucs8 : KT := ((0, 0, 0, 0), [(1, 0, 0, 0), (1, 1, 0, 0), (1, 2, 0, 0), (1, 3, 0, 0), (1, 4, 0, 0)], [(1, 399), (0, 24), (-2147483648, 2147483647), (1, 1), (46, 46)], [(475, [(1, 2, 0, 0), (1, 0, 0, 0)]), (475, [(1, 4, 0, 0), (1, 0, 0, -1)]), (27, [(1, 1, 0, 0), (0, 0, 0, 2), (1, 3, 0, 0)]), (99, [(1, 2, 0, 0), (0, 0, 0, 46), (0, 0, 0, 0)])], (0, 0, 0), [], [], ([], [(465, [(1, 0, 0, 0), (1, 1, 0, 0)])]), ([], []))
set_option maxRecDepth 100000 in
theorem l_ucs8 (g : GG) : LOK Yt (PSt g) t_ucs8 := by
  intro ρ α Γ M as hT hB hA hP
  have b0 : 1 ≤ ρ 0 ∧ ρ 0 ≤ 399 := hB 0
  have b1 : 0 ≤ ρ 1 ∧ ρ 1 ≤ 24 := hB 1
  have b2 : -2147483648 ≤ ρ 2 ∧ ρ 2 ≤ 2147483647 := hB 2
  have b3 : 1 ≤ ρ 3 ∧ ρ 3 ≤ 1 := hB 3
  have b4 : 46 ≤ ρ 4 ∧ ρ 4 ≤ 46 := hB 4
  have h0 : 0 ≤ (ρ 0 + 0 : Int) ∧ ρ 2 + 0 = tqB g (ρ 0 + 0 : Int).toNat := hP _ (List.mem_of_getElem? (i := 0) rfl)
  have h1 : 0 ≤ (ρ 0 + (-1) : Int) ∧ ρ 4 + 0 = tqB g (ρ 0 + (-1) : Int).toNat := hP _ (List.mem_of_getElem? (i := 1) rfl)
  have h2 : ρ 3 + 0 = (ρ 1 + 0 : Int).tmod (2) := hP _ (List.mem_of_getElem? (i := 2) rfl)
  have h3 : (ρ 2 + 0 : Int) ≠ 46 := hP _ (List.mem_of_getElem? (i := 3) rfl)
  try simp only [Int.add_zero] at h0 h1 h2 h3
  have key : (¬ cStd (tqB g) (ρ 0 + 0 : Int).toNat (ρ 1 + 0 : Int)) ∧ True := by
    try simp only [Int.add_zero]
    have cb : tqB g (ρ 0).toNat = ρ 2 := (h0.2).symm
    have pb : tqB g ((ρ 0).toNat - 1) = ρ 4 := by rw [show (ρ 0).toNat - 1 = (ρ 0 + -1).toNat by omega]; exact (h1.2).symm
    obtain ⟨d1, d2, -⟩ := dm (p := ρ 1) (by omega) (show (0 : Int) < 2 by decide)
    rw [d2] at h2
    have od : ¬ (ρ 1 % 2 = 0 ∨ (ρ 0).toNat = 0) := by omega
    exact ⟨fun h => h3 (by rw [← cb]; exact (h.2 od).1 (by rw [pb]; omega)), trivial⟩
  exact ⟨nB, qB (key.1) (nB)⟩
def t_ucs9 : KT := ((0, 0, 0, 0), [(1, 0, 0, 0), (1, 1, 0, 0), (1, 2, 0, 0), (1, 3, 0, 0), (1, 4, 0, 0)], [(1, 399), (0, 24), (-2147483648, 2147483647), (1, 1), (-2147483648, 2147483647)], [(475, [(1, 2, 0, 0), (1, 0, 0, 0)]), (475, [(1, 4, 0, 0), (1, 0, 0, -1)]), (27, [(1, 1, 0, 0), (0, 0, 0, 2), (1, 3, 0, 0)]), (99, [(1, 4, 0, 0), (0, 0, 0, 46), (0, 0, 0, 0)]), (489, [(1, 2, 0, 0)])], (0, 0, 0), [], [], ([], [(464, [(1, 0, 0, 0), (1, 1, 0, 0)])]), ([], []))
set_option maxRecDepth 100000 in
theorem l_ucs9 (g : GG) : LOK Yt (PSt g) t_ucs9 := by
  intro ρ α Γ M as hT hB hA hP
  have b0 : 1 ≤ ρ 0 ∧ ρ 0 ≤ 399 := hB 0
  have b1 : 0 ≤ ρ 1 ∧ ρ 1 ≤ 24 := hB 1
  have b2 : -2147483648 ≤ ρ 2 ∧ ρ 2 ≤ 2147483647 := hB 2
  have b3 : 1 ≤ ρ 3 ∧ ρ 3 ≤ 1 := hB 3
  have b4 : -2147483648 ≤ ρ 4 ∧ ρ 4 ≤ 2147483647 := hB 4
  have h0 : 0 ≤ (ρ 0 + 0 : Int) ∧ ρ 2 + 0 = tqB g (ρ 0 + 0 : Int).toNat := hP _ (List.mem_of_getElem? (i := 0) rfl)
  have h1 : 0 ≤ (ρ 0 + (-1) : Int) ∧ ρ 4 + 0 = tqB g (ρ 0 + (-1) : Int).toNat := hP _ (List.mem_of_getElem? (i := 1) rfl)
  have h2 : ρ 3 + 0 = (ρ 1 + 0 : Int).tmod (2) := hP _ (List.mem_of_getElem? (i := 2) rfl)
  have h3 : (ρ 4 + 0 : Int) ≠ 46 := hP _ (List.mem_of_getElem? (i := 3) rfl)
  have h4 : dgt (ρ 2 + 0 : Int) := hP _ (List.mem_of_getElem? (i := 4) rfl)
  try simp only [Int.add_zero] at h0 h1 h2 h3 h4
  have key : (cStd (tqB g) (ρ 0 + 0 : Int).toNat (ρ 1 + 0 : Int)) ∧ True := by
    try simp only [Int.add_zero]
    have cb : tqB g (ρ 0).toNat = ρ 2 := (h0.2).symm
    have pb : tqB g ((ρ 0).toNat - 1) = ρ 4 := by rw [show (ρ 0).toNat - 1 = (ρ 0 + -1).toNat by omega]; exact (h1.2).symm
    obtain ⟨d1, d2, -⟩ := dm (p := ρ 1) (by omega) (show (0 : Int) < 2 by decide)
    rw [d2] at h2
    have od : ¬ (ρ 1 % 2 = 0 ∨ (ρ 0).toNat = 0) := by omega
    exact ⟨⟨fun h => absurd h od, fun _ => ⟨fun h => absurd (by rw [pb] at h; exact h) h3, fun _ => by rw [cb]; exact h4⟩⟩, trivial⟩
  exact ⟨nB, qB (key.1) (nB)⟩
def t_ucsA : KT := ((0, 0, 0, 0), [(1, 0, 0, 0), (1, 1, 0, 0), (1, 2, 0, 0), (1, 3, 0, 0), (1, 4, 0, 0)], [(1, 399), (0, 24), (-2147483648, 2147483647), (1, 1), (-2147483648, 2147483647)], [(475, [(1, 2, 0, 0), (1, 0, 0, 0)]), (475, [(1, 4, 0, 0), (1, 0, 0, -1)]), (27, [(1, 1, 0, 0), (0, 0, 0, 2), (1, 3, 0, 0)]), (99, [(1, 4, 0, 0), (0, 0, 0, 46), (0, 0, 0, 0)]), (490, [(1, 2, 0, 0)])], (0, 0, 0), [], [], ([], [(465, [(1, 0, 0, 0), (1, 1, 0, 0)])]), ([], []))
set_option maxRecDepth 100000 in
theorem l_ucsA (g : GG) : LOK Yt (PSt g) t_ucsA := by
  intro ρ α Γ M as hT hB hA hP
  have b0 : 1 ≤ ρ 0 ∧ ρ 0 ≤ 399 := hB 0
  have b1 : 0 ≤ ρ 1 ∧ ρ 1 ≤ 24 := hB 1
  have b2 : -2147483648 ≤ ρ 2 ∧ ρ 2 ≤ 2147483647 := hB 2
  have b3 : 1 ≤ ρ 3 ∧ ρ 3 ≤ 1 := hB 3
  have b4 : -2147483648 ≤ ρ 4 ∧ ρ 4 ≤ 2147483647 := hB 4
  have h0 : 0 ≤ (ρ 0 + 0 : Int) ∧ ρ 2 + 0 = tqB g (ρ 0 + 0 : Int).toNat := hP _ (List.mem_of_getElem? (i := 0) rfl)
  have h1 : 0 ≤ (ρ 0 + (-1) : Int) ∧ ρ 4 + 0 = tqB g (ρ 0 + (-1) : Int).toNat := hP _ (List.mem_of_getElem? (i := 1) rfl)
  have h2 : ρ 3 + 0 = (ρ 1 + 0 : Int).tmod (2) := hP _ (List.mem_of_getElem? (i := 2) rfl)
  have h3 : (ρ 4 + 0 : Int) ≠ 46 := hP _ (List.mem_of_getElem? (i := 3) rfl)
  have h4 : ¬ dgt (ρ 2 + 0 : Int) := hP _ (List.mem_of_getElem? (i := 4) rfl)
  try simp only [Int.add_zero] at h0 h1 h2 h3 h4
  have key : (¬ cStd (tqB g) (ρ 0 + 0 : Int).toNat (ρ 1 + 0 : Int)) ∧ True := by
    try simp only [Int.add_zero]
    have cb : tqB g (ρ 0).toNat = ρ 2 := (h0.2).symm
    have pb : tqB g ((ρ 0).toNat - 1) = ρ 4 := by rw [show (ρ 0).toNat - 1 = (ρ 0 + -1).toNat by omega]; exact (h1.2).symm
    obtain ⟨d1, d2, -⟩ := dm (p := ρ 1) (by omega) (show (0 : Int) < 2 by decide)
    rw [d2] at h2
    have od : ¬ (ρ 1 % 2 = 0 ∨ (ρ 0).toNat = 0) := by omega
    exact ⟨fun h => h4 (by rw [← cb]; exact (h.2 od).2 (by rw [pb]; exact h3)), trivial⟩
  exact ⟨nB, qB (key.1) (nB)⟩
def t_uff0 : KT := ((0, 0, 0, 0), [(1, 0, 0, 0), (1, 1, 0, 0), (1, 2, 0, 0), (1, 3, 0, 0)], [(0, 0), (0, 0), (0, 0), (0, 0)], [], (0, 0, 0), [], [], ([], [(459, [(1, 0, 0, 0), (1, 1, 0, 0), (1, 2, 0, 0), (1, 3, 0, 0)]), (461, [(1, 0, 0, 0)])]), ([], []))
set_option maxRecDepth 100000 in
theorem l_uff0 (g : GG) : LOK Yt (PSt g) t_uff0 := by
  intro ρ α Γ M as hT hB hA hP
  have b0 : 0 ≤ ρ 0 ∧ ρ 0 ≤ 0 := hB 0
  have b1 : 0 ≤ ρ 1 ∧ ρ 1 ≤ 0 := hB 1
  have b2 : 0 ≤ ρ 2 ∧ ρ 2 ≤ 0 := hB 2
  have b3 : 0 ≤ ρ 3 ∧ ρ 3 ≤ 0 := hB 3
  have key : (0 ≤ (ρ 0 + 0 : Int) ∧ tS (tqB g) (ρ 0 + 0 : Int).toNat = some ((ρ 1 + 0 : Int), (ρ 2 + 0 : Int), (ρ 3 + 0 : Int))) ∧ ((ρ 0 + 0 : Int) ≤ tqL g) ∧ True := by
    try simp only [Int.add_zero]
    have e0 : ρ 0 = 0 := by omega
    have e1 : ρ 1 = 0 := by omega
    have e2 : ρ 2 = 0 := by omega
    have e3 : ρ 3 = 0 := by omega
    rw [e0, e1, e2, e3]
    exact ⟨⟨by decide, rfl⟩, Int.natCast_nonneg _, trivial⟩
  exact ⟨nB, qB (key.1) (qB (key.2.1) (nB))⟩
def t_uff1 : KT := ((0, 0, 0, 0), [(2, 0, 19, 0), (1, 1, 0, 0), (1, 2, 0, 0)], [(0, 0), (0, 399), (-2147483648, 2147483647)], [(457, [(2, 0, 19, 0)]), (10, [(2, 0, 19, 0), (0, 0, 0, 0), (1, 2, 0, 0)]), (21, [(1, 1, 0, 0), (1, 2, 0, 0)])], (0, 0, 0), [], [], ([], [(460, [(1, 1, 0, 0)])]), ([], []))
set_option maxRecDepth 100000 in
theorem l_uff1 (g : GG) : LOK Yt (PSt g) t_uff1 := by
  intro ρ α Γ M as hT hB hA hP
  have g0 : Γ (α 0) = 19 := tyAt hA (i := 0) rfl
  have b1 : 0 ≤ ρ 1 ∧ ρ 1 ≤ 399 := hB 1
  have b2 : -2147483648 ≤ ρ 2 ∧ ρ 2 ≤ 2147483647 := hB 2
  have h0 : Γ (α 0) = 19 ∧ tyO Γ M (α 0) [(3, 20, [(0, 400)])] ∧ Q457 g (vw M (α 0) 3 [(0, 400)]) (clp [(0, 1)] (M.2.2.2.2 (α 0)))  := hP _ (List.mem_of_getElem? (i := 0) rfl)
  have h1 : 0 ≤ (0 : Int) ∧ M.2.2.2.2 (α 0) (0 : Int).toNat = ρ 2 + 0 := hP _ (List.mem_of_getElem? (i := 1) rfl)
  have h2 : ρ 1 + 0 < ρ 2 + 0 := hP _ (List.mem_of_getElem? (i := 2) rfl)
  try simp only [Int.add_zero] at h0 h1 h2
  have key : (0 ≤ (ρ 1 + 0 : Int) ∧ (ρ 1 + 0 : Int) < tqL g) ∧ True := by
    try simp only [Int.add_zero]
    obtain ⟨-, -, q, -⟩ := h0
    have q : M.2.2.2.2 (α 0) 0 = tqL g := q
    have e : M.2.2.2.2 (α 0) 0 = ρ 2 := h1.2
    exact ⟨⟨by omega, by omega⟩, trivial⟩
  exact ⟨nB, qB (key.1) (nB)⟩
def t_uff2 : KT := ((0, 0, 0, 0), [(1, 0, 0, 0), (1, 1, 0, 0), (1, 2, 0, 0), (1, 3, 0, 0), (1, 4, 0, 0)], [(59, 59), (-2147483648, 2147483647), (-2147483648, 2147483647), (-2147483648, 2147483647), (-2147483648, 2147483647)], [(459, [(1, 1, 0, 0), (1, 2, 0, 0), (1, 3, 0, 0), (1, 4, 0, 0)]), (475, [(1, 0, 0, 0), (1, 1, 0, 0)]), (460, [(1, 1, 0, 0)]), (463, [(1, 4, 0, 0), (1, 3, 0, 0)])], (0, 0, 0), [], [], ([], [(466, [(1, 1, 0, 0)])]), ([], []))
set_option maxRecDepth 100000 in
theorem l_uff2 (g : GG) : LOK Yt (PSt g) t_uff2 := by
  intro ρ α Γ M as hT hB hA hP
  have b0 : 59 ≤ ρ 0 ∧ ρ 0 ≤ 59 := hB 0
  have b1 : -2147483648 ≤ ρ 1 ∧ ρ 1 ≤ 2147483647 := hB 1
  have b2 : -2147483648 ≤ ρ 2 ∧ ρ 2 ≤ 2147483647 := hB 2
  have b3 : -2147483648 ≤ ρ 3 ∧ ρ 3 ≤ 2147483647 := hB 3
  have b4 : -2147483648 ≤ ρ 4 ∧ ρ 4 ≤ 2147483647 := hB 4
  have h0 : 0 ≤ (ρ 1 + 0 : Int) ∧ tS (tqB g) (ρ 1 + 0 : Int).toNat = some ((ρ 2 + 0 : Int), (ρ 3 + 0 : Int), (ρ 4 + 0 : Int)) := hP _ (List.mem_of_getElem? (i := 0) rfl)
  have h1 : 0 ≤ (ρ 1 + 0 : Int) ∧ ρ 0 + 0 = tqB g (ρ 1 + 0 : Int).toNat := hP _ (List.mem_of_getElem? (i := 1) rfl)
  have h2 : 0 ≤ (ρ 1 + 0 : Int) ∧ (ρ 1 + 0 : Int) < tqL g := hP _ (List.mem_of_getElem? (i := 2) rfl)
  have h3 : ¬ cEnd (ρ 4 + 0 : Int) (ρ 3 + 0 : Int) := hP _ (List.mem_of_getElem? (i := 3) rfl)
  try simp only [Int.add_zero] at h0 h1 h2 h3
  have key : (TR (tqB g) (tqL g) (ρ 1 + 0 : Int)) ∧ True := by
    try simp only [Int.add_zero]
    obtain ⟨i0, hs⟩ := h0
    have cb : tqB g (ρ 1).toNat = ρ 0 := (h1.2).symm
    have ei : ((ρ 1).toNat : Int) = ρ 1 := by omega
    exact ⟨Or.inl ⟨(ρ 1).toNat, ei.symm, by rw [ei]; exact h2.2, (by rw [hs]; exact fun h => nomatch h), (tS_end hs (by rw [cb]; omega)).trans (if_neg fun h => h3 h.1)⟩, trivial⟩
  exact ⟨nB, qB (key.1) (nB)⟩
def t_uff3 : KT := ((0, 0, 0, 0), [(1, 0, 0, 0), (1, 1, 0, 0), (1, 2, 0, 0), (1, 3, 0, 0), (1, 4, 0, 0)], [(59, 59), (-2147483648, 2147483647), (11, 11), (-2147483648, 2147483647), (-2147483648, 2147483647)], [(459, [(1, 1, 0, 0), (1, 2, 0, 0), (1, 3, 0, 0), (1, 4, 0, 0)]), (475, [(1, 0, 0, 0), (1, 1, 0, 0)]), (460, [(1, 1, 0, 0)])], (0, 0, 0), [], [], ([], [(466, [(1, 1, 0, 0)])]), ([], []))
set_option maxRecDepth 100000 in
theorem l_uff3 (g : GG) : LOK Yt (PSt g) t_uff3 := by
  intro ρ α Γ M as hT hB hA hP
  have b0 : 59 ≤ ρ 0 ∧ ρ 0 ≤ 59 := hB 0
  have b1 : -2147483648 ≤ ρ 1 ∧ ρ 1 ≤ 2147483647 := hB 1
  have b2 : 11 ≤ ρ 2 ∧ ρ 2 ≤ 11 := hB 2
  have b3 : -2147483648 ≤ ρ 3 ∧ ρ 3 ≤ 2147483647 := hB 3
  have b4 : -2147483648 ≤ ρ 4 ∧ ρ 4 ≤ 2147483647 := hB 4
  have h0 : 0 ≤ (ρ 1 + 0 : Int) ∧ tS (tqB g) (ρ 1 + 0 : Int).toNat = some ((ρ 2 + 0 : Int), (ρ 3 + 0 : Int), (ρ 4 + 0 : Int)) := hP _ (List.mem_of_getElem? (i := 0) rfl)
  have h1 : 0 ≤ (ρ 1 + 0 : Int) ∧ ρ 0 + 0 = tqB g (ρ 1 + 0 : Int).toNat := hP _ (List.mem_of_getElem? (i := 1) rfl)
  have h2 : 0 ≤ (ρ 1 + 0 : Int) ∧ (ρ 1 + 0 : Int) < tqL g := hP _ (List.mem_of_getElem? (i := 2) rfl)
  try simp only [Int.add_zero] at h0 h1 h2
  have key : (TR (tqB g) (tqL g) (ρ 1 + 0 : Int)) ∧ True := by
    try simp only [Int.add_zero]
    obtain ⟨i0, hs⟩ := h0
    have cb : tqB g (ρ 1).toNat = ρ 0 := (h1.2).symm
    have ei : ((ρ 1).toNat : Int) = ρ 1 := by omega
    exact ⟨Or.inl ⟨(ρ 1).toNat, ei.symm, by rw [ei]; exact h2.2, (by rw [hs]; exact fun h => nomatch h), (tS_end hs (by rw [cb]; omega)).trans (if_neg fun h => h.2 (by omega))⟩, trivial⟩
  exact ⟨nB, qB (key.1) (nB)⟩
def t_uff4 : KT := ((0, 0, 0, 0), [(1, 0, 0, 0), (1, 1, 0, 0), (1, 2, 0, 0), (1, 3, 0, 0), (1, 4, 0, 0)], [(59, 59), (-2147483648, 2147483647), (0, 10), (-2147483648, 2147483647), (-2147483648, 2147483647)], [(459, [(1, 1, 0, 0), (1, 2, 0, 0), (1, 3, 0, 0), (1, 4, 0, 0)]), (475, [(1, 0, 0, 0), (1, 1, 0, 0)]), (460, [(1, 1, 0, 0)]), (462, [(1, 4, 0, 0), (1, 3, 0, 0)])], (0, 0, 0), [], [], ([], [(459, [(1, 1, 0, 1), (1, 2, 0, 1), (1, 4, 0, 0), (0, 0, 0, 0)]), (461, [(1, 1, 0, 1)])]), ([], []))
set_option maxRecDepth 100000 in
theorem l_uff4 (g : GG) : LOK Yt (PSt g) t_uff4 := by
  intro ρ α Γ M as hT hB hA hP
  have b0 : 59 ≤ ρ 0 ∧ ρ 0 ≤ 59 := hB 0
  have b1 : -2147483648 ≤ ρ 1 ∧ ρ 1 ≤ 2147483647 := hB 1
  have b2 : 0 ≤ ρ 2 ∧ ρ 2 ≤ 10 := hB 2
  have b3 : -2147483648 ≤ ρ 3 ∧ ρ 3 ≤ 2147483647 := hB 3
  have b4 : -2147483648 ≤ ρ 4 ∧ ρ 4 ≤ 2147483647 := hB 4
  have h0 : 0 ≤ (ρ 1 + 0 : Int) ∧ tS (tqB g) (ρ 1 + 0 : Int).toNat = some ((ρ 2 + 0 : Int), (ρ 3 + 0 : Int), (ρ 4 + 0 : Int)) := hP _ (List.mem_of_getElem? (i := 0) rfl)
  have h1 : 0 ≤ (ρ 1 + 0 : Int) ∧ ρ 0 + 0 = tqB g (ρ 1 + 0 : Int).toNat := hP _ (List.mem_of_getElem? (i := 1) rfl)
  have h2 : 0 ≤ (ρ 1 + 0 : Int) ∧ (ρ 1 + 0 : Int) < tqL g := hP _ (List.mem_of_getElem? (i := 2) rfl)
  have h3 : cEnd (ρ 4 + 0 : Int) (ρ 3 + 0 : Int) := hP _ (List.mem_of_getElem? (i := 3) rfl)
  try simp only [Int.add_zero] at h0 h1 h2 h3
  have key : (0 ≤ (ρ 1 + 1 : Int) ∧ tS (tqB g) (ρ 1 + 1 : Int).toNat = some ((ρ 2 + 1 : Int), (ρ 4 + 0 : Int), (0 : Int))) ∧ ((ρ 1 + 1 : Int) ≤ tqL g) ∧ True := by
    try simp only [Int.add_zero]
    obtain ⟨i0, hs⟩ := h0
    have cb : tqB g (ρ 1).toNat = ρ 0 := (h1.2).symm
    have ei : ((ρ 1).toNat : Int) = ρ 1 := by omega
    exact ⟨⟨by omega, by rw [show (ρ 1 + 1).toNat = (ρ 1).toNat + 1 by omega]; exact (tS_end hs (by rw [cb]; omega)).trans (if_pos ⟨h3, by omega⟩)⟩, by have := h2.2; omega, trivial⟩
  exact ⟨nB, qB (key.1) (qB (key.2.1) (nB))⟩
def t_uff5 : KT := ((0, 0, 0, 0), [(1, 0, 0, 0), (1, 1, 0, 0), (1, 2, 0, 0), (1, 3, 0, 0), (1, 4, 0, 0)], [(-2147483648, 2147483647), (-2147483648, 2147483647), (-2147483648, 2147483647), (-2147483648, 2147483647), (24, 24)], [(459, [(1, 1, 0, 0), (1, 2, 0, 0), (1, 3, 0, 0), (1, 4, 0, 0)]), (475, [(1, 0, 0, 0), (1, 1, 0, 0)]), (460, [(1, 1, 0, 0)]), (99, [(1, 0, 0, 0), (0, 0, 0, 59), (0, 0, 0, 0)])], (0, 0, 0), [], [], ([], [(466, [(1, 1, 0, 0)])]), ([], []))
set_option maxRecDepth 100000 in
theorem l_uff5 (g : GG) : LOK Yt (PSt g) t_uff5 := by
  intro ρ α Γ M as hT hB hA hP
  have b0 : -2147483648 ≤ ρ 0 ∧ ρ 0 ≤ 2147483647 := hB 0
  have b1 : -2147483648 ≤ ρ 1 ∧ ρ 1 ≤ 2147483647 := hB 1
  have b2 : -2147483648 ≤ ρ 2 ∧ ρ 2 ≤ 2147483647 := hB 2
  have b3 : -2147483648 ≤ ρ 3 ∧ ρ 3 ≤ 2147483647 := hB 3
  have b4 : 24 ≤ ρ 4 ∧ ρ 4 ≤ 24 := hB 4
  have h0 : 0 ≤ (ρ 1 + 0 : Int) ∧ tS (tqB g) (ρ 1 + 0 : Int).toNat = some ((ρ 2 + 0 : Int), (ρ 3 + 0 : Int), (ρ 4 + 0 : Int)) := hP _ (List.mem_of_getElem? (i := 0) rfl)
  have h1 : 0 ≤ (ρ 1 + 0 : Int) ∧ ρ 0 + 0 = tqB g (ρ 1 + 0 : Int).toNat := hP _ (List.mem_of_getElem? (i := 1) rfl)
  have h2 : 0 ≤ (ρ 1 + 0 : Int) ∧ (ρ 1 + 0 : Int) < tqL g := hP _ (List.mem_of_getElem? (i := 2) rfl)
  have h3 : (ρ 0 + 0 : Int) ≠ 59 := hP _ (List.mem_of_getElem? (i := 3) rfl)
  try simp only [Int.add_zero] at h0 h1 h2 h3
  have key : (TR (tqB g) (tqL g) (ρ 1 + 0 : Int)) ∧ True := by
    try simp only [Int.add_zero]
    obtain ⟨i0, hs⟩ := h0
    have cb : tqB g (ρ 1).toNat = ρ 0 := (h1.2).symm
    have ei : ((ρ 1).toNat : Int) = ρ 1 := by omega
    exact ⟨Or.inl ⟨(ρ 1).toNat, ei.symm, by rw [ei]; exact h2.2, (by rw [hs]; exact fun h => nomatch h), (tS_sgn hs (by rw [cb]; exact h3)).trans (if_neg fun h => h.1 (by omega))⟩, trivial⟩
  exact ⟨nB, qB (key.1) (nB)⟩
def t_uff6 : KT := ((0, 0, 0, 0), [(1, 0, 0, 0), (1, 1, 0, 0), (1, 2, 0, 0), (1, 3, 0, 0), (1, 4, 0, 0)], [(-2147483648, 2147483647), (-2147483648, 2147483647), (-2147483648, 2147483647), (-2147483648, 2147483647), (-2147483648, 2147483647)], [(459, [(1, 1, 0, 0), (1, 2, 0, 0), (1, 3, 0, 0), (1, 4, 0, 0)]), (475, [(1, 0, 0, 0), (1, 1, 0, 0)]), (460, [(1, 1, 0, 0)]), (99, [(1, 0, 0, 0), (0, 0, 0, 59), (0, 0, 0, 0)]), (465, [(1, 1, 0, 0), (1, 4, 0, 0)])], (0, 0, 0), [], [], ([], [(466, [(1, 1, 0, 0)])]), ([], []))
set_option maxRecDepth 100000 in
theorem l_uff6 (g : GG) : LOK Yt (PSt g) t_uff6 := by
  intro ρ α Γ M as hT hB hA hP
  have b0 : -2147483648 ≤ ρ 0 ∧ ρ 0 ≤ 2147483647 := hB 0
  have b1 : -2147483648 ≤ ρ 1 ∧ ρ 1 ≤ 2147483647 := hB 1
  have b2 : -2147483648 ≤ ρ 2 ∧ ρ 2 ≤ 2147483647 := hB 2
  have b3 : -2147483648 ≤ ρ 3 ∧ ρ 3 ≤ 2147483647 := hB 3
  have b4 : -2147483648 ≤ ρ 4 ∧ ρ 4 ≤ 2147483647 := hB 4
  have h0 : 0 ≤ (ρ 1 + 0 : Int) ∧ tS (tqB g) (ρ 1 + 0 : Int).toNat = some ((ρ 2 + 0 : Int), (ρ 3 + 0 : Int), (ρ 4 + 0 : Int)) := hP _ (List.mem_of_getElem? (i := 0) rfl)
  have h1 : 0 ≤ (ρ 1 + 0 : Int) ∧ ρ 0 + 0 = tqB g (ρ 1 + 0 : Int).toNat := hP _ (List.mem_of_getElem? (i := 1) rfl)
  have h2 : 0 ≤ (ρ 1 + 0 : Int) ∧ (ρ 1 + 0 : Int) < tqL g := hP _ (List.mem_of_getElem? (i := 2) rfl)
  have h3 : (ρ 0 + 0 : Int) ≠ 59 := hP _ (List.mem_of_getElem? (i := 3) rfl)
  have h4 : ¬ cStd (tqB g) (ρ 1 + 0 : Int).toNat (ρ 4 + 0 : Int) := hP _ (List.mem_of_getElem? (i := 4) rfl)
  try simp only [Int.add_zero] at h0 h1 h2 h3 h4
  have key : (TR (tqB g) (tqL g) (ρ 1 + 0 : Int)) ∧ True := by
    try simp only [Int.add_zero]
    obtain ⟨i0, hs⟩ := h0
    have cb : tqB g (ρ 1).toNat = ρ 0 := (h1.2).symm
    have ei : ((ρ 1).toNat : Int) = ρ 1 := by omega
    exact ⟨Or.inl ⟨(ρ 1).toNat, ei.symm, by rw [ei]; exact h2.2, (by rw [hs]; exact fun h => nomatch h), (tS_sgn hs (by rw [cb]; exact h3)).trans (if_neg fun h => h4 h.2)⟩, trivial⟩
  exact ⟨nB, qB (key.1) (nB)⟩
def t_uff7 : KT := ((0, 0, 0, 0), [(1, 0, 0, 0), (1, 1, 0, 0), (1, 2, 0, 0), (1, 3, 0, 0), (1, 4, 0, 0)], [(-2147483648, 2147483647), (-2147483648, 2147483647), (-2147483648, 2147483647), (-2147483648, 2147483647), (0, 23)], [(459, [(1, 1, 0, 0), (1, 2, 0, 0), (1, 3, 0, 0), (1, 4, 0, 0)]), (475, [(1, 0, 0, 0), (1, 1, 0, 0)]), (460, [(1, 1, 0, 0)]), (99, [(1, 0, 0, 0), (0, 0, 0, 59), (0, 0, 0, 0)]), (464, [(1, 1, 0, 0), (1, 4, 0, 0)])], (0, 0, 0), [], [], ([], [(459, [(1, 1, 0, 1), (1, 2, 0, 0), (1, 3, 0, 0), (1, 4, 0, 1)]), (461, [(1, 1, 0, 1)])]), ([], []))
set_option maxRecDepth 100000 in
theorem l_uff7 (g : GG) : LOK Yt (PSt g) t_uff7 := by
  intro ρ α Γ M as hT hB hA hP
  have b0 : -2147483648 ≤ ρ 0 ∧ ρ 0 ≤ 2147483647 := hB 0
  have b1 : -2147483648 ≤ ρ 1 ∧ ρ 1 ≤ 2147483647 := hB 1
  have b2 : -2147483648 ≤ ρ 2 ∧ ρ 2 ≤ 2147483647 := hB 2
  have b3 : -2147483648 ≤ ρ 3 ∧ ρ 3 ≤ 2147483647 := hB 3
  have b4 : 0 ≤ ρ 4 ∧ ρ 4 ≤ 23 := hB 4
  have h0 : 0 ≤ (ρ 1 + 0 : Int) ∧ tS (tqB g) (ρ 1 + 0 : Int).toNat = some ((ρ 2 + 0 : Int), (ρ 3 + 0 : Int), (ρ 4 + 0 : Int)) := hP _ (List.mem_of_getElem? (i := 0) rfl)
  have h1 : 0 ≤ (ρ 1 + 0 : Int) ∧ ρ 0 + 0 = tqB g (ρ 1 + 0 : Int).toNat := hP _ (List.mem_of_getElem? (i := 1) rfl)
  have h2 : 0 ≤ (ρ 1 + 0 : Int) ∧ (ρ 1 + 0 : Int) < tqL g := hP _ (List.mem_of_getElem? (i := 2) rfl)
  have h3 : (ρ 0 + 0 : Int) ≠ 59 := hP _ (List.mem_of_getElem? (i := 3) rfl)
  have h4 : cStd (tqB g) (ρ 1 + 0 : Int).toNat (ρ 4 + 0 : Int) := hP _ (List.mem_of_getElem? (i := 4) rfl)
  try simp only [Int.add_zero] at h0 h1 h2 h3 h4
  have key : (0 ≤ (ρ 1 + 1 : Int) ∧ tS (tqB g) (ρ 1 + 1 : Int).toNat = some ((ρ 2 + 0 : Int), (ρ 3 + 0 : Int), (ρ 4 + 1 : Int))) ∧ ((ρ 1 + 1 : Int) ≤ tqL g) ∧ True := by
    try simp only [Int.add_zero]
    obtain ⟨i0, hs⟩ := h0
    have cb : tqB g (ρ 1).toNat = ρ 0 := (h1.2).symm
    have ei : ((ρ 1).toNat : Int) = ρ 1 := by omega
    exact ⟨⟨by omega, by rw [show (ρ 1 + 1).toNat = (ρ 1).toNat + 1 by omega]; exact (tS_sgn hs (by rw [cb]; exact h3)).trans (if_pos ⟨by omega, h4⟩)⟩, by have := h2.2; omega, trivial⟩
  exact ⟨nB, qB (key.1) (qB (key.2.1) (nB))⟩
def t_uff8 : KT := ((0, 0, 0, 0), [(2, 0, 19, 0), (1, 1, 0, 0), (1, 2, 0, 0), (1, 3, 0, 0), (1, 4, 0, 0), (1, 5, 0, 0)], [(0, 0), (-2147483648, 2147483647), (-2147483648, 2147483647), (-2147483648, 2147483647), (-2147483648, 2147483647), (-2147483648, 2147483647)], [(457, [(2, 0, 19, 0)]), (10, [(2, 0, 19, 0), (0, 0, 0, 0), (1, 1, 0, 0)]), (6, [(1, 1, 0, 0), (1, 2, 0, 0)]), (461, [(1, 2, 0, 0)]), (459, [(1, 2, 0, 0), (1, 3, 0, 0), (1, 4, 0, 0), (1, 5, 0, 0)]), (463, [(1, 5, 0, 0), (1, 4, 0, 0)])], (0, 0, 0), [], [], ([], [(466, [(1, 1, 0, 0)])]), ([], []))
set_option maxRecDepth 100000 in
theorem l_uff8 (g : GG) : LOK Yt (PSt g) t_uff8 := by
  intro ρ α Γ M as hT hB hA hP
  have g0 : Γ (α 0) = 19 := tyAt hA (i := 0) rfl
  have b1 : -2147483648 ≤ ρ 1 ∧ ρ 1 ≤ 2147483647 := hB 1
  have b2 : -2147483648 ≤ ρ 2 ∧ ρ 2 ≤ 2147483647 := hB 2
  have b3 : -2147483648 ≤ ρ 3 ∧ ρ 3 ≤ 2147483647 := hB 3
  have b4 : -2147483648 ≤ ρ 4 ∧ ρ 4 ≤ 2147483647 := hB 4
  have b5 : -2147483648 ≤ ρ 5 ∧ ρ 5 ≤ 2147483647 := hB 5
  have h0 : Γ (α 0) = 19 ∧ tyO Γ M (α 0) [(3, 20, [(0, 400)])] ∧ Q457 g (vw M (α 0) 3 [(0, 400)]) (clp [(0, 1)] (M.2.2.2.2 (α 0)))  := hP _ (List.mem_of_getElem? (i := 0) rfl)
  have h1 : 0 ≤ (0 : Int) ∧ M.2.2.2.2 (α 0) (0 : Int).toNat = ρ 1 + 0 := hP _ (List.mem_of_getElem? (i := 1) rfl)
  have h2 : ρ 1 + 0 ≤ ρ 2 + 0 := hP _ (List.mem_of_getElem? (i := 2) rfl)
  have h3 : (ρ 2 + 0 : Int) ≤ tqL g := hP _ (List.mem_of_getElem? (i := 3) rfl)
  have h4 : 0 ≤ (ρ 2 + 0 : Int) ∧ tS (tqB g) (ρ 2 + 0 : Int).toNat = some ((ρ 3 + 0 : Int), (ρ 4 + 0 : Int), (ρ 5 + 0 : Int)) := hP _ (List.mem_of_getElem? (i := 4) rfl)
  have h5 : ¬ cEnd (ρ 5 + 0 : Int) (ρ 4 + 0 : Int) := hP _ (List.mem_of_getElem? (i := 5) rfl)
  try simp only [Int.add_zero] at h0 h1 h2 h3 h4 h5
  have key : (TR (tqB g) (tqL g) (ρ 1 + 0 : Int)) ∧ True := by
    try simp only [Int.add_zero]
    obtain ⟨-, -, q, -⟩ := h0
    have q : M.2.2.2.2 (α 0) 0 = tqL g := q
    have e : M.2.2.2.2 (α 0) 0 = ρ 1 := h1.2
    obtain ⟨i0, hs⟩ := h4
    have ei : (ρ 2).toNat = (tqL g).toNat := by omega
    rw [ei] at hs
    exact ⟨Or.inr (Or.inl ⟨by omega, by omega, _, _, _, hs, fun h => h5 h.1⟩), trivial⟩
  exact ⟨nB, qB (key.1) (nB)⟩
def t_uff9 : KT := ((0, 0, 0, 0), [(2, 0, 19, 0), (1, 1, 0, 0), (1, 2, 0, 0), (1, 3, 0, 0), (1, 4, 0, 0), (1, 5, 0, 0)], [(0, 0), (-2147483648, 2147483647), (-2147483648, 2147483647), (0, 0), (-2147483648, 2147483647), (-2147483648, 2147483647)], [(457, [(2, 0, 19, 0)]), (10, [(2, 0, 19, 0), (0, 0, 0, 0), (1, 1, 0, 0)]), (6, [(1, 1, 0, 0), (1, 2, 0, 0)]), (461, [(1, 2, 0, 0)]), (459, [(1, 2, 0, 0), (1, 3, 0, 0), (1, 4, 0, 0), (1, 5, 0, 0)])], (0, 0, 0), [], [], ([], [(466, [(1, 1, 0, 0)])]), ([], []))
set_option maxRecDepth 100000 in
theorem l_uff9 (g : GG) : LOK Yt (PSt g) t_uff9 := by
  intro ρ α Γ M as hT hB hA hP
  have g0 : Γ (α 0) = 19 := tyAt hA (i := 0) rfl
  have b1 : -2147483648 ≤ ρ 1 ∧ ρ 1 ≤ 2147483647 := hB 1
  have b2 : -2147483648 ≤ ρ 2 ∧ ρ 2 ≤ 2147483647 := hB 2
  have b3 : 0 ≤ ρ 3 ∧ ρ 3 ≤ 0 := hB 3
  have b4 : -2147483648 ≤ ρ 4 ∧ ρ 4 ≤ 2147483647 := hB 4
  have b5 : -2147483648 ≤ ρ 5 ∧ ρ 5 ≤ 2147483647 := hB 5
  have h0 : Γ (α 0) = 19 ∧ tyO Γ M (α 0) [(3, 20, [(0, 400)])] ∧ Q457 g (vw M (α 0) 3 [(0, 400)]) (clp [(0, 1)] (M.2.2.2.2 (α 0)))  := hP _ (List.mem_of_getElem? (i := 0) rfl)
  have h1 : 0 ≤ (0 : Int) ∧ M.2.2.2.2 (α 0) (0 : Int).toNat = ρ 1 + 0 := hP _ (List.mem_of_getElem? (i := 1) rfl)
  have h2 : ρ 1 + 0 ≤ ρ 2 + 0 := hP _ (List.mem_of_getElem? (i := 2) rfl)
  have h3 : (ρ 2 + 0 : Int) ≤ tqL g := hP _ (List.mem_of_getElem? (i := 3) rfl)
  have h4 : 0 ≤ (ρ 2 + 0 : Int) ∧ tS (tqB g) (ρ 2 + 0 : Int).toNat = some ((ρ 3 + 0 : Int), (ρ 4 + 0 : Int), (ρ 5 + 0 : Int)) := hP _ (List.mem_of_getElem? (i := 4) rfl)
  try simp only [Int.add_zero] at h0 h1 h2 h3 h4
  have key : (TR (tqB g) (tqL g) (ρ 1 + 0 : Int)) ∧ True := by
    try simp only [Int.add_zero]
    obtain ⟨-, -, q, -⟩ := h0
    have q : M.2.2.2.2 (α 0) 0 = tqL g := q
    have e : M.2.2.2.2 (α 0) 0 = ρ 1 := h1.2
    obtain ⟨i0, hs⟩ := h4
    have ei : (ρ 2).toNat = (tqL g).toNat := by omega
    rw [ei] at hs
    exact ⟨Or.inr (Or.inl ⟨by omega, by omega, _, _, _, hs, fun h => h.2 (by omega)⟩), trivial⟩
  exact ⟨nB, qB (key.1) (nB)⟩
def t_uffA : KT := ((0, 0, 0, 0), [(2, 0, 19, 0), (1, 1, 0, 0), (1, 2, 0, 0), (1, 3, 0, 0), (1, 4, 0, 0), (1, 5, 0, 0)], [(0, 0), (-2147483648, 2147483647), (-2147483648, 2147483647), (1, 11), (-2147483648, 2147483647), (-2147483648, 2147483647)], [(457, [(2, 0, 19, 0)]), (10, [(2, 0, 19, 0), (0, 0, 0, 0), (1, 1, 0, 0)]), (6, [(1, 1, 0, 0), (1, 2, 0, 0)]), (461, [(1, 2, 0, 0)]), (459, [(1, 2, 0, 0), (1, 3, 0, 0), (1, 4, 0, 0), (1, 5, 0, 0)]), (462, [(1, 5, 0, 0), (1, 4, 0, 0)])], (0, 0, 0), [], [], ([], [(466, [(0, 0, 0, -1)]), (491, [(1, 3, 0, 0), (1, 5, 0, 0)])]), ([], []))
set_option maxRecDepth 100000 in
theorem l_uffA (g : GG) : LOK Yt (PSt g) t_uffA := by
  intro ρ α Γ M as hT hB hA hP
  have g0 : Γ (α 0) = 19 := tyAt hA (i := 0) rfl
  have b1 : -2147483648 ≤ ρ 1 ∧ ρ 1 ≤ 2147483647 := hB 1
  have b2 : -2147483648 ≤ ρ 2 ∧ ρ 2 ≤ 2147483647 := hB 2
  have b3 : 1 ≤ ρ 3 ∧ ρ 3 ≤ 11 := hB 3
  have b4 : -2147483648 ≤ ρ 4 ∧ ρ 4 ≤ 2147483647 := hB 4
  have b5 : -2147483648 ≤ ρ 5 ∧ ρ 5 ≤ 2147483647 := hB 5
  have h0 : Γ (α 0) = 19 ∧ tyO Γ M (α 0) [(3, 20, [(0, 400)])] ∧ Q457 g (vw M (α 0) 3 [(0, 400)]) (clp [(0, 1)] (M.2.2.2.2 (α 0)))  := hP _ (List.mem_of_getElem? (i := 0) rfl)
  have h1 : 0 ≤ (0 : Int) ∧ M.2.2.2.2 (α 0) (0 : Int).toNat = ρ 1 + 0 := hP _ (List.mem_of_getElem? (i := 1) rfl)
  have h2 : ρ 1 + 0 ≤ ρ 2 + 0 := hP _ (List.mem_of_getElem? (i := 2) rfl)
  have h3 : (ρ 2 + 0 : Int) ≤ tqL g := hP _ (List.mem_of_getElem? (i := 3) rfl)
  have h4 : 0 ≤ (ρ 2 + 0 : Int) ∧ tS (tqB g) (ρ 2 + 0 : Int).toNat = some ((ρ 3 + 0 : Int), (ρ 4 + 0 : Int), (ρ 5 + 0 : Int)) := hP _ (List.mem_of_getElem? (i := 4) rfl)
  have h5 : cEnd (ρ 5 + 0 : Int) (ρ 4 + 0 : Int) := hP _ (List.mem_of_getElem? (i := 5) rfl)
  try simp only [Int.add_zero] at h0 h1 h2 h3 h4 h5
  have key : (TR (tqB g) (tqL g) ((-1) : Int)) ∧ (∃ f, tS (tqB g) (tqL g).toNat = some ((ρ 3 + 0 : Int), f, (ρ 5 + 0 : Int))) ∧ True := by
    try simp only [Int.add_zero]
    obtain ⟨-, -, q, -⟩ := h0
    have q : M.2.2.2.2 (α 0) 0 = tqL g := q
    have e : M.2.2.2.2 (α 0) 0 = ρ 1 := h1.2
    obtain ⟨i0, hs⟩ := h4
    have ei : (ρ 2).toNat = (tqL g).toNat := by omega
    rw [ei] at hs
    exact ⟨Or.inr (Or.inr ⟨rfl, by omega, _, _, _, hs, h5, by omega⟩), ⟨_, hs⟩, trivial⟩
  exact ⟨nB, qB (key.1) (qB (key.2.1) (nB))⟩
def t_uffv : KT := ((0, 0, 0, 0), [(2, 0, 19, 0), (1, 1, 0, 0)], [(0, 0), (0, 400)], [], (0, 0, 0), [], [], ([], [(468, [(2, 0, 19, 0), (1, 1, 0, 0)])]), ([], []))
set_option maxRecDepth 100000 in
theorem l_uffv (g : GG) : LOK Yt (PSt g) t_uffv := by
  intro ρ α Γ M as hT hB hA hP
  have g0 : Γ (α 0) = 19 := tyAt hA (i := 0) rfl
  have b1 : 0 ≤ ρ 1 ∧ ρ 1 ≤ 400 := hB 1
  have key : (Γ (α 0) = 19 ∧ tyO Γ M (α 0) [] ∧ Q468 g  (clp [(1, 3)] (M.2.2.2.2 (α 0))) (ρ 1 + 0)) ∧ True := by
    try simp only [Int.add_zero]
    exact ⟨⟨g0, fun _ h => absurd h List.not_mem_nil, fun h => absurd h (by omega)⟩, trivial⟩
  exact ⟨nB, qB (key.1) (nB)⟩
def t_uffB : KT := ((0, 0, 0, 0), [(2, 0, 19, 0), (1, 1, 0, 0), (1, 2, 0, 0), (1, 3, 0, 0)], [(0, 0), (-2147483648, 2147483647), (0, 24), (-2147483648, 2147483647)], [(491, [(1, 1, 0, 0), (1, 2, 0, 0)]), (10, [(2, 0, 19, 0), (0, 0, 0, 1), (1, 1, 0, 1)]), (10, [(2, 0, 19, 0), (0, 0, 0, 2), (1, 3, 0, 0)]), (26, [(1, 2, 0, 0), (0, 0, 0, 2), (1, 3, 0, 0)])], (0, 0, 0), [], [], ([], [(468, [(2, 0, 19, 0), (0, 0, 0, -1)])]), ([], []))
set_option maxRecDepth 100000 in
theorem l_uffB (g : GG) : LOK Yt (PSt g) t_uffB := by
  intro ρ α Γ M as hT hB hA hP
  have g0 : Γ (α 0) = 19 := tyAt hA (i := 0) rfl
  have b1 : -2147483648 ≤ ρ 1 ∧ ρ 1 ≤ 2147483647 := hB 1
  have b2 : 0 ≤ ρ 2 ∧ ρ 2 ≤ 24 := hB 2
  have b3 : -2147483648 ≤ ρ 3 ∧ ρ 3 ≤ 2147483647 := hB 3
  have h0 : ∃ f, tS (tqB g) (tqL g).toNat = some ((ρ 1 + 0 : Int), f, (ρ 2 + 0 : Int)) := hP _ (List.mem_of_getElem? (i := 0) rfl)
  have h1 : 0 ≤ (1 : Int) ∧ M.2.2.2.2 (α 0) (1 : Int).toNat = ρ 1 + 1 := hP _ (List.mem_of_getElem? (i := 1) rfl)
  have h2 : 0 ≤ (2 : Int) ∧ M.2.2.2.2 (α 0) (2 : Int).toNat = ρ 3 + 0 := hP _ (List.mem_of_getElem? (i := 2) rfl)
  have h3 : ρ 3 + 0 = wI ((ρ 2 + 0 : Int).tdiv (2)) := hP _ (List.mem_of_getElem? (i := 3) rfl)
  try simp only [Int.add_zero] at h0 h1 h2 h3
  have key : (Γ (α 0) = 19 ∧ tyO Γ M (α 0) [] ∧ Q468 g  (clp [(1, 3)] (M.2.2.2.2 (α 0))) ((-1))) ∧ True := by
    try simp only [Int.add_zero]
    obtain ⟨f, hs⟩ := h0
    obtain ⟨d1, -⟩ := dm (p := ρ 2) (by omega) (show (0 : Int) < 2 by decide)
    rw [d1, wI_id (by unfold inI; omega)] at h3
    exact ⟨⟨g0, fun _ h => absurd h List.not_mem_nil, fun _ => ⟨_, f, _, hs, h1.2, h2.2.trans h3⟩⟩, trivial⟩
  exact ⟨nB, qB (key.1) (nB)⟩
def t_utt0 : KT := ((0, 0, 0, 0), [(2, 0, 54, 0), (2, 1, 19, 0)], [(0, 0), (0, 0)], [(496, [(2, 0, 54, 0)]), (11, [(2, 0, 54, 0), (0, 0, 0, 4), (2, 1, 19, 0)])], (0, 0, 0), [], [], ([], [(457, [(2, 1, 19, 0)])]), ([], []))
set_option maxRecDepth 100000 in
theorem l_utt0 (g : GG) : LOK Yt (PSt g) t_utt0 := by
  intro ρ α Γ M as hT hB hA hP
  have g0 : Γ (α 0) = 54 := tyAt hA (i := 0) rfl
  have g1 : Γ (α 1) = 19 := tyAt hA (i := 1) rfl
  have h0 : taP g (α 0) (tqL g) Γ M := hP _ (List.mem_of_getElem? (i := 0) rfl)
  have h1 : 0 ≤ (4 : Int) ∧ M.2.2.2.1 (α 0) (4 : Int).toNat = some (α 1) := hP _ (List.mem_of_getElem? (i := 1) rfl)
  try simp only [Int.add_zero] at h0 h1
  have key : (Γ (α 1) = 19 ∧ tyO Γ M (α 1) [(3, 20, [(0, 400)])] ∧ Q457 g (vw M (α 1) 3 [(0, 400)]) (clp [(0, 1)] (M.2.2.2.2 (α 1))) ) ∧ True := by
    try simp only [Int.add_zero]
    obtain ⟨-, b, q1, q2, c, q3, q4, q5, q6⟩ := h0
    have e : M.2.2.2.1 (α 0) 4 = some (α 1) := h1.2
    rw [e] at q1
    cases q1
    refine ⟨⟨g1, tyO_of hT g1 (by decide) (by decide), q5, fun j hj => ?_⟩, trivial⟩
    show clp [(0, 400)] (M.2.2.2.2 (fl M (α 1) 3)) j = tqB g j
    have lb : tqL g ≤ 400 := by
      have q := (hT (α 1) (by rw [g1]; decide)).2.2.1
      rw [g1] at q
      have q := q (0, 1, 0, 400) (by decide) 0 (by decide) (by decide)
      have q : 0 ≤ M.2.2.2.2 (α 1) 0 ∧ M.2.2.2.2 (α 1) 0 ≤ 400 := q
      omega
    rw [fl_eq q3, cAll (by omega)]
    exact q6 j hj
  exact ⟨nB, qB (key.1) (nB)⟩
def t_utt1 : KT := ((0, 0, 0, 0), [(2, 0, 54, 0), (1, 1, 0, 0)], [(0, 0), (-2147483648, 2147483647)], [(466, [(1, 1, 0, 0)]), (10, [(2, 0, 54, 0), (0, 0, 0, 10), (1, 1, 0, 0)])], (0, 0, 0), [], [], ([], [(484, [(2, 0, 54, 0)])]), ([], []))
set_option maxRecDepth 100000 in
theorem l_utt1 (g : GG) : LOK Yt (PSt g) t_utt1 := by
  intro ρ α Γ M as hT hB hA hP
  have g0 : Γ (α 0) = 54 := tyAt hA (i := 0) rfl
  have b1 : -2147483648 ≤ ρ 1 ∧ ρ 1 ≤ 2147483647 := hB 1
  have h0 : TR (tqB g) (tqL g) (ρ 1 + 0 : Int) := hP _ (List.mem_of_getElem? (i := 0) rfl)
  have h1 : 0 ≤ (10 : Int) ∧ M.2.2.2.2 (α 0) (10 : Int).toNat = ρ 1 + 0 := hP _ (List.mem_of_getElem? (i := 1) rfl)
  try simp only [Int.add_zero] at h0 h1
  have key : (Γ (α 0) = 54 ∧ tyO Γ M (α 0) [] ∧ Q484 g  (clp [(10, 11)] (M.2.2.2.2 (α 0))) ) ∧ True := by
    try simp only [Int.add_zero]
    have e : M.2.2.2.2 (α 0) 10 = ρ 1 := h1.2
    refine ⟨⟨g0, fun _ h => absurd h List.not_mem_nil, ?_⟩, trivial⟩
    show TR (tqB g) (tqL g) (M.2.2.2.2 (α 0) 10)
    rw [e]
    exact h0
  exact ⟨nB, qB (key.1) (nB)⟩
def t_utt2 : KT := ((0, 0, 0, 0), [(2, 0, 19, 0), (1, 1, 0, 0), (1, 2, 0, 0), (1, 3, 0, 0)], [(0, 0), (-2147483648, 2147483647), (-2147483648, 2147483647), (-1, -1)], [(468, [(2, 0, 19, 0), (1, 3, 0, 0)]), (10, [(2, 0, 19, 0), (0, 0, 0, 1), (1, 1, 0, 0)]), (10, [(2, 0, 19, 0), (0, 0, 0, 2), (1, 2, 0, 0)]), (466, [(1, 3, 0, 0)])], (0, 0, 0), [], [], ([], [(488, [(1, 1, 0, 0), (1, 2, 0, 0)])]), ([], []))
set_option maxRecDepth 100000 in
theorem l_utt2 (g : GG) : LOK Yt (PSt g) t_utt2 := by
  intro ρ α Γ M as hT hB hA hP
  have g0 : Γ (α 0) = 19 := tyAt hA (i := 0) rfl
  have b1 : -2147483648 ≤ ρ 1 ∧ ρ 1 ≤ 2147483647 := hB 1
  have b2 : -2147483648 ≤ ρ 2 ∧ ρ 2 ≤ 2147483647 := hB 2
  have b3 : -1 ≤ ρ 3 ∧ ρ 3 ≤ -1 := hB 3
  have h0 : Γ (α 0) = 19 ∧ tyO Γ M (α 0) [] ∧ Q468 g  (clp [(1, 3)] (M.2.2.2.2 (α 0))) (ρ 3 + 0) := hP _ (List.mem_of_getElem? (i := 0) rfl)
  have h1 : 0 ≤ (1 : Int) ∧ M.2.2.2.2 (α 0) (1 : Int).toNat = ρ 1 + 0 := hP _ (List.mem_of_getElem? (i := 1) rfl)
  have h2 : 0 ≤ (2 : Int) ∧ M.2.2.2.2 (α 0) (2 : Int).toNat = ρ 2 + 0 := hP _ (List.mem_of_getElem? (i := 2) rfl)
  have h3 : TR (tqB g) (tqL g) (ρ 3 + 0 : Int) := hP _ (List.mem_of_getElem? (i := 3) rfl)
  try simp only [Int.add_zero] at h0 h1 h2 h3
  have key : (TR (tqB g) (tqL g) (-1) ∧ ∃ e f s, tS (tqB g) (tqL g).toNat = some (e, f, s) ∧ (ρ 1 + 0 : Int) = e + 1 ∧ (ρ 2 + 0 : Int) = s / 2) ∧ True := by
    try simp only [Int.add_zero]
    obtain ⟨-, -, h⟩ := h0
    have e3 : ρ 3 = -1 := by omega
    obtain ⟨e, f, s, hs, x1, x2⟩ := h e3
    have x1 : M.2.2.2.2 (α 0) 1 = e + 1 := x1
    have x2 : M.2.2.2.2 (α 0) 2 = s / 2 := x2
    have y1 : M.2.2.2.2 (α 0) 1 = ρ 1 := h1.2
    have y2 : M.2.2.2.2 (α 0) 2 = ρ 2 := h2.2
    rw [e3] at h3
    exact ⟨⟨h3, e, f, s, hs, by omega, by omega⟩, trivial⟩
  exact ⟨nB, qB (key.1) (nB)⟩
def t_utt3 : KT := ((0, 0, 0, 0), [(2, 0, 38, 0), (2, 1, 1, 0), (1, 2, 0, 0), (1, 3, 0, 0), (1, 4, 0, 0)], [(0, 0), (0, 0), (-2147483648, 2147483647), (-2147483648, 2147483647), (-2147483648, 2147483647)], [(487, [(2, 0, 38, 0), (1, 3, 0, 0), (1, 4, 0, 0)]), (11, [(2, 0, 38, 0), (0, 0, 0, 0), (2, 1, 1, 0)]), (5, [(2, 1, 1, 0), (1, 2, 0, 0)]), (488, [(1, 3, 0, 0), (1, 4, 0, 0)])], (0, 0, 0), [], [], ([], [(486, [(1, 2, 0, 0)])]), ([], []))
set_option maxRecDepth 100000 in
theorem l_utt3 (g : GG) : LOK Yt (PSt g) t_utt3 := by
  intro ρ α Γ M as hT hB hA hP
  have g0 : Γ (α 0) = 38 := tyAt hA (i := 0) rfl
  have g1 : Γ (α 1) = 1 := tyAt hA (i := 1) rfl
  have b2 : -2147483648 ≤ ρ 2 ∧ ρ 2 ≤ 2147483647 := hB 2
  have b3 : -2147483648 ≤ ρ 3 ∧ ρ 3 ≤ 2147483647 := hB 3
  have b4 : -2147483648 ≤ ρ 4 ∧ ρ 4 ≤ 2147483647 := hB 4
  have h0 : Γ (α 0) = 38 ∧ ∃ h, M.2.2.2.1 (α 0) 0 = some h ∧ Γ h = 1 ∧ M.2.2.2.2 h 0 = ρ 3 + 0 ∧ M.2.2.2.2 h 1 = ρ 4 + 0 := hP _ (List.mem_of_getElem? (i := 0) rfl)
  have h1 : 0 ≤ (0 : Int) ∧ M.2.2.2.1 (α 0) (0 : Int).toNat = some (α 1) := hP _ (List.mem_of_getElem? (i := 1) rfl)
  have h2 : Γ (α 1) = 1 ∧ ρ 2 + 0 = M.2.2.2.2 (α 1) 0 * M.2.2.2.2 (α 1) 1 := hP _ (List.mem_of_getElem? (i := 2) rfl)
  have h3 : TR (tqB g) (tqL g) (-1) ∧ ∃ e f s, tS (tqB g) (tqL g).toNat = some (e, f, s) ∧ (ρ 3 + 0 : Int) = e + 1 ∧ (ρ 4 + 0 : Int) = s / 2 := hP _ (List.mem_of_getElem? (i := 3) rfl)
  try simp only [Int.add_zero] at h0 h1 h2 h3
  have key : (TX (tqB g) (tqL g) (ρ 2 + 0 : Int)) ∧ True := by
    try simp only [Int.add_zero]
    obtain ⟨-, c, q1, q2, q3, q4⟩ := h0
    have e : M.2.2.2.1 (α 0) 0 = some (α 1) := h1.2
    rw [e] at q1
    cases q1
    obtain ⟨r1, e, f, s, hs, x1, x2⟩ := h3
    have h2 : ρ 2 = M.2.2.2.2 (α 1) 0 * M.2.2.2.2 (α 1) 1 := h2.2
    refine ⟨⟨-1, r1, fun h => absurd rfl h, fun _ => ⟨e, f, s, hs, ?_⟩⟩, trivial⟩
    rw [h2, q3, q4, x1, x2]
  exact ⟨nB, qB (key.1) (nB)⟩
def t_utt4 : KT := ((0, 0, 0, 0), [(1, 0, 0, 0)], [(0, 400)], [(466, [(1, 0, 0, 0)])], (0, 0, 0), [], [], ([], [(486, [(0, 0, 0, -1)])]), ([], []))
set_option maxRecDepth 100000 in
theorem l_utt4 (g : GG) : LOK Yt (PSt g) t_utt4 := by
  intro ρ α Γ M as hT hB hA hP
  have b0 : 0 ≤ ρ 0 ∧ ρ 0 ≤ 400 := hB 0
  have h0 : TR (tqB g) (tqL g) (ρ 0 + 0 : Int) := hP _ (List.mem_of_getElem? (i := 0) rfl)
  try simp only [Int.add_zero] at h0
  have key : (TX (tqB g) (tqL g) ((-1) : Int)) ∧ True := by
    try simp only [Int.add_zero]
    exact ⟨⟨ρ 0, h0, fun _ => rfl, fun h => absurd h (by omega)⟩, trivial⟩
  exact ⟨nB, qB (key.1) (nB)⟩
def t_utt5 : KT := ((0, 0, 0, 0), [(2, 0, 1, 0), (1, 1, 0, 0), (1, 2, 0, 0)], [(0, 0), (-2147483648, 2147483647), (-2147483648, 2147483647)], [(10, [(2, 0, 1, 0), (0, 0, 0, 0), (1, 1, 0, 0)]), (10, [(2, 0, 1, 0), (0, 0, 0, 1), (1, 2, 0, 0)])], (0, 0, 0), [], [], ([], [(1064, [(2, 0, 1, 0), (1, 1, 0, 0), (1, 1, 0, 0)]), (1065, [(2, 0, 1, 0), (1, 2, 0, 0), (1, 2, 0, 0)])]), ([], []))
set_option maxRecDepth 100000 in
theorem l_utt5 (g : GG) : LOK Yt (PSt g) t_utt5 := by
  intro ρ α Γ M as hT hB hA hP
  have g0 : Γ (α 0) = 1 := tyAt hA (i := 0) rfl
  have b1 : -2147483648 ≤ ρ 1 ∧ ρ 1 ≤ 2147483647 := hB 1
  have b2 : -2147483648 ≤ ρ 2 ∧ ρ 2 ≤ 2147483647 := hB 2
  have h0 : 0 ≤ (0 : Int) ∧ M.2.2.2.2 (α 0) (0 : Int).toNat = ρ 1 + 0 := hP _ (List.mem_of_getElem? (i := 0) rfl)
  have h1 : 0 ≤ (1 : Int) ∧ M.2.2.2.2 (α 0) (1 : Int).toNat = ρ 2 + 0 := hP _ (List.mem_of_getElem? (i := 1) rfl)
  try simp only [Int.add_zero] at h0 h1
  have key : (Γ (α 0) = 1 ∧ 1 ≠ 0 ∧ ρ 1 + 0 ≤ M.2.2.2.2 (α 0) 0 ∧ M.2.2.2.2 (α 0) 0 ≤ ρ 1 + 0) ∧ (Γ (α 0) = 1 ∧ 1 ≠ 0 ∧ ρ 2 + 0 ≤ M.2.2.2.2 (α 0) 1 ∧ M.2.2.2.2 (α 0) 1 ≤ ρ 2 + 0) ∧ True := by
    try simp only [Int.add_zero]
    have e1 : M.2.2.2.2 (α 0) 0 = ρ 1 := h0.2
    have e2 : M.2.2.2.2 (α 0) 1 = ρ 2 := h1.2
    exact ⟨⟨g0, by decide, by omega, by omega⟩, ⟨g0, by decide, by omega, by omega⟩, trivial⟩
  exact ⟨nB, qB ((fId_eq g 1 0 (α 0) (ρ 1 + 0) (ρ 1 + 0) Γ M (by decide)).mpr (key.1)) (qB ((fId_eq g 1 1 (α 0) (ρ 2 + 0) (ρ 2 + 0) Γ M (by decide)).mpr (key.2.1)) (nB))⟩
def t_utt6 : KT := ((0, 0, 0, 0), [(2, 0, 38, 0), (2, 1, 1, 0), (1, 2, 0, 0), (1, 3, 0, 0)], [(0, 0), (0, 0), (-2147483648, 2147483647), (-2147483648, 2147483647)], [(1064, [(2, 1, 1, 0), (1, 2, 0, 0), (1, 2, 0, 0)]), (1065, [(2, 1, 1, 0), (1, 3, 0, 0), (1, 3, 0, 0)]), (11, [(2, 0, 38, 0), (0, 0, 0, 0), (2, 1, 1, 0)])], (0, 0, 0), [], [], ([], [(487, [(2, 0, 38, 0), (1, 2, 0, 0), (1, 3, 0, 0)])]), ([], []))
set_option maxRecDepth 100000 in
theorem l_utt6 (g : GG) : LOK Yt (PSt g) t_utt6 := by
  intro ρ α Γ M as hT hB hA hP
  have g0 : Γ (α 0) = 38 := tyAt hA (i := 0) rfl
  have g1 : Γ (α 1) = 1 := tyAt hA (i := 1) rfl
  have b2 : -2147483648 ≤ ρ 2 ∧ ρ 2 ≤ 2147483647 := hB 2
  have b3 : -2147483648 ≤ ρ 3 ∧ ρ 3 ≤ 2147483647 := hB 3
  have h0 : Γ (α 1) = 1 ∧ 1 ≠ 0 ∧ ρ 2 + 0 ≤ M.2.2.2.2 (α 1) 0 ∧ M.2.2.2.2 (α 1) 0 ≤ ρ 2 + 0 := (fId_eq g 1 0 (α 1) (ρ 2 + 0) (ρ 2 + 0) Γ M (by decide)).mp (hP _ (List.mem_of_getElem? (i := 0) rfl))
  have h1 : Γ (α 1) = 1 ∧ 1 ≠ 0 ∧ ρ 3 + 0 ≤ M.2.2.2.2 (α 1) 1 ∧ M.2.2.2.2 (α 1) 1 ≤ ρ 3 + 0 := (fId_eq g 1 1 (α 1) (ρ 3 + 0) (ρ 3 + 0) Γ M (by decide)).mp (hP _ (List.mem_of_getElem? (i := 1) rfl))
  have h2 : 0 ≤ (0 : Int) ∧ M.2.2.2.1 (α 0) (0 : Int).toNat = some (α 1) := hP _ (List.mem_of_getElem? (i := 2) rfl)
  try simp only [Int.add_zero] at h0 h1 h2
  have key : (Γ (α 0) = 38 ∧ ∃ h, M.2.2.2.1 (α 0) 0 = some h ∧ Γ h = 1 ∧ M.2.2.2.2 h 0 = ρ 2 + 0 ∧ M.2.2.2.2 h 1 = ρ 3 + 0) ∧ True := by
    try simp only [Int.add_zero]
    obtain ⟨-, -, x1, x2⟩ := h0
    obtain ⟨-, -, x3, x4⟩ := h1
    exact ⟨⟨g0, α 1, h2.2, g1, by omega, by omega⟩, trivial⟩
  exact ⟨nB, qB (key.1) (nB)⟩
def t_ufl1 : KT := ((0, 0, 0, 0), [(2, 0, 54, 0), (1, 1, 0, 0), (1, 2, 0, 0)], [(0, 0), (-2147483648, 2147483647), (-1, 400)], [(4466, [(2, 0, 54, 0), (1, 2, 0, 0), (1, 2, 0, 0)]), (10, [(2, 0, 54, 0), (0, 0, 0, 10), (1, 1, 0, 0)])], (0, 0, 0), [], [], ([], [(476, [(1, 1, 0, 0), (1, 2, 0, 0)])]), ([], []))
set_option maxRecDepth 100000 in
theorem l_ufl1 (g : GG) : LOK Yt (PSt g) t_ufl1 := by
  intro ρ α Γ M as hT hB hA hP
  have g0 : Γ (α 0) = 54 := tyAt hA (i := 0) rfl
  have b1 : -2147483648 ≤ ρ 1 ∧ ρ 1 ≤ 2147483647 := hB 1
  have b2 : -1 ≤ ρ 2 ∧ ρ 2 ≤ 400 := hB 2
  have h0 : Γ (α 0) = 54 ∧ 54 ≠ 0 ∧ ρ 2 + 0 ≤ M.2.2.2.2 (α 0) 10 ∧ M.2.2.2.2 (α 0) 10 ≤ ρ 2 + 0 := (fId_eq g 54 10 (α 0) (ρ 2 + 0) (ρ 2 + 0) Γ M (by decide)).mp (hP _ (List.mem_of_getElem? (i := 0) rfl))
  have h1 : 0 ≤ (10 : Int) ∧ M.2.2.2.2 (α 0) (10 : Int).toNat = ρ 1 + 0 := hP _ (List.mem_of_getElem? (i := 1) rfl)
  try simp only [Int.add_zero] at h0 h1
  have key : ((ρ 1 + 0 : Int) = ρ 2 + 0) ∧ True := by
    try simp only [Int.add_zero]
    have e : M.2.2.2.2 (α 0) 10 = ρ 1 := h1.2
    obtain ⟨-, -, x1, x2⟩ := h0
    exact ⟨by omega, trivial⟩
  exact ⟨nB, qB (key.1) (nB)⟩
