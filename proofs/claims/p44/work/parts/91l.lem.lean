/-! what facts tell of one another -/
def t_row : KT := ((0, 0, 0, 0), [(2, 0, 1, 0), (1, 1, 0, 0), (1, 2, 0, 0), (1, 3, 0, 0)], [(0, 0), (0, 2147483647), (-2147483648, 2147483647), (-2147483648, 2147483647)], [(26, [(1, 1, 0, 0), (1, 2, 0, 0), (1, 3, 0, 0)]), (10, [(2, 0, 1, 0), (0, 0, 0, 1), (1, 2, 0, 0)])], (0, 0, 0), [], [], ([], [(71, [(2, 0, 1, 0), (1, 1, 0, 0), (1, 3, 0, 0)])]), ([], []))
set_option maxRecDepth 100000 in
theorem l_row (g : GG) : LOK Yt (PSt g) t_row := by
  intro ρ α Γ M as hT hB hA hP
  have g0 : Γ (α 0) = 1 := tyAt hA (i := 0) rfl
  have b1 : 0 ≤ ρ 1 ∧ ρ 1 ≤ 2147483647 := hB 1
  have b2 : -2147483648 ≤ ρ 2 ∧ ρ 2 ≤ 2147483647 := hB 2
  have b3 : -2147483648 ≤ ρ 3 ∧ ρ 3 ≤ 2147483647 := hB 3
  have h0 : ρ 3 + 0 = wI ((ρ 1 + 0 : Int).tdiv (ρ 2 + 0)) := hP _ (List.mem_of_getElem? (i := 0) rfl)
  have h1 : 0 ≤ (1 : Int) ∧ M.2.2.2.2 (α 0) (1 : Int).toNat = ρ 2 + 0 := hP _ (List.mem_of_getElem? (i := 1) rfl)
  try simp only [Int.add_zero] at h0 h1
  have key : (Γ (α 0) = 1 ∧ ρ 3 + 0 = (ρ 1 + 0) / M.2.2.2.2 (α 0) 1) ∧ True := by
    try simp only [Int.add_zero]
    obtain ⟨-, hc⟩ := ch_dims hT g0
    have e : M.2.2.2.2 (α 0) 1 = ρ 2 := h1.2
    rw [e] at hc ⊢
    obtain ⟨d1, d2, d3, d4, d5, d6, d7⟩ := dm b1.1 (show 0 < ρ 2 by omega)
    rw [d1] at h0
    rw [wI_id (by unfold inI; omega)] at h0
    exact ⟨⟨g0, h0⟩, trivial⟩
  exact ⟨nB, qB (key.1) (nB)⟩
def t_col : KT := ((0, 0, 0, 0), [(2, 0, 1, 0), (1, 1, 0, 0), (1, 2, 0, 0), (1, 3, 0, 0)], [(0, 0), (0, 2147483647), (-2147483648, 2147483647), (-2147483648, 2147483647)], [(27, [(1, 1, 0, 0), (1, 2, 0, 0), (1, 3, 0, 0)]), (10, [(2, 0, 1, 0), (0, 0, 0, 1), (1, 2, 0, 0)])], (0, 0, 0), [], [], ([], [(72, [(2, 0, 1, 0), (1, 1, 0, 0), (1, 3, 0, 0)])]), ([], []))
set_option maxRecDepth 100000 in
theorem l_col (g : GG) : LOK Yt (PSt g) t_col := by
  intro ρ α Γ M as hT hB hA hP
  have g0 : Γ (α 0) = 1 := tyAt hA (i := 0) rfl
  have b1 : 0 ≤ ρ 1 ∧ ρ 1 ≤ 2147483647 := hB 1
  have b2 : -2147483648 ≤ ρ 2 ∧ ρ 2 ≤ 2147483647 := hB 2
  have b3 : -2147483648 ≤ ρ 3 ∧ ρ 3 ≤ 2147483647 := hB 3
  have h0 : ρ 3 + 0 = (ρ 1 + 0 : Int).tmod (ρ 2 + 0) := hP _ (List.mem_of_getElem? (i := 0) rfl)
  have h1 : 0 ≤ (1 : Int) ∧ M.2.2.2.2 (α 0) (1 : Int).toNat = ρ 2 + 0 := hP _ (List.mem_of_getElem? (i := 1) rfl)
  try simp only [Int.add_zero] at h0 h1
  have key : (Γ (α 0) = 1 ∧ ρ 3 + 0 = (ρ 1 + 0) % M.2.2.2.2 (α 0) 1) ∧ True := by
    try simp only [Int.add_zero]
    obtain ⟨-, hc⟩ := ch_dims hT g0
    have e : M.2.2.2.2 (α 0) 1 = ρ 2 := h1.2
    rw [e] at hc ⊢
    obtain ⟨d1, d2, d3, d4, d5, d6, d7⟩ := dm b1.1 (show 0 < ρ 2 by omega)
    rw [d2] at h0
    exact ⟨⟨g0, h0⟩, trivial⟩
  exact ⟨nB, qB (key.1) (nB)⟩
def t_rowp : KT := ((0, 0, 0, 0), [(2, 0, 1, 0), (1, 1, 0, 0), (1, 2, 0, 0)], [(0, 0), (0, 143), (-2147483648, 2147483647)], [(2, [(2, 0, 1, 0), (1, 1, 0, 0)]), (71, [(2, 0, 1, 0), (1, 1, 0, 0), (1, 2, 0, 0)])], (0, 0, 0), [], [], ([(2, 0, 11)], []), ([], []))
set_option maxRecDepth 100000 in
theorem l_rowp (g : GG) : LOK Yt (PSt g) t_rowp := by
  intro ρ α Γ M as hT hB hA hP
  have g0 : Γ (α 0) = 1 := tyAt hA (i := 0) rfl
  have b1 : 0 ≤ ρ 1 ∧ ρ 1 ≤ 143 := hB 1
  have b2 : -2147483648 ≤ ρ 2 ∧ ρ 2 ≤ 2147483647 := hB 2
  have h0 : Γ (α 0) = 1 ∧ 0 ≤ ρ 1 + 0 ∧ ρ 1 + 0 < M.2.2.2.2 (α 0) 0 * M.2.2.2.2 (α 0) 1 := hP _ (List.mem_of_getElem? (i := 0) rfl)
  have h1 : Γ (α 0) = 1 ∧ ρ 2 + 0 = (ρ 1 + 0) / M.2.2.2.2 (α 0) 1 := hP _ (List.mem_of_getElem? (i := 1) rfl)
  try simp only [Int.add_zero] at h0 h1
  have key : (0 ≤ ρ 2 ∧ ρ 2 ≤ 11) ∧ True := by
    try simp only [Int.add_zero]
    obtain ⟨hr, hc⟩ := ch_dims hT g0
    have := row_lt (show 0 < M.2.2.2.2 (α 0) 1 by omega) h0.2.2
    have h2 := (dm h0.2.1 (show 0 < M.2.2.2.2 (α 0) 1 by omega)).2.2.2.2.2.1
    rw [← h1.2] at this h2
    exact ⟨⟨h2, by omega⟩, trivial⟩
  exact ⟨qB (key.1) (nB), nB⟩
def t_edh : KT := ((0, 0, 0, 0), [(2, 0, 1, 0), (1, 1, 0, 0), (1, 2, 0, 0), (1, 3, 0, 0), (1, 4, 0, 0), (1, 5, 0, 0), (1, 6, 0, 0), (1, 7, 0, 0)], [(0, 0), (0, 287), (-2147483648, 2147483647), (0, 0), (-2147483648, 2147483647), (-2147483648, 2147483647), (-2147483648, 2147483647), (-2147483648, 2147483647)], [(26, [(1, 1, 0, 0), (0, 0, 0, 2), (1, 2, 0, 0)]), (27, [(1, 1, 0, 0), (0, 0, 0, 2), (1, 3, 0, 0)]), (72, [(2, 0, 1, 0), (1, 2, 0, 0), (1, 4, 0, 0)]), (21, [(1, 4, 0, 0), (1, 5, 0, -1)]), (10, [(2, 0, 1, 0), (0, 0, 0, 1), (1, 5, 0, 0)]), (5, [(2, 0, 1, 0), (1, 6, 0, 0)]), (25, [(0, 0, 0, 2), (1, 6, 0, 0), (1, 7, 0, 0)]), (21, [(1, 1, 0, 0), (1, 7, 0, 0)])], (0, 0, 0), [], [], ([], [(3, [(2, 0, 1, 0), (1, 1, 0, 0)])]), ([], []))
set_option maxRecDepth 100000 in
theorem l_edh (g : GG) : LOK Yt (PSt g) t_edh := by
  intro ρ α Γ M as hT hB hA hP
  have g0 : Γ (α 0) = 1 := tyAt hA (i := 0) rfl
  have b1 : 0 ≤ ρ 1 ∧ ρ 1 ≤ 287 := hB 1
  have b2 : -2147483648 ≤ ρ 2 ∧ ρ 2 ≤ 2147483647 := hB 2
  have b3 : 0 ≤ ρ 3 ∧ ρ 3 ≤ 0 := hB 3
  have b4 : -2147483648 ≤ ρ 4 ∧ ρ 4 ≤ 2147483647 := hB 4
  have b5 : -2147483648 ≤ ρ 5 ∧ ρ 5 ≤ 2147483647 := hB 5
  have b6 : -2147483648 ≤ ρ 6 ∧ ρ 6 ≤ 2147483647 := hB 6
  have b7 : -2147483648 ≤ ρ 7 ∧ ρ 7 ≤ 2147483647 := hB 7
  have h0 : ρ 2 + 0 = wI ((ρ 1 + 0 : Int).tdiv (2)) := hP _ (List.mem_of_getElem? (i := 0) rfl)
  have h1 : ρ 3 + 0 = (ρ 1 + 0 : Int).tmod (2) := hP _ (List.mem_of_getElem? (i := 1) rfl)
  have h2 : Γ (α 0) = 1 ∧ ρ 4 + 0 = (ρ 2 + 0) % M.2.2.2.2 (α 0) 1 := hP _ (List.mem_of_getElem? (i := 2) rfl)
  have h3 : ρ 4 + 0 < ρ 5 + (-1) := hP _ (List.mem_of_getElem? (i := 3) rfl)
  have h4 : 0 ≤ (1 : Int) ∧ M.2.2.2.2 (α 0) (1 : Int).toNat = ρ 5 + 0 := hP _ (List.mem_of_getElem? (i := 4) rfl)
  have h5 : Γ (α 0) = 1 ∧ ρ 6 + 0 = M.2.2.2.2 (α 0) 0 * M.2.2.2.2 (α 0) 1 := hP _ (List.mem_of_getElem? (i := 5) rfl)
  have h6 : ρ 7 + 0 = wI ((2) * (ρ 6 + 0)) := hP _ (List.mem_of_getElem? (i := 6) rfl)
  have h7 : ρ 1 + 0 < ρ 7 + 0 := hP _ (List.mem_of_getElem? (i := 7) rfl)
  try simp only [Int.add_zero] at h0 h1 h2 h3 h4 h5 h6 h7
  have key : (Γ (α 0) = 1 ∧ edP (M.2.2.2.2 (α 0) 0) (M.2.2.2.2 (α 0) 1) (ρ 1 + 0)) ∧ True := by
    try simp only [Int.add_zero]
    obtain ⟨hr, hc⟩ := ch_dims hT g0
    have hrc := rc_bd hr hc
    obtain ⟨d1, d2, d3, d4, d5, d6, d7⟩ := dm (p := ρ 1) b1.1 (show (0 : Int) < 2 by decide)
    rw [d1] at h0
    rw [wI_id (by unfold inI; omega)] at h0
    rw [d2] at h1
    have h6 := h6
    rw [h5.2] at h6
    rw [wI_id (by unfold inI; omega)] at h6
    
    have e : M.2.2.2.2 (α 0) 1 = ρ 5 := h4.2
    have h2 := h2.2
    rw [h0, e] at h2
    rw [e] at h6 ⊢
    refine ⟨⟨g0, b1.1, by omega, fun _ => by rw [← h2]; omega, fun hn => absurd (show ρ 1 % 2 = 0 by omega) hn⟩, trivial⟩
  exact ⟨nB, qB (key.1) (nB)⟩
def t_edv : KT := ((0, 0, 0, 0), [(2, 0, 1, 0), (1, 1, 0, 0), (1, 2, 0, 0), (1, 3, 0, 0), (1, 4, 0, 0), (1, 5, 0, 0), (1, 6, 0, 0), (1, 7, 0, 0)], [(0, 0), (0, 287), (-2147483648, 2147483647), (1, 1), (-2147483648, 2147483647), (-2147483648, 2147483647), (-2147483648, 2147483647), (-2147483648, 2147483647)], [(26, [(1, 1, 0, 0), (0, 0, 0, 2), (1, 2, 0, 0)]), (27, [(1, 1, 0, 0), (0, 0, 0, 2), (1, 3, 0, 0)]), (71, [(2, 0, 1, 0), (1, 2, 0, 0), (1, 4, 0, 0)]), (21, [(1, 4, 0, 0), (1, 5, 0, -1)]), (10, [(2, 0, 1, 0), (0, 0, 0, 0), (1, 5, 0, 0)]), (5, [(2, 0, 1, 0), (1, 6, 0, 0)]), (25, [(0, 0, 0, 2), (1, 6, 0, 0), (1, 7, 0, 0)]), (21, [(1, 1, 0, 0), (1, 7, 0, 0)])], (0, 0, 0), [], [], ([], [(3, [(2, 0, 1, 0), (1, 1, 0, 0)])]), ([], []))
set_option maxRecDepth 100000 in
theorem l_edv (g : GG) : LOK Yt (PSt g) t_edv := by
  intro ρ α Γ M as hT hB hA hP
  have g0 : Γ (α 0) = 1 := tyAt hA (i := 0) rfl
  have b1 : 0 ≤ ρ 1 ∧ ρ 1 ≤ 287 := hB 1
  have b2 : -2147483648 ≤ ρ 2 ∧ ρ 2 ≤ 2147483647 := hB 2
  have b3 : 1 ≤ ρ 3 ∧ ρ 3 ≤ 1 := hB 3
  have b4 : -2147483648 ≤ ρ 4 ∧ ρ 4 ≤ 2147483647 := hB 4
  have b5 : -2147483648 ≤ ρ 5 ∧ ρ 5 ≤ 2147483647 := hB 5
  have b6 : -2147483648 ≤ ρ 6 ∧ ρ 6 ≤ 2147483647 := hB 6
  have b7 : -2147483648 ≤ ρ 7 ∧ ρ 7 ≤ 2147483647 := hB 7
  have h0 : ρ 2 + 0 = wI ((ρ 1 + 0 : Int).tdiv (2)) := hP _ (List.mem_of_getElem? (i := 0) rfl)
  have h1 : ρ 3 + 0 = (ρ 1 + 0 : Int).tmod (2) := hP _ (List.mem_of_getElem? (i := 1) rfl)
  have h2 : Γ (α 0) = 1 ∧ ρ 4 + 0 = (ρ 2 + 0) / M.2.2.2.2 (α 0) 1 := hP _ (List.mem_of_getElem? (i := 2) rfl)
  have h3 : ρ 4 + 0 < ρ 5 + (-1) := hP _ (List.mem_of_getElem? (i := 3) rfl)
  have h4 : 0 ≤ (0 : Int) ∧ M.2.2.2.2 (α 0) (0 : Int).toNat = ρ 5 + 0 := hP _ (List.mem_of_getElem? (i := 4) rfl)
  have h5 : Γ (α 0) = 1 ∧ ρ 6 + 0 = M.2.2.2.2 (α 0) 0 * M.2.2.2.2 (α 0) 1 := hP _ (List.mem_of_getElem? (i := 5) rfl)
  have h6 : ρ 7 + 0 = wI ((2) * (ρ 6 + 0)) := hP _ (List.mem_of_getElem? (i := 6) rfl)
  have h7 : ρ 1 + 0 < ρ 7 + 0 := hP _ (List.mem_of_getElem? (i := 7) rfl)
  try simp only [Int.add_zero] at h0 h1 h2 h3 h4 h5 h6 h7
  have key : (Γ (α 0) = 1 ∧ edP (M.2.2.2.2 (α 0) 0) (M.2.2.2.2 (α 0) 1) (ρ 1 + 0)) ∧ True := by
    try simp only [Int.add_zero]
    obtain ⟨hr, hc⟩ := ch_dims hT g0
    have hrc := rc_bd hr hc
    obtain ⟨d1, d2, d3, d4, d5, d6, d7⟩ := dm (p := ρ 1) b1.1 (show (0 : Int) < 2 by decide)
    rw [d1] at h0
    rw [wI_id (by unfold inI; omega)] at h0
    rw [d2] at h1
    have h6 := h6
    rw [h5.2] at h6
    rw [wI_id (by unfold inI; omega)] at h6
    
    have e : M.2.2.2.2 (α 0) 0 = ρ 5 := h4.2
    have h2 := h2.2
    rw [h0] at h2
    rw [e] at h6 ⊢
    refine ⟨⟨g0, b1.1, by omega, fun hn => absurd hn (show ¬ ρ 1 % 2 = 0 by omega), fun _ => by rw [← h2]; omega⟩, trivial⟩
  exact ⟨nB, qB (key.1) (nB)⟩
def t_ring : KT := ((0, 0, 0, 0), [(2, 0, 1, 0), (1, 1, 0, 0), (1, 2, 0, 0), (1, 3, 0, 0), (1, 4, 0, 0), (1, 5, 0, 0)], [(0, 0), (0, 143), (-2147483648, 2147483647), (-2147483648, 2147483647), (-2147483648, 2147483647), (-2147483648, 2147483647)], [(2, [(2, 0, 1, 0), (1, 1, 0, 0)]), (71, [(2, 0, 1, 0), (1, 1, 0, 0), (1, 2, 0, 0)]), (21, [(1, 2, 0, 0), (1, 3, 0, -1)]), (10, [(2, 0, 1, 0), (0, 0, 0, 0), (1, 3, 0, 0)]), (72, [(2, 0, 1, 0), (1, 1, 0, 0), (1, 4, 0, 0)]), (21, [(1, 4, 0, 0), (1, 5, 0, -1)]), (10, [(2, 0, 1, 0), (0, 0, 0, 1), (1, 5, 0, 0)])], (0, 0, 0), [], [], ([], [(4, [(2, 0, 1, 0), (1, 1, 0, 0)])]), ([], []))
set_option maxRecDepth 100000 in
theorem l_ring (g : GG) : LOK Yt (PSt g) t_ring := by
  intro ρ α Γ M as hT hB hA hP
  have g0 : Γ (α 0) = 1 := tyAt hA (i := 0) rfl
  have b1 : 0 ≤ ρ 1 ∧ ρ 1 ≤ 143 := hB 1
  have b2 : -2147483648 ≤ ρ 2 ∧ ρ 2 ≤ 2147483647 := hB 2
  have b3 : -2147483648 ≤ ρ 3 ∧ ρ 3 ≤ 2147483647 := hB 3
  have b4 : -2147483648 ≤ ρ 4 ∧ ρ 4 ≤ 2147483647 := hB 4
  have b5 : -2147483648 ≤ ρ 5 ∧ ρ 5 ≤ 2147483647 := hB 5
  have h0 : Γ (α 0) = 1 ∧ 0 ≤ ρ 1 + 0 ∧ ρ 1 + 0 < M.2.2.2.2 (α 0) 0 * M.2.2.2.2 (α 0) 1 := hP _ (List.mem_of_getElem? (i := 0) rfl)
  have h1 : Γ (α 0) = 1 ∧ ρ 2 + 0 = (ρ 1 + 0) / M.2.2.2.2 (α 0) 1 := hP _ (List.mem_of_getElem? (i := 1) rfl)
  have h2 : ρ 2 + 0 < ρ 3 + (-1) := hP _ (List.mem_of_getElem? (i := 2) rfl)
  have h3 : 0 ≤ (0 : Int) ∧ M.2.2.2.2 (α 0) (0 : Int).toNat = ρ 3 + 0 := hP _ (List.mem_of_getElem? (i := 3) rfl)
  have h4 : Γ (α 0) = 1 ∧ ρ 4 + 0 = (ρ 1 + 0) % M.2.2.2.2 (α 0) 1 := hP _ (List.mem_of_getElem? (i := 4) rfl)
  have h5 : ρ 4 + 0 < ρ 5 + (-1) := hP _ (List.mem_of_getElem? (i := 5) rfl)
  have h6 : 0 ≤ (1 : Int) ∧ M.2.2.2.2 (α 0) (1 : Int).toNat = ρ 5 + 0 := hP _ (List.mem_of_getElem? (i := 6) rfl)
  try simp only [Int.add_zero] at h0 h1 h2 h3 h4 h5 h6
  have key : (Γ (α 0) = 1 ∧ rgP (M.2.2.2.2 (α 0) 0) (M.2.2.2.2 (α 0) 1) (ρ 1 + 0)) ∧ True := by
    try simp only [Int.add_zero]
    have e0 : M.2.2.2.2 (α 0) 0 = ρ 3 := h3.2
    have e1 : M.2.2.2.2 (α 0) 1 = ρ 5 := h6.2
    have h1 := h1.2
    have h4 := h4.2
    have h0 := h0.2
    rw [e1] at h1 h4
    rw [e0, e1] at h0 ⊢
    exact ⟨⟨g0, h0.1, h0.2, by rw [← h1]; omega, by rw [← h4]; omega⟩, trivial⟩
  exact ⟨nB, qB (key.1) (nB)⟩
def t_tip0 : KT := ((0, 0, 0, 0), [(2, 0, 1, 0), (1, 1, 0, 0), (1, 2, 0, 0), (1, 3, 0, 0)], [(0, 0), (0, 287), (0, 0), (-2147483648, 2147483647)], [(3, [(2, 0, 1, 0), (1, 1, 0, 0)]), (27, [(1, 1, 0, 0), (0, 0, 0, 2), (1, 2, 0, 0)]), (26, [(1, 1, 0, 0), (0, 0, 0, 2), (1, 3, 0, -1)])], (0, 0, 0), [], [], ([(3, 0, 143)], [(2, [(2, 0, 1, 0), (1, 3, 0, 0)])]), ([], []))
set_option maxRecDepth 100000 in
theorem l_tip0 (g : GG) : LOK Yt (PSt g) t_tip0 := by
  intro ρ α Γ M as hT hB hA hP
  have g0 : Γ (α 0) = 1 := tyAt hA (i := 0) rfl
  have b1 : 0 ≤ ρ 1 ∧ ρ 1 ≤ 287 := hB 1
  have b2 : 0 ≤ ρ 2 ∧ ρ 2 ≤ 0 := hB 2
  have b3 : -2147483648 ≤ ρ 3 ∧ ρ 3 ≤ 2147483647 := hB 3
  have h0 : Γ (α 0) = 1 ∧ edP (M.2.2.2.2 (α 0) 0) (M.2.2.2.2 (α 0) 1) (ρ 1 + 0) := hP _ (List.mem_of_getElem? (i := 0) rfl)
  have h1 : ρ 2 + 0 = (ρ 1 + 0 : Int).tmod (2) := hP _ (List.mem_of_getElem? (i := 1) rfl)
  have h2 : ρ 3 + (-1) = wI ((ρ 1 + 0 : Int).tdiv (2)) := hP _ (List.mem_of_getElem? (i := 2) rfl)
  try simp only [Int.add_zero] at h0 h1 h2
  have key : (0 ≤ ρ 3 ∧ ρ 3 ≤ 143) ∧ (Γ (α 0) = 1 ∧ 0 ≤ ρ 3 + 0 ∧ ρ 3 + 0 < M.2.2.2.2 (α 0) 0 * M.2.2.2.2 (α 0) 1) ∧ True := by
    try simp only [Int.add_zero]
    obtain ⟨hr, hc⟩ := ch_dims hT g0
    have hrc := rc_bd hr hc
    obtain ⟨d1, d2, d3, d4, d5, d6, d7⟩ := dm (p := ρ 1) b1.1 (show (0 : Int) < 2 by decide)
    rw [d1] at h2
    rw [wI_id (by unfold inI; omega)] at h2
    rw [d2] at h1
    obtain ⟨-, -, x2, x3, -⟩ := h0
    have x3 := x3 (by omega)
    obtain ⟨-, -, y3, y4, y5, y6, -⟩ := dm (p := ρ 1 / 2) d6 (show 0 < M.2.2.2.2 (α 0) 1 by omega)
    have y7 := row_lt (r := M.2.2.2.2 (α 0) 0) (p := ρ 1 / 2) (show 0 < M.2.2.2.2 (α 0) 1 by omega) (by omega)
    have l := low_lt (k := 0) d6 (show 0 < M.2.2.2.2 (α 0) 1 by omega) (show ρ 1 / 2 / M.2.2.2.2 (α 0) 1 ≤ M.2.2.2.2 (α 0) 0 - 1 - 0 by omega) (by decide)
    exact ⟨⟨by omega, by omega⟩, ⟨g0, by omega, by omega⟩, trivial⟩
  exact ⟨qB (key.1) (nB), qB (key.2.1) (nB)⟩
def t_tip1 : KT := ((0, 0, 0, 0), [(2, 0, 1, 0), (1, 1, 0, 0), (1, 2, 0, 0), (1, 3, 0, 0), (1, 4, 0, 0), (1, 5, 0, 0)], [(0, 0), (0, 287), (1, 1), (-2147483648, 2147483647), (-2147483648, 2147483647), (-2147483648, 2147483647)], [(3, [(2, 0, 1, 0), (1, 1, 0, 0)]), (27, [(1, 1, 0, 0), (0, 0, 0, 2), (1, 2, 0, 0)]), (26, [(1, 1, 0, 0), (0, 0, 0, 2), (1, 3, 0, 0)]), (23, [(1, 3, 0, 0), (1, 4, 0, 0), (1, 5, 0, 0)]), (10, [(2, 0, 1, 0), (0, 0, 0, 1), (1, 4, 0, 0)])], (0, 0, 0), [], [], ([(5, 0, 143)], [(2, [(2, 0, 1, 0), (1, 5, 0, 0)])]), ([], []))
set_option maxRecDepth 100000 in
theorem l_tip1 (g : GG) : LOK Yt (PSt g) t_tip1 := by
  intro ρ α Γ M as hT hB hA hP
  have g0 : Γ (α 0) = 1 := tyAt hA (i := 0) rfl
  have b1 : 0 ≤ ρ 1 ∧ ρ 1 ≤ 287 := hB 1
  have b2 : 1 ≤ ρ 2 ∧ ρ 2 ≤ 1 := hB 2
  have b3 : -2147483648 ≤ ρ 3 ∧ ρ 3 ≤ 2147483647 := hB 3
  have b4 : -2147483648 ≤ ρ 4 ∧ ρ 4 ≤ 2147483647 := hB 4
  have b5 : -2147483648 ≤ ρ 5 ∧ ρ 5 ≤ 2147483647 := hB 5
  have h0 : Γ (α 0) = 1 ∧ edP (M.2.2.2.2 (α 0) 0) (M.2.2.2.2 (α 0) 1) (ρ 1 + 0) := hP _ (List.mem_of_getElem? (i := 0) rfl)
  have h1 : ρ 2 + 0 = (ρ 1 + 0 : Int).tmod (2) := hP _ (List.mem_of_getElem? (i := 1) rfl)
  have h2 : ρ 3 + 0 = wI ((ρ 1 + 0 : Int).tdiv (2)) := hP _ (List.mem_of_getElem? (i := 2) rfl)
  have h3 : ρ 5 + 0 = wI ((ρ 3 + 0) + (ρ 4 + 0)) := hP _ (List.mem_of_getElem? (i := 3) rfl)
  have h4 : 0 ≤ (1 : Int) ∧ M.2.2.2.2 (α 0) (1 : Int).toNat = ρ 4 + 0 := hP _ (List.mem_of_getElem? (i := 4) rfl)
  try simp only [Int.add_zero] at h0 h1 h2 h3 h4
  have key : (0 ≤ ρ 5 ∧ ρ 5 ≤ 143) ∧ (Γ (α 0) = 1 ∧ 0 ≤ ρ 5 + 0 ∧ ρ 5 + 0 < M.2.2.2.2 (α 0) 0 * M.2.2.2.2 (α 0) 1) ∧ True := by
    try simp only [Int.add_zero]
    obtain ⟨hr, hc⟩ := ch_dims hT g0
    have hrc := rc_bd hr hc
    have e : M.2.2.2.2 (α 0) 1 = ρ 4 := h4.2
    obtain ⟨d1, d2, d3, d4, d5, d6, d7⟩ := dm (p := ρ 1) b1.1 (show (0 : Int) < 2 by decide)
    rw [d1] at h2
    rw [wI_id (by unfold inI; omega)] at h2
    rw [d2] at h1
    rw [e] at h0 hc hrc ⊢
    rw [wI_id (by unfold inI; omega)] at h3
    obtain ⟨-, -, x2, -, x3⟩ := h0
    have x3 := x3 (by omega)
    obtain ⟨-, -, y3, y4, y5, y6, -⟩ := dm (p := ρ 1 / 2) d6 (show 0 < ρ 4 by omega)
    have l := low_lt (k := 1) d6 (show 0 < ρ 4 by omega) (show ρ 1 / 2 / ρ 4 ≤ M.2.2.2.2 (α 0) 0 - 1 - 1 by omega) (by decide)
    exact ⟨⟨by omega, by omega⟩, ⟨g0, by omega, by omega⟩, trivial⟩
  exact ⟨qB (key.1) (nB), qB (key.2.1) (nB)⟩
def t_b0 : KT := ((0, 0, 0, 0), [(2, 0, 1, 0), (1, 1, 0, 0), (1, 2, 0, 0), (1, 3, 0, 0), (1, 4, 0, 0)], [(0, 0), (0, 143), (0, 0), (-2147483648, 2147483647), (-2147483648, 2147483647)], [(2, [(2, 0, 1, 0), (1, 1, 0, 0)]), (6, [(1, 3, 0, 0), (1, 1, 0, 0)]), (10, [(2, 0, 1, 0), (0, 0, 0, 1), (1, 3, 0, 0)]), (24, [(1, 1, 0, 0), (1, 3, 0, 0), (1, 4, 0, 0)])], (0, 0, 0), [], [], ([(4, 0, 143)], [(15, [(2, 0, 1, 0), (1, 4, 0, 0)]), (17, [(2, 0, 1, 0), (1, 1, 0, 0), (1, 2, 0, 0), (1, 4, 0, 0)])]), ([], []))
set_option maxRecDepth 100000 in
theorem l_b0 (g : GG) : LOK Yt (PSt g) t_b0 := by
  intro ρ α Γ M as hT hB hA hP
  have g0 : Γ (α 0) = 1 := tyAt hA (i := 0) rfl
  have b1 : 0 ≤ ρ 1 ∧ ρ 1 ≤ 143 := hB 1
  have b2 : 0 ≤ ρ 2 ∧ ρ 2 ≤ 0 := hB 2
  have b3 : -2147483648 ≤ ρ 3 ∧ ρ 3 ≤ 2147483647 := hB 3
  have b4 : -2147483648 ≤ ρ 4 ∧ ρ 4 ≤ 2147483647 := hB 4
  have h0 : Γ (α 0) = 1 ∧ 0 ≤ ρ 1 + 0 ∧ ρ 1 + 0 < M.2.2.2.2 (α 0) 0 * M.2.2.2.2 (α 0) 1 := hP _ (List.mem_of_getElem? (i := 0) rfl)
  have h1 : ρ 3 + 0 ≤ ρ 1 + 0 := hP _ (List.mem_of_getElem? (i := 1) rfl)
  have h2 : 0 ≤ (1 : Int) ∧ M.2.2.2.2 (α 0) (1 : Int).toNat = ρ 3 + 0 := hP _ (List.mem_of_getElem? (i := 2) rfl)
  have h3 : ρ 4 + 0 = wI ((ρ 1 + 0) - (ρ 3 + 0)) := hP _ (List.mem_of_getElem? (i := 3) rfl)
  try simp only [Int.add_zero] at h0 h1 h2 h3
  have key : (0 ≤ ρ 4 ∧ ρ 4 ≤ 143) ∧ (Γ (α 0) = 1 ∧ (ρ 4 + 0 = -1 ∨ isPx (M.2.2.2.2 (α 0) 0) (M.2.2.2.2 (α 0) 1) (ρ 4 + 0))) ∧ (Γ (α 0) = 1 ∧ (ρ 4 + 0 ≠ -1 → nbP (M.2.2.2.2 (α 0) 0) (M.2.2.2.2 (α 0) 1) (ρ 1 + 0) (ρ 2 + 0))) ∧ True := by
    try simp only [Int.add_zero]
    obtain ⟨hr, hc⟩ := ch_dims hT g0
    have e : M.2.2.2.2 (α 0) 1 = ρ 3 := h2.2
    rw [e] at h0 hc ⊢
    rw [wI_id (by unfold inI; omega)] at h3
    exact ⟨⟨by omega, by omega⟩, ⟨g0, Or.inr ⟨by omega, by omega⟩⟩, ⟨g0, fun _ => ⟨fun _ => by omega, fun h => by omega, fun h => by omega, fun h => by omega⟩⟩, trivial⟩
  exact ⟨qB (key.1) (nB), qB (key.2.1) (qB (key.2.2.1) (nB))⟩
def t_bn : KT := ((0, 0, 0, 0), [(2, 0, 1, 0), (1, 1, 0, 0), (1, 2, 0, 0), (1, 3, 0, 0)], [(0, 0), (0, 143), (0, 3), (-1, -1)], [], (0, 0, 0), [], [], ([], [(15, [(2, 0, 1, 0), (1, 3, 0, 0)]), (17, [(2, 0, 1, 0), (1, 1, 0, 0), (1, 2, 0, 0), (1, 3, 0, 0)])]), ([], []))
set_option maxRecDepth 100000 in
theorem l_bn (g : GG) : LOK Yt (PSt g) t_bn := by
  intro ρ α Γ M as hT hB hA hP
  have g0 : Γ (α 0) = 1 := tyAt hA (i := 0) rfl
  have b1 : 0 ≤ ρ 1 ∧ ρ 1 ≤ 143 := hB 1
  have b2 : 0 ≤ ρ 2 ∧ ρ 2 ≤ 3 := hB 2
  have b3 : -1 ≤ ρ 3 ∧ ρ 3 ≤ -1 := hB 3
  have key : (Γ (α 0) = 1 ∧ (ρ 3 + 0 = -1 ∨ isPx (M.2.2.2.2 (α 0) 0) (M.2.2.2.2 (α 0) 1) (ρ 3 + 0))) ∧ (Γ (α 0) = 1 ∧ (ρ 3 + 0 ≠ -1 → nbP (M.2.2.2.2 (α 0) 0) (M.2.2.2.2 (α 0) 1) (ρ 1 + 0) (ρ 2 + 0))) ∧ True := by
    try simp only [Int.add_zero]
    exact ⟨⟨g0, Or.inl (by omega)⟩, ⟨g0, fun h => absurd (show ρ 3 = -1 by omega) h⟩, trivial⟩
  exact ⟨nB, qB (key.1) (qB (key.2.1) (nB))⟩
def t_b1 : KT := ((0, 0, 0, 0), [(2, 0, 1, 0), (1, 1, 0, 0), (1, 2, 0, 0), (1, 3, 0, 0)], [(0, 0), (0, 143), (1, 1), (1, 143)], [(2, [(2, 0, 1, 0), (1, 1, 0, 0)]), (72, [(2, 0, 1, 0), (1, 1, 0, 0), (1, 3, 0, 0)])], (0, 0, 0), [], [], ([(1, 1, 143)], [(15, [(2, 0, 1, 0), (1, 1, 0, -1)]), (17, [(2, 0, 1, 0), (1, 1, 0, 0), (1, 2, 0, 0), (1, 1, 0, -1)])]), ([], []))
set_option maxRecDepth 100000 in
theorem l_b1 (g : GG) : LOK Yt (PSt g) t_b1 := by
  intro ρ α Γ M as hT hB hA hP
  have g0 : Γ (α 0) = 1 := tyAt hA (i := 0) rfl
  have b1 : 0 ≤ ρ 1 ∧ ρ 1 ≤ 143 := hB 1
  have b2 : 1 ≤ ρ 2 ∧ ρ 2 ≤ 1 := hB 2
  have b3 : 1 ≤ ρ 3 ∧ ρ 3 ≤ 143 := hB 3
  have h0 : Γ (α 0) = 1 ∧ 0 ≤ ρ 1 + 0 ∧ ρ 1 + 0 < M.2.2.2.2 (α 0) 0 * M.2.2.2.2 (α 0) 1 := hP _ (List.mem_of_getElem? (i := 0) rfl)
  have h1 : Γ (α 0) = 1 ∧ ρ 3 + 0 = (ρ 1 + 0) % M.2.2.2.2 (α 0) 1 := hP _ (List.mem_of_getElem? (i := 1) rfl)
  try simp only [Int.add_zero] at h0 h1
  have key : (1 ≤ ρ 1 ∧ ρ 1 ≤ 143) ∧ (Γ (α 0) = 1 ∧ (ρ 1 + (-1) = -1 ∨ isPx (M.2.2.2.2 (α 0) 0) (M.2.2.2.2 (α 0) 1) (ρ 1 + (-1)))) ∧ (Γ (α 0) = 1 ∧ (ρ 1 + (-1) ≠ -1 → nbP (M.2.2.2.2 (α 0) 0) (M.2.2.2.2 (α 0) 1) (ρ 1 + 0) (ρ 2 + 0))) ∧ True := by
    try simp only [Int.add_zero]
    obtain ⟨hr, hc⟩ := ch_dims hT g0
    obtain ⟨-, -, y3, y4, y5, y6, y7⟩ := dm (p := ρ 1) b1.1 (show 0 < M.2.2.2.2 (α 0) 1 by omega)
    have hp : 1 ≤ ρ 1 := by
      by_cases h : ρ 1 = 0
      · rw [h, Int.zero_emod] at h1
        omega
      · omega
    exact ⟨⟨hp, b1.2⟩, ⟨g0, Or.inr ⟨by omega, by omega⟩⟩, ⟨g0, fun _ => ⟨fun h => by omega, fun _ => by rw [← h1.2]; omega, fun h => by omega, fun h => by omega⟩⟩, trivial⟩
  exact ⟨qB (key.1) (nB), qB (key.2.1) (qB (key.2.2.1) (nB))⟩
def t_b2 : KT := ((0, 0, 0, 0), [(2, 0, 1, 0), (1, 1, 0, 0), (1, 2, 0, 0), (1, 3, 0, 0), (1, 4, 0, 0)], [(0, 0), (0, 143), (2, 2), (-2147483648, 2147483647), (-2147483648, 2147483647)], [(2, [(2, 0, 1, 0), (1, 1, 0, 0)]), (72, [(2, 0, 1, 0), (1, 1, 0, 0), (1, 3, 0, 0)]), (21, [(1, 3, 0, 0), (1, 4, 0, -1)]), (10, [(2, 0, 1, 0), (0, 0, 0, 1), (1, 4, 0, 0)])], (0, 0, 0), [], [], ([(1, 0, 142)], [(15, [(2, 0, 1, 0), (1, 1, 0, 1)]), (17, [(2, 0, 1, 0), (1, 1, 0, 0), (1, 2, 0, 0), (1, 1, 0, 1)])]), ([], []))
set_option maxRecDepth 100000 in
theorem l_b2 (g : GG) : LOK Yt (PSt g) t_b2 := by
  intro ρ α Γ M as hT hB hA hP
  have g0 : Γ (α 0) = 1 := tyAt hA (i := 0) rfl
  have b1 : 0 ≤ ρ 1 ∧ ρ 1 ≤ 143 := hB 1
  have b2 : 2 ≤ ρ 2 ∧ ρ 2 ≤ 2 := hB 2
  have b3 : -2147483648 ≤ ρ 3 ∧ ρ 3 ≤ 2147483647 := hB 3
  have b4 : -2147483648 ≤ ρ 4 ∧ ρ 4 ≤ 2147483647 := hB 4
  have h0 : Γ (α 0) = 1 ∧ 0 ≤ ρ 1 + 0 ∧ ρ 1 + 0 < M.2.2.2.2 (α 0) 0 * M.2.2.2.2 (α 0) 1 := hP _ (List.mem_of_getElem? (i := 0) rfl)
  have h1 : Γ (α 0) = 1 ∧ ρ 3 + 0 = (ρ 1 + 0) % M.2.2.2.2 (α 0) 1 := hP _ (List.mem_of_getElem? (i := 1) rfl)
  have h2 : ρ 3 + 0 < ρ 4 + (-1) := hP _ (List.mem_of_getElem? (i := 2) rfl)
  have h3 : 0 ≤ (1 : Int) ∧ M.2.2.2.2 (α 0) (1 : Int).toNat = ρ 4 + 0 := hP _ (List.mem_of_getElem? (i := 3) rfl)
  try simp only [Int.add_zero] at h0 h1 h2 h3
  have key : (0 ≤ ρ 1 ∧ ρ 1 ≤ 142) ∧ (Γ (α 0) = 1 ∧ (ρ 1 + 1 = -1 ∨ isPx (M.2.2.2.2 (α 0) 0) (M.2.2.2.2 (α 0) 1) (ρ 1 + 1))) ∧ (Γ (α 0) = 1 ∧ (ρ 1 + 1 ≠ -1 → nbP (M.2.2.2.2 (α 0) 0) (M.2.2.2.2 (α 0) 1) (ρ 1 + 0) (ρ 2 + 0))) ∧ True := by
    try simp only [Int.add_zero]
    obtain ⟨hr, hc⟩ := ch_dims hT g0
    have hrc := rc_bd hr hc
    have e : M.2.2.2.2 (α 0) 1 = ρ 4 := h3.2
    rw [e] at h0 h1 hc hrc ⊢
    obtain ⟨-, -, y3, y4, y5, y6, y7⟩ := dm (p := ρ 1) b1.1 (show 0 < ρ 4 by omega)
    have z := row_lt (show 0 < ρ 4 by omega) h0.2.2
    have l := low_lt (k := 0) b1.1 (show 0 < ρ 4 by omega) (show ρ 1 / ρ 4 ≤ M.2.2.2.2 (α 0) 0 - 1 - 0 by omega) (by decide)
    exact ⟨⟨b1.1, by omega⟩, ⟨g0, Or.inr ⟨by omega, by omega⟩⟩, ⟨g0, fun _ => ⟨fun h => by omega, fun h => by omega, fun _ => by rw [← h1.2]; omega, fun h1 h2 h3 => by omega⟩⟩, trivial⟩
  exact ⟨qB (key.1) (nB), qB (key.2.1) (qB (key.2.2.1) (nB))⟩
def t_b3 : KT := ((0, 0, 0, 0), [(2, 0, 1, 0), (1, 1, 0, 0), (1, 2, 0, 0), (1, 3, 0, 0), (1, 4, 0, 0), (1, 5, 0, 0), (1, 6, 0, 0)], [(0, 0), (0, 143), (3, 3), (-2147483648, 2147483647), (-2147483648, 2147483647), (-2147483648, 2147483647), (-2147483648, 2147483647)], [(2, [(2, 0, 1, 0), (1, 1, 0, 0)]), (71, [(2, 0, 1, 0), (1, 1, 0, 0), (1, 3, 0, 0)]), (21, [(1, 3, 0, 0), (1, 4, 0, -1)]), (10, [(2, 0, 1, 0), (0, 0, 0, 0), (1, 4, 0, 0)]), (10, [(2, 0, 1, 0), (0, 0, 0, 1), (1, 5, 0, 0)]), (23, [(1, 1, 0, 0), (1, 5, 0, 0), (1, 6, 0, 0)])], (0, 0, 0), [], [], ([(6, 0, 143)], [(15, [(2, 0, 1, 0), (1, 6, 0, 0)]), (17, [(2, 0, 1, 0), (1, 1, 0, 0), (1, 2, 0, 0), (1, 6, 0, 0)])]), ([], []))
set_option maxRecDepth 100000 in
theorem l_b3 (g : GG) : LOK Yt (PSt g) t_b3 := by
  intro ρ α Γ M as hT hB hA hP
  have g0 : Γ (α 0) = 1 := tyAt hA (i := 0) rfl
  have b1 : 0 ≤ ρ 1 ∧ ρ 1 ≤ 143 := hB 1
  have b2 : 3 ≤ ρ 2 ∧ ρ 2 ≤ 3 := hB 2
  have b3 : -2147483648 ≤ ρ 3 ∧ ρ 3 ≤ 2147483647 := hB 3
  have b4 : -2147483648 ≤ ρ 4 ∧ ρ 4 ≤ 2147483647 := hB 4
  have b5 : -2147483648 ≤ ρ 5 ∧ ρ 5 ≤ 2147483647 := hB 5
  have b6 : -2147483648 ≤ ρ 6 ∧ ρ 6 ≤ 2147483647 := hB 6
  have h0 : Γ (α 0) = 1 ∧ 0 ≤ ρ 1 + 0 ∧ ρ 1 + 0 < M.2.2.2.2 (α 0) 0 * M.2.2.2.2 (α 0) 1 := hP _ (List.mem_of_getElem? (i := 0) rfl)
  have h1 : Γ (α 0) = 1 ∧ ρ 3 + 0 = (ρ 1 + 0) / M.2.2.2.2 (α 0) 1 := hP _ (List.mem_of_getElem? (i := 1) rfl)
  have h2 : ρ 3 + 0 < ρ 4 + (-1) := hP _ (List.mem_of_getElem? (i := 2) rfl)
  have h3 : 0 ≤ (0 : Int) ∧ M.2.2.2.2 (α 0) (0 : Int).toNat = ρ 4 + 0 := hP _ (List.mem_of_getElem? (i := 3) rfl)
  have h4 : 0 ≤ (1 : Int) ∧ M.2.2.2.2 (α 0) (1 : Int).toNat = ρ 5 + 0 := hP _ (List.mem_of_getElem? (i := 4) rfl)
  have h5 : ρ 6 + 0 = wI ((ρ 1 + 0) + (ρ 5 + 0)) := hP _ (List.mem_of_getElem? (i := 5) rfl)
  try simp only [Int.add_zero] at h0 h1 h2 h3 h4 h5
  have key : (0 ≤ ρ 6 ∧ ρ 6 ≤ 143) ∧ (Γ (α 0) = 1 ∧ (ρ 6 + 0 = -1 ∨ isPx (M.2.2.2.2 (α 0) 0) (M.2.2.2.2 (α 0) 1) (ρ 6 + 0))) ∧ (Γ (α 0) = 1 ∧ (ρ 6 + 0 ≠ -1 → nbP (M.2.2.2.2 (α 0) 0) (M.2.2.2.2 (α 0) 1) (ρ 1 + 0) (ρ 2 + 0))) ∧ True := by
    try simp only [Int.add_zero]
    obtain ⟨hr, hc⟩ := ch_dims hT g0
    have hrc := rc_bd hr hc
    have e : M.2.2.2.2 (α 0) 1 = ρ 5 := h4.2
    have e0 : M.2.2.2.2 (α 0) 0 = ρ 4 := h3.2
    rw [e] at h1
    rw [e, e0] at h0 hrc ⊢
    rw [e] at hc
    rw [e0] at hr
    obtain ⟨-, -, y3, y4, y5, y6, y7⟩ := dm (p := ρ 1) b1.1 (show 0 < ρ 5 by omega)
    rw [wI_id (by unfold inI; omega)] at h5
    have l := low_lt (r := ρ 4) (k := 1) b1.1 (show 0 < ρ 5 by omega) (show ρ 1 / ρ 5 ≤ ρ 4 - 1 - 1 by have := h1.2; omega) (by decide)
    exact ⟨⟨by omega, by omega⟩, ⟨g0, Or.inr ⟨by omega, by omega⟩⟩, ⟨g0, fun _ => ⟨fun h => by omega, fun h => by omega, fun h => by omega, fun _ _ _ => by rw [← h1.2]; omega⟩⟩, trivial⟩
  exact ⟨qB (key.1) (nB), qB (key.2.1) (qB (key.2.2.1) (nB))⟩
def t_e0 : KT := ((0, 0, 0, 0), [(2, 0, 1, 0), (1, 1, 0, 0), (1, 2, 0, 0), (1, 3, 0, 0), (1, 4, 0, 0)], [(0, 0), (0, 143), (0, 0), (-2147483648, 2147483647), (-2147483648, 2147483647)], [(16, [(2, 0, 1, 0), (1, 1, 0, 0), (1, 2, 0, 0)]), (10, [(2, 0, 1, 0), (0, 0, 0, 1), (1, 3, 0, 0)]), (24, [(1, 1, 0, 0), (1, 3, 0, 0), (1, 4, 0, 0)])], (0, 0, 0), [], [], ([(4, 0, 143)], []), ([], []))
set_option maxRecDepth 100000 in
theorem l_e0 (g : GG) : LOK Yt (PSt g) t_e0 := by
  intro ρ α Γ M as hT hB hA hP
  have g0 : Γ (α 0) = 1 := tyAt hA (i := 0) rfl
  have b1 : 0 ≤ ρ 1 ∧ ρ 1 ≤ 143 := hB 1
  have b2 : 0 ≤ ρ 2 ∧ ρ 2 ≤ 0 := hB 2
  have b3 : -2147483648 ≤ ρ 3 ∧ ρ 3 ≤ 2147483647 := hB 3
  have b4 : -2147483648 ≤ ρ 4 ∧ ρ 4 ≤ 2147483647 := hB 4
  have h0 : Γ (α 0) = 1 ∧ nbP (M.2.2.2.2 (α 0) 0) (M.2.2.2.2 (α 0) 1) (ρ 1 + 0) (ρ 2 + 0) := hP _ (List.mem_of_getElem? (i := 0) rfl)
  have h1 : 0 ≤ (1 : Int) ∧ M.2.2.2.2 (α 0) (1 : Int).toNat = ρ 3 + 0 := hP _ (List.mem_of_getElem? (i := 1) rfl)
  have h2 : ρ 4 + 0 = wI ((ρ 1 + 0) - (ρ 3 + 0)) := hP _ (List.mem_of_getElem? (i := 2) rfl)
  try simp only [Int.add_zero] at h0 h1 h2
  have key : (0 ≤ ρ 4 ∧ ρ 4 ≤ 143) ∧ True := by
    try simp only [Int.add_zero]
    obtain ⟨hr, hc⟩ := ch_dims hT g0
    have e : M.2.2.2.2 (α 0) 1 = ρ 3 := h1.2
    rw [e] at h0 hc
    rw [wI_id (by unfold inI; omega)] at h2
    have := h0.2.1 (by omega)
    exact ⟨⟨by omega, by omega⟩, trivial⟩
  exact ⟨qB (key.1) (nB), nB⟩
def t_e1 : KT := ((0, 0, 0, 0), [(2, 0, 1, 0), (1, 1, 0, 0), (1, 2, 0, 0)], [(0, 0), (0, 143), (1, 1)], [(16, [(2, 0, 1, 0), (1, 1, 0, 0), (1, 2, 0, 0)])], (0, 0, 0), [], [], ([(1, 1, 143)], []), ([], []))
set_option maxRecDepth 100000 in
theorem l_e1 (g : GG) : LOK Yt (PSt g) t_e1 := by
  intro ρ α Γ M as hT hB hA hP
  have g0 : Γ (α 0) = 1 := tyAt hA (i := 0) rfl
  have b1 : 0 ≤ ρ 1 ∧ ρ 1 ≤ 143 := hB 1
  have b2 : 1 ≤ ρ 2 ∧ ρ 2 ≤ 1 := hB 2
  have h0 : Γ (α 0) = 1 ∧ nbP (M.2.2.2.2 (α 0) 0) (M.2.2.2.2 (α 0) 1) (ρ 1 + 0) (ρ 2 + 0) := hP _ (List.mem_of_getElem? (i := 0) rfl)
  try simp only [Int.add_zero] at h0
  have key : (1 ≤ ρ 1 ∧ ρ 1 ≤ 143) ∧ True := by
    try simp only [Int.add_zero]
    obtain ⟨hr, hc⟩ := ch_dims hT g0
    have h1 := h0.2.2.1 (by omega)
    have hp : 1 ≤ ρ 1 := by
      by_cases h : ρ 1 = 0
      · rw [h, Int.zero_emod] at h1
        omega
      · omega
    exact ⟨⟨hp, b1.2⟩, trivial⟩
  exact ⟨qB (key.1) (nB), nB⟩
def t_c0 : KT := ((0, 0, 0, 0), [(2, 0, 1, 0), (1, 1, 0, 0)], [(0, 0), (0, 143)], [(4, [(2, 0, 1, 0), (1, 1, 0, 0)])], (0, 0, 0), [], [], ([(1, 0, 140)], []), ([], []))
set_option maxRecDepth 100000 in
theorem l_c0 (g : GG) : LOK Yt (PSt g) t_c0 := by
  intro ρ α Γ M as hT hB hA hP
  have g0 : Γ (α 0) = 1 := tyAt hA (i := 0) rfl
  have b1 : 0 ≤ ρ 1 ∧ ρ 1 ≤ 143 := hB 1
  have h0 : Γ (α 0) = 1 ∧ rgP (M.2.2.2.2 (α 0) 0) (M.2.2.2.2 (α 0) 1) (ρ 1 + 0) := hP _ (List.mem_of_getElem? (i := 0) rfl)
  try simp only [Int.add_zero] at h0
  have key : (0 ≤ ρ 1 ∧ ρ 1 ≤ 140) ∧ True := by
    try simp only [Int.add_zero]
    obtain ⟨hr, hc⟩ := ch_dims hT g0
    have hrc := rc_bd hr hc
    obtain ⟨-, x0, x1, x2, x3⟩ := h0
    have l := low_lt (r := M.2.2.2.2 (α 0) 0) (k := 1) x0 (show 0 < M.2.2.2.2 (α 0) 1 by omega) (by omega) (by decide)
    exact ⟨⟨x0, by omega⟩, trivial⟩
  exact ⟨qB (key.1) (nB), nB⟩
def t_c1 : KT := ((0, 0, 0, 0), [(2, 0, 1, 0), (1, 1, 0, 0), (1, 2, 0, 0), (1, 3, 0, 0)], [(0, 0), (0, 143), (-2147483648, 2147483647), (-2147483648, 2147483647)], [(4, [(2, 0, 1, 0), (1, 1, 0, 0)]), (23, [(1, 1, 0, 0), (1, 2, 0, 0), (1, 3, 0, 0)]), (10, [(2, 0, 1, 0), (0, 0, 0, 1), (1, 2, 0, 0)])], (0, 0, 0), [], [], ([(3, 0, 142)], []), ([], []))
set_option maxRecDepth 100000 in
theorem l_c1 (g : GG) : LOK Yt (PSt g) t_c1 := by
  intro ρ α Γ M as hT hB hA hP
  have g0 : Γ (α 0) = 1 := tyAt hA (i := 0) rfl
  have b1 : 0 ≤ ρ 1 ∧ ρ 1 ≤ 143 := hB 1
  have b2 : -2147483648 ≤ ρ 2 ∧ ρ 2 ≤ 2147483647 := hB 2
  have b3 : -2147483648 ≤ ρ 3 ∧ ρ 3 ≤ 2147483647 := hB 3
  have h0 : Γ (α 0) = 1 ∧ rgP (M.2.2.2.2 (α 0) 0) (M.2.2.2.2 (α 0) 1) (ρ 1 + 0) := hP _ (List.mem_of_getElem? (i := 0) rfl)
  have h1 : ρ 3 + 0 = wI ((ρ 1 + 0) + (ρ 2 + 0)) := hP _ (List.mem_of_getElem? (i := 1) rfl)
  have h2 : 0 ≤ (1 : Int) ∧ M.2.2.2.2 (α 0) (1 : Int).toNat = ρ 2 + 0 := hP _ (List.mem_of_getElem? (i := 2) rfl)
  try simp only [Int.add_zero] at h0 h1 h2
  have key : (0 ≤ ρ 3 ∧ ρ 3 ≤ 142) ∧ True := by
    try simp only [Int.add_zero]
    obtain ⟨hr, hc⟩ := ch_dims hT g0
    have hrc := rc_bd hr hc
    have e : M.2.2.2.2 (α 0) 1 = ρ 2 := h2.2
    rw [e] at h0 hc hrc
    rw [wI_id (by unfold inI; omega)] at h1
    obtain ⟨-, x0, x1, x2, x3⟩ := h0
    have l := low_lt (r := M.2.2.2.2 (α 0) 0) (k := 1) x0 (show 0 < ρ 2 by omega) (by omega) (by decide)
    exact ⟨⟨by omega, by omega⟩, trivial⟩
  exact ⟨qB (key.1) (nB), nB⟩
def t_w3 : KT := ((0, 0, 0, 0), [(2, 0, 38, 0), (2, 1, 1, 0), (1, 2, 0, 0)], [(0, 0), (0, 0), (0, 287)], [(11, [(2, 0, 38, 0), (0, 0, 0, 0), (2, 1, 1, 0)]), (3, [(2, 1, 1, 0), (1, 2, 0, 0)])], (0, 0, 0), [], [], ([], [(73, [(2, 0, 38, 0), (1, 2, 0, 0)])]), ([], []))
set_option maxRecDepth 100000 in
theorem l_w3 (g : GG) : LOK Yt (PSt g) t_w3 := by
  intro ρ α Γ M as hT hB hA hP
  have g0 : Γ (α 0) = 38 := tyAt hA (i := 0) rfl
  have g1 : Γ (α 1) = 1 := tyAt hA (i := 1) rfl
  have b2 : 0 ≤ ρ 2 ∧ ρ 2 ≤ 287 := hB 2
  have h0 : 0 ≤ (0 : Int) ∧ M.2.2.2.1 (α 0) (0 : Int).toNat = some (α 1) := hP _ (List.mem_of_getElem? (i := 0) rfl)
  have h1 : Γ (α 1) = 1 ∧ edP (M.2.2.2.2 (α 1) 0) (M.2.2.2.2 (α 1) 1) (ρ 2 + 0) := hP _ (List.mem_of_getElem? (i := 1) rfl)
  try simp only [Int.add_zero] at h0 h1
  have key : (Γ (α 0) = 38 ∧ ∃ b, M.2.2.2.1 (α 0) 0 = some b ∧ Γ b = 1 ∧ edP (M.2.2.2.2 b 0) (M.2.2.2.2 b 1) (ρ 2 + 0)) ∧ True := by
    try simp only [Int.add_zero]
    exact ⟨⟨g0, α 1, h0.2, h1.1, h1.2⟩, trivial⟩
  exact ⟨nB, qB (key.1) (nB)⟩
def t_v3 : KT := ((0, 0, 0, 0), [(2, 0, 38, 0), (2, 1, 1, 0), (1, 2, 0, 0)], [(0, 0), (0, 0), (0, 287)], [(11, [(2, 0, 38, 0), (0, 0, 0, 0), (2, 1, 1, 0)]), (73, [(2, 0, 38, 0), (1, 2, 0, 0)])], (0, 0, 0), [], [], ([], [(3, [(2, 1, 1, 0), (1, 2, 0, 0)])]), ([], []))
set_option maxRecDepth 100000 in
theorem l_v3 (g : GG) : LOK Yt (PSt g) t_v3 := by
  intro ρ α Γ M as hT hB hA hP
  have g0 : Γ (α 0) = 38 := tyAt hA (i := 0) rfl
  have g1 : Γ (α 1) = 1 := tyAt hA (i := 1) rfl
  have b2 : 0 ≤ ρ 2 ∧ ρ 2 ≤ 287 := hB 2
  have h0 : 0 ≤ (0 : Int) ∧ M.2.2.2.1 (α 0) (0 : Int).toNat = some (α 1) := hP _ (List.mem_of_getElem? (i := 0) rfl)
  have h1 : Γ (α 0) = 38 ∧ ∃ b, M.2.2.2.1 (α 0) 0 = some b ∧ Γ b = 1 ∧ edP (M.2.2.2.2 b 0) (M.2.2.2.2 b 1) (ρ 2 + 0) := hP _ (List.mem_of_getElem? (i := 1) rfl)
  try simp only [Int.add_zero] at h0 h1
  have key : (Γ (α 1) = 1 ∧ edP (M.2.2.2.2 (α 1) 0) (M.2.2.2.2 (α 1) 1) (ρ 2 + 0)) ∧ True := by
    try simp only [Int.add_zero]
    obtain ⟨-, b, h2, h3, h4⟩ := h1
    have h5 : M.2.2.2.1 (α 0) 0 = some (α 1) := h0.2
    rw [h5] at h2
    cases h2
    exact ⟨⟨h3, h4⟩, trivial⟩
  exact ⟨nB, qB (key.1) (nB)⟩
def t_q16 : KT := ((0, 0, 0, 0), [(2, 0, 1, 0), (1, 1, 0, 0), (1, 2, 0, 0), (1, 3, 0, 0)], [(0, 0), (0, 143), (0, 3), (0, 143)], [(17, [(2, 0, 1, 0), (1, 1, 0, 0), (1, 2, 0, 0), (1, 3, 0, 0)])], (0, 0, 0), [], [], ([], [(16, [(2, 0, 1, 0), (1, 1, 0, 0), (1, 2, 0, 0)])]), ([], []))
set_option maxRecDepth 100000 in
theorem l_q16 (g : GG) : LOK Yt (PSt g) t_q16 := by
  intro ρ α Γ M as hT hB hA hP
  have g0 : Γ (α 0) = 1 := tyAt hA (i := 0) rfl
  have b1 : 0 ≤ ρ 1 ∧ ρ 1 ≤ 143 := hB 1
  have b2 : 0 ≤ ρ 2 ∧ ρ 2 ≤ 3 := hB 2
  have b3 : 0 ≤ ρ 3 ∧ ρ 3 ≤ 143 := hB 3
  have h0 : Γ (α 0) = 1 ∧ (ρ 3 + 0 ≠ -1 → nbP (M.2.2.2.2 (α 0) 0) (M.2.2.2.2 (α 0) 1) (ρ 1 + 0) (ρ 2 + 0)) := hP _ (List.mem_of_getElem? (i := 0) rfl)
  try simp only [Int.add_zero] at h0
  have key : (Γ (α 0) = 1 ∧ nbP (M.2.2.2.2 (α 0) 0) (M.2.2.2.2 (α 0) 1) (ρ 1 + 0) (ρ 2 + 0)) ∧ True := by
    try simp only [Int.add_zero]
    exact ⟨⟨g0, h0.2 (by omega)⟩, trivial⟩
  exact ⟨nB, qB (key.1) (nB)⟩
def t_q2 : KT := ((0, 0, 0, 0), [(2, 0, 1, 0), (1, 1, 0, 0)], [(0, 0), (0, 143)], [(15, [(2, 0, 1, 0), (1, 1, 0, 0)])], (0, 0, 0), [], [], ([], [(2, [(2, 0, 1, 0), (1, 1, 0, 0)])]), ([], []))
set_option maxRecDepth 100000 in
theorem l_q2 (g : GG) : LOK Yt (PSt g) t_q2 := by
  intro ρ α Γ M as hT hB hA hP
  have g0 : Γ (α 0) = 1 := tyAt hA (i := 0) rfl
  have b1 : 0 ≤ ρ 1 ∧ ρ 1 ≤ 143 := hB 1
  have h0 : Γ (α 0) = 1 ∧ (ρ 1 + 0 = -1 ∨ isPx (M.2.2.2.2 (α 0) 0) (M.2.2.2.2 (α 0) 1) (ρ 1 + 0)) := hP _ (List.mem_of_getElem? (i := 0) rfl)
  try simp only [Int.add_zero] at h0
  have key : (Γ (α 0) = 1 ∧ 0 ≤ ρ 1 + 0 ∧ ρ 1 + 0 < M.2.2.2.2 (α 0) 0 * M.2.2.2.2 (α 0) 1) ∧ True := by
    try simp only [Int.add_zero]
    rcases h0.2 with h | h
    · omega
    · exact ⟨⟨g0, h.1, h.2⟩, trivial⟩
  exact ⟨nB, qB (key.1) (nB)⟩
def t_rg0 : KT := ((0, 0, 0, 0), [(2, 0, 21, 0), (2, 1, 1, 0), (1, 2, 0, 0)], [(0, 0), (0, 0), (0, 0)], [(10, [(2, 0, 21, 0), (0, 0, 0, 0), (1, 2, 0, 0)])], (0, 0, 0), [], [], ([], [(70, [(2, 0, 21, 0), (2, 1, 1, 0)])]), ([], []))
set_option maxRecDepth 100000 in
theorem l_rg0 (g : GG) : LOK Yt (PSt g) t_rg0 := by
  intro ρ α Γ M as hT hB hA hP
  have g0 : Γ (α 0) = 21 := tyAt hA (i := 0) rfl
  have g1 : Γ (α 1) = 1 := tyAt hA (i := 1) rfl
  have b2 : 0 ≤ ρ 2 ∧ ρ 2 ≤ 0 := hB 2
  have h0 : 0 ≤ (0 : Int) ∧ M.2.2.2.2 (α 0) (0 : Int).toNat = ρ 2 + 0 := hP _ (List.mem_of_getElem? (i := 0) rfl)
  try simp only [Int.add_zero] at h0
  have key : (Γ (α 0) = 21 ∧ Γ (α 1) = 1 ∧ ∃ a, M.2.2.2.1 (α 0) 1 = some a ∧ Γ a = 22 ∧ ∀ j : Nat, (j : Int) < M.2.2.2.2 (α 0) 0 → isPx (M.2.2.2.2 (α 1) 0) (M.2.2.2.2 (α 1) 1) (M.2.2.2.2 a j)) ∧ True := by
    try simp only [Int.add_zero]
    obtain ⟨a, h1, h2⟩ := tyR hT g0 (by decide) (j := 1) (τ2 := 22) (by decide)
    have e : M.2.2.2.2 (α 0) 0 = ρ 2 := h0.2
    exact ⟨⟨g0, g1, a, h1, h2, fun j hj => by omega⟩, trivial⟩
  exact ⟨nB, qB (key.1) (nB)⟩
def t_rg1 : KT := ((0, 0, 0, 0), [(2, 0, 21, 0), (2, 1, 1, 0), (2, 2, 22, 0), (1, 3, 0, 0)], [(0, 0), (0, 0), (0, 0), (-2147483648, 2147483647)], [(70, [(2, 0, 21, 0), (2, 1, 1, 0)]), (11, [(2, 0, 21, 0), (0, 0, 0, 1), (2, 2, 22, 0)]), (10, [(2, 0, 21, 0), (0, 0, 0, 0), (1, 3, 0, 0)])], (0, 0, 0), [], [], ([], [(60, [(2, 2, 22, 0), (1, 3, 0, 0), (2, 0, 21, 0), (2, 1, 1, 0)])]), ([], []))
set_option maxRecDepth 100000 in
theorem l_rg1 (g : GG) : LOK Yt (PSt g) t_rg1 := by
  intro ρ α Γ M as hT hB hA hP
  have g0 : Γ (α 0) = 21 := tyAt hA (i := 0) rfl
  have g1 : Γ (α 1) = 1 := tyAt hA (i := 1) rfl
  have g2 : Γ (α 2) = 22 := tyAt hA (i := 2) rfl
  have b3 : -2147483648 ≤ ρ 3 ∧ ρ 3 ≤ 2147483647 := hB 3
  have h0 : Γ (α 0) = 21 ∧ Γ (α 1) = 1 ∧ ∃ a, M.2.2.2.1 (α 0) 1 = some a ∧ Γ a = 22 ∧ ∀ j : Nat, (j : Int) < M.2.2.2.2 (α 0) 0 → isPx (M.2.2.2.2 (α 1) 0) (M.2.2.2.2 (α 1) 1) (M.2.2.2.2 a j) := hP _ (List.mem_of_getElem? (i := 0) rfl)
  have h1 : 0 ≤ (1 : Int) ∧ M.2.2.2.1 (α 0) (1 : Int).toNat = some (α 2) := hP _ (List.mem_of_getElem? (i := 1) rfl)
  have h2 : 0 ≤ (0 : Int) ∧ M.2.2.2.2 (α 0) (0 : Int).toNat = ρ 3 + 0 := hP _ (List.mem_of_getElem? (i := 2) rfl)
  try simp only [Int.add_zero] at h0 h1 h2
  have key : (Γ (α 0) = 21 ∧ Γ (α 1) = 1 ∧ M.2.2.2.1 (α 0) 1 = some (α 2) ∧ Γ (α 2) = 22 ∧ M.2.2.2.2 (α 0) 0 = ρ 3 + 0 ∧ ∀ j : Nat, (j : Int) < ρ 3 + 0 → isPx (M.2.2.2.2 (α 1) 0) (M.2.2.2.2 (α 1) 1) (M.2.2.2.2 (α 2) j)) ∧ True := by
    try simp only [Int.add_zero]
    obtain ⟨-, -, a, x1, x2, x3⟩ := h0
    have e1 : M.2.2.2.1 (α 0) 1 = some (α 2) := h1.2
    rw [e1] at x1
    cases x1
    have e : M.2.2.2.2 (α 0) 0 = ρ 3 := h2.2
    rw [e] at x3
    exact ⟨⟨g0, g1, e1, x2, e, x3⟩, trivial⟩
  exact ⟨nB, qB (key.1) (nB)⟩
def t_rg2 : KT := ((0, 0, 0, 0), [(2, 0, 21, 0), (2, 1, 1, 0), (2, 2, 22, 0), (1, 3, 0, 0), (1, 4, 0, 0)], [(0, 0), (0, 0), (0, 0), (0, 120), (0, 143)], [(60, [(2, 2, 22, 0), (1, 3, 0, 0), (2, 0, 21, 0), (2, 1, 1, 0)]), (10, [(2, 2, 22, 0), (1, 3, 0, 0), (1, 4, 0, 0)]), (2, [(2, 1, 1, 0), (1, 4, 0, 0)])], (0, 0, 0), [], [], ([], [(61, [(2, 0, 21, 0), (0, 0, 0, 0), (2, 2, 22, 0), (2, 1, 1, 0), (1, 3, 0, 1)])]), ([], []))
set_option maxRecDepth 100000 in
theorem l_rg2 (g : GG) : LOK Yt (PSt g) t_rg2 := by
  intro ρ α Γ M as hT hB hA hP
  have g0 : Γ (α 0) = 21 := tyAt hA (i := 0) rfl
  have g1 : Γ (α 1) = 1 := tyAt hA (i := 1) rfl
  have g2 : Γ (α 2) = 22 := tyAt hA (i := 2) rfl
  have b3 : 0 ≤ ρ 3 ∧ ρ 3 ≤ 120 := hB 3
  have b4 : 0 ≤ ρ 4 ∧ ρ 4 ≤ 143 := hB 4
  have h0 : Γ (α 0) = 21 ∧ Γ (α 1) = 1 ∧ M.2.2.2.1 (α 0) 1 = some (α 2) ∧ Γ (α 2) = 22 ∧ M.2.2.2.2 (α 0) 0 = ρ 3 + 0 ∧ ∀ j : Nat, (j : Int) < ρ 3 + 0 → isPx (M.2.2.2.2 (α 1) 0) (M.2.2.2.2 (α 1) 1) (M.2.2.2.2 (α 2) j) := hP _ (List.mem_of_getElem? (i := 0) rfl)
  have h1 : 0 ≤ (ρ 3 + 0 : Int) ∧ M.2.2.2.2 (α 2) (ρ 3 + 0 : Int).toNat = ρ 4 + 0 := hP _ (List.mem_of_getElem? (i := 1) rfl)
  have h2 : Γ (α 1) = 1 ∧ 0 ≤ ρ 4 + 0 ∧ ρ 4 + 0 < M.2.2.2.2 (α 1) 0 * M.2.2.2.2 (α 1) 1 := hP _ (List.mem_of_getElem? (i := 2) rfl)
  try simp only [Int.add_zero] at h0 h1 h2
  have key : ((0 : Int) = 0 ∧ ρ 3 + 1 ≤ 121 ∧ Γ (α 0) = 21 ∧ Γ (α 1) = 1 ∧ M.2.2.2.1 (α 0) 1 = some (α 2) ∧ Γ (α 2) = 22 ∧ ∀ j : Nat, (j : Int) < ρ 3 + 1 → isPx (M.2.2.2.2 (α 1) 0) (M.2.2.2.2 (α 1) 1) (M.2.2.2.2 (α 2) j)) ∧ True := by
    try simp only [Int.add_zero]
    obtain ⟨-, -, e1, x2, e, x3⟩ := h0
    refine ⟨⟨by trivial, by omega, g0, g1, e1, x2, fun j hj => ?_⟩, trivial⟩
    by_cases hj2 : (j : Int) < ρ 3
    · exact x3 j hj2
    · have hq : j = (ρ 3).toNat := by omega
      rw [hq, h1.2]
      exact h2.2
  exact ⟨nB, qB (key.1) (nB)⟩
def t_rg3 : KT := ((0, 0, 0, 0), [(2, 0, 21, 0), (2, 1, 1, 0), (2, 2, 22, 0), (1, 3, 0, 0)], [(0, 0), (0, 0), (0, 0), (-2147483648, 2147483647)], [(61, [(2, 0, 21, 0), (0, 0, 0, 0), (2, 2, 22, 0), (2, 1, 1, 0), (1, 3, 0, 0)]), (10, [(2, 0, 21, 0), (0, 0, 0, 0), (1, 3, 0, 0)])], (0, 0, 0), [], [], ([], [(70, [(2, 0, 21, 0), (2, 1, 1, 0)])]), ([], []))
set_option maxRecDepth 100000 in
theorem l_rg3 (g : GG) : LOK Yt (PSt g) t_rg3 := by
  intro ρ α Γ M as hT hB hA hP
  have g0 : Γ (α 0) = 21 := tyAt hA (i := 0) rfl
  have g1 : Γ (α 1) = 1 := tyAt hA (i := 1) rfl
  have g2 : Γ (α 2) = 22 := tyAt hA (i := 2) rfl
  have b3 : -2147483648 ≤ ρ 3 ∧ ρ 3 ≤ 2147483647 := hB 3
  have h0 : (0 : Int) = 0 ∧ ρ 3 + 0 ≤ 121 ∧ Γ (α 0) = 21 ∧ Γ (α 1) = 1 ∧ M.2.2.2.1 (α 0) 1 = some (α 2) ∧ Γ (α 2) = 22 ∧ ∀ j : Nat, (j : Int) < ρ 3 + 0 → isPx (M.2.2.2.2 (α 1) 0) (M.2.2.2.2 (α 1) 1) (M.2.2.2.2 (α 2) j) := hP _ (List.mem_of_getElem? (i := 0) rfl)
  have h1 : 0 ≤ (0 : Int) ∧ M.2.2.2.2 (α 0) (0 : Int).toNat = ρ 3 + 0 := hP _ (List.mem_of_getElem? (i := 1) rfl)
  try simp only [Int.add_zero] at h0 h1
  have key : (Γ (α 0) = 21 ∧ Γ (α 1) = 1 ∧ ∃ a, M.2.2.2.1 (α 0) 1 = some a ∧ Γ a = 22 ∧ ∀ j : Nat, (j : Int) < M.2.2.2.2 (α 0) 0 → isPx (M.2.2.2.2 (α 1) 0) (M.2.2.2.2 (α 1) 1) (M.2.2.2.2 a j)) ∧ True := by
    try simp only [Int.add_zero]
    obtain ⟨-, -, -, -, e1, x2, x3⟩ := h0
    have e : M.2.2.2.2 (α 0) 0 = ρ 3 := h1.2
    exact ⟨⟨g0, g1, α 2, e1, x2, fun j hj => x3 j (by rw [e] at hj; exact hj)⟩, trivial⟩
  exact ⟨nB, qB (key.1) (nB)⟩
def t_rg4 : KT := ((0, 0, 0, 0), [(2, 0, 21, 0), (2, 1, 1, 0), (2, 2, 22, 0), (1, 3, 0, 0), (1, 4, 0, 0), (1, 5, 0, 0)], [(0, 0), (0, 0), (0, 0), (0, 200), (-2147483648, 2147483647), (0, 143)], [(70, [(2, 0, 21, 0), (2, 1, 1, 0)]), (11, [(2, 0, 21, 0), (0, 0, 0, 1), (2, 2, 22, 0)]), (10, [(2, 0, 21, 0), (0, 0, 0, 0), (1, 4, 0, 0)]), (21, [(1, 3, 0, 0), (1, 4, 0, 0)]), (10, [(2, 2, 22, 0), (1, 3, 0, 0), (1, 5, 0, 0)])], (0, 0, 0), [], [], ([], [(2, [(2, 1, 1, 0), (1, 5, 0, 0)])]), ([], []))
set_option maxRecDepth 100000 in
theorem l_rg4 (g : GG) : LOK Yt (PSt g) t_rg4 := by
  intro ρ α Γ M as hT hB hA hP
  have g0 : Γ (α 0) = 21 := tyAt hA (i := 0) rfl
  have g1 : Γ (α 1) = 1 := tyAt hA (i := 1) rfl
  have g2 : Γ (α 2) = 22 := tyAt hA (i := 2) rfl
  have b3 : 0 ≤ ρ 3 ∧ ρ 3 ≤ 200 := hB 3
  have b4 : -2147483648 ≤ ρ 4 ∧ ρ 4 ≤ 2147483647 := hB 4
  have b5 : 0 ≤ ρ 5 ∧ ρ 5 ≤ 143 := hB 5
  have h0 : Γ (α 0) = 21 ∧ Γ (α 1) = 1 ∧ ∃ a, M.2.2.2.1 (α 0) 1 = some a ∧ Γ a = 22 ∧ ∀ j : Nat, (j : Int) < M.2.2.2.2 (α 0) 0 → isPx (M.2.2.2.2 (α 1) 0) (M.2.2.2.2 (α 1) 1) (M.2.2.2.2 a j) := hP _ (List.mem_of_getElem? (i := 0) rfl)
  have h1 : 0 ≤ (1 : Int) ∧ M.2.2.2.1 (α 0) (1 : Int).toNat = some (α 2) := hP _ (List.mem_of_getElem? (i := 1) rfl)
  have h2 : 0 ≤ (0 : Int) ∧ M.2.2.2.2 (α 0) (0 : Int).toNat = ρ 4 + 0 := hP _ (List.mem_of_getElem? (i := 2) rfl)
  have h3 : ρ 3 + 0 < ρ 4 + 0 := hP _ (List.mem_of_getElem? (i := 3) rfl)
  have h4 : 0 ≤ (ρ 3 + 0 : Int) ∧ M.2.2.2.2 (α 2) (ρ 3 + 0 : Int).toNat = ρ 5 + 0 := hP _ (List.mem_of_getElem? (i := 4) rfl)
  try simp only [Int.add_zero] at h0 h1 h2 h3 h4
  have key : (Γ (α 1) = 1 ∧ 0 ≤ ρ 5 + 0 ∧ ρ 5 + 0 < M.2.2.2.2 (α 1) 0 * M.2.2.2.2 (α 1) 1) ∧ True := by
    try simp only [Int.add_zero]
    obtain ⟨-, -, a, x1, x2, x3⟩ := h0
    have e1 : M.2.2.2.1 (α 0) 1 = some (α 2) := h1.2
    rw [e1] at x1
    cases x1
    have e : M.2.2.2.2 (α 0) 0 = ρ 4 := h2.2
    have := x3 (ρ 3).toNat (by omega)
    rw [h4.2] at this
    exact ⟨⟨g1, this⟩, trivial⟩
  exact ⟨nB, qB (key.1) (nB)⟩
def t_of1 : KT := ((0, 0, 0, 0), [(2, 0, 26, 0), (2, 1, 30, 0), (2, 2, 28, 0), (1, 3, 0, 0)], [(0, 0), (0, 0), (0, 0), (-2147483648, 2147483647)], [(51, [(2, 0, 26, 0)]), (11, [(2, 0, 26, 0), (0, 0, 0, 3), (2, 1, 30, 0)]), (11, [(2, 0, 26, 0), (0, 0, 0, 1), (2, 2, 28, 0)]), (10, [(2, 0, 26, 0), (0, 0, 0, 4), (1, 3, 0, 0)])], (0, 0, 0), [], [], ([], [(62, [(2, 1, 30, 0), (1, 3, 0, 0), (2, 0, 26, 0), (2, 2, 28, 0)])]), ([], []))
set_option maxRecDepth 100000 in
theorem l_of1 (g : GG) : LOK Yt (PSt g) t_of1 := by
  intro ρ α Γ M as hT hB hA hP
  have g0 : Γ (α 0) = 26 := tyAt hA (i := 0) rfl
  have g1 : Γ (α 1) = 30 := tyAt hA (i := 1) rfl
  have g2 : Γ (α 2) = 28 := tyAt hA (i := 2) rfl
  have b3 : -2147483648 ≤ ρ 3 ∧ ρ 3 ≤ 2147483647 := hB 3
  have h0 : ∃ w v, frT Γ M (α 0) w v ∧ ∀ j : Nat, (j : Int) < M.2.2.2.2 (α 0) 4 → okW g v M (M.2.2.2.2 w j) := hP _ (List.mem_of_getElem? (i := 0) rfl)
  have h1 : 0 ≤ (3 : Int) ∧ M.2.2.2.1 (α 0) (3 : Int).toNat = some (α 1) := hP _ (List.mem_of_getElem? (i := 1) rfl)
  have h2 : 0 ≤ (1 : Int) ∧ M.2.2.2.1 (α 0) (1 : Int).toNat = some (α 2) := hP _ (List.mem_of_getElem? (i := 2) rfl)
  have h3 : 0 ≤ (4 : Int) ∧ M.2.2.2.2 (α 0) (4 : Int).toNat = ρ 3 + 0 := hP _ (List.mem_of_getElem? (i := 3) rfl)
  try simp only [Int.add_zero] at h0 h1 h2 h3
  have key : (frT Γ M (α 0) (α 1) (α 2) ∧ M.2.2.2.2 (α 0) 4 = ρ 3 + 0 ∧ ∀ j : Nat, (j : Int) < ρ 3 + 0 → okW g (α 2) M (M.2.2.2.2 (α 1) j)) ∧ True := by
    try simp only [Int.add_zero]
    obtain ⟨w, v, ht, x⟩ := h0
    have e1 : M.2.2.2.1 (α 0) 3 = some (α 1) := h1.2
    have e2 : M.2.2.2.1 (α 0) 1 = some (α 2) := h2.2
    have q1 := ht.2.2.2.1
    have q2 := ht.2.2.2.2
    rw [e1] at q1
    rw [e2] at q2
    cases q1
    cases q2
    have e : M.2.2.2.2 (α 0) 4 = ρ 3 := h3.2
    rw [e] at x
    exact ⟨⟨ht, e, x⟩, trivial⟩
  exact ⟨nB, qB (key.1) (nB)⟩
def t_of2 : KT := ((0, 0, 0, 0), [(2, 0, 26, 0), (2, 1, 30, 0), (2, 2, 28, 0), (1, 3, 0, 0), (1, 4, 0, 0)], [(0, 0), (0, 0), (0, 0), (0, 143), (0, 143)], [(62, [(2, 1, 30, 0), (1, 3, 0, 0), (2, 0, 26, 0), (2, 2, 28, 0)]), (10, [(2, 1, 30, 0), (1, 3, 0, 0), (1, 4, 0, 0)]), (52, [(1, 4, 0, 0)])], (0, 0, 0), [], [], ([], [(63, [(2, 0, 26, 0), (0, 0, 0, 4), (2, 1, 30, 0), (2, 2, 28, 0), (1, 3, 0, 1), (1, 4, 0, 0)])]), ([], []))
set_option maxRecDepth 100000 in
theorem l_of2 (g : GG) : LOK Yt (PSt g) t_of2 := by
  intro ρ α Γ M as hT hB hA hP
  have g0 : Γ (α 0) = 26 := tyAt hA (i := 0) rfl
  have g1 : Γ (α 1) = 30 := tyAt hA (i := 1) rfl
  have g2 : Γ (α 2) = 28 := tyAt hA (i := 2) rfl
  have b3 : 0 ≤ ρ 3 ∧ ρ 3 ≤ 143 := hB 3
  have b4 : 0 ≤ ρ 4 ∧ ρ 4 ≤ 143 := hB 4
  have h0 : frT Γ M (α 0) (α 1) (α 2) ∧ M.2.2.2.2 (α 0) 4 = ρ 3 + 0 ∧ ∀ j : Nat, (j : Int) < ρ 3 + 0 → okW g (α 2) M (M.2.2.2.2 (α 1) j) := hP _ (List.mem_of_getElem? (i := 0) rfl)
  have h1 : 0 ≤ (ρ 3 + 0 : Int) ∧ M.2.2.2.2 (α 1) (ρ 3 + 0 : Int).toNat = ρ 4 + 0 := hP _ (List.mem_of_getElem? (i := 1) rfl)
  have h2 : 0 ≤ ρ 4 + 0 ∧ ρ 4 + 0 < (g.1 : Int) := hP _ (List.mem_of_getElem? (i := 2) rfl)
  try simp only [Int.add_zero] at h0 h1 h2
  have key : ((4 : Int) = 4 ∧ ρ 3 + 1 ≤ 144 ∧ frT Γ M (α 0) (α 1) (α 2) ∧ ∀ j : Nat, (j : Int) < ρ 3 + 1 → (0 ≤ M.2.2.2.2 (α 1) j ∧ M.2.2.2.2 (α 1) j < (g.1 : Int)) ∧ (M.2.2.2.2 (α 1) j = ρ 4 + 0 ∨ 0 ≤ M.2.2.2.2 (α 2) (M.2.2.2.2 (α 1) j).toNat)) ∧ True := by
    try simp only [Int.add_zero]
    obtain ⟨ht, e, x⟩ := h0
    refine ⟨⟨by trivial, by omega, ht, fun j hj => ?_⟩, trivial⟩
    by_cases hj2 : (j : Int) < ρ 3
    · exact ⟨(x j hj2).1, Or.inr (x j hj2).2⟩
    · have hq : j = (ρ 3).toNat := by omega
      rw [hq, h1.2]
      exact ⟨h2, Or.inl rfl⟩
  exact ⟨nB, qB (key.1) (nB)⟩
def t_of3 : KT := ((0, 0, 0, 0), [(2, 0, 26, 0), (2, 1, 30, 0), (2, 2, 28, 0), (1, 3, 0, 0), (1, 4, 0, 0)], [(0, 0), (0, 0), (0, 0), (-2147483648, 2147483647), (0, 143)], [(63, [(2, 0, 26, 0), (0, 0, 0, 4), (2, 1, 30, 0), (2, 2, 28, 0), (1, 3, 0, 0), (1, 4, 0, 0)]), (10, [(2, 0, 26, 0), (0, 0, 0, 4), (1, 3, 0, 0)])], (0, 0, 0), [], [], ([], [(64, [(2, 2, 28, 0), (1, 4, 0, 0), (2, 0, 26, 0)])]), ([], []))
set_option maxRecDepth 100000 in
theorem l_of3 (g : GG) : LOK Yt (PSt g) t_of3 := by
  intro ρ α Γ M as hT hB hA hP
  have g0 : Γ (α 0) = 26 := tyAt hA (i := 0) rfl
  have g1 : Γ (α 1) = 30 := tyAt hA (i := 1) rfl
  have g2 : Γ (α 2) = 28 := tyAt hA (i := 2) rfl
  have b3 : -2147483648 ≤ ρ 3 ∧ ρ 3 ≤ 2147483647 := hB 3
  have b4 : 0 ≤ ρ 4 ∧ ρ 4 ≤ 143 := hB 4
  have h0 : (4 : Int) = 4 ∧ ρ 3 + 0 ≤ 144 ∧ frT Γ M (α 0) (α 1) (α 2) ∧ ∀ j : Nat, (j : Int) < ρ 3 + 0 → (0 ≤ M.2.2.2.2 (α 1) j ∧ M.2.2.2.2 (α 1) j < (g.1 : Int)) ∧ (M.2.2.2.2 (α 1) j = ρ 4 + 0 ∨ 0 ≤ M.2.2.2.2 (α 2) (M.2.2.2.2 (α 1) j).toNat) := hP _ (List.mem_of_getElem? (i := 0) rfl)
  have h1 : 0 ≤ (4 : Int) ∧ M.2.2.2.2 (α 0) (4 : Int).toNat = ρ 3 + 0 := hP _ (List.mem_of_getElem? (i := 1) rfl)
  try simp only [Int.add_zero] at h0 h1
  have key : (∃ w, frT Γ M (α 0) (w) (α 2) ∧ ∀ j : Nat, (j : Int) < M.2.2.2.2 (α 0) 4 → (0 ≤ M.2.2.2.2 w j ∧ M.2.2.2.2 w j < (g.1 : Int)) ∧ (M.2.2.2.2 w j = ρ 4 + 0 ∨ 0 ≤ M.2.2.2.2 (α 2) (M.2.2.2.2 w j).toNat)) ∧ True := by
    try simp only [Int.add_zero]
    obtain ⟨-, -, ht, x⟩ := h0
    have e : M.2.2.2.2 (α 0) 4 = ρ 3 := h1.2
    refine ⟨⟨α 1, ht, fun j hj => ?_⟩, trivial⟩
    rw [e] at hj
    exact x j hj
  exact ⟨nB, qB (key.1) (nB)⟩
def t_of5 : KT := ((0, 0, 0, 0), [(2, 0, 26, 0), (2, 1, 28, 0), (1, 2, 0, 0), (1, 3, 0, 0)], [(0, 0), (0, 0), (0, 143), (0, 143)], [(64, [(2, 1, 28, 0), (1, 2, 0, 0), (2, 0, 26, 0)]), (10, [(2, 1, 28, 0), (1, 2, 0, 0), (1, 3, 0, 0)])], (0, 0, 0), [], [], ([], [(51, [(2, 0, 26, 0)])]), ([], []))
set_option maxRecDepth 100000 in
theorem l_of5 (g : GG) : LOK Yt (PSt g) t_of5 := by
  intro ρ α Γ M as hT hB hA hP
  have g0 : Γ (α 0) = 26 := tyAt hA (i := 0) rfl
  have g1 : Γ (α 1) = 28 := tyAt hA (i := 1) rfl
  have b2 : 0 ≤ ρ 2 ∧ ρ 2 ≤ 143 := hB 2
  have b3 : 0 ≤ ρ 3 ∧ ρ 3 ≤ 143 := hB 3
  have h0 : ∃ w, frT Γ M (α 0) (w) (α 1) ∧ ∀ j : Nat, (j : Int) < M.2.2.2.2 (α 0) 4 → (0 ≤ M.2.2.2.2 w j ∧ M.2.2.2.2 w j < (g.1 : Int)) ∧ (M.2.2.2.2 w j = ρ 2 + 0 ∨ 0 ≤ M.2.2.2.2 (α 1) (M.2.2.2.2 w j).toNat) := hP _ (List.mem_of_getElem? (i := 0) rfl)
  have h1 : 0 ≤ (ρ 2 + 0 : Int) ∧ M.2.2.2.2 (α 1) (ρ 2 + 0 : Int).toNat = ρ 3 + 0 := hP _ (List.mem_of_getElem? (i := 1) rfl)
  try simp only [Int.add_zero] at h0 h1
  have key : (∃ w v, frT Γ M (α 0) w v ∧ ∀ j : Nat, (j : Int) < M.2.2.2.2 (α 0) 4 → okW g v M (M.2.2.2.2 w j)) ∧ True := by
    try simp only [Int.add_zero]
    obtain ⟨w, ht, x⟩ := h0
    refine ⟨⟨w, α 1, ht, fun j hj => ?_⟩, trivial⟩
    obtain ⟨x1, x2⟩ := x j hj
    refine ⟨x1, ?_⟩
    rcases x2 with x2 | x2
    · rw [x2, h1.2]
      exact b3.1
    · exact x2
  exact ⟨nB, qB (key.1) (nB)⟩
def t_of6 : KT := ((0, 0, 0, 0), [(2, 0, 26, 0), (2, 1, 28, 0), (1, 2, 0, 0)], [(0, 0), (0, 0), (0, 143)], [(51, [(2, 0, 26, 0)]), (11, [(2, 0, 26, 0), (0, 0, 0, 1), (2, 1, 28, 0)])], (0, 0, 0), [], [], ([], [(64, [(2, 1, 28, 0), (1, 2, 0, 0), (2, 0, 26, 0)])]), ([], []))
set_option maxRecDepth 100000 in
theorem l_of6 (g : GG) : LOK Yt (PSt g) t_of6 := by
  intro ρ α Γ M as hT hB hA hP
  have g0 : Γ (α 0) = 26 := tyAt hA (i := 0) rfl
  have g1 : Γ (α 1) = 28 := tyAt hA (i := 1) rfl
  have b2 : 0 ≤ ρ 2 ∧ ρ 2 ≤ 143 := hB 2
  have h0 : ∃ w v, frT Γ M (α 0) w v ∧ ∀ j : Nat, (j : Int) < M.2.2.2.2 (α 0) 4 → okW g v M (M.2.2.2.2 w j) := hP _ (List.mem_of_getElem? (i := 0) rfl)
  have h1 : 0 ≤ (1 : Int) ∧ M.2.2.2.1 (α 0) (1 : Int).toNat = some (α 1) := hP _ (List.mem_of_getElem? (i := 1) rfl)
  try simp only [Int.add_zero] at h0 h1
  have key : (∃ w, frT Γ M (α 0) (w) (α 1) ∧ ∀ j : Nat, (j : Int) < M.2.2.2.2 (α 0) 4 → (0 ≤ M.2.2.2.2 w j ∧ M.2.2.2.2 w j < (g.1 : Int)) ∧ (M.2.2.2.2 w j = ρ 2 + 0 ∨ 0 ≤ M.2.2.2.2 (α 1) (M.2.2.2.2 w j).toNat)) ∧ True := by
    try simp only [Int.add_zero]
    obtain ⟨w, v, ht, x⟩ := h0
    have e2 : M.2.2.2.1 (α 0) 1 = some (α 1) := h1.2
    have q2 := ht.2.2.2.2
    rw [e2] at q2
    cases q2
    exact ⟨⟨w, ht, fun j hj => ⟨(x j hj).1, Or.inr (x j hj).2⟩⟩, trivial⟩
  exact ⟨nB, qB (key.1) (nB)⟩
def t_p52 : KT := ((0, 0, 0, 0), [(2, 0, 1, 0), (1, 1, 0, 0)], [(0, 0), (0, 143)], [(50, [(2, 0, 1, 0)]), (2, [(2, 0, 1, 0), (1, 1, 0, 0)])], (0, 0, 0), [], [], ([], [(52, [(1, 1, 0, 0)])]), ([], []))
set_option maxRecDepth 100000 in
theorem l_p52 (g : GG) : LOK Yt (PSt g) t_p52 := by
  intro ρ α Γ M as hT hB hA hP
  have g0 : Γ (α 0) = 1 := tyAt hA (i := 0) rfl
  have b1 : 0 ≤ ρ 1 ∧ ρ 1 ≤ 143 := hB 1
  have h0 : Γ (α 0) = 1 ∧ M.2.2.2.2 (α 0) 0 * M.2.2.2.2 (α 0) 1 = (g.1 : Int) := hP _ (List.mem_of_getElem? (i := 0) rfl)
  have h1 : Γ (α 0) = 1 ∧ 0 ≤ ρ 1 + 0 ∧ ρ 1 + 0 < M.2.2.2.2 (α 0) 0 * M.2.2.2.2 (α 0) 1 := hP _ (List.mem_of_getElem? (i := 1) rfl)
  try simp only [Int.add_zero] at h0 h1
  have key : (0 ≤ ρ 1 + 0 ∧ ρ 1 + 0 < (g.1 : Int)) ∧ True := by
    try simp only [Int.add_zero]
    exact ⟨⟨h1.2.1, by rw [← h0.2]; exact h1.2.2⟩, trivial⟩
  exact ⟨nB, qB (key.1) (nB)⟩
def t_p25 : KT := ((0, 0, 0, 0), [(2, 0, 1, 0), (1, 1, 0, 0)], [(0, 0), (0, 143)], [(50, [(2, 0, 1, 0)]), (52, [(1, 1, 0, 0)])], (0, 0, 0), [], [], ([], [(2, [(2, 0, 1, 0), (1, 1, 0, 0)])]), ([], []))
set_option maxRecDepth 100000 in
theorem l_p25 (g : GG) : LOK Yt (PSt g) t_p25 := by
  intro ρ α Γ M as hT hB hA hP
  have g0 : Γ (α 0) = 1 := tyAt hA (i := 0) rfl
  have b1 : 0 ≤ ρ 1 ∧ ρ 1 ≤ 143 := hB 1
  have h0 : Γ (α 0) = 1 ∧ M.2.2.2.2 (α 0) 0 * M.2.2.2.2 (α 0) 1 = (g.1 : Int) := hP _ (List.mem_of_getElem? (i := 0) rfl)
  have h1 : 0 ≤ ρ 1 + 0 ∧ ρ 1 + 0 < (g.1 : Int) := hP _ (List.mem_of_getElem? (i := 1) rfl)
  try simp only [Int.add_zero] at h0 h1
  have key : (Γ (α 0) = 1 ∧ 0 ≤ ρ 1 + 0 ∧ ρ 1 + 0 < M.2.2.2.2 (α 0) 0 * M.2.2.2.2 (α 0) 1) ∧ True := by
    try simp only [Int.add_zero]
    exact ⟨⟨g0, h1.1, by rw [h0.2]; exact h1.2⟩, trivial⟩
  exact ⟨nB, qB (key.1) (nB)⟩
def t_tb0 : KT := ((0, 0, 0, 0), [(2, 0, 26, 0), (1, 1, 0, 0)], [(0, 0), (-1, -1)], [], (0, 0, 0), [], [], ([], [(12, [(2, 0, 26, 0), (1, 1, 0, 0)])]), ([], []))
set_option maxRecDepth 100000 in
theorem l_tb0 (g : GG) : LOK Yt (PSt g) t_tb0 := by
  intro ρ α Γ M as hT hB hA hP
  have g0 : Γ (α 0) = 26 := tyAt hA (i := 0) rfl
  have b1 : -1 ≤ ρ 1 ∧ ρ 1 ≤ -1 := hB 1
  have key : (Γ (α 0) = 26 ∧ (ρ 1 + 0 = -1 ∨ (0 ≤ ρ 1 + 0 ∧ ρ 1 + 0 < M.2.2.2.2 (α 0) 4))) ∧ True := by
    try simp only [Int.add_zero]
    exact ⟨⟨g0, Or.inl (by omega)⟩, trivial⟩
  exact ⟨nB, qB (key.1) (nB)⟩
def t_tb1 : KT := ((0, 0, 0, 0), [(2, 0, 26, 0), (1, 1, 0, 0), (1, 2, 0, 0)], [(0, 0), (0, 200), (-2147483648, 2147483647)], [(21, [(1, 1, 0, 0), (1, 2, 0, 0)]), (10, [(2, 0, 26, 0), (0, 0, 0, 4), (1, 2, 0, 0)])], (0, 0, 0), [], [], ([], [(12, [(2, 0, 26, 0), (1, 1, 0, 0)])]), ([], []))
set_option maxRecDepth 100000 in
theorem l_tb1 (g : GG) : LOK Yt (PSt g) t_tb1 := by
  intro ρ α Γ M as hT hB hA hP
  have g0 : Γ (α 0) = 26 := tyAt hA (i := 0) rfl
  have b1 : 0 ≤ ρ 1 ∧ ρ 1 ≤ 200 := hB 1
  have b2 : -2147483648 ≤ ρ 2 ∧ ρ 2 ≤ 2147483647 := hB 2
  have h0 : ρ 1 + 0 < ρ 2 + 0 := hP _ (List.mem_of_getElem? (i := 0) rfl)
  have h1 : 0 ≤ (4 : Int) ∧ M.2.2.2.2 (α 0) (4 : Int).toNat = ρ 2 + 0 := hP _ (List.mem_of_getElem? (i := 1) rfl)
  try simp only [Int.add_zero] at h0 h1
  have key : (Γ (α 0) = 26 ∧ (ρ 1 + 0 = -1 ∨ (0 ≤ ρ 1 + 0 ∧ ρ 1 + 0 < M.2.2.2.2 (α 0) 4))) ∧ True := by
    try simp only [Int.add_zero]
    have e : M.2.2.2.2 (α 0) 4 = ρ 2 := h1.2
    exact ⟨⟨g0, Or.inr ⟨b1.1, by omega⟩⟩, trivial⟩
  exact ⟨nB, qB (key.1) (nB)⟩
def t_tbn : KT := ((0, 0, 0, 0), [(2, 0, 26, 0), (1, 1, 0, 0)], [(0, 0), (-1, -1)], [], (0, 0, 0), [], [], ([], [(53, [(2, 0, 26, 0), (1, 1, 0, 0)])]), ([], []))
set_option maxRecDepth 100000 in
theorem l_tbn (g : GG) : LOK Yt (PSt g) t_tbn := by
  intro ρ α Γ M as hT hB hA hP
  have g0 : Γ (α 0) = 26 := tyAt hA (i := 0) rfl
  have b1 : -1 ≤ ρ 1 ∧ ρ 1 ≤ -1 := hB 1
  have key : (Γ (α 0) = 26 ∧ (ρ 1 + 0 = -1 ∨ (ρ 1 + 0 < 144 ∧ ∃ v, M.2.2.2.1 (α 0) 1 = some v ∧ Γ v = 28 ∧ okW g v M (ρ 1 + 0)))) ∧ True := by
    try simp only [Int.add_zero]
    exact ⟨⟨g0, Or.inl (by omega)⟩, trivial⟩
  exact ⟨nB, qB (key.1) (nB)⟩
def t_tb2 : KT := ((0, 0, 0, 0), [(2, 0, 26, 0), (2, 1, 30, 0), (1, 2, 0, 0), (1, 3, 0, 0)], [(0, 0), (0, 0), (0, 143), (0, 143)], [(51, [(2, 0, 26, 0)]), (11, [(2, 0, 26, 0), (0, 0, 0, 3), (2, 1, 30, 0)]), (12, [(2, 0, 26, 0), (1, 2, 0, 0)]), (10, [(2, 1, 30, 0), (1, 2, 0, 0), (1, 3, 0, 0)])], (0, 0, 0), [], [], ([], [(53, [(2, 0, 26, 0), (1, 3, 0, 0)])]), ([], []))
set_option maxRecDepth 100000 in
theorem l_tb2 (g : GG) : LOK Yt (PSt g) t_tb2 := by
  intro ρ α Γ M as hT hB hA hP
  have g0 : Γ (α 0) = 26 := tyAt hA (i := 0) rfl
  have g1 : Γ (α 1) = 30 := tyAt hA (i := 1) rfl
  have b2 : 0 ≤ ρ 2 ∧ ρ 2 ≤ 143 := hB 2
  have b3 : 0 ≤ ρ 3 ∧ ρ 3 ≤ 143 := hB 3
  have h0 : ∃ w v, frT Γ M (α 0) w v ∧ ∀ j : Nat, (j : Int) < M.2.2.2.2 (α 0) 4 → okW g v M (M.2.2.2.2 w j) := hP _ (List.mem_of_getElem? (i := 0) rfl)
  have h1 : 0 ≤ (3 : Int) ∧ M.2.2.2.1 (α 0) (3 : Int).toNat = some (α 1) := hP _ (List.mem_of_getElem? (i := 1) rfl)
  have h2 : Γ (α 0) = 26 ∧ (ρ 2 + 0 = -1 ∨ (0 ≤ ρ 2 + 0 ∧ ρ 2 + 0 < M.2.2.2.2 (α 0) 4)) := hP _ (List.mem_of_getElem? (i := 2) rfl)
  have h3 : 0 ≤ (ρ 2 + 0 : Int) ∧ M.2.2.2.2 (α 1) (ρ 2 + 0 : Int).toNat = ρ 3 + 0 := hP _ (List.mem_of_getElem? (i := 3) rfl)
  try simp only [Int.add_zero] at h0 h1 h2 h3
  have key : (Γ (α 0) = 26 ∧ (ρ 3 + 0 = -1 ∨ (ρ 3 + 0 < 144 ∧ ∃ v, M.2.2.2.1 (α 0) 1 = some v ∧ Γ v = 28 ∧ okW g v M (ρ 3 + 0)))) ∧ True := by
    try simp only [Int.add_zero]
    obtain ⟨w, v, ht, x⟩ := h0
    have e1 : M.2.2.2.1 (α 0) 3 = some (α 1) := h1.2
    have q1 := ht.2.2.2.1
    rw [e1] at q1
    cases q1
    
    have h2 := h2.2
    have := x (ρ 2).toNat (by omega)
    rw [h3.2] at this
    exact ⟨⟨g0, Or.inr ⟨by omega, v, ht.2.2.2.2, ht.2.2.1, this⟩⟩, trivial⟩
  exact ⟨nB, qB (key.1) (nB)⟩
def t_tb3 : KT := ((0, 0, 0, 0), [(2, 0, 26, 0), (2, 1, 30, 0), (1, 2, 0, 0), (1, 3, 0, 0)], [(0, 0), (0, 0), (1, 144), (0, 143)], [(51, [(2, 0, 26, 0)]), (11, [(2, 0, 26, 0), (0, 0, 0, 3), (2, 1, 30, 0)]), (10, [(2, 0, 26, 0), (0, 0, 0, 4), (1, 2, 0, 0)]), (53, [(2, 0, 26, 0), (1, 3, 0, 0)])], (0, 0, 0), [], [], ([], [(87, [(2, 0, 26, 0), (0, 0, 0, 4), (2, 1, 30, 0), (1, 2, 0, 0)])]), ([], []))
set_option maxRecDepth 100000 in
theorem l_tb3 (g : GG) : LOK Yt (PSt g) t_tb3 := by
  intro ρ α Γ M as hT hB hA hP
  have g0 : Γ (α 0) = 26 := tyAt hA (i := 0) rfl
  have g1 : Γ (α 1) = 30 := tyAt hA (i := 1) rfl
  have b2 : 1 ≤ ρ 2 ∧ ρ 2 ≤ 144 := hB 2
  have b3 : 0 ≤ ρ 3 ∧ ρ 3 ≤ 143 := hB 3
  have h0 : ∃ w v, frT Γ M (α 0) w v ∧ ∀ j : Nat, (j : Int) < M.2.2.2.2 (α 0) 4 → okW g v M (M.2.2.2.2 w j) := hP _ (List.mem_of_getElem? (i := 0) rfl)
  have h1 : 0 ≤ (3 : Int) ∧ M.2.2.2.1 (α 0) (3 : Int).toNat = some (α 1) := hP _ (List.mem_of_getElem? (i := 1) rfl)
  have h2 : 0 ≤ (4 : Int) ∧ M.2.2.2.2 (α 0) (4 : Int).toNat = ρ 2 + 0 := hP _ (List.mem_of_getElem? (i := 2) rfl)
  have h3 : Γ (α 0) = 26 ∧ (ρ 3 + 0 = -1 ∨ (ρ 3 + 0 < 144 ∧ ∃ v, M.2.2.2.1 (α 0) 1 = some v ∧ Γ v = 28 ∧ okW g v M (ρ 3 + 0))) := hP _ (List.mem_of_getElem? (i := 3) rfl)
  try simp only [Int.add_zero] at h0 h1 h2 h3
  have key : ((4 : Int) = 4 ∧ ρ 2 + 0 ≤ 144 ∧ ∃ v, frT Γ M (α 0) (α 1) v ∧ ∀ j : Nat, (j : Int) < ρ 2 + 0 → okW g v M (M.2.2.2.2 (α 1) j)) ∧ True := by
    try simp only [Int.add_zero]
    obtain ⟨w, v, ht, x⟩ := h0
    have e1 : M.2.2.2.1 (α 0) 3 = some (α 1) := h1.2
    have q1 := ht.2.2.2.1
    rw [e1] at q1
    cases q1
    
    have e : M.2.2.2.2 (α 0) 4 = ρ 2 := h2.2
    exact ⟨⟨by trivial, b2.2, v, ht, fun j hj => x j (by rw [e]; exact hj)⟩, trivial⟩
  exact ⟨nB, qB (key.1) (nB)⟩
def t_tbc : KT := ((0, 0, 0, 0), [(2, 0, 26, 0), (1, 1, 0, 0), (1, 2, 0, 0)], [(0, 0), (0, 143), (0, 144)], [(12, [(2, 0, 26, 0), (1, 1, 0, 0)]), (10, [(2, 0, 26, 0), (0, 0, 0, 4), (1, 2, 0, 0)])], (0, 0, 0), [], [], ([(2, 1, 144)], []), ([], []))
set_option maxRecDepth 100000 in
theorem l_tbc (g : GG) : LOK Yt (PSt g) t_tbc := by
  intro ρ α Γ M as hT hB hA hP
  have g0 : Γ (α 0) = 26 := tyAt hA (i := 0) rfl
  have b1 : 0 ≤ ρ 1 ∧ ρ 1 ≤ 143 := hB 1
  have b2 : 0 ≤ ρ 2 ∧ ρ 2 ≤ 144 := hB 2
  have h0 : Γ (α 0) = 26 ∧ (ρ 1 + 0 = -1 ∨ (0 ≤ ρ 1 + 0 ∧ ρ 1 + 0 < M.2.2.2.2 (α 0) 4)) := hP _ (List.mem_of_getElem? (i := 0) rfl)
  have h1 : 0 ≤ (4 : Int) ∧ M.2.2.2.2 (α 0) (4 : Int).toNat = ρ 2 + 0 := hP _ (List.mem_of_getElem? (i := 1) rfl)
  try simp only [Int.add_zero] at h0 h1
  have key : (1 ≤ ρ 2 ∧ ρ 2 ≤ 144) ∧ True := by
    try simp only [Int.add_zero]
    have e : M.2.2.2.2 (α 0) 4 = ρ 2 := h1.2
    rcases h0.2 with h | h
    · omega
    · exact ⟨⟨by omega, b2.2⟩, trivial⟩
  exact ⟨qB (key.1) (nB), nB⟩
def t_tb4 : KT := ((0, 0, 0, 0), [(2, 0, 26, 0), (2, 1, 30, 0), (1, 2, 0, 0), (1, 3, 0, 0), (1, 4, 0, 0)], [(0, 0), (0, 0), (0, 143), (0, 143), (0, 143)], [(87, [(2, 0, 26, 0), (0, 0, 0, 4), (2, 1, 30, 0), (1, 2, 0, 1)]), (10, [(2, 0, 26, 0), (0, 0, 0, 4), (1, 2, 0, 0)]), (10, [(2, 1, 30, 0), (1, 2, 0, 0), (1, 4, 0, 0)])], (0, 0, 0), [], [], ([], [(66, [(2, 1, 30, 0), (1, 3, 0, 0), (2, 0, 26, 0)]), (53, [(2, 0, 26, 0), (1, 4, 0, 0)])]), ([], []))
set_option maxRecDepth 100000 in
theorem l_tb4 (g : GG) : LOK Yt (PSt g) t_tb4 := by
  intro ρ α Γ M as hT hB hA hP
  have g0 : Γ (α 0) = 26 := tyAt hA (i := 0) rfl
  have g1 : Γ (α 1) = 30 := tyAt hA (i := 1) rfl
  have b2 : 0 ≤ ρ 2 ∧ ρ 2 ≤ 143 := hB 2
  have b3 : 0 ≤ ρ 3 ∧ ρ 3 ≤ 143 := hB 3
  have b4 : 0 ≤ ρ 4 ∧ ρ 4 ≤ 143 := hB 4
  have h0 : (4 : Int) = 4 ∧ ρ 2 + 1 ≤ 144 ∧ ∃ v, frT Γ M (α 0) (α 1) v ∧ ∀ j : Nat, (j : Int) < ρ 2 + 1 → okW g v M (M.2.2.2.2 (α 1) j) := hP _ (List.mem_of_getElem? (i := 0) rfl)
  have h1 : 0 ≤ (4 : Int) ∧ M.2.2.2.2 (α 0) (4 : Int).toNat = ρ 2 + 0 := hP _ (List.mem_of_getElem? (i := 1) rfl)
  have h2 : 0 ≤ (ρ 2 + 0 : Int) ∧ M.2.2.2.2 (α 1) (ρ 2 + 0 : Int).toNat = ρ 4 + 0 := hP _ (List.mem_of_getElem? (i := 2) rfl)
  try simp only [Int.add_zero] at h0 h1 h2
  have key : (∃ v, frT Γ M (α 0) (α 1) (v) ∧ ∀ j : Nat, (j : Int) < M.2.2.2.2 (α 0) 4 → (j : Int) ≠ ρ 3 + 0 → okW g v M (M.2.2.2.2 (α 1) j)) ∧ (Γ (α 0) = 26 ∧ (ρ 4 + 0 = -1 ∨ (ρ 4 + 0 < 144 ∧ ∃ v, M.2.2.2.1 (α 0) 1 = some v ∧ Γ v = 28 ∧ okW g v M (ρ 4 + 0)))) ∧ True := by
    try simp only [Int.add_zero]
    obtain ⟨-, -, v, ht, x⟩ := h0
    have e : M.2.2.2.2 (α 0) 4 = ρ 2 := h1.2
    refine ⟨⟨v, ht, fun j hj _ => x j (by rw [e] at hj; omega)⟩, ⟨g0, Or.inr ⟨by omega, v, ht.2.2.2.2, ht.2.2.1, ?_⟩⟩, trivial⟩
    have := x (ρ 2).toNat (by omega)
    rw [h2.2] at this
    exact this
  exact ⟨nB, qB (key.1) (qB (key.2.1) (nB))⟩
def t_tb5 : KT := ((0, 0, 0, 0), [(2, 0, 26, 0), (2, 1, 30, 0), (1, 2, 0, 0), (1, 3, 0, 0)], [(0, 0), (0, 0), (0, 143), (0, 143)], [(66, [(2, 1, 30, 0), (1, 2, 0, 0), (2, 0, 26, 0)]), (10, [(2, 1, 30, 0), (1, 2, 0, 0), (1, 3, 0, 0)]), (53, [(2, 0, 26, 0), (1, 3, 0, 0)])], (0, 0, 0), [], [], ([], [(51, [(2, 0, 26, 0)])]), ([], []))
set_option maxRecDepth 100000 in
theorem l_tb5 (g : GG) : LOK Yt (PSt g) t_tb5 := by
  intro ρ α Γ M as hT hB hA hP
  have g0 : Γ (α 0) = 26 := tyAt hA (i := 0) rfl
  have g1 : Γ (α 1) = 30 := tyAt hA (i := 1) rfl
  have b2 : 0 ≤ ρ 2 ∧ ρ 2 ≤ 143 := hB 2
  have b3 : 0 ≤ ρ 3 ∧ ρ 3 ≤ 143 := hB 3
  have h0 : ∃ v, frT Γ M (α 0) (α 1) (v) ∧ ∀ j : Nat, (j : Int) < M.2.2.2.2 (α 0) 4 → (j : Int) ≠ ρ 2 + 0 → okW g v M (M.2.2.2.2 (α 1) j) := hP _ (List.mem_of_getElem? (i := 0) rfl)
  have h1 : 0 ≤ (ρ 2 + 0 : Int) ∧ M.2.2.2.2 (α 1) (ρ 2 + 0 : Int).toNat = ρ 3 + 0 := hP _ (List.mem_of_getElem? (i := 1) rfl)
  have h2 : Γ (α 0) = 26 ∧ (ρ 3 + 0 = -1 ∨ (ρ 3 + 0 < 144 ∧ ∃ v, M.2.2.2.1 (α 0) 1 = some v ∧ Γ v = 28 ∧ okW g v M (ρ 3 + 0))) := hP _ (List.mem_of_getElem? (i := 2) rfl)
  try simp only [Int.add_zero] at h0 h1 h2
  have key : (∃ w v, frT Γ M (α 0) w v ∧ ∀ j : Nat, (j : Int) < M.2.2.2.2 (α 0) 4 → okW g v M (M.2.2.2.2 w j)) ∧ True := by
    try simp only [Int.add_zero]
    obtain ⟨v, ht, x⟩ := h0
    refine ⟨⟨α 1, v, ht, fun j hj => ?_⟩, trivial⟩
    by_cases hq : (j : Int) = ρ 2
    · have hq2 : j = (ρ 2).toNat := by omega
      rw [hq2, h1.2]
      rcases h2.2 with h | ⟨-, v2, h3, -, h4⟩
      · omega
      · have := ht.2.2.2.2
        rw [this] at h3
        cases h3
        exact h4
    · exact x j hj hq
  exact ⟨nB, qB (key.1) (nB)⟩
def t_ga0 : KT := ((0, 0, 0, 0), [(2, 0, 26, 0), (1, 1, 0, 0)], [(0, 0), (0, 0)], [(10, [(2, 0, 26, 0), (0, 0, 0, 4), (1, 1, 0, 0)])], (0, 0, 0), [], [], ([], [(51, [(2, 0, 26, 0)])]), ([], []))
set_option maxRecDepth 100000 in
theorem l_ga0 (g : GG) : LOK Yt (PSt g) t_ga0 := by
  intro ρ α Γ M as hT hB hA hP
  have g0 : Γ (α 0) = 26 := tyAt hA (i := 0) rfl
  have b1 : 0 ≤ ρ 1 ∧ ρ 1 ≤ 0 := hB 1
  have h0 : 0 ≤ (4 : Int) ∧ M.2.2.2.2 (α 0) (4 : Int).toNat = ρ 1 + 0 := hP _ (List.mem_of_getElem? (i := 0) rfl)
  try simp only [Int.add_zero] at h0
  have key : (∃ w v, frT Γ M (α 0) w v ∧ ∀ j : Nat, (j : Int) < M.2.2.2.2 (α 0) 4 → okW g v M (M.2.2.2.2 w j)) ∧ True := by
    try simp only [Int.add_zero]
    obtain ⟨w, w1, w2⟩ := tyR hT g0 (by decide) (j := 3) (τ2 := 30) (by decide)
    obtain ⟨v, v1, v2⟩ := tyR hT g0 (by decide) (j := 1) (τ2 := 28) (by decide)
    have e : M.2.2.2.2 (α 0) 4 = ρ 1 := h0.2
    exact ⟨⟨w, v, ⟨g0, w2, v2, w1, v1⟩, fun j hj => by omega⟩, trivial⟩
  exact ⟨nB, qB (key.1) (nB)⟩
def t_w50 : KT := ((0, 0, 0, 0), [(2, 0, 38, 0), (2, 1, 1, 0)], [(0, 0), (0, 0)], [(55, [(2, 0, 38, 0)]), (11, [(2, 0, 38, 0), (0, 0, 0, 0), (2, 1, 1, 0)])], (0, 0, 0), [], [], ([], [(50, [(2, 1, 1, 0)])]), ([], []))
set_option maxRecDepth 100000 in
theorem l_w50 (g : GG) : LOK Yt (PSt g) t_w50 := by
  intro ρ α Γ M as hT hB hA hP
  have g0 : Γ (α 0) = 38 := tyAt hA (i := 0) rfl
  have g1 : Γ (α 1) = 1 := tyAt hA (i := 1) rfl
  have h0 : Γ (α 0) = 38 ∧ ∃ c, M.2.2.2.1 (α 0) 0 = some c ∧ Γ c = 1 ∧ M.2.2.2.2 c 0 * M.2.2.2.2 c 1 = (g.1 : Int) := hP _ (List.mem_of_getElem? (i := 0) rfl)
  have h1 : 0 ≤ (0 : Int) ∧ M.2.2.2.1 (α 0) (0 : Int).toNat = some (α 1) := hP _ (List.mem_of_getElem? (i := 1) rfl)
  try simp only [Int.add_zero] at h0 h1
  have key : (Γ (α 1) = 1 ∧ M.2.2.2.2 (α 1) 0 * M.2.2.2.2 (α 1) 1 = (g.1 : Int)) ∧ True := by
    try simp only [Int.add_zero]
    obtain ⟨-, c, h2, h3, h4⟩ := h0
    have e : M.2.2.2.1 (α 0) 0 = some (α 1) := h1.2
    rw [e] at h2
    cases h2
    exact ⟨⟨h3, h4⟩, trivial⟩
  exact ⟨nB, qB (key.1) (nB)⟩
def t_ad0 : KT := ((0, 0, 0, 0), [(2, 0, 26, 0), (2, 1, 28, 0), (1, 2, 0, 0), (1, 3, 0, 0)], [(0, 0), (0, 0), (0, 143), (-2147483648, 2147483647)], [(53, [(2, 0, 26, 0), (1, 2, 0, 0)]), (11, [(2, 0, 26, 0), (0, 0, 0, 1), (2, 1, 28, 0)]), (10, [(2, 1, 28, 0), (1, 2, 0, 0), (1, 3, 0, 0)])], (0, 0, 0), [], [], ([(3, 0, 2147483647)], [(52, [(1, 2, 0, 0)])]), ([], []))
set_option maxRecDepth 100000 in
theorem l_ad0 (g : GG) : LOK Yt (PSt g) t_ad0 := by
  intro ρ α Γ M as hT hB hA hP
  have g0 : Γ (α 0) = 26 := tyAt hA (i := 0) rfl
  have g1 : Γ (α 1) = 28 := tyAt hA (i := 1) rfl
  have b2 : 0 ≤ ρ 2 ∧ ρ 2 ≤ 143 := hB 2
  have b3 : -2147483648 ≤ ρ 3 ∧ ρ 3 ≤ 2147483647 := hB 3
  have h0 : Γ (α 0) = 26 ∧ (ρ 2 + 0 = -1 ∨ (ρ 2 + 0 < 144 ∧ ∃ v, M.2.2.2.1 (α 0) 1 = some v ∧ Γ v = 28 ∧ okW g v M (ρ 2 + 0))) := hP _ (List.mem_of_getElem? (i := 0) rfl)
  have h1 : 0 ≤ (1 : Int) ∧ M.2.2.2.1 (α 0) (1 : Int).toNat = some (α 1) := hP _ (List.mem_of_getElem? (i := 1) rfl)
  have h2 : 0 ≤ (ρ 2 + 0 : Int) ∧ M.2.2.2.2 (α 1) (ρ 2 + 0 : Int).toNat = ρ 3 + 0 := hP _ (List.mem_of_getElem? (i := 2) rfl)
  try simp only [Int.add_zero] at h0 h1 h2
  have key : (0 ≤ ρ 3 ∧ ρ 3 ≤ 2147483647) ∧ (0 ≤ ρ 2 + 0 ∧ ρ 2 + 0 < (g.1 : Int)) ∧ True := by
    try simp only [Int.add_zero]
    rcases h0.2 with h | ⟨-, v, h3, -, h4⟩
    · omega
    · have e : M.2.2.2.1 (α 0) 1 = some (α 1) := h1.2
      rw [e] at h3
      cases h3
      have := h4.2
      rw [h2.2] at this
      exact ⟨⟨this, b3.2⟩, h4.1, trivial⟩
  exact ⟨qB (key.1) (nB), qB (key.2.1) (nB)⟩
def t_bl0 : KT := ((0, 0, 0, 0), [(2, 0, 1, 0), (1, 1, 0, 0)], [(0, 0), (-1, -1)], [], (0, 0, 0), [], [], ([], [(15, [(2, 0, 1, 0), (1, 1, 0, 0)])]), ([], []))
set_option maxRecDepth 100000 in
theorem l_bl0 (g : GG) : LOK Yt (PSt g) t_bl0 := by
  intro ρ α Γ M as hT hB hA hP
  have g0 : Γ (α 0) = 1 := tyAt hA (i := 0) rfl
  have b1 : -1 ≤ ρ 1 ∧ ρ 1 ≤ -1 := hB 1
  have key : (Γ (α 0) = 1 ∧ (ρ 1 + 0 = -1 ∨ isPx (M.2.2.2.2 (α 0) 0) (M.2.2.2.2 (α 0) 1) (ρ 1 + 0))) ∧ True := by
    try simp only [Int.add_zero]
    exact ⟨⟨g0, Or.inl (by omega)⟩, trivial⟩
  exact ⟨nB, qB (key.1) (nB)⟩
def t_bl1 : KT := ((0, 0, 0, 0), [(2, 0, 1, 0), (1, 1, 0, 0)], [(0, 0), (0, 143)], [(2, [(2, 0, 1, 0), (1, 1, 0, 0)])], (0, 0, 0), [], [], ([], [(15, [(2, 0, 1, 0), (1, 1, 0, 0)])]), ([], []))
set_option maxRecDepth 100000 in
theorem l_bl1 (g : GG) : LOK Yt (PSt g) t_bl1 := by
  intro ρ α Γ M as hT hB hA hP
  have g0 : Γ (α 0) = 1 := tyAt hA (i := 0) rfl
  have b1 : 0 ≤ ρ 1 ∧ ρ 1 ≤ 143 := hB 1
  have h0 : Γ (α 0) = 1 ∧ 0 ≤ ρ 1 + 0 ∧ ρ 1 + 0 < M.2.2.2.2 (α 0) 0 * M.2.2.2.2 (α 0) 1 := hP _ (List.mem_of_getElem? (i := 0) rfl)
  try simp only [Int.add_zero] at h0
  have key : (Γ (α 0) = 1 ∧ (ρ 1 + 0 = -1 ∨ isPx (M.2.2.2.2 (α 0) 0) (M.2.2.2.2 (α 0) 1) (ρ 1 + 0))) ∧ True := by
    try simp only [Int.add_zero]
    exact ⟨⟨g0, Or.inr h0.2⟩, trivial⟩
  exact ⟨nB, qB (key.1) (nB)⟩
def t_il0 : KT := ((0, 0, 0, 0), [(2, 0, 10, 0), (1, 1, 0, 0), (2, 2, 13, 0), (1, 3, 0, 0)], [(0, 0), (0, 143), (0, 0), (-2147483648, 2147483647)], [(11, [(2, 0, 10, 0), (0, 0, 0, 6), (2, 2, 13, 0)]), (10, [(2, 2, 13, 0), (1, 1, 0, 0), (1, 3, 0, 0)])], (0, 0, 0), [], [], ([], [(75, [(2, 0, 10, 0), (1, 1, 0, 0), (1, 3, 0, 0)])]), ([], []))
set_option maxRecDepth 100000 in
theorem l_il0 (g : GG) : LOK Yt (PSt g) t_il0 := by
  intro ρ α Γ M as hT hB hA hP
  have g0 : Γ (α 0) = 10 := tyAt hA (i := 0) rfl
  have b1 : 0 ≤ ρ 1 ∧ ρ 1 ≤ 143 := hB 1
  have g2 : Γ (α 2) = 13 := tyAt hA (i := 2) rfl
  have b3 : -2147483648 ≤ ρ 3 ∧ ρ 3 ≤ 2147483647 := hB 3
  have h0 : 0 ≤ (6 : Int) ∧ M.2.2.2.1 (α 0) (6 : Int).toNat = some (α 2) := hP _ (List.mem_of_getElem? (i := 0) rfl)
  have h1 : 0 ≤ (ρ 1 + 0 : Int) ∧ M.2.2.2.2 (α 2) (ρ 1 + 0 : Int).toNat = ρ 3 + 0 := hP _ (List.mem_of_getElem? (i := 1) rfl)
  try simp only [Int.add_zero] at h0 h1
  have key : (Γ (α 0) = 10 ∧ 0 ≤ ρ 1 + 0 ∧ ρ 1 + 0 < 144 ∧ ∃ s, M.2.2.2.1 (α 0) 6 = some s ∧ Γ s = 13 ∧ M.2.2.2.2 s (ρ 1 + 0 : Int).toNat = ρ 3 + 0) ∧ True := by
    try simp only [Int.add_zero]
    exact ⟨⟨g0, b1.1, by omega, α 2, h0.2, g2, h1.2⟩, trivial⟩
  exact ⟨nB, qB (key.1) (nB)⟩
def t_il1 : KT := ((0, 0, 0, 0), [(2, 0, 10, 0), (1, 1, 0, 0), (1, 2, 0, 0)], [(0, 0), (0, 143), (0, 143)], [(75, [(2, 0, 10, 0), (1, 1, 0, 0), (1, 2, 0, 0)])], (0, 0, 0), [], [], ([], [(74, [(2, 0, 10, 0), (1, 1, 0, 0)])]), ([], []))
set_option maxRecDepth 100000 in
theorem l_il1 (g : GG) : LOK Yt (PSt g) t_il1 := by
  intro ρ α Γ M as hT hB hA hP
  have g0 : Γ (α 0) = 10 := tyAt hA (i := 0) rfl
  have b1 : 0 ≤ ρ 1 ∧ ρ 1 ≤ 143 := hB 1
  have b2 : 0 ≤ ρ 2 ∧ ρ 2 ≤ 143 := hB 2
  have h0 : Γ (α 0) = 10 ∧ 0 ≤ ρ 1 + 0 ∧ ρ 1 + 0 < 144 ∧ ∃ s, M.2.2.2.1 (α 0) 6 = some s ∧ Γ s = 13 ∧ M.2.2.2.2 s (ρ 1 + 0 : Int).toNat = ρ 2 + 0 := hP _ (List.mem_of_getElem? (i := 0) rfl)
  try simp only [Int.add_zero] at h0
  have key : (Γ (α 0) = 10 ∧ 0 ≤ ρ 1 + 0 ∧ ρ 1 + 0 < 144 ∧ ∃ s, M.2.2.2.1 (α 0) 6 = some s ∧ Γ s = 13 ∧ 0 ≤ M.2.2.2.2 s (ρ 1 + 0 : Int).toNat) ∧ True := by
    try simp only [Int.add_zero]
    obtain ⟨-, h2, h3, s, h4, h5, h6⟩ := h0
    exact ⟨⟨g0, h2, h3, s, h4, h5, by rw [h6]; exact b2.1⟩, trivial⟩
  exact ⟨nB, qB (key.1) (nB)⟩
def t_le0 : KT := ((0, 0, 0, 0), [(1, 0, 0, 0), (1, 1, 0, 0)], [(0, 0), (0, 0)], [], (0, 0, 0), [], [], ([], [(6, [(1, 0, 0, 0), (1, 1, 0, 0)])]), ([], []))
set_option maxRecDepth 100000 in
theorem l_le0 (g : GG) : LOK Yt (PSt g) t_le0 := by
  intro ρ α Γ M as hT hB hA hP
  have b0 : 0 ≤ ρ 0 ∧ ρ 0 ≤ 0 := hB 0
  have b1 : 0 ≤ ρ 1 ∧ ρ 1 ≤ 0 := hB 1
  have key : (ρ 0 + 0 ≤ ρ 1 + 0) ∧ True := by
    try simp only [Int.add_zero]
    exact ⟨by omega, trivial⟩
  exact ⟨nB, qB (key.1) (nB)⟩
def t_le1 : KT := ((0, 0, 0, 0), [(1, 0, 0, 0), (1, 1, 0, 0)], [(-2147483648, 2147483647), (-2147483648, 2147483647)], [(6, [(1, 0, 0, -1), (1, 1, 0, -1)])], (0, 0, 0), [], [], ([], [(6, [(1, 0, 0, 0), (1, 1, 0, 0)])]), ([], []))
set_option maxRecDepth 100000 in
theorem l_le1 (g : GG) : LOK Yt (PSt g) t_le1 := by
  intro ρ α Γ M as hT hB hA hP
  have b0 : -2147483648 ≤ ρ 0 ∧ ρ 0 ≤ 2147483647 := hB 0
  have b1 : -2147483648 ≤ ρ 1 ∧ ρ 1 ≤ 2147483647 := hB 1
  have h0 : ρ 0 + (-1) ≤ ρ 1 + (-1) := hP _ (List.mem_of_getElem? (i := 0) rfl)
  try simp only [Int.add_zero] at h0
  have key : (ρ 0 + 0 ≤ ρ 1 + 0) ∧ True := by
    try simp only [Int.add_zero]
    exact ⟨by omega, trivial⟩
  exact ⟨nB, qB (key.1) (nB)⟩
def t_le2 : KT := ((0, 0, 0, 0), [(1, 0, 0, 0), (1, 1, 0, 0)], [(-2147483648, 2147483647), (-2147483648, 2147483647)], [(6, [(1, 0, 0, 0), (1, 1, 0, -1)])], (0, 0, 0), [], [], ([], [(6, [(1, 0, 0, 0), (1, 1, 0, 0)])]), ([], []))
set_option maxRecDepth 100000 in
theorem l_le2 (g : GG) : LOK Yt (PSt g) t_le2 := by
  intro ρ α Γ M as hT hB hA hP
  have b0 : -2147483648 ≤ ρ 0 ∧ ρ 0 ≤ 2147483647 := hB 0
  have b1 : -2147483648 ≤ ρ 1 ∧ ρ 1 ≤ 2147483647 := hB 1
  have h0 : ρ 0 + 0 ≤ ρ 1 + (-1) := hP _ (List.mem_of_getElem? (i := 0) rfl)
  try simp only [Int.add_zero] at h0
  have key : (ρ 0 + 0 ≤ ρ 1 + 0) ∧ True := by
    try simp only [Int.add_zero]
    exact ⟨by omega, trivial⟩
  exact ⟨nB, qB (key.1) (nB)⟩
def t_leb4 : KT := ((0, 0, 0, 0), [(1, 0, 0, 0), (1, 1, 0, 0)], [(-2147483648, 2147483647), (0, 4)], [(6, [(1, 0, 0, 0), (1, 1, 0, 0)])], (0, 0, 0), [], [], ([(0, -2147483648, 4)], []), ([], []))
set_option maxRecDepth 100000 in
theorem l_leb4 (g : GG) : LOK Yt (PSt g) t_leb4 := by
  intro ρ α Γ M as hT hB hA hP
  have b0 : -2147483648 ≤ ρ 0 ∧ ρ 0 ≤ 2147483647 := hB 0
  have b1 : 0 ≤ ρ 1 ∧ ρ 1 ≤ 4 := hB 1
  have h0 : ρ 0 + 0 ≤ ρ 1 + 0 := hP _ (List.mem_of_getElem? (i := 0) rfl)
  try simp only [Int.add_zero] at h0
  have key : (-2147483648 ≤ ρ 0 ∧ ρ 0 ≤ 4) ∧ True := by
    try simp only [Int.add_zero]
    exact ⟨⟨b0.1, by omega⟩, trivial⟩
  exact ⟨qB (key.1) (nB), nB⟩
def t_nt0 : KT := ((0, 0, 0, 0), [(2, 0, 17, 0), (1, 1, 0, 0), (1, 2, 0, 0)], [(0, 0), (0, 1000), (0, 2147483647)], [(77, [(2, 0, 17, 0), (1, 1, 0, 0)]), (78, [(0, 0, 0, 0)]), (10, [(2, 0, 17, 0), (0, 0, 0, 0), (1, 2, 0, 0)])], (0, 0, 0), [], [], ([(2, 0, 999999)], [(59, [(1, 2, 0, 0), (1, 1, 0, 0)])]), ([], []))
set_option maxRecDepth 100000 in
theorem l_nt0 (g : GG) : LOK Yt (PSt g) t_nt0 := by
  intro ρ α Γ M as hT hB hA hP
  have g0 : Γ (α 0) = 17 := tyAt hA (i := 0) rfl
  have b1 : 0 ≤ ρ 1 ∧ ρ 1 ≤ 1000 := hB 1
  have b2 : 0 ≤ ρ 2 ∧ ρ 2 ≤ 2147483647 := hB 2
  have h0 : Γ (α 0) = 17 ∧ M.2.2.2.2 (α 0) 0 ≤ (g.2.1 : Int) + (ρ 1 + 0) := hP _ (List.mem_of_getElem? (i := 0) rfl)
  have h1 : (0 : Int) = 0 ∧ (g.2.1 : Int) ≤ 900000 := hP _ (List.mem_of_getElem? (i := 1) rfl)
  have h2 : 0 ≤ (0 : Int) ∧ M.2.2.2.2 (α 0) (0 : Int).toNat = ρ 2 + 0 := hP _ (List.mem_of_getElem? (i := 2) rfl)
  try simp only [Int.add_zero] at h0 h1 h2
  have key : (0 ≤ ρ 2 ∧ ρ 2 ≤ 999999) ∧ (ρ 2 + 0 ≤ (g.2.1 : Int) + (ρ 1 + 0)) ∧ True := by
    try simp only [Int.add_zero]
    have e : M.2.2.2.2 (α 0) 0 = ρ 2 := h2.2
    have h0 := h0.2
    have h1 : (g.2.1 : Int) ≤ 900000 := (show P78 g [vi 0] Γ M from hP _ (List.mem_of_getElem? (i := 1) rfl)).2
    exact ⟨⟨b2.1, by omega⟩, by omega, trivial⟩
  exact ⟨qB (key.1) (nB), qB (key.2.1) (nB)⟩
def t_ta56 : KT := ((0, 0, 0, 0), [(2, 0, 54, 0), (2, 1, 26, 0)], [(0, 0), (0, 0)], [(56, [(2, 0, 54, 0)]), (11, [(2, 0, 54, 0), (0, 0, 0, 6), (2, 1, 26, 0)])], (0, 0, 0), [], [], ([], [(51, [(2, 1, 26, 0)])]), ([], []))
set_option maxRecDepth 100000 in
theorem l_ta56 (g : GG) : LOK Yt (PSt g) t_ta56 := by
  intro ρ α Γ M as hT hB hA hP
  have g0 : Γ (α 0) = 54 := tyAt hA (i := 0) rfl
  have g1 : Γ (α 1) = 26 := tyAt hA (i := 1) rfl
  have h0 : Γ (α 0) = 54 ∧ ∃ f, M.2.2.2.1 (α 0) 6 = some f ∧ ∃ w v, frT Γ M f w v ∧ ∀ j : Nat, (j : Int) < M.2.2.2.2 f 4 → okW g v M (M.2.2.2.2 w j) := hP _ (List.mem_of_getElem? (i := 0) rfl)
  have h1 : 0 ≤ (6 : Int) ∧ M.2.2.2.1 (α 0) (6 : Int).toNat = some (α 1) := hP _ (List.mem_of_getElem? (i := 1) rfl)
  try simp only [Int.add_zero] at h0 h1
  have key : (∃ w v, frT Γ M (α 1) w v ∧ ∀ j : Nat, (j : Int) < M.2.2.2.2 (α 1) 4 → okW g v M (M.2.2.2.2 w j)) ∧ True := by
    try simp only [Int.add_zero]
    obtain ⟨-, f, h2, h3⟩ := h0
    have e : M.2.2.2.1 (α 0) 6 = some (α 1) := h1.2
    rw [e] at h2
    cases h2
    exact ⟨h3, trivial⟩
  exact ⟨nB, qB (key.1) (nB)⟩
def t_tb56 : KT := ((0, 0, 0, 0), [(2, 0, 54, 0), (2, 1, 26, 0)], [(0, 0), (0, 0)], [(51, [(2, 1, 26, 0)]), (11, [(2, 0, 54, 0), (0, 0, 0, 6), (2, 1, 26, 0)])], (0, 0, 0), [], [], ([], [(56, [(2, 0, 54, 0)])]), ([], []))
set_option maxRecDepth 100000 in
theorem l_tb56 (g : GG) : LOK Yt (PSt g) t_tb56 := by
  intro ρ α Γ M as hT hB hA hP
  have g0 : Γ (α 0) = 54 := tyAt hA (i := 0) rfl
  have g1 : Γ (α 1) = 26 := tyAt hA (i := 1) rfl
  have h0 : ∃ w v, frT Γ M (α 1) w v ∧ ∀ j : Nat, (j : Int) < M.2.2.2.2 (α 1) 4 → okW g v M (M.2.2.2.2 w j) := hP _ (List.mem_of_getElem? (i := 0) rfl)
  have h1 : 0 ≤ (6 : Int) ∧ M.2.2.2.1 (α 0) (6 : Int).toNat = some (α 1) := hP _ (List.mem_of_getElem? (i := 1) rfl)
  try simp only [Int.add_zero] at h0 h1
  have key : (Γ (α 0) = 54 ∧ ∃ f, M.2.2.2.1 (α 0) 6 = some f ∧ ∃ w v, frT Γ M f w v ∧ ∀ j : Nat, (j : Int) < M.2.2.2.2 f 4 → okW g v M (M.2.2.2.2 w j)) ∧ True := by
    try simp only [Int.add_zero]
    exact ⟨⟨g0, α 1, h1.2, h0⟩, trivial⟩
  exact ⟨nB, qB (key.1) (nB)⟩
def t_ta57_0 : KT := ((0, 0, 0, 0), [(2, 0, 54, 0), (2, 1, 38, 0)], [(0, 0), (0, 0)], [(57, [(2, 0, 54, 0), (0, 0, 0, 0)]), (11, [(2, 0, 54, 0), (0, 0, 0, 0), (2, 1, 38, 0)])], (0, 0, 0), [], [], ([], [(55, [(2, 1, 38, 0)])]), ([], []))
set_option maxRecDepth 100000 in
theorem l_ta57_0 (g : GG) : LOK Yt (PSt g) t_ta57_0 := by
  intro ρ α Γ M as hT hB hA hP
  have g0 : Γ (α 0) = 54 := tyAt hA (i := 0) rfl
  have g1 : Γ (α 1) = 38 := tyAt hA (i := 1) rfl
  have h0 : Γ (α 0) = 54 ∧ ((0 : Int) = 0 ∨ (0 : Int) = 1) ∧ ∃ w, M.2.2.2.1 (α 0) (0 : Int).toNat = some w ∧ Γ w = 38 ∧ ∃ c, M.2.2.2.1 w 0 = some c ∧ Γ c = 1 ∧ M.2.2.2.2 c 0 * M.2.2.2.2 c 1 = (g.1 : Int) := hP _ (List.mem_of_getElem? (i := 0) rfl)
  have h1 : 0 ≤ (0 : Int) ∧ M.2.2.2.1 (α 0) (0 : Int).toNat = some (α 1) := hP _ (List.mem_of_getElem? (i := 1) rfl)
  try simp only [Int.add_zero] at h0 h1
  have key : (Γ (α 1) = 38 ∧ ∃ c, M.2.2.2.1 (α 1) 0 = some c ∧ Γ c = 1 ∧ M.2.2.2.2 c 0 * M.2.2.2.2 c 1 = (g.1 : Int)) ∧ True := by
    try simp only [Int.add_zero]
    obtain ⟨-, -, w, h2, h3, h4⟩ := h0
    have h2 : M.2.2.2.1 (α 0) 0 = some w := h2
    have e : M.2.2.2.1 (α 0) 0 = some (α 1) := h1.2
    rw [e] at h2
    cases h2
    exact ⟨⟨h3, h4⟩, trivial⟩
  exact ⟨nB, qB (key.1) (nB)⟩
def t_ta58 : KT := ((0, 0, 0, 0), [(2, 0, 54, 0), (2, 1, 17, 0), (1, 2, 0, 0)], [(0, 0), (0, 0), (-2147483648, 2147483647)], [(58, [(2, 0, 54, 0), (1, 2, 0, 0)]), (11, [(2, 0, 54, 0), (0, 0, 0, 3), (2, 1, 17, 0)])], (0, 0, 0), [], [], ([], [(77, [(2, 1, 17, 0), (1, 2, 0, 0)])]), ([], []))
set_option maxRecDepth 100000 in
theorem l_ta58 (g : GG) : LOK Yt (PSt g) t_ta58 := by
  intro ρ α Γ M as hT hB hA hP
  have g0 : Γ (α 0) = 54 := tyAt hA (i := 0) rfl
  have g1 : Γ (α 1) = 17 := tyAt hA (i := 1) rfl
  have b2 : -2147483648 ≤ ρ 2 ∧ ρ 2 ≤ 2147483647 := hB 2
  have h0 : Γ (α 0) = 54 ∧ ∃ b, M.2.2.2.1 (α 0) 3 = some b ∧ Γ b = 17 ∧ M.2.2.2.2 b 0 ≤ (g.2.1 : Int) + (ρ 2 + 0) := hP _ (List.mem_of_getElem? (i := 0) rfl)
  have h1 : 0 ≤ (3 : Int) ∧ M.2.2.2.1 (α 0) (3 : Int).toNat = some (α 1) := hP _ (List.mem_of_getElem? (i := 1) rfl)
  try simp only [Int.add_zero] at h0 h1
  have key : (Γ (α 1) = 17 ∧ M.2.2.2.2 (α 1) 0 ≤ (g.2.1 : Int) + (ρ 2 + 0)) ∧ True := by
    try simp only [Int.add_zero]
    obtain ⟨-, b, h2, h3, h4⟩ := h0
    have e : M.2.2.2.1 (α 0) 3 = some (α 1) := h1.2
    rw [e] at h2
    cases h2
    exact ⟨⟨h3, h4⟩, trivial⟩
  exact ⟨nB, qB (key.1) (nB)⟩
def t_tb58 : KT := ((0, 0, 0, 0), [(2, 0, 54, 0), (2, 1, 17, 0), (1, 2, 0, 0)], [(0, 0), (0, 0), (-2147483648, 2147483647)], [(77, [(2, 1, 17, 0), (1, 2, 0, 0)]), (11, [(2, 0, 54, 0), (0, 0, 0, 3), (2, 1, 17, 0)])], (0, 0, 0), [], [], ([], [(58, [(2, 0, 54, 0), (1, 2, 0, 0)])]), ([], []))
set_option maxRecDepth 100000 in
theorem l_tb58 (g : GG) : LOK Yt (PSt g) t_tb58 := by
  intro ρ α Γ M as hT hB hA hP
  have g0 : Γ (α 0) = 54 := tyAt hA (i := 0) rfl
  have g1 : Γ (α 1) = 17 := tyAt hA (i := 1) rfl
  have b2 : -2147483648 ≤ ρ 2 ∧ ρ 2 ≤ 2147483647 := hB 2
  have h0 : Γ (α 1) = 17 ∧ M.2.2.2.2 (α 1) 0 ≤ (g.2.1 : Int) + (ρ 2 + 0) := hP _ (List.mem_of_getElem? (i := 0) rfl)
  have h1 : 0 ≤ (3 : Int) ∧ M.2.2.2.1 (α 0) (3 : Int).toNat = some (α 1) := hP _ (List.mem_of_getElem? (i := 1) rfl)
  try simp only [Int.add_zero] at h0 h1
  have key : (Γ (α 0) = 54 ∧ ∃ b, M.2.2.2.1 (α 0) 3 = some b ∧ Γ b = 17 ∧ M.2.2.2.2 b 0 ≤ (g.2.1 : Int) + (ρ 2 + 0)) ∧ True := by
    try simp only [Int.add_zero]
    exact ⟨⟨g0, α 1, h1.2, h0.1, h0.2⟩, trivial⟩
  exact ⟨nB, qB (key.1) (nB)⟩
def t_up58 : KT := ((0, 0, 0, 0), [(2, 0, 54, 0), (1, 1, 0, 0)], [(0, 0), (-2147483648, 2147483647)], [(58, [(2, 0, 54, 0), (1, 1, 0, -1)])], (0, 0, 0), [], [], ([], [(58, [(2, 0, 54, 0), (1, 1, 0, 0)])]), ([], []))
set_option maxRecDepth 100000 in
theorem l_up58 (g : GG) : LOK Yt (PSt g) t_up58 := by
  intro ρ α Γ M as hT hB hA hP
  have g0 : Γ (α 0) = 54 := tyAt hA (i := 0) rfl
  have b1 : -2147483648 ≤ ρ 1 ∧ ρ 1 ≤ 2147483647 := hB 1
  have h0 : Γ (α 0) = 54 ∧ ∃ b, M.2.2.2.1 (α 0) 3 = some b ∧ Γ b = 17 ∧ M.2.2.2.2 b 0 ≤ (g.2.1 : Int) + (ρ 1 + (-1)) := hP _ (List.mem_of_getElem? (i := 0) rfl)
  try simp only [Int.add_zero] at h0
  have key : (Γ (α 0) = 54 ∧ ∃ b, M.2.2.2.1 (α 0) 3 = some b ∧ Γ b = 17 ∧ M.2.2.2.2 b 0 ≤ (g.2.1 : Int) + (ρ 1 + 0)) ∧ True := by
    try simp only [Int.add_zero]
    obtain ⟨-, b, h2, h3, h4⟩ := h0
    exact ⟨⟨g0, b, h2, h3, by omega⟩, trivial⟩
  exact ⟨nB, qB (key.1) (nB)⟩
def t_w58 : KT := ((0, 0, 0, 0), [(2, 0, 54, 0), (1, 1, 0, 0)], [(0, 0), (0, 150)], [(58, [(2, 0, 54, 0), (1, 1, 0, 0)])], (0, 0, 0), [], [], ([], [(58, [(2, 0, 54, 0), (0, 0, 0, 150)])]), ([], []))
set_option maxRecDepth 100000 in
theorem l_w58 (g : GG) : LOK Yt (PSt g) t_w58 := by
  intro ρ α Γ M as hT hB hA hP
  have g0 : Γ (α 0) = 54 := tyAt hA (i := 0) rfl
  have b1 : 0 ≤ ρ 1 ∧ ρ 1 ≤ 150 := hB 1
  have h0 : Γ (α 0) = 54 ∧ ∃ b, M.2.2.2.1 (α 0) 3 = some b ∧ Γ b = 17 ∧ M.2.2.2.2 b 0 ≤ (g.2.1 : Int) + (ρ 1 + 0) := hP _ (List.mem_of_getElem? (i := 0) rfl)
  try simp only [Int.add_zero] at h0
  have key : (Γ (α 0) = 54 ∧ ∃ b, M.2.2.2.1 (α 0) 3 = some b ∧ Γ b = 17 ∧ M.2.2.2.2 b 0 ≤ (g.2.1 : Int) + (150)) ∧ True := by
    try simp only [Int.add_zero]
    obtain ⟨-, b, h2, h3, h4⟩ := h0
    exact ⟨⟨g0, b, h2, h3, by omega⟩, trivial⟩
  exact ⟨nB, qB (key.1) (nB)⟩
def t_tb79 : KT := ((0, 0, 0, 0), [(2, 0, 54, 0), (2, 1, 38, 0), (2, 2, 1, 0), (1, 3, 0, 0)], [(0, 0), (0, 0), (0, 0), (0, 143)], [(79, [(2, 0, 54, 0), (1, 3, 0, 0)]), (11, [(2, 0, 54, 0), (0, 0, 0, 0), (2, 1, 38, 0)]), (11, [(2, 1, 38, 0), (0, 0, 0, 0), (2, 2, 1, 0)])], (0, 0, 0), [], [], ([], [(2, [(2, 2, 1, 0), (1, 3, 0, 0)])]), ([], []))
set_option maxRecDepth 100000 in
theorem l_tb79 (g : GG) : LOK Yt (PSt g) t_tb79 := by
  intro ρ α Γ M as hT hB hA hP
  have g0 : Γ (α 0) = 54 := tyAt hA (i := 0) rfl
  have g1 : Γ (α 1) = 38 := tyAt hA (i := 1) rfl
  have g2 : Γ (α 2) = 1 := tyAt hA (i := 2) rfl
  have b3 : 0 ≤ ρ 3 ∧ ρ 3 ≤ 143 := hB 3
  have h0 : Γ (α 0) = 54 ∧ ∃ w, M.2.2.2.1 (α 0) 0 = some w ∧ Γ w = 38 ∧ ∃ c, M.2.2.2.1 w 0 = some c ∧ Γ c = 1 ∧ isPx (M.2.2.2.2 c 0) (M.2.2.2.2 c 1) (ρ 3 + 0) := hP _ (List.mem_of_getElem? (i := 0) rfl)
  have h1 : 0 ≤ (0 : Int) ∧ M.2.2.2.1 (α 0) (0 : Int).toNat = some (α 1) := hP _ (List.mem_of_getElem? (i := 1) rfl)
  have h2 : 0 ≤ (0 : Int) ∧ M.2.2.2.1 (α 1) (0 : Int).toNat = some (α 2) := hP _ (List.mem_of_getElem? (i := 2) rfl)
  try simp only [Int.add_zero] at h0 h1 h2
  have key : (Γ (α 2) = 1 ∧ 0 ≤ ρ 3 + 0 ∧ ρ 3 + 0 < M.2.2.2.2 (α 2) 0 * M.2.2.2.2 (α 2) 1) ∧ True := by
    try simp only [Int.add_zero]
    obtain ⟨-, w, x1, x2, c, x3, x4, x5⟩ := h0
    have e : M.2.2.2.1 (α 0) 0 = some (α 1) := h1.2
    rw [e] at x1
    cases x1
    have e : M.2.2.2.1 (α 1) 0 = some (α 2) := h2.2
    rw [e] at x3
    cases x3
    exact ⟨⟨g2, x5⟩, trivial⟩
  exact ⟨nB, qB (key.1) (nB)⟩
def t_nt1 : KT := ((0, 0, 0, 0), [(2, 0, 17, 0), (1, 1, 0, 0), (1, 2, 0, 0)], [(0, 0), (0, 1000), (0, 2147483647)], [(59, [(1, 2, 0, -1), (1, 1, 0, 0)]), (10, [(2, 0, 17, 0), (0, 0, 0, 0), (1, 2, 0, 0)])], (0, 0, 0), [], [], ([], [(77, [(2, 0, 17, 0), (1, 1, 0, 1)])]), ([], []))
set_option maxRecDepth 100000 in
theorem l_nt1 (g : GG) : LOK Yt (PSt g) t_nt1 := by
  intro ρ α Γ M as hT hB hA hP
  have g0 : Γ (α 0) = 17 := tyAt hA (i := 0) rfl
  have b1 : 0 ≤ ρ 1 ∧ ρ 1 ≤ 1000 := hB 1
  have b2 : 0 ≤ ρ 2 ∧ ρ 2 ≤ 2147483647 := hB 2
  have h0 : ρ 2 + (-1) ≤ (g.2.1 : Int) + (ρ 1 + 0) := hP _ (List.mem_of_getElem? (i := 0) rfl)
  have h1 : 0 ≤ (0 : Int) ∧ M.2.2.2.2 (α 0) (0 : Int).toNat = ρ 2 + 0 := hP _ (List.mem_of_getElem? (i := 1) rfl)
  try simp only [Int.add_zero] at h0 h1
  have key : (Γ (α 0) = 17 ∧ M.2.2.2.2 (α 0) 0 ≤ (g.2.1 : Int) + (ρ 1 + 1)) ∧ True := by
    try simp only [Int.add_zero]
    have e : M.2.2.2.2 (α 0) 0 = ρ 2 := h1.2
    exact ⟨⟨g0, by omega⟩, trivial⟩
  exact ⟨nB, qB (key.1) (nB)⟩
def t_sol : KT := ((0, 0, 0, 0), [(1, 0, 0, 0)], [(-2147483648, 1)], [], (0, 0, 0), [], [], ([], [(440, [(1, 0, 0, 0), (0, 0, 0, 2), (0, 0, 0, 12)])]), ([], []))
set_option maxRecDepth 100000 in
theorem l_sol (g : GG) : LOK Yt (PSt g) t_sol := by
  intro ρ α Γ M as hT hB hA hP
  have b0 : -2147483648 ≤ ρ 0 ∧ ρ 0 ≤ 1 := hB 0
  have key : ((ρ 0 + 0) < 2 ∨ 12 < (ρ 0 + 0)) ∧ True := by
    try simp only [Int.add_zero]
    exact ⟨Or.inl (by omega), trivial⟩
  exact ⟨nB, qB (key.1) (nB)⟩
def t_soh : KT := ((0, 0, 0, 0), [(1, 0, 0, 0)], [(13, 2147483647)], [], (0, 0, 0), [], [], ([], [(440, [(1, 0, 0, 0), (0, 0, 0, 2), (0, 0, 0, 12)])]), ([], []))
set_option maxRecDepth 100000 in
theorem l_soh (g : GG) : LOK Yt (PSt g) t_soh := by
  intro ρ α Γ M as hT hB hA hP
  have b0 : 13 ≤ ρ 0 ∧ ρ 0 ≤ 2147483647 := hB 0
  have key : ((ρ 0 + 0) < 2 ∨ 12 < (ρ 0 + 0)) ∧ True := by
    try simp only [Int.add_zero]
    exact ⟨Or.inr (by omega), trivial⟩
  exact ⟨nB, qB (key.1) (nB)⟩
def t_srl : KT := ((0, 0, 0, 0), [(1, 0, 0, 0)], [(-2147483648, -1000)], [], (0, 0, 0), [], [], ([], [(440, [(1, 0, 0, 0), (0, 0, 0, -999), (0, 0, 0, 999)])]), ([], []))
set_option maxRecDepth 100000 in
theorem l_srl (g : GG) : LOK Yt (PSt g) t_srl := by
  intro ρ α Γ M as hT hB hA hP
  have b0 : -2147483648 ≤ ρ 0 ∧ ρ 0 ≤ -1000 := hB 0
  have key : ((ρ 0 + 0) < (-999) ∨ 999 < (ρ 0 + 0)) ∧ True := by
    try simp only [Int.add_zero]
    exact ⟨Or.inl (by omega), trivial⟩
  exact ⟨nB, qB (key.1) (nB)⟩
def t_srh : KT := ((0, 0, 0, 0), [(1, 0, 0, 0)], [(1000, 2147483647)], [], (0, 0, 0), [], [], ([], [(440, [(1, 0, 0, 0), (0, 0, 0, -999), (0, 0, 0, 999)])]), ([], []))
set_option maxRecDepth 100000 in
theorem l_srh (g : GG) : LOK Yt (PSt g) t_srh := by
  intro ρ α Γ M as hT hB hA hP
  have b0 : 1000 ≤ ρ 0 ∧ ρ 0 ≤ 2147483647 := hB 0
  have key : ((ρ 0 + 0) < (-999) ∨ 999 < (ρ 0 + 0)) ∧ True := by
    try simp only [Int.add_zero]
    exact ⟨Or.inr (by omega), trivial⟩
  exact ⟨nB, qB (key.1) (nB)⟩
def t_snl : KT := ((0, 0, 0, 0), [(1, 0, 0, 0)], [(-2147483648, 0)], [], (0, 0, 0), [], [], ([], [(440, [(1, 0, 0, 0), (0, 0, 0, 1), (0, 0, 0, 60)])]), ([], []))
set_option maxRecDepth 100000 in
theorem l_snl (g : GG) : LOK Yt (PSt g) t_snl := by
  intro ρ α Γ M as hT hB hA hP
  have b0 : -2147483648 ≤ ρ 0 ∧ ρ 0 ≤ 0 := hB 0
  have key : ((ρ 0 + 0) < 1 ∨ 60 < (ρ 0 + 0)) ∧ True := by
    try simp only [Int.add_zero]
    exact ⟨Or.inl (by omega), trivial⟩
  exact ⟨nB, qB (key.1) (nB)⟩
def t_snh : KT := ((0, 0, 0, 0), [(1, 0, 0, 0)], [(61, 2147483647)], [], (0, 0, 0), [], [], ([], [(440, [(1, 0, 0, 0), (0, 0, 0, 1), (0, 0, 0, 60)])]), ([], []))
set_option maxRecDepth 100000 in
theorem l_snh (g : GG) : LOK Yt (PSt g) t_snh := by
  intro ρ α Γ M as hT hB hA hP
  have b0 : 61 ≤ ρ 0 ∧ ρ 0 ≤ 2147483647 := hB 0
  have key : ((ρ 0 + 0) < 1 ∨ 60 < (ρ 0 + 0)) ∧ True := by
    try simp only [Int.add_zero]
    exact ⟨Or.inr (by omega), trivial⟩
  exact ⟨nB, qB (key.1) (nB)⟩
def t_soa : KT := ((0, 0, 0, 0), [(1, 0, 0, 0), (1, 1, 0, 0)], [(-2147483648, 2147483647), (-2147483648, 2147483647)], [(440, [(1, 0, 0, 0), (0, 0, 0, 2), (0, 0, 0, 12)])], (0, 0, 0), [], [], ([], [(441, [(1, 0, 0, 0), (1, 1, 0, 0), (0, 0, 0, 2), (0, 0, 0, 12)])]), ([], []))
set_option maxRecDepth 100000 in
theorem l_soa (g : GG) : LOK Yt (PSt g) t_soa := by
  intro ρ α Γ M as hT hB hA hP
  have b0 : -2147483648 ≤ ρ 0 ∧ ρ 0 ≤ 2147483647 := hB 0
  have b1 : -2147483648 ≤ ρ 1 ∧ ρ 1 ≤ 2147483647 := hB 1
  have h0 : (ρ 0 + 0) < 2 ∨ 12 < (ρ 0 + 0) := hP _ (List.mem_of_getElem? (i := 0) rfl)
  try simp only [Int.add_zero] at h0
  have key : (((ρ 0 + 0) < 2 ∨ 12 < (ρ 0 + 0)) ∨ ((ρ 1 + 0) < 2 ∨ 12 < (ρ 1 + 0))) ∧ True := by
    try simp only [Int.add_zero]
    exact ⟨Or.inl h0, trivial⟩
  exact ⟨nB, qB (key.1) (nB)⟩
def t_sob : KT := ((0, 0, 0, 0), [(1, 0, 0, 0), (1, 1, 0, 0)], [(-2147483648, 2147483647), (-2147483648, 2147483647)], [(440, [(1, 1, 0, 0), (0, 0, 0, 2), (0, 0, 0, 12)])], (0, 0, 0), [], [], ([], [(441, [(1, 0, 0, 0), (1, 1, 0, 0), (0, 0, 0, 2), (0, 0, 0, 12)])]), ([], []))
set_option maxRecDepth 100000 in
theorem l_sob (g : GG) : LOK Yt (PSt g) t_sob := by
  intro ρ α Γ M as hT hB hA hP
  have b0 : -2147483648 ≤ ρ 0 ∧ ρ 0 ≤ 2147483647 := hB 0
  have b1 : -2147483648 ≤ ρ 1 ∧ ρ 1 ≤ 2147483647 := hB 1
  have h0 : (ρ 1 + 0) < 2 ∨ 12 < (ρ 1 + 0) := hP _ (List.mem_of_getElem? (i := 0) rfl)
  try simp only [Int.add_zero] at h0
  have key : (((ρ 0 + 0) < 2 ∨ 12 < (ρ 0 + 0)) ∨ ((ρ 1 + 0) < 2 ∨ 12 < (ρ 1 + 0))) ∧ True := by
    try simp only [Int.add_zero]
    exact ⟨Or.inr h0, trivial⟩
  exact ⟨nB, qB (key.1) (nB)⟩
def t_sra : KT := ((0, 0, 0, 0), [(1, 0, 0, 0), (1, 1, 0, 0)], [(-2147483648, 2147483647), (-2147483648, 2147483647)], [(440, [(1, 0, 0, 0), (0, 0, 0, -999), (0, 0, 0, 999)])], (0, 0, 0), [], [], ([], [(441, [(1, 0, 0, 0), (1, 1, 0, 0), (0, 0, 0, -999), (0, 0, 0, 999)])]), ([], []))
set_option maxRecDepth 100000 in
theorem l_sra (g : GG) : LOK Yt (PSt g) t_sra := by
  intro ρ α Γ M as hT hB hA hP
  have b0 : -2147483648 ≤ ρ 0 ∧ ρ 0 ≤ 2147483647 := hB 0
  have b1 : -2147483648 ≤ ρ 1 ∧ ρ 1 ≤ 2147483647 := hB 1
  have h0 : (ρ 0 + 0) < (-999) ∨ 999 < (ρ 0 + 0) := hP _ (List.mem_of_getElem? (i := 0) rfl)
  try simp only [Int.add_zero] at h0
  have key : (((ρ 0 + 0) < (-999) ∨ 999 < (ρ 0 + 0)) ∨ ((ρ 1 + 0) < (-999) ∨ 999 < (ρ 1 + 0))) ∧ True := by
    try simp only [Int.add_zero]
    exact ⟨Or.inl h0, trivial⟩
  exact ⟨nB, qB (key.1) (nB)⟩
def t_srb : KT := ((0, 0, 0, 0), [(1, 0, 0, 0), (1, 1, 0, 0)], [(-2147483648, 2147483647), (-2147483648, 2147483647)], [(440, [(1, 1, 0, 0), (0, 0, 0, -999), (0, 0, 0, 999)])], (0, 0, 0), [], [], ([], [(441, [(1, 0, 0, 0), (1, 1, 0, 0), (0, 0, 0, -999), (0, 0, 0, 999)])]), ([], []))
set_option maxRecDepth 100000 in
theorem l_srb (g : GG) : LOK Yt (PSt g) t_srb := by
  intro ρ α Γ M as hT hB hA hP
  have b0 : -2147483648 ≤ ρ 0 ∧ ρ 0 ≤ 2147483647 := hB 0
  have b1 : -2147483648 ≤ ρ 1 ∧ ρ 1 ≤ 2147483647 := hB 1
  have h0 : (ρ 1 + 0) < (-999) ∨ 999 < (ρ 1 + 0) := hP _ (List.mem_of_getElem? (i := 0) rfl)
  try simp only [Int.add_zero] at h0
  have key : (((ρ 0 + 0) < (-999) ∨ 999 < (ρ 0 + 0)) ∨ ((ρ 1 + 0) < (-999) ∨ 999 < (ρ 1 + 0))) ∧ True := by
    try simp only [Int.add_zero]
    exact ⟨Or.inr h0, trivial⟩
  exact ⟨nB, qB (key.1) (nB)⟩
def t_gs0 : KT := ((0, 0, 0, 0), [(1, 0, 0, 0), (1, 1, 0, 0)], [(0, 0), (0, 0)], [], (0, 0, 0), [], [], ([], [(19, [(1, 0, 0, 0), (1, 1, 0, 0)])]), ([], []))
set_option maxRecDepth 100000 in
theorem l_gs0 (g : GG) : LOK Yt (PSt g) t_gs0 := by
  intro ρ α Γ M as hT hB hA hP
  have b0 : 0 ≤ ρ 0 ∧ ρ 0 ≤ 0 := hB 0
  have b1 : 0 ≤ ρ 1 ∧ ρ 1 ≤ 0 := hB 1
  have key : (0 ≤ (ρ 0 + 0) ∧ (ρ 0 + 0) ≤ 127 * (ρ 1 + 0)) ∧ True := by
    try simp only [Int.add_zero]
    exact ⟨⟨by omega, by omega⟩, trivial⟩
  exact ⟨nB, qB (key.1) (nB)⟩
def t_gs1 : KT := ((0, 0, 0, 0), [(1, 0, 0, 0), (1, 1, 0, 0), (1, 2, 0, 0), (1, 3, 0, 0)], [(-2147483648, 2147483647), (0, 127), (-2147483648, 2147483647), (0, 4)], [(19, [(1, 0, 0, 0), (1, 3, 0, 0)]), (23, [(1, 0, 0, 0), (1, 1, 0, 0), (1, 2, 0, 0)])], (0, 0, 0), [], [], ([(2, 0, 635)], [(19, [(1, 2, 0, 0), (1, 3, 0, 1)])]), ([], []))
set_option maxRecDepth 100000 in
theorem l_gs1 (g : GG) : LOK Yt (PSt g) t_gs1 := by
  intro ρ α Γ M as hT hB hA hP
  have b0 : -2147483648 ≤ ρ 0 ∧ ρ 0 ≤ 2147483647 := hB 0
  have b1 : 0 ≤ ρ 1 ∧ ρ 1 ≤ 127 := hB 1
  have b2 : -2147483648 ≤ ρ 2 ∧ ρ 2 ≤ 2147483647 := hB 2
  have b3 : 0 ≤ ρ 3 ∧ ρ 3 ≤ 4 := hB 3
  have h0 : 0 ≤ (ρ 0 + 0) ∧ (ρ 0 + 0) ≤ 127 * (ρ 3 + 0) := hP _ (List.mem_of_getElem? (i := 0) rfl)
  have h1 : ρ 2 + 0 = wI ((ρ 0 + 0) + (ρ 1 + 0)) := hP _ (List.mem_of_getElem? (i := 1) rfl)
  try simp only [Int.add_zero] at h0 h1
  have key : (0 ≤ ρ 2 ∧ ρ 2 ≤ 635) ∧ (0 ≤ (ρ 2 + 0) ∧ (ρ 2 + 0) ≤ 127 * (ρ 3 + 1)) ∧ True := by
    try simp only [Int.add_zero]
    rw [wI_id (by unfold inI; omega)] at h1
    exact ⟨⟨by omega, by omega⟩, ⟨by omega, by omega⟩, trivial⟩
  exact ⟨qB (key.1) (nB), qB (key.2.1) (nB)⟩
def t_gsb : KT := ((0, 0, 0, 0), [(1, 0, 0, 0), (1, 1, 0, 0)], [(-2147483648, 2147483647), (0, 4)], [(19, [(1, 0, 0, 0), (1, 1, 0, 0)])], (0, 0, 0), [], [], ([(0, 0, 508)], []), ([], []))
set_option maxRecDepth 100000 in
theorem l_gsb (g : GG) : LOK Yt (PSt g) t_gsb := by
  intro ρ α Γ M as hT hB hA hP
  have b0 : -2147483648 ≤ ρ 0 ∧ ρ 0 ≤ 2147483647 := hB 0
  have b1 : 0 ≤ ρ 1 ∧ ρ 1 ≤ 4 := hB 1
  have h0 : 0 ≤ (ρ 0 + 0) ∧ (ρ 0 + 0) ≤ 127 * (ρ 1 + 0) := hP _ (List.mem_of_getElem? (i := 0) rfl)
  try simp only [Int.add_zero] at h0
  have key : (0 ≤ ρ 0 ∧ ρ 0 ≤ 508) ∧ True := by
    try simp only [Int.add_zero]
    exact ⟨⟨by omega, by omega⟩, trivial⟩
  exact ⟨qB (key.1) (nB), nB⟩
def t_mwr1 : KT := ((0, 0, 0, 0), [(1, 0, 0, 0), (1, 1, 0, 0)], [(-2147483648, 2147483647), (128, 254)], [(27, [(1, 0, 0, 0), (0, 0, 0, 255), (1, 1, 0, 0)])], (0, 0, 0), [], [], ([], [(700, [(1, 0, 0, 0), (1, 1, 0, -255)])]), ([], []))
set_option maxRecDepth 100000 in
theorem l_mwr1 (g : GG) : LOK Yt (PSt g) t_mwr1 := by
  intro ρ α Γ M as hT hB hA hP
  have b0 : -2147483648 ≤ ρ 0 ∧ ρ 0 ≤ 2147483647 := hB 0
  have b1 : 128 ≤ ρ 1 ∧ ρ 1 ≤ 254 := hB 1
  have h0 : ρ 1 + 0 = (ρ 0 + 0 : Int).tmod (255) := hP _ (List.mem_of_getElem? (i := 0) rfl)
  try simp only [Int.add_zero] at h0
  have key : ((ρ 1 + (-255) : Int) = wr (ρ 0 + 0 : Int)) ∧ True := by
    try simp only [Int.add_zero]
    refine ⟨?_, trivial⟩
    show ρ 1 + -255 = wr (ρ 0)
    unfold wr
    rw [← h0, if_pos (by omega)]
    omega
  exact ⟨nB, qB (key.1) (nB)⟩
def t_mwr2 : KT := ((0, 0, 0, 0), [(1, 0, 0, 0), (1, 1, 0, 0)], [(-2147483648, 2147483647), (-254, -128)], [(27, [(1, 0, 0, 0), (0, 0, 0, 255), (1, 1, 0, 0)])], (0, 0, 0), [], [], ([], [(700, [(1, 0, 0, 0), (1, 1, 0, 255)])]), ([], []))
set_option maxRecDepth 100000 in
theorem l_mwr2 (g : GG) : LOK Yt (PSt g) t_mwr2 := by
  intro ρ α Γ M as hT hB hA hP
  have b0 : -2147483648 ≤ ρ 0 ∧ ρ 0 ≤ 2147483647 := hB 0
  have b1 : -254 ≤ ρ 1 ∧ ρ 1 ≤ -128 := hB 1
  have h0 : ρ 1 + 0 = (ρ 0 + 0 : Int).tmod (255) := hP _ (List.mem_of_getElem? (i := 0) rfl)
  try simp only [Int.add_zero] at h0
  have key : ((ρ 1 + 255 : Int) = wr (ρ 0 + 0 : Int)) ∧ True := by
    try simp only [Int.add_zero]
    refine ⟨?_, trivial⟩
    show ρ 1 + 255 = wr (ρ 0)
    unfold wr
    rw [← h0, if_neg (by omega), if_pos (by omega)]
  exact ⟨nB, qB (key.1) (nB)⟩
def t_mwr3 : KT := ((0, 0, 0, 0), [(1, 0, 0, 0), (1, 1, 0, 0)], [(-2147483648, 2147483647), (-127, 127)], [(27, [(1, 0, 0, 0), (0, 0, 0, 255), (1, 1, 0, 0)])], (0, 0, 0), [], [], ([], [(700, [(1, 0, 0, 0), (1, 1, 0, 0)])]), ([], []))
set_option maxRecDepth 100000 in
theorem l_mwr3 (g : GG) : LOK Yt (PSt g) t_mwr3 := by
  intro ρ α Γ M as hT hB hA hP
  have b0 : -2147483648 ≤ ρ 0 ∧ ρ 0 ≤ 2147483647 := hB 0
  have b1 : -127 ≤ ρ 1 ∧ ρ 1 ≤ 127 := hB 1
  have h0 : ρ 1 + 0 = (ρ 0 + 0 : Int).tmod (255) := hP _ (List.mem_of_getElem? (i := 0) rfl)
  try simp only [Int.add_zero] at h0
  have key : ((ρ 1 + 0 : Int) = wr (ρ 0 + 0 : Int)) ∧ True := by
    try simp only [Int.add_zero]
    refine ⟨?_, trivial⟩
    show ρ 1 = wr (ρ 0)
    unfold wr
    rw [← h0, if_neg (by omega), if_neg (by omega)]
  exact ⟨nB, qB (key.1) (nB)⟩
def t_msf1 : KT := ((0, 0, 0, 0), [(2, 0, 1, 0), (2, 1, 2, 0), (1, 2, 0, 0), (1, 3, 0, 0), (1, 4, 0, 0), (1, 5, 0, 0), (1, 6, 0, 0), (1, 7, 0, 0)], [(0, 0), (0, 0), (0, 143), (0, 143), (-127, 127), (-127, 127), (-2147483648, 2147483647), (-2147483648, 2147483647)], [(11, [(2, 0, 1, 0), (0, 0, 0, 2), (2, 1, 2, 0)]), (10, [(2, 1, 2, 0), (1, 3, 0, 0), (1, 4, 0, 0)]), (10, [(2, 1, 2, 0), (1, 2, 0, 0), (1, 5, 0, 0)]), (24, [(1, 4, 0, 0), (1, 5, 0, 0), (1, 6, 0, 0)]), (700, [(1, 6, 0, 0), (1, 7, 0, 0)])], (0, 0, 0), [], [], ([], [(501, [(2, 0, 1, 0), (1, 2, 0, 0), (1, 3, 0, 0), (1, 7, 0, 0)])]), ([], []))
set_option maxRecDepth 100000 in
theorem l_msf1 (g : GG) : LOK Yt (PSt g) t_msf1 := by
  intro ρ α Γ M as hT hB hA hP
  have g0 : Γ (α 0) = 1 := tyAt hA (i := 0) rfl
  have g1 : Γ (α 1) = 2 := tyAt hA (i := 1) rfl
  have b2 : 0 ≤ ρ 2 ∧ ρ 2 ≤ 143 := hB 2
  have b3 : 0 ≤ ρ 3 ∧ ρ 3 ≤ 143 := hB 3
  have b4 : -127 ≤ ρ 4 ∧ ρ 4 ≤ 127 := hB 4
  have b5 : -127 ≤ ρ 5 ∧ ρ 5 ≤ 127 := hB 5
  have b6 : -2147483648 ≤ ρ 6 ∧ ρ 6 ≤ 2147483647 := hB 6
  have b7 : -2147483648 ≤ ρ 7 ∧ ρ 7 ≤ 2147483647 := hB 7
  have h0 : 0 ≤ (2 : Int) ∧ M.2.2.2.1 (α 0) (2 : Int).toNat = some (α 1) := hP _ (List.mem_of_getElem? (i := 0) rfl)
  have h1 : 0 ≤ (ρ 3 + 0 : Int) ∧ M.2.2.2.2 (α 1) (ρ 3 + 0 : Int).toNat = ρ 4 + 0 := hP _ (List.mem_of_getElem? (i := 1) rfl)
  have h2 : 0 ≤ (ρ 2 + 0 : Int) ∧ M.2.2.2.2 (α 1) (ρ 2 + 0 : Int).toNat = ρ 5 + 0 := hP _ (List.mem_of_getElem? (i := 2) rfl)
  have h3 : ρ 6 + 0 = wI ((ρ 4 + 0) - (ρ 5 + 0)) := hP _ (List.mem_of_getElem? (i := 3) rfl)
  have h4 : (ρ 7 + 0 : Int) = wr (ρ 6 + 0 : Int) := hP _ (List.mem_of_getElem? (i := 4) rfl)
  try simp only [Int.add_zero] at h0 h1 h2 h3 h4
  have key : (Γ (α 0) = 1 ∧ (∀ q ∈ ([([(2, 2)], 0, 144)] : VSP), wkT Γ M (α 0) q.1) ∧ Q501 g (vsv M (α 0) ([(2, 2)], 0, 144)) (ρ 2 + 0) (ρ 3 + 0) (ρ 7 + 0)) ∧ True := by
    try simp only [Int.add_zero]
    have ea : vsv M (α 0) ([(2, 2)], 0, 144) (ρ 2).toNat = ρ 5 := (vs1 h0.2 (Nat.zero_le _) (by omega)).trans h2.2
    have eb : vsv M (α 0) ([(2, 2)], 0, 144) (ρ 3).toNat = ρ 4 := (vs1 h0.2 (Nat.zero_le _) (by omega)).trans h1.2
    rw [wI_id (by unfold inI; omega)] at h3
    refine ⟨⟨g0, pic1 hT g0 (by decide) (by decide), ?_⟩, trivial⟩
    show ρ 7 = wr (vsv M (α 0) ([(2, 2)], 0, 144) (ρ 3).toNat - vsv M (α 0) ([(2, 2)], 0, 144) (ρ 2).toNat)
    rw [ea, eb, ← h3]
    exact h4
  exact ⟨nB, qB (key.1) (nB)⟩
def t_mnh : KT := ((0, 0, 0, 0), [(2, 0, 1, 0), (2, 1, 4, 0), (1, 2, 0, 0), (1, 3, 0, 0)], [(0, 0), (0, 0), (0, 143), (0, 1)], [(500, [(2, 0, 1, 0)]), (11, [(2, 0, 1, 0), (0, 0, 0, 4), (2, 1, 4, 0)]), (10, [(2, 1, 4, 0), (1, 2, 0, 0), (1, 3, 0, 0)])], (0, 0, 0), [], [], ([(3, 0, 0)], []), ([], []))
set_option maxRecDepth 100000 in
theorem l_mnh (g : GG) : LOK Yt (PSt g) t_mnh := by
  intro ρ α Γ M as hT hB hA hP
  have g0 : Γ (α 0) = 1 := tyAt hA (i := 0) rfl
  have g1 : Γ (α 1) = 4 := tyAt hA (i := 1) rfl
  have b2 : 0 ≤ ρ 2 ∧ ρ 2 ≤ 143 := hB 2
  have b3 : 0 ≤ ρ 3 ∧ ρ 3 ≤ 1 := hB 3
  have h0 : Γ (α 0) = 1 ∧ (∀ q ∈ ([([(4, 4)], 0, 144)] : VSP), wkT Γ M (α 0) q.1) ∧ Q500 g (vsv M (α 0) ([(4, 4)], 0, 144))  := hP _ (List.mem_of_getElem? (i := 0) rfl)
  have h1 : 0 ≤ (4 : Int) ∧ M.2.2.2.1 (α 0) (4 : Int).toNat = some (α 1) := hP _ (List.mem_of_getElem? (i := 1) rfl)
  have h2 : 0 ≤ (ρ 2 + 0 : Int) ∧ M.2.2.2.2 (α 1) (ρ 2 + 0 : Int).toNat = ρ 3 + 0 := hP _ (List.mem_of_getElem? (i := 2) rfl)
  try simp only [Int.add_zero] at h0 h1 h2
  have key : (0 ≤ ρ 3 ∧ ρ 3 ≤ 0) ∧ True := by
    try simp only [Int.add_zero]
    obtain ⟨-, -, h⟩ := h0
    have e : vsv M (α 0) ([(4, 4)], 0, 144) (ρ 2).toNat = ρ 3 := (vs1 h1.2 (Nat.zero_le _) (by omega)).trans h2.2
    have := h (ρ 2).toNat (by omega)
    rw [e] at this
    exact ⟨by omega, trivial⟩
  exact ⟨qB (key.1) (nB), nB⟩
def t_mcg1 : KT := ((0, 0, 0, 0), [(2, 0, 1, 0), (1, 1, 0, 0), (1, 2, 0, 0), (1, 3, 0, 0)], [(0, 0), (0, 143), (2, 12), (-2147483648, 2147483647)], [(10, [(2, 0, 1, 0), (0, 0, 0, 1), (1, 2, 0, 0)]), (23, [(1, 1, 0, 0), (1, 2, 0, 0), (1, 3, 0, 0)])], (0, 0, 0), [], [], ([], [(506, [(2, 0, 1, 0), (1, 1, 0, 0), (1, 3, 0, 0)])]), ([], []))
set_option maxRecDepth 100000 in
theorem l_mcg1 (g : GG) : LOK Yt (PSt g) t_mcg1 := by
  intro ρ α Γ M as hT hB hA hP
  have g0 : Γ (α 0) = 1 := tyAt hA (i := 0) rfl
  have b1 : 0 ≤ ρ 1 ∧ ρ 1 ≤ 143 := hB 1
  have b2 : 2 ≤ ρ 2 ∧ ρ 2 ≤ 12 := hB 2
  have b3 : -2147483648 ≤ ρ 3 ∧ ρ 3 ≤ 2147483647 := hB 3
  have h0 : 0 ≤ (1 : Int) ∧ M.2.2.2.2 (α 0) (1 : Int).toNat = ρ 2 + 0 := hP _ (List.mem_of_getElem? (i := 0) rfl)
  have h1 : ρ 3 + 0 = wI ((ρ 1 + 0) + (ρ 2 + 0)) := hP _ (List.mem_of_getElem? (i := 1) rfl)
  try simp only [Int.add_zero] at h0 h1
  have key : (Γ (α 0) = 1 ∧ (∀ q ∈ ([([], 0, 2)] : VSP), wkT Γ M (α 0) q.1) ∧ Q506 g (vsv M (α 0) ([], 0, 2)) (ρ 1 + 0) (ρ 3 + 0)) ∧ True := by
    try simp only [Int.add_zero]
    have e : vsv M (α 0) ([], 0, 2) 1 = ρ 2 := (vs0 (by decide) (by decide)).trans h0.2
    rw [wI_id (by unfold inI; omega)] at h1
    refine ⟨⟨g0, pic1 hT g0 (by decide) (by decide), ?_⟩, trivial⟩
    show ρ 3 = ρ 1 + vsv M (α 0) ([], 0, 2) 1
    rw [e]
    exact h1
  exact ⟨nB, qB (key.1) (nB)⟩
def t_mcg2 : KT := ((0, 0, 0, 0), [(2, 0, 1, 0), (1, 1, 0, 0), (1, 2, 0, 0), (1, 3, 0, 0), (1, 4, 0, 0), (1, 5, 0, 0)], [(0, 0), (0, 143), (0, 143), (-127, 127), (-127, 127), (-2147483648, 2147483647)], [(506, [(2, 0, 1, 0), (1, 1, 0, 0), (1, 2, 0, 0)]), (501, [(2, 0, 1, 0), (1, 1, 0, 0), (1, 1, 0, 1), (1, 3, 0, 0)]), (501, [(2, 0, 1, 0), (1, 1, 0, 1), (1, 2, 0, 1), (1, 4, 0, 0)]), (23, [(1, 3, 0, 0), (1, 4, 0, 0), (1, 5, 0, 0)])], (0, 0, 0), [], [], ([], [(505, [(2, 0, 1, 0), (1, 1, 0, 0), (1, 5, 0, 0), (0, 0, 0, 2)])]), ([], []))
set_option maxRecDepth 100000 in
theorem l_mcg2 (g : GG) : LOK Yt (PSt g) t_mcg2 := by
  intro ρ α Γ M as hT hB hA hP
  have g0 : Γ (α 0) = 1 := tyAt hA (i := 0) rfl
  have b1 : 0 ≤ ρ 1 ∧ ρ 1 ≤ 143 := hB 1
  have b2 : 0 ≤ ρ 2 ∧ ρ 2 ≤ 143 := hB 2
  have b3 : -127 ≤ ρ 3 ∧ ρ 3 ≤ 127 := hB 3
  have b4 : -127 ≤ ρ 4 ∧ ρ 4 ≤ 127 := hB 4
  have b5 : -2147483648 ≤ ρ 5 ∧ ρ 5 ≤ 2147483647 := hB 5
  have h0 : Γ (α 0) = 1 ∧ (∀ q ∈ ([([], 0, 2)] : VSP), wkT Γ M (α 0) q.1) ∧ Q506 g (vsv M (α 0) ([], 0, 2)) (ρ 1 + 0) (ρ 2 + 0) := hP _ (List.mem_of_getElem? (i := 0) rfl)
  have h1 : Γ (α 0) = 1 ∧ (∀ q ∈ ([([(2, 2)], 0, 144)] : VSP), wkT Γ M (α 0) q.1) ∧ Q501 g (vsv M (α 0) ([(2, 2)], 0, 144)) (ρ 1 + 0) (ρ 1 + 1) (ρ 3 + 0) := hP _ (List.mem_of_getElem? (i := 1) rfl)
  have h2 : Γ (α 0) = 1 ∧ (∀ q ∈ ([([(2, 2)], 0, 144)] : VSP), wkT Γ M (α 0) q.1) ∧ Q501 g (vsv M (α 0) ([(2, 2)], 0, 144)) (ρ 1 + 1) (ρ 2 + 1) (ρ 4 + 0) := hP _ (List.mem_of_getElem? (i := 2) rfl)
  have h3 : ρ 5 + 0 = wI ((ρ 3 + 0) + (ρ 4 + 0)) := hP _ (List.mem_of_getElem? (i := 3) rfl)
  try simp only [Int.add_zero] at h0 h1 h2 h3
  have key : (Γ (α 0) = 1 ∧ (∀ q ∈ ([([], 0, 2), ([(2, 2)], 0, 144)] : VSP), wkT Γ M (α 0) q.1) ∧ Q505 g (vsv M (α 0) ([], 0, 2)) (vsv M (α 0) ([(2, 2)], 0, 144)) (ρ 1 + 0) (ρ 5 + 0) (2)) ∧ True := by
    try simp only [Int.add_zero]
    obtain ⟨-, -, hl⟩ := h0
    have hl : ρ 2 = ρ 1 + vsv M (α 0) ([], 0, 2) 1 := hl
    have bl : 0 ≤ vsv M (α 0) ([], 0, 2) 1 := by have := tyB hT g0 (by decide) (r := (1, 2, 2, 12)) (by decide) (j := 1) (Nat.le_refl _) (by decide); rw [vs0 (by decide) (by decide)]; exact Int.le_trans (by decide) this.1
    have el : (ρ 2).toNat = (ρ 1).toNat + (vsv M (α 0) ([], 0, 2) 1).toNat := by omega
    
    obtain ⟨-, -, h1⟩ := h1
    obtain ⟨-, -, h2⟩ := h2
    have h1 : ρ 3 = stA (vsv M (α 0) ([(2, 2)], 0, 144)) (ρ 1).toNat (ρ 1 + 1).toNat := h1
    have h2 : ρ 4 = stA (vsv M (α 0) ([(2, 2)], 0, 144)) (ρ 1 + 1).toNat (ρ 2 + 1).toNat := h2
    rw [wI_id (by unfold inI; omega)] at h3
    refine ⟨⟨g0, pic1 hT g0 (by decide) (by decide), ?_⟩, trivial⟩
    show ρ 5 = crlP _ (vsv M (α 0) ([(2, 2)], 0, 144)) (ρ 1).toNat 2
    unfold crlP
    rw [if_neg (by decide), if_neg (by decide), h3, h1, h2, show (ρ 1 + 1).toNat = (ρ 1).toNat + 1 by omega, show (ρ 2 + 1).toNat = (ρ 1).toNat + (vsv M (α 0) ([], 0, 2) 1).toNat + 1 by omega]
    omega
  exact ⟨nB, qB (key.1) (nB)⟩
def t_mcg3 : KT := ((0, 0, 0, 0), [(2, 0, 1, 0), (1, 1, 0, 0), (1, 2, 0, 0), (1, 3, 0, 0), (1, 4, 0, 0), (1, 5, 0, 0)], [(0, 0), (0, 143), (0, 143), (-1000, 1000), (-127, 127), (-2147483648, 2147483647)], [(506, [(2, 0, 1, 0), (1, 1, 0, 0), (1, 2, 0, 0)]), (505, [(2, 0, 1, 0), (1, 1, 0, 0), (1, 3, 0, 0), (0, 0, 0, 2)]), (501, [(2, 0, 1, 0), (1, 2, 0, 1), (1, 2, 0, 0), (1, 4, 0, 0)]), (23, [(1, 3, 0, 0), (1, 4, 0, 0), (1, 5, 0, 0)])], (0, 0, 0), [], [], ([], [(505, [(2, 0, 1, 0), (1, 1, 0, 0), (1, 5, 0, 0), (0, 0, 0, 3)])]), ([], []))
set_option maxRecDepth 100000 in
theorem l_mcg3 (g : GG) : LOK Yt (PSt g) t_mcg3 := by
  intro ρ α Γ M as hT hB hA hP
  have g0 : Γ (α 0) = 1 := tyAt hA (i := 0) rfl
  have b1 : 0 ≤ ρ 1 ∧ ρ 1 ≤ 143 := hB 1
  have b2 : 0 ≤ ρ 2 ∧ ρ 2 ≤ 143 := hB 2
  have b3 : -1000 ≤ ρ 3 ∧ ρ 3 ≤ 1000 := hB 3
  have b4 : -127 ≤ ρ 4 ∧ ρ 4 ≤ 127 := hB 4
  have b5 : -2147483648 ≤ ρ 5 ∧ ρ 5 ≤ 2147483647 := hB 5
  have h0 : Γ (α 0) = 1 ∧ (∀ q ∈ ([([], 0, 2)] : VSP), wkT Γ M (α 0) q.1) ∧ Q506 g (vsv M (α 0) ([], 0, 2)) (ρ 1 + 0) (ρ 2 + 0) := hP _ (List.mem_of_getElem? (i := 0) rfl)
  have h1 : Γ (α 0) = 1 ∧ (∀ q ∈ ([([], 0, 2), ([(2, 2)], 0, 144)] : VSP), wkT Γ M (α 0) q.1) ∧ Q505 g (vsv M (α 0) ([], 0, 2)) (vsv M (α 0) ([(2, 2)], 0, 144)) (ρ 1 + 0) (ρ 3 + 0) (2) := hP _ (List.mem_of_getElem? (i := 1) rfl)
  have h2 : Γ (α 0) = 1 ∧ (∀ q ∈ ([([(2, 2)], 0, 144)] : VSP), wkT Γ M (α 0) q.1) ∧ Q501 g (vsv M (α 0) ([(2, 2)], 0, 144)) (ρ 2 + 1) (ρ 2 + 0) (ρ 4 + 0) := hP _ (List.mem_of_getElem? (i := 2) rfl)
  have h3 : ρ 5 + 0 = wI ((ρ 3 + 0) + (ρ 4 + 0)) := hP _ (List.mem_of_getElem? (i := 3) rfl)
  try simp only [Int.add_zero] at h0 h1 h2 h3
  have key : (Γ (α 0) = 1 ∧ (∀ q ∈ ([([], 0, 2), ([(2, 2)], 0, 144)] : VSP), wkT Γ M (α 0) q.1) ∧ Q505 g (vsv M (α 0) ([], 0, 2)) (vsv M (α 0) ([(2, 2)], 0, 144)) (ρ 1 + 0) (ρ 5 + 0) (3)) ∧ True := by
    try simp only [Int.add_zero]
    obtain ⟨-, -, hl⟩ := h0
    have hl : ρ 2 = ρ 1 + vsv M (α 0) ([], 0, 2) 1 := hl
    have bl : 0 ≤ vsv M (α 0) ([], 0, 2) 1 := by have := tyB hT g0 (by decide) (r := (1, 2, 2, 12)) (by decide) (j := 1) (Nat.le_refl _) (by decide); rw [vs0 (by decide) (by decide)]; exact Int.le_trans (by decide) this.1
    have el : (ρ 2).toNat = (ρ 1).toNat + (vsv M (α 0) ([], 0, 2) 1).toNat := by omega
    
    obtain ⟨-, -, h1⟩ := h1
    obtain ⟨-, -, h2⟩ := h2
    have h1 : ρ 3 = crlP (vsv M (α 0) ([], 0, 2) 1).toNat (vsv M (α 0) ([(2, 2)], 0, 144)) (ρ 1).toNat 2 := h1
    have h2 : ρ 4 = stA (vsv M (α 0) ([(2, 2)], 0, 144)) (ρ 2 + 1).toNat (ρ 2).toNat := h2
    rw [wI_id (by unfold inI; omega)] at h3
    refine ⟨⟨g0, pic1 hT g0 (by decide) (by decide), ?_⟩, trivial⟩
    show ρ 5 = crlP (vsv M (α 0) ([], 0, 2) 1).toNat (vsv M (α 0) ([(2, 2)], 0, 144)) (ρ 1).toNat 3
    unfold crlP at h1 ⊢
    rw [if_neg (by decide), if_neg (by decide)] at h1
    rw [if_pos (by decide), if_neg (by decide), h3, h1, h2, show (ρ 2 + 1).toNat = (ρ 1).toNat + (vsv M (α 0) ([], 0, 2) 1).toNat + 1 by omega, el]
    omega
  exact ⟨nB, qB (key.1) (nB)⟩
def t_mcg4 : KT := ((0, 0, 0, 0), [(2, 0, 1, 0), (1, 1, 0, 0), (1, 2, 0, 0), (1, 3, 0, 0), (1, 4, 0, 0), (1, 5, 0, 0)], [(0, 0), (0, 143), (0, 143), (-1000, 1000), (-127, 127), (-2147483648, 2147483647)], [(506, [(2, 0, 1, 0), (1, 1, 0, 0), (1, 2, 0, 0)]), (505, [(2, 0, 1, 0), (1, 1, 0, 0), (1, 3, 0, 0), (0, 0, 0, 3)]), (501, [(2, 0, 1, 0), (1, 2, 0, 0), (1, 1, 0, 0), (1, 4, 0, 0)]), (23, [(1, 3, 0, 0), (1, 4, 0, 0), (1, 5, 0, 0)])], (0, 0, 0), [], [], ([], [(505, [(2, 0, 1, 0), (1, 1, 0, 0), (1, 5, 0, 0), (0, 0, 0, 4)])]), ([], []))
set_option maxRecDepth 100000 in
theorem l_mcg4 (g : GG) : LOK Yt (PSt g) t_mcg4 := by
  intro ρ α Γ M as hT hB hA hP
  have g0 : Γ (α 0) = 1 := tyAt hA (i := 0) rfl
  have b1 : 0 ≤ ρ 1 ∧ ρ 1 ≤ 143 := hB 1
  have b2 : 0 ≤ ρ 2 ∧ ρ 2 ≤ 143 := hB 2
  have b3 : -1000 ≤ ρ 3 ∧ ρ 3 ≤ 1000 := hB 3
  have b4 : -127 ≤ ρ 4 ∧ ρ 4 ≤ 127 := hB 4
  have b5 : -2147483648 ≤ ρ 5 ∧ ρ 5 ≤ 2147483647 := hB 5
  have h0 : Γ (α 0) = 1 ∧ (∀ q ∈ ([([], 0, 2)] : VSP), wkT Γ M (α 0) q.1) ∧ Q506 g (vsv M (α 0) ([], 0, 2)) (ρ 1 + 0) (ρ 2 + 0) := hP _ (List.mem_of_getElem? (i := 0) rfl)
  have h1 : Γ (α 0) = 1 ∧ (∀ q ∈ ([([], 0, 2), ([(2, 2)], 0, 144)] : VSP), wkT Γ M (α 0) q.1) ∧ Q505 g (vsv M (α 0) ([], 0, 2)) (vsv M (α 0) ([(2, 2)], 0, 144)) (ρ 1 + 0) (ρ 3 + 0) (3) := hP _ (List.mem_of_getElem? (i := 1) rfl)
  have h2 : Γ (α 0) = 1 ∧ (∀ q ∈ ([([(2, 2)], 0, 144)] : VSP), wkT Γ M (α 0) q.1) ∧ Q501 g (vsv M (α 0) ([(2, 2)], 0, 144)) (ρ 2 + 0) (ρ 1 + 0) (ρ 4 + 0) := hP _ (List.mem_of_getElem? (i := 2) rfl)
  have h3 : ρ 5 + 0 = wI ((ρ 3 + 0) + (ρ 4 + 0)) := hP _ (List.mem_of_getElem? (i := 3) rfl)
  try simp only [Int.add_zero] at h0 h1 h2 h3
  have key : (Γ (α 0) = 1 ∧ (∀ q ∈ ([([], 0, 2), ([(2, 2)], 0, 144)] : VSP), wkT Γ M (α 0) q.1) ∧ Q505 g (vsv M (α 0) ([], 0, 2)) (vsv M (α 0) ([(2, 2)], 0, 144)) (ρ 1 + 0) (ρ 5 + 0) (4)) ∧ True := by
    try simp only [Int.add_zero]
    obtain ⟨-, -, hl⟩ := h0
    have hl : ρ 2 = ρ 1 + vsv M (α 0) ([], 0, 2) 1 := hl
    have bl : 0 ≤ vsv M (α 0) ([], 0, 2) 1 := by have := tyB hT g0 (by decide) (r := (1, 2, 2, 12)) (by decide) (j := 1) (Nat.le_refl _) (by decide); rw [vs0 (by decide) (by decide)]; exact Int.le_trans (by decide) this.1
    have el : (ρ 2).toNat = (ρ 1).toNat + (vsv M (α 0) ([], 0, 2) 1).toNat := by omega
    
    obtain ⟨-, -, h1⟩ := h1
    obtain ⟨-, -, h2⟩ := h2
    have h1 : ρ 3 = crlP (vsv M (α 0) ([], 0, 2) 1).toNat (vsv M (α 0) ([(2, 2)], 0, 144)) (ρ 1).toNat 3 := h1
    have h2 : ρ 4 = stA (vsv M (α 0) ([(2, 2)], 0, 144)) (ρ 2).toNat (ρ 1).toNat := h2
    rw [wI_id (by unfold inI; omega)] at h3
    refine ⟨⟨g0, pic1 hT g0 (by decide) (by decide), ?_⟩, trivial⟩
    show ρ 5 = crlP (vsv M (α 0) ([], 0, 2) 1).toNat (vsv M (α 0) ([(2, 2)], 0, 144)) (ρ 1).toNat 4
    unfold crlP at h1 ⊢
    rw [if_pos (by decide), if_neg (by decide)] at h1
    rw [if_pos (by decide), if_pos (by decide), h3, h1, h2, el]
    omega
  exact ⟨nB, qB (key.1) (nB)⟩
def t_mcg5 : KT := ((0, 0, 0, 0), [(2, 0, 1, 0), (1, 1, 0, 0), (1, 2, 0, 0), (1, 3, 0, 0)], [(0, 0), (0, 143), (-1000, 1000), (-2147483648, 2147483647)], [(505, [(2, 0, 1, 0), (1, 1, 0, 0), (1, 2, 0, 0), (0, 0, 0, 4)]), (26, [(1, 2, 0, 0), (0, 0, 0, 255), (1, 3, 0, 0)])], (0, 0, 0), [], [], ([], [(502, [(2, 0, 1, 0), (1, 1, 0, 0), (1, 3, 0, 0)])]), ([], []))
set_option maxRecDepth 100000 in
theorem l_mcg5 (g : GG) : LOK Yt (PSt g) t_mcg5 := by
  intro ρ α Γ M as hT hB hA hP
  have g0 : Γ (α 0) = 1 := tyAt hA (i := 0) rfl
  have b1 : 0 ≤ ρ 1 ∧ ρ 1 ≤ 143 := hB 1
  have b2 : -1000 ≤ ρ 2 ∧ ρ 2 ≤ 1000 := hB 2
  have b3 : -2147483648 ≤ ρ 3 ∧ ρ 3 ≤ 2147483647 := hB 3
  have h0 : Γ (α 0) = 1 ∧ (∀ q ∈ ([([], 0, 2), ([(2, 2)], 0, 144)] : VSP), wkT Γ M (α 0) q.1) ∧ Q505 g (vsv M (α 0) ([], 0, 2)) (vsv M (α 0) ([(2, 2)], 0, 144)) (ρ 1 + 0) (ρ 2 + 0) (4) := hP _ (List.mem_of_getElem? (i := 0) rfl)
  have h1 : ρ 3 + 0 = wI ((ρ 2 + 0 : Int).tdiv (255)) := hP _ (List.mem_of_getElem? (i := 1) rfl)
  try simp only [Int.add_zero] at h0 h1
  have key : (Γ (α 0) = 1 ∧ (∀ q ∈ ([([], 0, 2), ([(2, 2)], 0, 144)] : VSP), wkT Γ M (α 0) q.1) ∧ Q502 g (vsv M (α 0) ([], 0, 2)) (vsv M (α 0) ([(2, 2)], 0, 144)) (ρ 1 + 0) (ρ 3 + 0)) ∧ True := by
    try simp only [Int.add_zero]
    obtain ⟨-, -, h⟩ := h0
    have h : ρ 2 = crl (vsv M (α 0) ([], 0, 2) 1).toNat (vsv M (α 0) ([(2, 2)], 0, 144)) (ρ 1).toNat := h
    obtain ⟨c, hc⟩ := crl_dvd (vsv M (α 0) ([], 0, 2) 1).toNat (vsv M (α 0) ([(2, 2)], 0, 144)) (ρ 1).toNat
    have e : (ρ 2).tdiv 255 = c := by rw [h, hc, Int.mul_tdiv_cancel_left _ (by decide)]
    rw [e, wI_id (by unfold inI; omega)] at h1
    refine ⟨⟨g0, pic1 hT g0 (by decide) (by decide), ?_⟩, trivial⟩
    show 255 * ρ 3 = crl (vsv M (α 0) ([], 0, 2) 1).toNat (vsv M (α 0) ([(2, 2)], 0, 144)) (ρ 1).toNat
    rw [h1, hc]
  exact ⟨nB, qB (key.1) (nB)⟩
def t_mfb1 : KT := ((0, 0, 0, 0), [(2, 0, 1, 0), (1, 1, 0, 0), (1, 2, 0, 0), (1, 3, 0, 0), (1, 4, 0, 0), (1, 5, 0, 0)], [(0, 0), (0, 143), (2, 12), (0, 143), (-2147483648, 2147483647), (-2147483648, 2147483647)], [(71, [(2, 0, 1, 0), (1, 1, 0, 0), (1, 3, 0, 0)]), (10, [(2, 0, 1, 0), (0, 0, 0, 0), (1, 2, 0, 0)]), (24, [(1, 2, 0, -1), (1, 3, 0, 0), (1, 4, 0, 0)]), (85, [(1, 3, 0, 1), (1, 4, 0, 0), (1, 5, 0, 0)])], (0, 0, 0), [], [], ([], [(507, [(2, 0, 1, 0), (1, 1, 0, 0), (1, 5, 0, 0)])]), ([], []))
set_option maxRecDepth 100000 in
theorem l_mfb1 (g : GG) : LOK Yt (PSt g) t_mfb1 := by
  intro ρ α Γ M as hT hB hA hP
  have g0 : Γ (α 0) = 1 := tyAt hA (i := 0) rfl
  have b1 : 0 ≤ ρ 1 ∧ ρ 1 ≤ 143 := hB 1
  have b2 : 2 ≤ ρ 2 ∧ ρ 2 ≤ 12 := hB 2
  have b3 : 0 ≤ ρ 3 ∧ ρ 3 ≤ 143 := hB 3
  have b4 : -2147483648 ≤ ρ 4 ∧ ρ 4 ≤ 2147483647 := hB 4
  have b5 : -2147483648 ≤ ρ 5 ∧ ρ 5 ≤ 2147483647 := hB 5
  have h0 : Γ (α 0) = 1 ∧ ρ 3 + 0 = (ρ 1 + 0) / M.2.2.2.2 (α 0) 1 := hP _ (List.mem_of_getElem? (i := 0) rfl)
  have h1 : 0 ≤ (0 : Int) ∧ M.2.2.2.2 (α 0) (0 : Int).toNat = ρ 2 + 0 := hP _ (List.mem_of_getElem? (i := 1) rfl)
  have h2 : ρ 4 + 0 = wI ((ρ 2 + (-1)) - (ρ 3 + 0)) := hP _ (List.mem_of_getElem? (i := 2) rfl)
  have h3 : ρ 5 + 0 = mnI (ρ 3 + 1) (ρ 4 + 0) := hP _ (List.mem_of_getElem? (i := 3) rfl)
  try simp only [Int.add_zero] at h0 h1 h2 h3
  have key : (Γ (α 0) = 1 ∧ (∀ q ∈ ([([], 0, 2)] : VSP), wkT Γ M (α 0) q.1) ∧ Q507 g (vsv M (α 0) ([], 0, 2)) (ρ 1 + 0) (ρ 5 + 0)) ∧ True := by
    try simp only [Int.add_zero]
    have e0 : vsv M (α 0) ([], 0, 2) 0 = ρ 2 := (vs0 (by decide) (by decide)).trans h1.2
    have e1 : vsv M (α 0) ([], 0, 2) 1 = M.2.2.2.2 (α 0) 1 := vs0 (by decide) (by decide)
    rw [wI_id (by unfold inI; omega)] at h2
    refine ⟨⟨g0, pic1 hT g0 (by decide) (by decide), ?_⟩, trivial⟩
    show ρ 5 = mnI (ρ 1 / vsv M (α 0) ([], 0, 2) 1 + 1) (vsv M (α 0) ([], 0, 2) 0 - 1 - ρ 1 / vsv M (α 0) ([], 0, 2) 1)
    rw [e0, e1, ← h0.2, show ρ 2 - 1 - ρ 3 = ρ 4 by omega]
    exact h3
  exact ⟨nB, qB (key.1) (nB)⟩
def t_mfb2 : KT := ((0, 0, 0, 0), [(2, 0, 1, 0), (1, 1, 0, 0), (1, 2, 0, 0), (1, 3, 0, 0), (1, 4, 0, 0), (1, 5, 0, 0)], [(0, 0), (0, 143), (2, 12), (0, 143), (-2147483648, 2147483647), (-2147483648, 2147483647)], [(72, [(2, 0, 1, 0), (1, 1, 0, 0), (1, 3, 0, 0)]), (10, [(2, 0, 1, 0), (0, 0, 0, 1), (1, 2, 0, 0)]), (24, [(1, 2, 0, -1), (1, 3, 0, 0), (1, 4, 0, 0)]), (85, [(1, 3, 0, 1), (1, 4, 0, 0), (1, 5, 0, 0)])], (0, 0, 0), [], [], ([], [(508, [(2, 0, 1, 0), (1, 1, 0, 0), (1, 5, 0, 0)])]), ([], []))
set_option maxRecDepth 100000 in
theorem l_mfb2 (g : GG) : LOK Yt (PSt g) t_mfb2 := by
  intro ρ α Γ M as hT hB hA hP
  have g0 : Γ (α 0) = 1 := tyAt hA (i := 0) rfl
  have b1 : 0 ≤ ρ 1 ∧ ρ 1 ≤ 143 := hB 1
  have b2 : 2 ≤ ρ 2 ∧ ρ 2 ≤ 12 := hB 2
  have b3 : 0 ≤ ρ 3 ∧ ρ 3 ≤ 143 := hB 3
  have b4 : -2147483648 ≤ ρ 4 ∧ ρ 4 ≤ 2147483647 := hB 4
  have b5 : -2147483648 ≤ ρ 5 ∧ ρ 5 ≤ 2147483647 := hB 5
  have h0 : Γ (α 0) = 1 ∧ ρ 3 + 0 = (ρ 1 + 0) % M.2.2.2.2 (α 0) 1 := hP _ (List.mem_of_getElem? (i := 0) rfl)
  have h1 : 0 ≤ (1 : Int) ∧ M.2.2.2.2 (α 0) (1 : Int).toNat = ρ 2 + 0 := hP _ (List.mem_of_getElem? (i := 1) rfl)
  have h2 : ρ 4 + 0 = wI ((ρ 2 + (-1)) - (ρ 3 + 0)) := hP _ (List.mem_of_getElem? (i := 2) rfl)
  have h3 : ρ 5 + 0 = mnI (ρ 3 + 1) (ρ 4 + 0) := hP _ (List.mem_of_getElem? (i := 3) rfl)
  try simp only [Int.add_zero] at h0 h1 h2 h3
  have key : (Γ (α 0) = 1 ∧ (∀ q ∈ ([([], 0, 2)] : VSP), wkT Γ M (α 0) q.1) ∧ Q508 g (vsv M (α 0) ([], 0, 2)) (ρ 1 + 0) (ρ 5 + 0)) ∧ True := by
    try simp only [Int.add_zero]
    have e1 : vsv M (α 0) ([], 0, 2) 1 = M.2.2.2.2 (α 0) 1 := vs0 (by decide) (by decide)
    have e2 : M.2.2.2.2 (α 0) 1 = ρ 2 := h1.2
    rw [wI_id (by unfold inI; omega)] at h2
    refine ⟨⟨g0, pic1 hT g0 (by decide) (by decide), ?_⟩, trivial⟩
    show ρ 5 = mnI (ρ 1 % vsv M (α 0) ([], 0, 2) 1 + 1) (vsv M (α 0) ([], 0, 2) 1 - 1 - ρ 1 % vsv M (α 0) ([], 0, 2) 1)
    rw [e1, ← h0.2, e2, show ρ 2 - 1 - ρ 3 = ρ 4 by omega]
    exact h3
  exact ⟨nB, qB (key.1) (nB)⟩
def t_mfb3 : KT := ((0, 0, 0, 0), [(2, 0, 1, 0), (1, 1, 0, 0), (1, 2, 0, 0), (1, 3, 0, 0), (1, 4, 0, 0)], [(0, 0), (0, 143), (-2147483648, 2147483647), (-2147483648, 2147483647), (-2147483648, 2147483647)], [(507, [(2, 0, 1, 0), (1, 1, 0, 0), (1, 2, 0, 0)]), (508, [(2, 0, 1, 0), (1, 1, 0, 0), (1, 3, 0, 0)]), (85, [(1, 2, 0, 0), (1, 3, 0, 0), (1, 4, 0, 0)])], (0, 0, 0), [], [], ([], [(520, [(2, 0, 1, 0), (1, 1, 0, 0), (1, 4, 0, 0)])]), ([], []))
set_option maxRecDepth 100000 in
theorem l_mfb3 (g : GG) : LOK Yt (PSt g) t_mfb3 := by
  intro ρ α Γ M as hT hB hA hP
  have g0 : Γ (α 0) = 1 := tyAt hA (i := 0) rfl
  have b1 : 0 ≤ ρ 1 ∧ ρ 1 ≤ 143 := hB 1
  have b2 : -2147483648 ≤ ρ 2 ∧ ρ 2 ≤ 2147483647 := hB 2
  have b3 : -2147483648 ≤ ρ 3 ∧ ρ 3 ≤ 2147483647 := hB 3
  have b4 : -2147483648 ≤ ρ 4 ∧ ρ 4 ≤ 2147483647 := hB 4
  have h0 : Γ (α 0) = 1 ∧ (∀ q ∈ ([([], 0, 2)] : VSP), wkT Γ M (α 0) q.1) ∧ Q507 g (vsv M (α 0) ([], 0, 2)) (ρ 1 + 0) (ρ 2 + 0) := hP _ (List.mem_of_getElem? (i := 0) rfl)
  have h1 : Γ (α 0) = 1 ∧ (∀ q ∈ ([([], 0, 2)] : VSP), wkT Γ M (α 0) q.1) ∧ Q508 g (vsv M (α 0) ([], 0, 2)) (ρ 1 + 0) (ρ 3 + 0) := hP _ (List.mem_of_getElem? (i := 1) rfl)
  have h2 : ρ 4 + 0 = mnI (ρ 2 + 0) (ρ 3 + 0) := hP _ (List.mem_of_getElem? (i := 2) rfl)
  try simp only [Int.add_zero] at h0 h1 h2
  have key : (Γ (α 0) = 1 ∧ (∀ q ∈ ([([], 0, 2)] : VSP), wkT Γ M (α 0) q.1) ∧ Q520 g (vsv M (α 0) ([], 0, 2)) (ρ 1 + 0) (ρ 4 + 0)) ∧ True := by
    try simp only [Int.add_zero]
    obtain ⟨-, -, q1⟩ := h0
    obtain ⟨-, -, q2⟩ := h1
    have q1 : ρ 2 = mnI (ρ 1 / vsv M (α 0) ([], 0, 2) 1 + 1) (vsv M (α 0) ([], 0, 2) 0 - 1 - ρ 1 / vsv M (α 0) ([], 0, 2) 1) := q1
    have q2 : ρ 3 = mnI (ρ 1 % vsv M (α 0) ([], 0, 2) 1 + 1) (vsv M (α 0) ([], 0, 2) 1 - 1 - ρ 1 % vsv M (α 0) ([], 0, 2) 1) := q2
    refine ⟨⟨g0, pic1 hT g0 (by decide) (by decide), ?_⟩, trivial⟩
    show ρ 4 = mnI (mnI (ρ 1 / vsv M (α 0) ([], 0, 2) 1 + 1) (vsv M (α 0) ([], 0, 2) 0 - 1 - ρ 1 / vsv M (α 0) ([], 0, 2) 1)) (mnI (ρ 1 % vsv M (α 0) ([], 0, 2) 1 + 1) (vsv M (α 0) ([], 0, 2) 1 - 1 - ρ 1 % vsv M (α 0) ([], 0, 2) 1))
    rw [← q1, ← q2]
    exact h2
  exact ⟨nB, qB (key.1) (nB)⟩
def t_mhp0 : KT := ((0, 0, 0, 0), [(2, 0, 1, 0), (1, 1, 0, 0)], [(0, 0), (-2147483648, -1)], [], (0, 0, 0), [], [], ([], [(532, [(2, 0, 1, 0), (1, 1, 0, 0)])]), ([], []))
set_option maxRecDepth 100000 in
theorem l_mhp0 (g : GG) : LOK Yt (PSt g) t_mhp0 := by
  intro ρ α Γ M as hT hB hA hP
  have g0 : Γ (α 0) = 1 := tyAt hA (i := 0) rfl
  have b1 : -2147483648 ≤ ρ 1 ∧ ρ 1 ≤ -1 := hB 1
  have key : (Γ (α 0) = 1 ∧ (∀ q ∈ ([([], 0, 2)] : VSP), wkT Γ M (α 0) q.1) ∧ Q532 g (vsv M (α 0) ([], 0, 2)) (ρ 1 + 0)) ∧ True := by
    try simp only [Int.add_zero]
    exact ⟨⟨g0, pic1 hT g0 (by decide) (by decide), fun h => by have := h.1; omega⟩, trivial⟩
  exact ⟨nB, qB (key.1) (nB)⟩
def t_mhp1 : KT := ((0, 0, 0, 0), [(2, 0, 1, 0), (1, 1, 0, 0), (1, 2, 0, 0)], [(0, 0), (-2147483648, 2147483647), (-2147483648, 2147483647)], [(5, [(2, 0, 1, 0), (1, 2, 0, 0)]), (6, [(1, 2, 0, 0), (1, 1, 0, 0)])], (0, 0, 0), [], [], ([], [(532, [(2, 0, 1, 0), (1, 1, 0, 0)])]), ([], []))
set_option maxRecDepth 100000 in
theorem l_mhp1 (g : GG) : LOK Yt (PSt g) t_mhp1 := by
  intro ρ α Γ M as hT hB hA hP
  have g0 : Γ (α 0) = 1 := tyAt hA (i := 0) rfl
  have b1 : -2147483648 ≤ ρ 1 ∧ ρ 1 ≤ 2147483647 := hB 1
  have b2 : -2147483648 ≤ ρ 2 ∧ ρ 2 ≤ 2147483647 := hB 2
  have h0 : Γ (α 0) = 1 ∧ ρ 2 + 0 = M.2.2.2.2 (α 0) 0 * M.2.2.2.2 (α 0) 1 := hP _ (List.mem_of_getElem? (i := 0) rfl)
  have h1 : ρ 2 + 0 ≤ ρ 1 + 0 := hP _ (List.mem_of_getElem? (i := 1) rfl)
  try simp only [Int.add_zero] at h0 h1
  have key : (Γ (α 0) = 1 ∧ (∀ q ∈ ([([], 0, 2)] : VSP), wkT Γ M (α 0) q.1) ∧ Q532 g (vsv M (α 0) ([], 0, 2)) (ρ 1 + 0)) ∧ True := by
    try simp only [Int.add_zero]
    have e0 : vsv M (α 0) ([], 0, 2) 0 = M.2.2.2.2 (α 0) 0 := vs0 (by decide) (by decide)
    have e1 : vsv M (α 0) ([], 0, 2) 1 = M.2.2.2.2 (α 0) 1 := vs0 (by decide) (by decide)
    
    refine ⟨⟨g0, pic1 hT g0 (by decide) (by decide), ?_⟩, trivial⟩
    show ¬ isPx (vsv M (α 0) ([], 0, 2) 0) (vsv M (α 0) ([], 0, 2) 1) (ρ 1)
    rw [e0, e1]
    have h0 := h0.2
    exact fun h => by have := h.2; omega
  exact ⟨nB, qB (key.1) (nB)⟩
def t_mhr0 : KT := ((0, 0, 0, 0), [(2, 0, 1, 0), (1, 1, 0, 0)], [(0, 0), (-2147483648, 2147483647)], [(532, [(2, 0, 1, 0), (1, 1, 0, 0)])], (0, 0, 0), [], [], ([], [(530, [(2, 0, 1, 0), (1, 1, 0, 0)])]), ([], []))
set_option maxRecDepth 100000 in
theorem l_mhr0 (g : GG) : LOK Yt (PSt g) t_mhr0 := by
  intro ρ α Γ M as hT hB hA hP
  have g0 : Γ (α 0) = 1 := tyAt hA (i := 0) rfl
  have b1 : -2147483648 ≤ ρ 1 ∧ ρ 1 ≤ 2147483647 := hB 1
  have h0 : Γ (α 0) = 1 ∧ (∀ q ∈ ([([], 0, 2)] : VSP), wkT Γ M (α 0) q.1) ∧ Q532 g (vsv M (α 0) ([], 0, 2)) (ρ 1 + 0) := hP _ (List.mem_of_getElem? (i := 0) rfl)
  try simp only [Int.add_zero] at h0
  have key : (Γ (α 0) = 1 ∧ (∀ q ∈ ([([], 0, 2)] : VSP), wkT Γ M (α 0) q.1) ∧ Q530 g (vsv M (α 0) ([], 0, 2)) (ρ 1 + 0)) ∧ True := by
    try simp only [Int.add_zero]
    obtain ⟨t1, t2, h⟩ := h0
    exact ⟨⟨t1, t2, fun q => h ⟨q.1, q.2.1⟩⟩, trivial⟩
  exact ⟨nB, qB (key.1) (nB)⟩
def t_mhr1 : KT := ((0, 0, 0, 0), [(2, 0, 1, 0), (1, 1, 0, 0), (1, 2, 0, 0), (1, 3, 0, 0)], [(0, 0), (-2147483648, 2147483647), (-2147483648, 2147483647), (-2147483648, 2147483647)], [(71, [(2, 0, 1, 0), (1, 1, 0, 0), (1, 2, 0, 0)]), (10, [(2, 0, 1, 0), (0, 0, 0, 0), (1, 3, 0, 0)]), (6, [(1, 3, 0, -1), (1, 2, 0, 0)])], (0, 0, 0), [], [], ([], [(530, [(2, 0, 1, 0), (1, 1, 0, 0)])]), ([], []))
set_option maxRecDepth 100000 in
theorem l_mhr1 (g : GG) : LOK Yt (PSt g) t_mhr1 := by
  intro ρ α Γ M as hT hB hA hP
  have g0 : Γ (α 0) = 1 := tyAt hA (i := 0) rfl
  have b1 : -2147483648 ≤ ρ 1 ∧ ρ 1 ≤ 2147483647 := hB 1
  have b2 : -2147483648 ≤ ρ 2 ∧ ρ 2 ≤ 2147483647 := hB 2
  have b3 : -2147483648 ≤ ρ 3 ∧ ρ 3 ≤ 2147483647 := hB 3
  have h0 : Γ (α 0) = 1 ∧ ρ 2 + 0 = (ρ 1 + 0) / M.2.2.2.2 (α 0) 1 := hP _ (List.mem_of_getElem? (i := 0) rfl)
  have h1 : 0 ≤ (0 : Int) ∧ M.2.2.2.2 (α 0) (0 : Int).toNat = ρ 3 + 0 := hP _ (List.mem_of_getElem? (i := 1) rfl)
  have h2 : ρ 3 + (-1) ≤ ρ 2 + 0 := hP _ (List.mem_of_getElem? (i := 2) rfl)
  try simp only [Int.add_zero] at h0 h1 h2
  have key : (Γ (α 0) = 1 ∧ (∀ q ∈ ([([], 0, 2)] : VSP), wkT Γ M (α 0) q.1) ∧ Q530 g (vsv M (α 0) ([], 0, 2)) (ρ 1 + 0)) ∧ True := by
    try simp only [Int.add_zero]
    have e0 : vsv M (α 0) ([], 0, 2) 0 = M.2.2.2.2 (α 0) 0 := vs0 (by decide) (by decide)
    have e1 : vsv M (α 0) ([], 0, 2) 1 = M.2.2.2.2 (α 0) 1 := vs0 (by decide) (by decide)
    refine ⟨⟨g0, pic1 hT g0 (by decide) (by decide), ?_⟩, trivial⟩
    show ¬ rgP (vsv M (α 0) ([], 0, 2) 0) (vsv M (α 0) ([], 0, 2) 1) (ρ 1)
    rw [e0, e1]
    
    have h0 := h0.2
    have h1 : M.2.2.2.2 (α 0) 0 = ρ 3 := h1.2
    exact fun q => by have := q.2.2.1; omega
  exact ⟨nB, qB (key.1) (nB)⟩
def t_mhr2 : KT := ((0, 0, 0, 0), [(2, 0, 1, 0), (1, 1, 0, 0), (1, 2, 0, 0), (1, 3, 0, 0)], [(0, 0), (-2147483648, 2147483647), (-2147483648, 2147483647), (-2147483648, 2147483647)], [(72, [(2, 0, 1, 0), (1, 1, 0, 0), (1, 2, 0, 0)]), (10, [(2, 0, 1, 0), (0, 0, 0, 1), (1, 3, 0, 0)]), (6, [(1, 3, 0, -1), (1, 2, 0, 0)])], (0, 0, 0), [], [], ([], [(530, [(2, 0, 1, 0), (1, 1, 0, 0)])]), ([], []))
set_option maxRecDepth 100000 in
theorem l_mhr2 (g : GG) : LOK Yt (PSt g) t_mhr2 := by
  intro ρ α Γ M as hT hB hA hP
  have g0 : Γ (α 0) = 1 := tyAt hA (i := 0) rfl
  have b1 : -2147483648 ≤ ρ 1 ∧ ρ 1 ≤ 2147483647 := hB 1
  have b2 : -2147483648 ≤ ρ 2 ∧ ρ 2 ≤ 2147483647 := hB 2
  have b3 : -2147483648 ≤ ρ 3 ∧ ρ 3 ≤ 2147483647 := hB 3
  have h0 : Γ (α 0) = 1 ∧ ρ 2 + 0 = (ρ 1 + 0) % M.2.2.2.2 (α 0) 1 := hP _ (List.mem_of_getElem? (i := 0) rfl)
  have h1 : 0 ≤ (1 : Int) ∧ M.2.2.2.2 (α 0) (1 : Int).toNat = ρ 3 + 0 := hP _ (List.mem_of_getElem? (i := 1) rfl)
  have h2 : ρ 3 + (-1) ≤ ρ 2 + 0 := hP _ (List.mem_of_getElem? (i := 2) rfl)
  try simp only [Int.add_zero] at h0 h1 h2
  have key : (Γ (α 0) = 1 ∧ (∀ q ∈ ([([], 0, 2)] : VSP), wkT Γ M (α 0) q.1) ∧ Q530 g (vsv M (α 0) ([], 0, 2)) (ρ 1 + 0)) ∧ True := by
    try simp only [Int.add_zero]
    have e0 : vsv M (α 0) ([], 0, 2) 0 = M.2.2.2.2 (α 0) 0 := vs0 (by decide) (by decide)
    have e1 : vsv M (α 0) ([], 0, 2) 1 = M.2.2.2.2 (α 0) 1 := vs0 (by decide) (by decide)
    refine ⟨⟨g0, pic1 hT g0 (by decide) (by decide), ?_⟩, trivial⟩
    show ¬ rgP (vsv M (α 0) ([], 0, 2) 0) (vsv M (α 0) ([], 0, 2) 1) (ρ 1)
    rw [e0, e1]
    
    have h0 := h0.2
    have h1 : M.2.2.2.2 (α 0) 1 = ρ 3 := h1.2
    exact fun q => by have := q.2.2.2; omega
  exact ⟨nB, qB (key.1) (nB)⟩
def t_mtr0 : KT := ((0, 0, 0, 0), [(2, 0, 21, 0), (2, 1, 1, 0), (1, 2, 0, 0), (1, 3, 0, 0)], [(0, 0), (0, 0), (0, 0), (0, 0)], [], (0, 0, 0), [], [], ([], [(516, [(2, 0, 21, 0), (2, 1, 1, 0), (1, 2, 0, 0), (1, 3, 0, 0)]), (518, [(2, 0, 21, 0), (1, 3, 0, 0)]), (531, [(2, 1, 1, 0), (1, 2, 0, 0)])]), ([], []))
set_option maxRecDepth 100000 in
theorem l_mtr0 (g : GG) : LOK Yt (PSt g) t_mtr0 := by
  intro ρ α Γ M as hT hB hA hP
  have g0 : Γ (α 0) = 21 := tyAt hA (i := 0) rfl
  have g1 : Γ (α 1) = 1 := tyAt hA (i := 1) rfl
  have b2 : 0 ≤ ρ 2 ∧ ρ 2 ≤ 0 := hB 2
  have b3 : 0 ≤ ρ 3 ∧ ρ 3 ≤ 0 := hB 3
  have key : (Γ (α 0) = 21 ∧ (∀ q ∈ ([([(1, 22)], 0, 121), ([(2, 23)], 0, 121)] : VSP), wkT Γ M (α 0) q.1) ∧ Γ (α 1) = 1 ∧ (∀ q ∈ ([([], 0, 2), ([(2, 2)], 0, 144)] : VSP), wkT Γ M (α 1) q.1) ∧ Q516 g (vsv M (α 0) ([(1, 22)], 0, 121)) (vsv M (α 0) ([(2, 23)], 0, 121)) (vsv M (α 1) ([], 0, 2)) (vsv M (α 1) ([(2, 2)], 0, 144)) (ρ 2 + 0) (ρ 3 + 0)) ∧ (Γ (α 0) = 21 ∧ (∀ q ∈ ([([(3, 24)], 0, 121)] : VSP), wkT Γ M (α 0) q.1) ∧ Q518 g (vsv M (α 0) ([(3, 24)], 0, 121)) (ρ 3 + 0)) ∧ (Γ (α 1) = 1 ∧ (∀ q ∈ ([([], 0, 2)] : VSP), wkT Γ M (α 1) q.1) ∧ Q531 g (vsv M (α 1) ([], 0, 2)) (ρ 2 + 0)) ∧ True := by
    try simp only [Int.add_zero]
    have e2 : ρ 2 = 0 := by omega
    have e3 : ρ 3 = 0 := by omega
    rw [e2, e3]
    obtain ⟨hr, hc⟩ := ch_dims hT g1
    have e0 : (vsv M (α 1) ([], 0, 2)) 0 = M.2.2.2.2 (α 1) 0 := vs0 (by decide) (by decide)
    have e1 : (vsv M (α 1) ([], 0, 2)) 1 = M.2.2.2.2 (α 1) 1 := vs0 (by decide) (by decide)
    refine ⟨⟨g0, pic1 hT g0 (by decide) (by decide), g1, pic1 hT g1 (by decide) (by decide), ?_⟩, ⟨g0, pic1 hT g0 (by decide) (by decide), fun i hi => by omega⟩, ⟨g1, pic1 hT g1 (by decide) (by decide), ?_⟩, trivial⟩
    · exact ⟨⟨by decide, by decide⟩, ⟨fun i hi => by omega, fun i j _ hj => by omega⟩, fun i hi => by omega, fun q hq hn _ => by have := hq.1; omega⟩
    · show (0 : Int) ≤ (vsv M (α 1) ([], 0, 2)) 0 * (vsv M (α 1) ([], 0, 2)) 1
      rw [e0, e1]
      exact Int.mul_nonneg (by omega) (by omega)
  exact ⟨nB, qB (key.1) (qB (key.2.1) (qB (key.2.2.1) (nB)))⟩
def t_mtr81 : KT := ((0, 0, 0, 0), [(2, 0, 1, 0), (1, 1, 0, 0), (1, 2, 0, 0)], [(0, 0), (-2147483648, 2147483647), (-2147483648, 2147483647)], [(5, [(2, 0, 1, 0), (1, 2, 0, 0)]), (21, [(1, 1, 0, 0), (1, 2, 0, 0)]), (1064, [(2, 0, 1, 0), (0, 0, 0, 2), (0, 0, 0, 9)]), (1065, [(2, 0, 1, 0), (0, 0, 0, 2), (0, 0, 0, 9)])], (0, 0, 0), [], [], ([(1, -2147483648, 80)], [(531, [(2, 0, 1, 0), (1, 1, 0, 1)])]), ([], []))
set_option maxRecDepth 100000 in
theorem l_mtr81 (g : GG) : LOK Yt (PSt g) t_mtr81 := by
  intro ρ α Γ M as hT hB hA hP
  have g0 : Γ (α 0) = 1 := tyAt hA (i := 0) rfl
  have b1 : -2147483648 ≤ ρ 1 ∧ ρ 1 ≤ 2147483647 := hB 1
  have b2 : -2147483648 ≤ ρ 2 ∧ ρ 2 ≤ 2147483647 := hB 2
  have h0 : Γ (α 0) = 1 ∧ ρ 2 + 0 = M.2.2.2.2 (α 0) 0 * M.2.2.2.2 (α 0) 1 := hP _ (List.mem_of_getElem? (i := 0) rfl)
  have h1 : ρ 1 + 0 < ρ 2 + 0 := hP _ (List.mem_of_getElem? (i := 1) rfl)
  have h2 : Γ (α 0) = 1 ∧ 1 ≠ 0 ∧ 2 ≤ M.2.2.2.2 (α 0) 0 ∧ M.2.2.2.2 (α 0) 0 ≤ 9 := (fId_eq g 1 0 (α 0) (2) (9) Γ M (by decide)).mp (hP _ (List.mem_of_getElem? (i := 2) rfl))
  have h3 : Γ (α 0) = 1 ∧ 1 ≠ 0 ∧ 2 ≤ M.2.2.2.2 (α 0) 1 ∧ M.2.2.2.2 (α 0) 1 ≤ 9 := (fId_eq g 1 1 (α 0) (2) (9) Γ M (by decide)).mp (hP _ (List.mem_of_getElem? (i := 3) rfl))
  try simp only [Int.add_zero] at h0 h1 h2 h3
  have key : (-2147483648 ≤ ρ 1 ∧ ρ 1 ≤ 80) ∧ (Γ (α 0) = 1 ∧ (∀ q ∈ ([([], 0, 2)] : VSP), wkT Γ M (α 0) q.1) ∧ Q531 g (vsv M (α 0) ([], 0, 2)) (ρ 1 + 1)) ∧ True := by
    try simp only [Int.add_zero]
    have e0 : vsv M (α 0) ([], 0, 2) 0 = M.2.2.2.2 (α 0) 0 := vs0 (by decide) (by decide)
    have e1 : vsv M (α 0) ([], 0, 2) 1 = M.2.2.2.2 (α 0) 1 := vs0 (by decide) (by decide)
    
    have x := h0.2
    have y : M.2.2.2.2 (α 0) 0 * M.2.2.2.2 (α 0) 1 ≤ 9 * 9 := Int.mul_le_mul h2.2.2.2 h3.2.2.2 (Int.le_trans (by decide) h3.2.2.1) (by decide)
    refine ⟨⟨b1.1, by omega⟩, ⟨g0, pic1 hT g0 (by decide) (by decide), ?_⟩, trivial⟩
    show ρ 1 + 1 ≤ vsv M (α 0) ([], 0, 2) 0 * vsv M (α 0) ([], 0, 2) 1
    rw [e0, e1]
    omega
  exact ⟨qB (key.1) (nB), qB (key.2.1) (nB)⟩
def t_mtrk : KT := ((0, 0, 0, 0), [(2, 0, 21, 0), (2, 1, 1, 0), (1, 2, 0, 0), (1, 3, 0, 0)], [(0, 0), (0, 0), (0, 80), (-2147483648, 2147483647)], [(516, [(2, 0, 21, 0), (2, 1, 1, 0), (1, 2, 0, 0), (1, 3, 0, 0)])], (0, 0, 0), [], [], ([(3, 0, 80)], []), ([], []))
set_option maxRecDepth 100000 in
theorem l_mtrk (g : GG) : LOK Yt (PSt g) t_mtrk := by
  intro ρ α Γ M as hT hB hA hP
  have g0 : Γ (α 0) = 21 := tyAt hA (i := 0) rfl
  have g1 : Γ (α 1) = 1 := tyAt hA (i := 1) rfl
  have b2 : 0 ≤ ρ 2 ∧ ρ 2 ≤ 80 := hB 2
  have b3 : -2147483648 ≤ ρ 3 ∧ ρ 3 ≤ 2147483647 := hB 3
  have h0 : Γ (α 0) = 21 ∧ (∀ q ∈ ([([(1, 22)], 0, 121), ([(2, 23)], 0, 121)] : VSP), wkT Γ M (α 0) q.1) ∧ Γ (α 1) = 1 ∧ (∀ q ∈ ([([], 0, 2), ([(2, 2)], 0, 144)] : VSP), wkT Γ M (α 1) q.1) ∧ Q516 g (vsv M (α 0) ([(1, 22)], 0, 121)) (vsv M (α 0) ([(2, 23)], 0, 121)) (vsv M (α 1) ([], 0, 2)) (vsv M (α 1) ([(2, 2)], 0, 144)) (ρ 2 + 0) (ρ 3 + 0) := hP _ (List.mem_of_getElem? (i := 0) rfl)
  try simp only [Int.add_zero] at h0
  have key : (0 ≤ ρ 3 ∧ ρ 3 ≤ 80) ∧ True := by
    try simp only [Int.add_zero]
    obtain ⟨-, -, -, -, h⟩ := h0
    have := h.1
    exact ⟨⟨by omega, by omega⟩, trivial⟩
  exact ⟨qB (key.1) (nB), nB⟩
def t_mtr1 : KT := ((0, 0, 0, 0), [(2, 0, 21, 0), (2, 1, 1, 0), (1, 2, 0, 0), (1, 3, 0, 0), (2, 4, 22, 0)], [(0, 0), (0, 0), (0, 80), (0, 80), (0, 0)], [(516, [(2, 0, 21, 0), (2, 1, 1, 0), (1, 2, 0, 0), (1, 3, 0, 0)]), (11, [(2, 0, 21, 0), (0, 0, 0, 1), (2, 4, 22, 0)])], (0, 0, 0), [], [], ([], [(610, [(2, 4, 22, 0), (1, 3, 0, 0), (2, 0, 21, 0), (2, 1, 1, 0), (1, 2, 0, 0), (1, 3, 0, 0)])]), ([], []))
set_option maxRecDepth 100000 in
theorem l_mtr1 (g : GG) : LOK Yt (PSt g) t_mtr1 := by
  intro ρ α Γ M as hT hB hA hP
  have g0 : Γ (α 0) = 21 := tyAt hA (i := 0) rfl
  have g1 : Γ (α 1) = 1 := tyAt hA (i := 1) rfl
  have b2 : 0 ≤ ρ 2 ∧ ρ 2 ≤ 80 := hB 2
  have b3 : 0 ≤ ρ 3 ∧ ρ 3 ≤ 80 := hB 3
  have g4 : Γ (α 4) = 22 := tyAt hA (i := 4) rfl
  have h0 : Γ (α 0) = 21 ∧ (∀ q ∈ ([([(1, 22)], 0, 121), ([(2, 23)], 0, 121)] : VSP), wkT Γ M (α 0) q.1) ∧ Γ (α 1) = 1 ∧ (∀ q ∈ ([([], 0, 2), ([(2, 2)], 0, 144)] : VSP), wkT Γ M (α 1) q.1) ∧ Q516 g (vsv M (α 0) ([(1, 22)], 0, 121)) (vsv M (α 0) ([(2, 23)], 0, 121)) (vsv M (α 1) ([], 0, 2)) (vsv M (α 1) ([(2, 2)], 0, 144)) (ρ 2 + 0) (ρ 3 + 0) := hP _ (List.mem_of_getElem? (i := 0) rfl)
  have h1 : 0 ≤ (1 : Int) ∧ M.2.2.2.1 (α 0) (1 : Int).toNat = some (α 4) := hP _ (List.mem_of_getElem? (i := 1) rfl)
  try simp only [Int.add_zero] at h0 h1
  have key : (Γ (α 4) = 22 ∧ wlk M (α 0) [(1, 22)] = (α 4) ∧ wkT Γ M (α 0) [(1, 22)] ∧ Γ (α 0) = 21 ∧ (∀ q ∈ ([([(2, 23)], 0, 121)] : VSP), wkT Γ M (α 0) q.1) ∧ Γ (α 1) = 1 ∧ (∀ q ∈ ([([], 0, 2), ([(2, 2)], 0, 144)] : VSP), wkT Γ M (α 1) q.1) ∧ Q610 g (hcl [vi (ρ 3 + 0)] (clp [(0, 121)] (M.2.2.2.2 (α 4)))) (ρ 3 + 0) (vsv M (α 0) ([(2, 23)], 0, 121)) (vsv M (α 1) ([], 0, 2)) (vsv M (α 1) ([(2, 2)], 0, 144)) (ρ 2 + 0) (ρ 3 + 0)) ∧ True := by
    try simp only [Int.add_zero]
    have e : fl M (α 0) 1 = α 4 := fl_eq (show M.2.2.2.1 (α 0) 1 = some (α 4) from h1.2)
    obtain ⟨-, -, -, -, h⟩ := h0
    have h : TRN ((vsv M (α 1) ([], 0, 2)) 0) ((vsv M (α 1) ([], 0, 2)) 1) (vsv M (α 1) ([(2, 2)], 0, 144)) (ρ 3) (vsv M (α 0) ([(1, 22)], 0, 121)) (vsv M (α 0) ([(2, 23)], 0, 121)) (ρ 2) := h
    refine ⟨⟨g4, e, wk1 h1.2 g4, g0, pic1 hT g0 (by decide) (by decide), g1, pic1 hT g1 (by decide) (by decide), rfl, ?_⟩, trivial⟩
    refine TRN_c (fun j hj => ?_) (fun j _ => rfl) h
    rw [hcl1 (by omega)]
    show _ = clp [(0, 121)] (M.2.2.2.2 (fl M (α 0) 1)) j
    rw [e]
  exact ⟨nB, qB (key.1) (nB)⟩
def t_mtr2 : KT := ((0, 0, 0, 0), [(2, 0, 21, 0), (2, 1, 1, 0), (1, 2, 0, 0), (1, 3, 0, 0), (2, 4, 22, 0)], [(0, 0), (0, 0), (0, 80), (0, 80), (0, 0)], [(610, [(2, 4, 22, 0), (1, 3, 0, 0), (2, 0, 21, 0), (2, 1, 1, 0), (1, 2, 0, 0), (1, 3, 0, 0)]), (10, [(2, 4, 22, 0), (1, 3, 0, 0), (1, 2, 0, 0)])], (0, 0, 0), [], [], ([], [(517, [(2, 0, 21, 0), (2, 1, 1, 0), (1, 2, 0, 0), (1, 3, 0, 0)])]), ([], []))
set_option maxRecDepth 100000 in
theorem l_mtr2 (g : GG) : LOK Yt (PSt g) t_mtr2 := by
  intro ρ α Γ M as hT hB hA hP
  have g0 : Γ (α 0) = 21 := tyAt hA (i := 0) rfl
  have g1 : Γ (α 1) = 1 := tyAt hA (i := 1) rfl
  have b2 : 0 ≤ ρ 2 ∧ ρ 2 ≤ 80 := hB 2
  have b3 : 0 ≤ ρ 3 ∧ ρ 3 ≤ 80 := hB 3
  have g4 : Γ (α 4) = 22 := tyAt hA (i := 4) rfl
  have h0 : Γ (α 4) = 22 ∧ wlk M (α 0) [(1, 22)] = (α 4) ∧ wkT Γ M (α 0) [(1, 22)] ∧ Γ (α 0) = 21 ∧ (∀ q ∈ ([([(2, 23)], 0, 121)] : VSP), wkT Γ M (α 0) q.1) ∧ Γ (α 1) = 1 ∧ (∀ q ∈ ([([], 0, 2), ([(2, 2)], 0, 144)] : VSP), wkT Γ M (α 1) q.1) ∧ Q610 g (hcl [vi (ρ 3 + 0)] (clp [(0, 121)] (M.2.2.2.2 (α 4)))) (ρ 3 + 0) (vsv M (α 0) ([(2, 23)], 0, 121)) (vsv M (α 1) ([], 0, 2)) (vsv M (α 1) ([(2, 2)], 0, 144)) (ρ 2 + 0) (ρ 3 + 0) := hP _ (List.mem_of_getElem? (i := 0) rfl)
  have h1 : 0 ≤ (ρ 3 + 0 : Int) ∧ M.2.2.2.2 (α 4) (ρ 3 + 0 : Int).toNat = ρ 2 + 0 := hP _ (List.mem_of_getElem? (i := 1) rfl)
  try simp only [Int.add_zero] at h0 h1
  have key : (Γ (α 0) = 21 ∧ (∀ q ∈ ([([(1, 22)], 0, 121), ([(2, 23)], 0, 121)] : VSP), wkT Γ M (α 0) q.1) ∧ Γ (α 1) = 1 ∧ (∀ q ∈ ([([], 0, 2), ([(2, 2)], 0, 144)] : VSP), wkT Γ M (α 1) q.1) ∧ Q517 g (vsv M (α 0) ([(1, 22)], 0, 121)) (vsv M (α 0) ([(2, 23)], 0, 121)) (vsv M (α 1) ([], 0, 2)) (vsv M (α 1) ([(2, 2)], 0, 144)) (ρ 2 + 0) (ρ 3 + 0)) ∧ True := by
    try simp only [Int.add_zero]
    obtain ⟨-, e, -, t1, t2, t3, t4, -, h⟩ := h0
    have e : fl M (α 0) 1 = α 4 := e
    refine ⟨⟨g0, pic1 hT g0 (by decide) (by decide), g1, pic1 hT g1 (by decide) (by decide), ?_, ?_⟩, trivial⟩
    · refine TRN_c (fun j hj => ?_) (fun j _ => rfl) h
      rw [hcl1 (by omega)]
      show clp [(0, 121)] (M.2.2.2.2 (fl M (α 0) 1)) j = _
      rw [e]
    · show clp [(0, 121)] (M.2.2.2.2 (fl M (α 0) 1)) (ρ 3).toNat = ρ 2
      rw [e, cAll (by omega)]
      exact h1.2
  exact ⟨nB, qB (key.1) (nB)⟩
def t_mtr3 : KT := ((0, 0, 0, 0), [(2, 0, 21, 0), (2, 1, 1, 0), (1, 2, 0, 0), (1, 3, 0, 0), (2, 4, 23, 0)], [(0, 0), (0, 0), (0, 80), (0, 80), (0, 0)], [(517, [(2, 0, 21, 0), (2, 1, 1, 0), (1, 2, 0, 0), (1, 3, 0, 0)]), (11, [(2, 0, 21, 0), (0, 0, 0, 2), (2, 4, 23, 0)])], (0, 0, 0), [], [], ([], [(611, [(2, 4, 23, 0), (1, 3, 0, 0), (2, 0, 21, 0), (2, 1, 1, 0), (1, 2, 0, 0), (1, 3, 0, 0)])]), ([], []))
set_option maxRecDepth 100000 in
theorem l_mtr3 (g : GG) : LOK Yt (PSt g) t_mtr3 := by
  intro ρ α Γ M as hT hB hA hP
  have g0 : Γ (α 0) = 21 := tyAt hA (i := 0) rfl
  have g1 : Γ (α 1) = 1 := tyAt hA (i := 1) rfl
  have b2 : 0 ≤ ρ 2 ∧ ρ 2 ≤ 80 := hB 2
  have b3 : 0 ≤ ρ 3 ∧ ρ 3 ≤ 80 := hB 3
  have g4 : Γ (α 4) = 23 := tyAt hA (i := 4) rfl
  have h0 : Γ (α 0) = 21 ∧ (∀ q ∈ ([([(1, 22)], 0, 121), ([(2, 23)], 0, 121)] : VSP), wkT Γ M (α 0) q.1) ∧ Γ (α 1) = 1 ∧ (∀ q ∈ ([([], 0, 2), ([(2, 2)], 0, 144)] : VSP), wkT Γ M (α 1) q.1) ∧ Q517 g (vsv M (α 0) ([(1, 22)], 0, 121)) (vsv M (α 0) ([(2, 23)], 0, 121)) (vsv M (α 1) ([], 0, 2)) (vsv M (α 1) ([(2, 2)], 0, 144)) (ρ 2 + 0) (ρ 3 + 0) := hP _ (List.mem_of_getElem? (i := 0) rfl)
  have h1 : 0 ≤ (2 : Int) ∧ M.2.2.2.1 (α 0) (2 : Int).toNat = some (α 4) := hP _ (List.mem_of_getElem? (i := 1) rfl)
  try simp only [Int.add_zero] at h0 h1
  have key : (Γ (α 4) = 23 ∧ wlk M (α 0) [(2, 23)] = (α 4) ∧ wkT Γ M (α 0) [(2, 23)] ∧ Γ (α 0) = 21 ∧ (∀ q ∈ ([([(1, 22)], 0, 121)] : VSP), wkT Γ M (α 0) q.1) ∧ Γ (α 1) = 1 ∧ (∀ q ∈ ([([], 0, 2), ([(2, 2)], 0, 144)] : VSP), wkT Γ M (α 1) q.1) ∧ Q611 g (hcl [vi (ρ 3 + 0)] (clp [(0, 121)] (M.2.2.2.2 (α 4)))) (ρ 3 + 0) (vsv M (α 0) ([(1, 22)], 0, 121)) (vsv M (α 1) ([], 0, 2)) (vsv M (α 1) ([(2, 2)], 0, 144)) (ρ 2 + 0) (ρ 3 + 0)) ∧ True := by
    try simp only [Int.add_zero]
    have e : fl M (α 0) 2 = α 4 := fl_eq (show M.2.2.2.1 (α 0) 2 = some (α 4) from h1.2)
    obtain ⟨-, -, -, -, h, hq⟩ := h0
    have h : TRN ((vsv M (α 1) ([], 0, 2)) 0) ((vsv M (α 1) ([], 0, 2)) 1) (vsv M (α 1) ([(2, 2)], 0, 144)) (ρ 3) (vsv M (α 0) ([(1, 22)], 0, 121)) (vsv M (α 0) ([(2, 23)], 0, 121)) (ρ 2) := h
    refine ⟨⟨g4, e, wk1 h1.2 g4, g0, pic1 hT g0 (by decide) (by decide), g1, pic1 hT g1 (by decide) (by decide), rfl, ?_, hq⟩, trivial⟩
    refine TRN_c (fun j _ => rfl) (fun j hj => ?_) h
    rw [hcl1 (by omega)]
    show _ = clp [(0, 121)] (M.2.2.2.2 (fl M (α 0) 2)) j
    rw [e]
  exact ⟨nB, qB (key.1) (nB)⟩
def t_mtr4 : KT := ((0, 0, 0, 0), [(2, 0, 21, 0), (2, 1, 1, 0), (1, 2, 0, 0), (1, 3, 0, 0), (2, 4, 23, 0), (1, 5, 0, 0)], [(0, 0), (0, 0), (0, 80), (0, 80), (0, 0), (-2147483648, 2147483647)], [(611, [(2, 4, 23, 0), (1, 3, 0, 0), (2, 0, 21, 0), (2, 1, 1, 0), (1, 2, 0, 0), (1, 3, 0, 0)]), (10, [(2, 4, 23, 0), (1, 3, 0, 0), (1, 5, 0, 0)]), (502, [(2, 1, 1, 0), (1, 2, 0, 0), (1, 5, 0, 0)]), (4, [(2, 1, 1, 0), (1, 2, 0, 0)]), (99, [(1, 5, 0, 0), (0, 0, 0, 0), (0, 0, 0, 0)])], (0, 0, 0), [], [], ([], [(516, [(2, 0, 21, 0), (2, 1, 1, 0), (1, 2, 0, 1), (1, 3, 0, 1)])]), ([], []))
set_option maxRecDepth 100000 in
theorem l_mtr4 (g : GG) : LOK Yt (PSt g) t_mtr4 := by
  intro ρ α Γ M as hT hB hA hP
  have g0 : Γ (α 0) = 21 := tyAt hA (i := 0) rfl
  have g1 : Γ (α 1) = 1 := tyAt hA (i := 1) rfl
  have b2 : 0 ≤ ρ 2 ∧ ρ 2 ≤ 80 := hB 2
  have b3 : 0 ≤ ρ 3 ∧ ρ 3 ≤ 80 := hB 3
  have g4 : Γ (α 4) = 23 := tyAt hA (i := 4) rfl
  have b5 : -2147483648 ≤ ρ 5 ∧ ρ 5 ≤ 2147483647 := hB 5
  have h0 : Γ (α 4) = 23 ∧ wlk M (α 0) [(2, 23)] = (α 4) ∧ wkT Γ M (α 0) [(2, 23)] ∧ Γ (α 0) = 21 ∧ (∀ q ∈ ([([(1, 22)], 0, 121)] : VSP), wkT Γ M (α 0) q.1) ∧ Γ (α 1) = 1 ∧ (∀ q ∈ ([([], 0, 2), ([(2, 2)], 0, 144)] : VSP), wkT Γ M (α 1) q.1) ∧ Q611 g (hcl [vi (ρ 3 + 0)] (clp [(0, 121)] (M.2.2.2.2 (α 4)))) (ρ 3 + 0) (vsv M (α 0) ([(1, 22)], 0, 121)) (vsv M (α 1) ([], 0, 2)) (vsv M (α 1) ([(2, 2)], 0, 144)) (ρ 2 + 0) (ρ 3 + 0) := hP _ (List.mem_of_getElem? (i := 0) rfl)
  have h1 : 0 ≤ (ρ 3 + 0 : Int) ∧ M.2.2.2.2 (α 4) (ρ 3 + 0 : Int).toNat = ρ 5 + 0 := hP _ (List.mem_of_getElem? (i := 1) rfl)
  have h2 : Γ (α 1) = 1 ∧ (∀ q ∈ ([([], 0, 2), ([(2, 2)], 0, 144)] : VSP), wkT Γ M (α 1) q.1) ∧ Q502 g (vsv M (α 1) ([], 0, 2)) (vsv M (α 1) ([(2, 2)], 0, 144)) (ρ 2 + 0) (ρ 5 + 0) := hP _ (List.mem_of_getElem? (i := 2) rfl)
  have h3 : Γ (α 1) = 1 ∧ rgP (M.2.2.2.2 (α 1) 0) (M.2.2.2.2 (α 1) 1) (ρ 2 + 0) := hP _ (List.mem_of_getElem? (i := 3) rfl)
  have h4 : (ρ 5 + 0 : Int) ≠ 0 := hP _ (List.mem_of_getElem? (i := 4) rfl)
  try simp only [Int.add_zero] at h0 h1 h2 h3 h4
  have key : (Γ (α 0) = 21 ∧ (∀ q ∈ ([([(1, 22)], 0, 121), ([(2, 23)], 0, 121)] : VSP), wkT Γ M (α 0) q.1) ∧ Γ (α 1) = 1 ∧ (∀ q ∈ ([([], 0, 2), ([(2, 2)], 0, 144)] : VSP), wkT Γ M (α 1) q.1) ∧ Q516 g (vsv M (α 0) ([(1, 22)], 0, 121)) (vsv M (α 0) ([(2, 23)], 0, 121)) (vsv M (α 1) ([], 0, 2)) (vsv M (α 1) ([(2, 2)], 0, 144)) (ρ 2 + 1) (ρ 3 + 1)) ∧ True := by
    try simp only [Int.add_zero]
    obtain ⟨-, e, -, t1, t2, t3, t4, -, h, hq⟩ := h0
    have e : fl M (α 0) 2 = α 4 := e
    have h : TRN ((vsv M (α 1) ([], 0, 2)) 0) ((vsv M (α 1) ([], 0, 2)) 1) (vsv M (α 1) ([(2, 2)], 0, 144)) (ρ 3) (vsv M (α 0) ([(1, 22)], 0, 121)) (hcl [vi (ρ 3)] (clp [(0, 121)] (M.2.2.2.2 (α 4)))) (ρ 2) := h
    obtain ⟨-, -, hz⟩ := h2
    have hz : 255 * ρ 5 = crl ((vsv M (α 1) ([], 0, 2)) 1).toNat (vsv M (α 1) ([(2, 2)], 0, 144)) (ρ 2).toNat := hz
    have e0 : (vsv M (α 1) ([], 0, 2)) 0 = M.2.2.2.2 (α 1) 0 := vs0 (by decide) (by decide)
    have e1 : (vsv M (α 1) ([], 0, 2)) 1 = M.2.2.2.2 (α 1) 1 := vs0 (by decide) (by decide)
    have ec : (vsv M (α 0) ([(2, 23)], 0, 121)) (ρ 3).toNat = ρ 5 := by
      show clp [(0, 121)] (M.2.2.2.2 (fl M (α 0) 2)) (ρ 3).toNat = ρ 5
      rw [e, cAll (by omega)]
      exact h1.2
    refine ⟨⟨g0, pic1 hT g0 (by decide) (by decide), g1, pic1 hT g1 (by decide) (by decide), ?_⟩, trivial⟩
    refine TRN_s (TRN_c (fun j _ => rfl) (fun j hj => ?_) h) ?_ hq (by rw [ec]; exact hz) (by rw [ec]; exact h4)
    · rw [hcl1 (by omega)]
      show clp [(0, 121)] (M.2.2.2.2 (fl M (α 0) 2)) j = _
      rw [e]
    · rw [e0, e1]
      exact h3.2
  exact ⟨nB, qB (key.1) (nB)⟩
def t_mtr5 : KT := ((0, 0, 0, 0), [(2, 0, 21, 0), (2, 1, 1, 0), (1, 2, 0, 0), (1, 3, 0, 0), (1, 4, 0, 0)], [(0, 0), (0, 0), (0, 80), (0, 80), (0, 0)], [(516, [(2, 0, 21, 0), (2, 1, 1, 0), (1, 2, 0, 0), (1, 3, 0, 0)]), (502, [(2, 1, 1, 0), (1, 2, 0, 0), (1, 4, 0, 0)])], (0, 0, 0), [], [], ([], [(516, [(2, 0, 21, 0), (2, 1, 1, 0), (1, 2, 0, 1), (1, 3, 0, 0)])]), ([], []))
set_option maxRecDepth 100000 in
theorem l_mtr5 (g : GG) : LOK Yt (PSt g) t_mtr5 := by
  intro ρ α Γ M as hT hB hA hP
  have g0 : Γ (α 0) = 21 := tyAt hA (i := 0) rfl
  have g1 : Γ (α 1) = 1 := tyAt hA (i := 1) rfl
  have b2 : 0 ≤ ρ 2 ∧ ρ 2 ≤ 80 := hB 2
  have b3 : 0 ≤ ρ 3 ∧ ρ 3 ≤ 80 := hB 3
  have b4 : 0 ≤ ρ 4 ∧ ρ 4 ≤ 0 := hB 4
  have h0 : Γ (α 0) = 21 ∧ (∀ q ∈ ([([(1, 22)], 0, 121), ([(2, 23)], 0, 121)] : VSP), wkT Γ M (α 0) q.1) ∧ Γ (α 1) = 1 ∧ (∀ q ∈ ([([], 0, 2), ([(2, 2)], 0, 144)] : VSP), wkT Γ M (α 1) q.1) ∧ Q516 g (vsv M (α 0) ([(1, 22)], 0, 121)) (vsv M (α 0) ([(2, 23)], 0, 121)) (vsv M (α 1) ([], 0, 2)) (vsv M (α 1) ([(2, 2)], 0, 144)) (ρ 2 + 0) (ρ 3 + 0) := hP _ (List.mem_of_getElem? (i := 0) rfl)
  have h1 : Γ (α 1) = 1 ∧ (∀ q ∈ ([([], 0, 2), ([(2, 2)], 0, 144)] : VSP), wkT Γ M (α 1) q.1) ∧ Q502 g (vsv M (α 1) ([], 0, 2)) (vsv M (α 1) ([(2, 2)], 0, 144)) (ρ 2 + 0) (ρ 4 + 0) := hP _ (List.mem_of_getElem? (i := 1) rfl)
  try simp only [Int.add_zero] at h0 h1
  have key : (Γ (α 0) = 21 ∧ (∀ q ∈ ([([(1, 22)], 0, 121), ([(2, 23)], 0, 121)] : VSP), wkT Γ M (α 0) q.1) ∧ Γ (α 1) = 1 ∧ (∀ q ∈ ([([], 0, 2), ([(2, 2)], 0, 144)] : VSP), wkT Γ M (α 1) q.1) ∧ Q516 g (vsv M (α 0) ([(1, 22)], 0, 121)) (vsv M (α 0) ([(2, 23)], 0, 121)) (vsv M (α 1) ([], 0, 2)) (vsv M (α 1) ([(2, 2)], 0, 144)) (ρ 2 + 1) (ρ 3 + 0)) ∧ True := by
    try simp only [Int.add_zero]
    obtain ⟨t1, t2, t3, t4, h⟩ := h0
    obtain ⟨-, -, hz⟩ := h1
    have hz : 255 * ρ 4 = crl ((vsv M (α 1) ([], 0, 2)) 1).toNat (vsv M (α 1) ([(2, 2)], 0, 144)) (ρ 2).toNat := hz
    exact ⟨⟨t1, t2, t3, t4, TRN_0 h fun q => q.2 (by omega)⟩, trivial⟩
  exact ⟨nB, qB (key.1) (nB)⟩
def t_mtr6 : KT := ((0, 0, 0, 0), [(2, 0, 21, 0), (2, 1, 1, 0), (1, 2, 0, 0), (1, 3, 0, 0)], [(0, 0), (0, 0), (0, 80), (0, 80)], [(516, [(2, 0, 21, 0), (2, 1, 1, 0), (1, 2, 0, 0), (1, 3, 0, 0)]), (530, [(2, 1, 1, 0), (1, 2, 0, 0)])], (0, 0, 0), [], [], ([], [(516, [(2, 0, 21, 0), (2, 1, 1, 0), (1, 2, 0, 1), (1, 3, 0, 0)])]), ([], []))
set_option maxRecDepth 100000 in
theorem l_mtr6 (g : GG) : LOK Yt (PSt g) t_mtr6 := by
  intro ρ α Γ M as hT hB hA hP
  have g0 : Γ (α 0) = 21 := tyAt hA (i := 0) rfl
  have g1 : Γ (α 1) = 1 := tyAt hA (i := 1) rfl
  have b2 : 0 ≤ ρ 2 ∧ ρ 2 ≤ 80 := hB 2
  have b3 : 0 ≤ ρ 3 ∧ ρ 3 ≤ 80 := hB 3
  have h0 : Γ (α 0) = 21 ∧ (∀ q ∈ ([([(1, 22)], 0, 121), ([(2, 23)], 0, 121)] : VSP), wkT Γ M (α 0) q.1) ∧ Γ (α 1) = 1 ∧ (∀ q ∈ ([([], 0, 2), ([(2, 2)], 0, 144)] : VSP), wkT Γ M (α 1) q.1) ∧ Q516 g (vsv M (α 0) ([(1, 22)], 0, 121)) (vsv M (α 0) ([(2, 23)], 0, 121)) (vsv M (α 1) ([], 0, 2)) (vsv M (α 1) ([(2, 2)], 0, 144)) (ρ 2 + 0) (ρ 3 + 0) := hP _ (List.mem_of_getElem? (i := 0) rfl)
  have h1 : Γ (α 1) = 1 ∧ (∀ q ∈ ([([], 0, 2)] : VSP), wkT Γ M (α 1) q.1) ∧ Q530 g (vsv M (α 1) ([], 0, 2)) (ρ 2 + 0) := hP _ (List.mem_of_getElem? (i := 1) rfl)
  try simp only [Int.add_zero] at h0 h1
  have key : (Γ (α 0) = 21 ∧ (∀ q ∈ ([([(1, 22)], 0, 121), ([(2, 23)], 0, 121)] : VSP), wkT Γ M (α 0) q.1) ∧ Γ (α 1) = 1 ∧ (∀ q ∈ ([([], 0, 2), ([(2, 2)], 0, 144)] : VSP), wkT Γ M (α 1) q.1) ∧ Q516 g (vsv M (α 0) ([(1, 22)], 0, 121)) (vsv M (α 0) ([(2, 23)], 0, 121)) (vsv M (α 1) ([], 0, 2)) (vsv M (α 1) ([(2, 2)], 0, 144)) (ρ 2 + 1) (ρ 3 + 0)) ∧ True := by
    try simp only [Int.add_zero]
    obtain ⟨t1, t2, t3, t4, h⟩ := h0
    obtain ⟨-, -, hz⟩ := h1
    exact ⟨⟨t1, t2, t3, t4, TRN_0 h fun q => hz q.1⟩, trivial⟩
  exact ⟨nB, qB (key.1) (nB)⟩
def t_mtr7 : KT := ((0, 0, 0, 0), [(2, 0, 21, 0), (1, 1, 0, 0), (2, 2, 24, 0)], [(0, 0), (0, 80), (0, 0)], [(518, [(2, 0, 21, 0), (1, 1, 0, 0)]), (11, [(2, 0, 21, 0), (0, 0, 0, 3), (2, 2, 24, 0)])], (0, 0, 0), [], [], ([], [(612, [(2, 2, 24, 0), (1, 1, 0, 0), (2, 0, 21, 0), (1, 1, 0, 0)])]), ([], []))
set_option maxRecDepth 100000 in
theorem l_mtr7 (g : GG) : LOK Yt (PSt g) t_mtr7 := by
  intro ρ α Γ M as hT hB hA hP
  have g0 : Γ (α 0) = 21 := tyAt hA (i := 0) rfl
  have b1 : 0 ≤ ρ 1 ∧ ρ 1 ≤ 80 := hB 1
  have g2 : Γ (α 2) = 24 := tyAt hA (i := 2) rfl
  have h0 : Γ (α 0) = 21 ∧ (∀ q ∈ ([([(3, 24)], 0, 121)] : VSP), wkT Γ M (α 0) q.1) ∧ Q518 g (vsv M (α 0) ([(3, 24)], 0, 121)) (ρ 1 + 0) := hP _ (List.mem_of_getElem? (i := 0) rfl)
  have h1 : 0 ≤ (3 : Int) ∧ M.2.2.2.1 (α 0) (3 : Int).toNat = some (α 2) := hP _ (List.mem_of_getElem? (i := 1) rfl)
  try simp only [Int.add_zero] at h0 h1
  have key : (Γ (α 2) = 24 ∧ wlk M (α 0) [(3, 24)] = (α 2) ∧ wkT Γ M (α 0) [(3, 24)] ∧ Γ (α 0) = 21 ∧ (∀ q ∈ ([] : VSP), wkT Γ M (α 0) q.1) ∧ Q612 g (hcl [vi (ρ 1 + 0)] (clp [(0, 121)] (M.2.2.2.2 (α 2)))) (ρ 1 + 0)  (ρ 1 + 0)) ∧ True := by
    try simp only [Int.add_zero]
    have e : fl M (α 0) 3 = α 2 := fl_eq (show M.2.2.2.1 (α 0) 3 = some (α 2) from h1.2)
    obtain ⟨-, -, h⟩ := h0
    have h : ∀ i : Nat, (i : Int) < ρ 1 → clp [(0, 121)] (M.2.2.2.2 (fl M (α 0) 3)) i = -2 := h
    rw [e] at h
    refine ⟨⟨g2, e, wk1 h1.2 g2, g0, pic1 hT g0 (by decide) (by decide), rfl, fun j hj => ?_⟩, trivial⟩
    rw [hcl1 (by omega)]
    exact h j hj
  exact ⟨nB, qB (key.1) (nB)⟩
def t_mtr8 : KT := ((0, 0, 0, 0), [(2, 0, 21, 0), (1, 1, 0, 0), (2, 2, 24, 0)], [(0, 0), (0, 80), (0, 0)], [(612, [(2, 2, 24, 0), (1, 1, 0, 0), (2, 0, 21, 0), (1, 1, 0, 0)]), (10, [(2, 2, 24, 0), (1, 1, 0, 0), (0, 0, 0, -2)])], (0, 0, 0), [], [], ([], [(518, [(2, 0, 21, 0), (1, 1, 0, 1)])]), ([], []))
set_option maxRecDepth 100000 in
theorem l_mtr8 (g : GG) : LOK Yt (PSt g) t_mtr8 := by
  intro ρ α Γ M as hT hB hA hP
  have g0 : Γ (α 0) = 21 := tyAt hA (i := 0) rfl
  have b1 : 0 ≤ ρ 1 ∧ ρ 1 ≤ 80 := hB 1
  have g2 : Γ (α 2) = 24 := tyAt hA (i := 2) rfl
  have h0 : Γ (α 2) = 24 ∧ wlk M (α 0) [(3, 24)] = (α 2) ∧ wkT Γ M (α 0) [(3, 24)] ∧ Γ (α 0) = 21 ∧ (∀ q ∈ ([] : VSP), wkT Γ M (α 0) q.1) ∧ Q612 g (hcl [vi (ρ 1 + 0)] (clp [(0, 121)] (M.2.2.2.2 (α 2)))) (ρ 1 + 0)  (ρ 1 + 0) := hP _ (List.mem_of_getElem? (i := 0) rfl)
  have h1 : 0 ≤ (ρ 1 + 0 : Int) ∧ M.2.2.2.2 (α 2) (ρ 1 + 0 : Int).toNat = (-2) := hP _ (List.mem_of_getElem? (i := 1) rfl)
  try simp only [Int.add_zero] at h0 h1
  have key : (Γ (α 0) = 21 ∧ (∀ q ∈ ([([(3, 24)], 0, 121)] : VSP), wkT Γ M (α 0) q.1) ∧ Q518 g (vsv M (α 0) ([(3, 24)], 0, 121)) (ρ 1 + 1)) ∧ True := by
    try simp only [Int.add_zero]
    obtain ⟨-, e, -, t1, t2, -, h⟩ := h0
    have e : fl M (α 0) 3 = α 2 := e
    refine ⟨⟨t1, pic1 hT g0 (by decide) (by decide), fun j hj => ?_⟩, trivial⟩
    show clp [(0, 121)] (M.2.2.2.2 (fl M (α 0) 3)) j = -2
    rw [e]
    by_cases hj2 : (j : Int) < ρ 1
    · have := h j hj2
      rw [hcl1 (by omega)] at this
      exact this
    · have ej : j = (ρ 1).toNat := by omega
      rw [ej, cAll (by omega)]
      exact h1.2
  exact ⟨nB, qB (key.1) (nB)⟩
def t_mtr9 : KT := ((0, 0, 0, 0), [(2, 0, 21, 0), (2, 1, 1, 0), (1, 2, 0, 0), (1, 3, 0, 0), (1, 4, 0, 0)], [(0, 0), (0, 0), (-2147483648, 2147483647), (-2147483648, 2147483647), (-2147483648, 2147483647)], [(516, [(2, 0, 21, 0), (2, 1, 1, 0), (1, 2, 0, 0), (1, 3, 0, 0)]), (518, [(2, 0, 21, 0), (1, 3, 0, 0)]), (531, [(2, 1, 1, 0), (1, 2, 0, 0)]), (5, [(2, 1, 1, 0), (1, 4, 0, 0)]), (6, [(1, 4, 0, 0), (1, 2, 0, 0)]), (10, [(2, 0, 21, 0), (0, 0, 0, 0), (1, 3, 0, 0)]), (1064, [(2, 1, 1, 0), (0, 0, 0, 2), (0, 0, 0, 9)]), (1065, [(2, 1, 1, 0), (0, 0, 0, 2), (0, 0, 0, 9)])], (0, 0, 0), [], [], ([], [(511, [(2, 0, 21, 0), (2, 1, 1, 0)]), (519, [(2, 0, 21, 0)])]), ([], []))
set_option maxRecDepth 100000 in
theorem l_mtr9 (g : GG) : LOK Yt (PSt g) t_mtr9 := by
  intro ρ α Γ M as hT hB hA hP
  have g0 : Γ (α 0) = 21 := tyAt hA (i := 0) rfl
  have g1 : Γ (α 1) = 1 := tyAt hA (i := 1) rfl
  have b2 : -2147483648 ≤ ρ 2 ∧ ρ 2 ≤ 2147483647 := hB 2
  have b3 : -2147483648 ≤ ρ 3 ∧ ρ 3 ≤ 2147483647 := hB 3
  have b4 : -2147483648 ≤ ρ 4 ∧ ρ 4 ≤ 2147483647 := hB 4
  have h0 : Γ (α 0) = 21 ∧ (∀ q ∈ ([([(1, 22)], 0, 121), ([(2, 23)], 0, 121)] : VSP), wkT Γ M (α 0) q.1) ∧ Γ (α 1) = 1 ∧ (∀ q ∈ ([([], 0, 2), ([(2, 2)], 0, 144)] : VSP), wkT Γ M (α 1) q.1) ∧ Q516 g (vsv M (α 0) ([(1, 22)], 0, 121)) (vsv M (α 0) ([(2, 23)], 0, 121)) (vsv M (α 1) ([], 0, 2)) (vsv M (α 1) ([(2, 2)], 0, 144)) (ρ 2 + 0) (ρ 3 + 0) := hP _ (List.mem_of_getElem? (i := 0) rfl)
  have h1 : Γ (α 0) = 21 ∧ (∀ q ∈ ([([(3, 24)], 0, 121)] : VSP), wkT Γ M (α 0) q.1) ∧ Q518 g (vsv M (α 0) ([(3, 24)], 0, 121)) (ρ 3 + 0) := hP _ (List.mem_of_getElem? (i := 1) rfl)
  have h2 : Γ (α 1) = 1 ∧ (∀ q ∈ ([([], 0, 2)] : VSP), wkT Γ M (α 1) q.1) ∧ Q531 g (vsv M (α 1) ([], 0, 2)) (ρ 2 + 0) := hP _ (List.mem_of_getElem? (i := 2) rfl)
  have h3 : Γ (α 1) = 1 ∧ ρ 4 + 0 = M.2.2.2.2 (α 1) 0 * M.2.2.2.2 (α 1) 1 := hP _ (List.mem_of_getElem? (i := 3) rfl)
  have h4 : ρ 4 + 0 ≤ ρ 2 + 0 := hP _ (List.mem_of_getElem? (i := 4) rfl)
  have h5 : 0 ≤ (0 : Int) ∧ M.2.2.2.2 (α 0) (0 : Int).toNat = ρ 3 + 0 := hP _ (List.mem_of_getElem? (i := 5) rfl)
  have h6 : Γ (α 1) = 1 ∧ 1 ≠ 0 ∧ 2 ≤ M.2.2.2.2 (α 1) 0 ∧ M.2.2.2.2 (α 1) 0 ≤ 9 := (fId_eq g 1 0 (α 1) (2) (9) Γ M (by decide)).mp (hP _ (List.mem_of_getElem? (i := 6) rfl))
  have h7 : Γ (α 1) = 1 ∧ 1 ≠ 0 ∧ 2 ≤ M.2.2.2.2 (α 1) 1 ∧ M.2.2.2.2 (α 1) 1 ≤ 9 := (fId_eq g 1 1 (α 1) (2) (9) Γ M (by decide)).mp (hP _ (List.mem_of_getElem? (i := 7) rfl))
  try simp only [Int.add_zero] at h0 h1 h2 h3 h4 h5 h6 h7
  have key : (Γ (α 0) = 21 ∧ (∀ q ∈ ([([], 0, 1), ([(1, 22)], 0, 121), ([(2, 23)], 0, 121)] : VSP), wkT Γ M (α 0) q.1) ∧ Γ (α 1) = 1 ∧ (∀ q ∈ ([([], 0, 2), ([(2, 2)], 0, 144)] : VSP), wkT Γ M (α 1) q.1) ∧ Q511 g (vsv M (α 0) ([], 0, 1)) (vsv M (α 0) ([(1, 22)], 0, 121)) (vsv M (α 0) ([(2, 23)], 0, 121)) (vsv M (α 1) ([], 0, 2)) (vsv M (α 1) ([(2, 2)], 0, 144)) ) ∧ (Γ (α 0) = 21 ∧ (∀ q ∈ ([([], 0, 1), ([(3, 24)], 0, 121)] : VSP), wkT Γ M (α 0) q.1) ∧ Q519 g (vsv M (α 0) ([], 0, 1)) (vsv M (α 0) ([(3, 24)], 0, 121)) ) ∧ True := by
    try simp only [Int.add_zero]
    obtain ⟨t1, t2, t3, t4, h⟩ := h0
    obtain ⟨-, -, hm⟩ := h1
    obtain ⟨-, -, hn⟩ := h2
    have hn : ρ 2 ≤ (vsv M (α 1) ([], 0, 2)) 0 * (vsv M (α 1) ([], 0, 2)) 1 := hn
    have e0 : (vsv M (α 1) ([], 0, 2)) 0 = M.2.2.2.2 (α 1) 0 := vs0 (by decide) (by decide)
    have e1 : (vsv M (α 1) ([], 0, 2)) 1 = M.2.2.2.2 (α 1) 1 := vs0 (by decide) (by decide)
    have ek : (vsv M (α 0) ([], 0, 1)) 0 = ρ 3 := (vs0 (by decide) (by decide)).trans h5.2
    have x := h3.2
    have y : M.2.2.2.2 (α 1) 0 * M.2.2.2.2 (α 1) 1 ≤ 9 * 9 := Int.mul_le_mul h6.2.2.2 h7.2.2.2 (Int.le_trans (by decide) h7.2.2.1) (by decide)
    rw [e0, e1] at hn
    refine ⟨⟨g0, pic1 hT g0 (by decide) (by decide), g1, pic1 hT g1 (by decide) (by decide), ?_⟩, ⟨t1, pic1 hT g0 (by decide) (by decide), fun i hi => hm i (by rw [← ek]; exact hi)⟩, trivial⟩
    show TRF ((vsv M (α 1) ([], 0, 2)) 0) ((vsv M (α 1) ([], 0, 2)) 1) (vsv M (α 1) ([(2, 2)], 0, 144)) ((vsv M (α 0) ([], 0, 1)) 0) (vsv M (α 0) ([(1, 22)], 0, 121)) (vsv M (α 0) ([(2, 23)], 0, 121))
    rw [ek]
    exact TRN_f h (by rw [e0, e1]; omega) (by omega)
  exact ⟨nB, qB (key.1) (qB (key.2.1) (nB))⟩
def t_mpn0 : KT := ((0, 0, 0, 0), [(2, 0, 21, 0), (2, 1, 1, 0), (1, 2, 0, 0)], [(0, 0), (0, 0), (1, 1)], [(511, [(2, 0, 21, 0), (2, 1, 1, 0)]), (519, [(2, 0, 21, 0)])], (0, 0, 0), [], [], ([], [(540, [(2, 0, 21, 0), (2, 1, 1, 0), (1, 2, 0, 0), (0, 0, 0, 0)])]), ([], []))
set_option maxRecDepth 100000 in
theorem l_mpn0 (g : GG) : LOK Yt (PSt g) t_mpn0 := by
  intro ρ α Γ M as hT hB hA hP
  have g0 : Γ (α 0) = 21 := tyAt hA (i := 0) rfl
  have g1 : Γ (α 1) = 1 := tyAt hA (i := 1) rfl
  have b2 : 1 ≤ ρ 2 ∧ ρ 2 ≤ 1 := hB 2
  have h0 : Γ (α 0) = 21 ∧ (∀ q ∈ ([([], 0, 1), ([(1, 22)], 0, 121), ([(2, 23)], 0, 121)] : VSP), wkT Γ M (α 0) q.1) ∧ Γ (α 1) = 1 ∧ (∀ q ∈ ([([], 0, 2), ([(2, 2)], 0, 144)] : VSP), wkT Γ M (α 1) q.1) ∧ Q511 g (vsv M (α 0) ([], 0, 1)) (vsv M (α 0) ([(1, 22)], 0, 121)) (vsv M (α 0) ([(2, 23)], 0, 121)) (vsv M (α 1) ([], 0, 2)) (vsv M (α 1) ([(2, 2)], 0, 144))  := hP _ (List.mem_of_getElem? (i := 0) rfl)
  have h1 : Γ (α 0) = 21 ∧ (∀ q ∈ ([([], 0, 1), ([(3, 24)], 0, 121)] : VSP), wkT Γ M (α 0) q.1) ∧ Q519 g (vsv M (α 0) ([], 0, 1)) (vsv M (α 0) ([(3, 24)], 0, 121))  := hP _ (List.mem_of_getElem? (i := 1) rfl)
  try simp only [Int.add_zero] at h0 h1
  have key : (Γ (α 0) = 21 ∧ (∀ q ∈ ([([], 0, 1), ([(1, 22)], 0, 121), ([(2, 23)], 0, 121), ([(3, 24)], 0, 121)] : VSP), wkT Γ M (α 0) q.1) ∧ Γ (α 1) = 1 ∧ (∀ q ∈ ([([], 0, 2)] : VSP), wkT Γ M (α 1) q.1) ∧ Q540 g (vsv M (α 0) ([], 0, 1)) (vsv M (α 0) ([(1, 22)], 0, 121)) (vsv M (α 0) ([(2, 23)], 0, 121)) (vsv M (α 0) ([(3, 24)], 0, 121)) (vsv M (α 1) ([], 0, 2)) (ρ 2 + 0) (0)) ∧ True := by
    try simp only [Int.add_zero]
    obtain ⟨hr, hc⟩ := ch_dims hT g1
    have e0 : (vsv M (α 1) ([], 0, 2)) 0 = M.2.2.2.2 (α 1) 0 := vs0 (by decide) (by decide)
    have e1 : (vsv M (α 1) ([], 0, 2)) 1 = M.2.2.2.2 (α 1) 1 := vs0 (by decide) (by decide)
    
    obtain ⟨-, -, -, -, h⟩ := h0
    obtain ⟨-, -, hm⟩ := h1
    have h : TRF ((vsv M (α 1) ([], 0, 2)) 0) ((vsv M (α 1) ([], 0, 2)) 1) (vsv M (α 1) ([(2, 2)], 0, 144)) ((vsv M (α 0) ([], 0, 1)) 0) (vsv M (α 0) ([(1, 22)], 0, 121)) (vsv M (α 0) ([(2, 23)], 0, 121)) := h
    have hm : ∀ i : Nat, (i : Int) < (vsv M (α 0) ([], 0, 1)) 0 → (vsv M (α 0) ([(3, 24)], 0, 121)) i = -2 := hm
    refine ⟨⟨g0, pic1 hT g0 (by decide) (by decide), g1, pic1 hT g1 (by decide) (by decide), ?_, ?_⟩, trivial⟩
    · exact fun i hi => Or.inl (hm i hi)
    · refine fun j hj _ => ⟨fun hn => by omega, ?_⟩
      have := fbF_bd (by rw [e0]; omega) (TRF_rg h hj) (by rw [e1]; omega)
      exact Int.le_trans (by omega) this.1
  exact ⟨nB, qB (key.1) (nB)⟩
def t_mpn4 : KT := ((0, 0, 0, 0), [(2, 0, 21, 0), (2, 1, 24, 0), (1, 2, 0, 0), (1, 3, 0, 0), (1, 4, 0, 0)], [(0, 0), (0, 0), (0, 120), (-2147483648, 2147483647), (-2147483648, 2147483647)], [(11, [(2, 0, 21, 0), (0, 0, 0, 3), (2, 1, 24, 0)]), (10, [(2, 1, 24, 0), (1, 2, 0, 0), (1, 3, 0, 0)]), (21, [(1, 2, 0, 0), (1, 4, 0, 0)]), (10, [(2, 0, 21, 0), (0, 0, 0, 0), (1, 4, 0, 0)])], (0, 0, 0), [], [], ([], [(547, [(2, 0, 21, 0), (1, 2, 0, 0), (1, 3, 0, 0)])]), ([], []))
set_option maxRecDepth 100000 in
theorem l_mpn4 (g : GG) : LOK Yt (PSt g) t_mpn4 := by
  intro ρ α Γ M as hT hB hA hP
  have g0 : Γ (α 0) = 21 := tyAt hA (i := 0) rfl
  have g1 : Γ (α 1) = 24 := tyAt hA (i := 1) rfl
  have b2 : 0 ≤ ρ 2 ∧ ρ 2 ≤ 120 := hB 2
  have b3 : -2147483648 ≤ ρ 3 ∧ ρ 3 ≤ 2147483647 := hB 3
  have b4 : -2147483648 ≤ ρ 4 ∧ ρ 4 ≤ 2147483647 := hB 4
  have h0 : 0 ≤ (3 : Int) ∧ M.2.2.2.1 (α 0) (3 : Int).toNat = some (α 1) := hP _ (List.mem_of_getElem? (i := 0) rfl)
  have h1 : 0 ≤ (ρ 2 + 0 : Int) ∧ M.2.2.2.2 (α 1) (ρ 2 + 0 : Int).toNat = ρ 3 + 0 := hP _ (List.mem_of_getElem? (i := 1) rfl)
  have h2 : ρ 2 + 0 < ρ 4 + 0 := hP _ (List.mem_of_getElem? (i := 2) rfl)
  have h3 : 0 ≤ (0 : Int) ∧ M.2.2.2.2 (α 0) (0 : Int).toNat = ρ 4 + 0 := hP _ (List.mem_of_getElem? (i := 3) rfl)
  try simp only [Int.add_zero] at h0 h1 h2 h3
  have key : (Γ (α 0) = 21 ∧ (∀ q ∈ ([([], 0, 1), ([(3, 24)], 0, 121)] : VSP), wkT Γ M (α 0) q.1) ∧ Q547 g (vsv M (α 0) ([], 0, 1)) (vsv M (α 0) ([(3, 24)], 0, 121)) (ρ 2 + 0) (ρ 3 + 0)) ∧ True := by
    try simp only [Int.add_zero]
    have fe : fl M (α 0) 3 = α 1 := fl_eq (show M.2.2.2.1 (α 0) 3 = some (α 1) from h0.2)
    have ek : (vsv M (α 0) ([], 0, 1)) 0 = ρ 4 := (vs0 (by decide) (by decide)).trans h3.2
    
    refine ⟨⟨g0, pic1 hT g0 (by decide) (by decide), ⟨by omega, by rw [ek]; omega⟩, ?_⟩, trivial⟩
    show clp [(0, 121)] (M.2.2.2.2 (fl M (α 0) 3)) (ρ 2).toNat = ρ 3
    rw [fe, cAll (by omega)]
    exact h1.2
  exact ⟨nB, qB (key.1) (nB)⟩
def t_mpn3 : KT := ((0, 0, 0, 0), [(2, 0, 21, 0), (1, 1, 0, 0), (1, 2, 0, 0)], [(0, 0), (-2147483648, 2147483647), (-2, -2)], [(547, [(2, 0, 21, 0), (1, 1, 0, 0), (1, 2, 0, 0)])], (0, 0, 0), [], [], ([], [(541, [(2, 0, 21, 0), (1, 1, 0, 0)])]), ([], []))
set_option maxRecDepth 100000 in
theorem l_mpn3 (g : GG) : LOK Yt (PSt g) t_mpn3 := by
  intro ρ α Γ M as hT hB hA hP
  have g0 : Γ (α 0) = 21 := tyAt hA (i := 0) rfl
  have b1 : -2147483648 ≤ ρ 1 ∧ ρ 1 ≤ 2147483647 := hB 1
  have b2 : -2 ≤ ρ 2 ∧ ρ 2 ≤ -2 := hB 2
  have h0 : Γ (α 0) = 21 ∧ (∀ q ∈ ([([], 0, 1), ([(3, 24)], 0, 121)] : VSP), wkT Γ M (α 0) q.1) ∧ Q547 g (vsv M (α 0) ([], 0, 1)) (vsv M (α 0) ([(3, 24)], 0, 121)) (ρ 1 + 0) (ρ 2 + 0) := hP _ (List.mem_of_getElem? (i := 0) rfl)
  try simp only [Int.add_zero] at h0
  have key : (Γ (α 0) = 21 ∧ (∀ q ∈ ([([], 0, 1), ([(3, 24)], 0, 121)] : VSP), wkT Γ M (α 0) q.1) ∧ Q541 g (vsv M (α 0) ([], 0, 1)) (vsv M (α 0) ([(3, 24)], 0, 121)) (ρ 1 + 0)) ∧ True := by
    try simp only [Int.add_zero]
    obtain ⟨t1, t2, h, h2⟩ := h0
    exact ⟨⟨t1, t2, h, h2.trans (by omega)⟩, trivial⟩
  exact ⟨nB, qB (key.1) (nB)⟩
def t_mpn2 : KT := ((0, 0, 0, 0), [(2, 0, 21, 0), (2, 1, 1, 0), (1, 2, 0, 0), (1, 3, 0, 0), (1, 4, 0, 0)], [(0, 0), (0, 0), (-2147483648, 2147483647), (-2147483648, 2147483647), (-2147483648, 2147483647)], [(540, [(2, 0, 21, 0), (2, 1, 1, 0), (1, 2, 0, 0), (1, 3, 0, 0)]), (547, [(2, 0, 21, 0), (1, 3, 0, 0), (1, 4, 0, 0)]), (99, [(1, 4, 0, 0), (0, 0, 0, -2), (0, 0, 0, 0)])], (0, 0, 0), [], [], ([], [(540, [(2, 0, 21, 0), (2, 1, 1, 0), (1, 2, 0, 0), (1, 3, 0, 1)])]), ([], []))
set_option maxRecDepth 100000 in
theorem l_mpn2 (g : GG) : LOK Yt (PSt g) t_mpn2 := by
  intro ρ α Γ M as hT hB hA hP
  have g0 : Γ (α 0) = 21 := tyAt hA (i := 0) rfl
  have g1 : Γ (α 1) = 1 := tyAt hA (i := 1) rfl
  have b2 : -2147483648 ≤ ρ 2 ∧ ρ 2 ≤ 2147483647 := hB 2
  have b3 : -2147483648 ≤ ρ 3 ∧ ρ 3 ≤ 2147483647 := hB 3
  have b4 : -2147483648 ≤ ρ 4 ∧ ρ 4 ≤ 2147483647 := hB 4
  have h0 : Γ (α 0) = 21 ∧ (∀ q ∈ ([([], 0, 1), ([(1, 22)], 0, 121), ([(2, 23)], 0, 121), ([(3, 24)], 0, 121)] : VSP), wkT Γ M (α 0) q.1) ∧ Γ (α 1) = 1 ∧ (∀ q ∈ ([([], 0, 2)] : VSP), wkT Γ M (α 1) q.1) ∧ Q540 g (vsv M (α 0) ([], 0, 1)) (vsv M (α 0) ([(1, 22)], 0, 121)) (vsv M (α 0) ([(2, 23)], 0, 121)) (vsv M (α 0) ([(3, 24)], 0, 121)) (vsv M (α 1) ([], 0, 2)) (ρ 2 + 0) (ρ 3 + 0) := hP _ (List.mem_of_getElem? (i := 0) rfl)
  have h1 : Γ (α 0) = 21 ∧ (∀ q ∈ ([([], 0, 1), ([(3, 24)], 0, 121)] : VSP), wkT Γ M (α 0) q.1) ∧ Q547 g (vsv M (α 0) ([], 0, 1)) (vsv M (α 0) ([(3, 24)], 0, 121)) (ρ 3 + 0) (ρ 4 + 0) := hP _ (List.mem_of_getElem? (i := 1) rfl)
  have h2 : (ρ 4 + 0 : Int) ≠ (-2) := hP _ (List.mem_of_getElem? (i := 2) rfl)
  try simp only [Int.add_zero] at h0 h1 h2
  have key : (Γ (α 0) = 21 ∧ (∀ q ∈ ([([], 0, 1), ([(1, 22)], 0, 121), ([(2, 23)], 0, 121), ([(3, 24)], 0, 121)] : VSP), wkT Γ M (α 0) q.1) ∧ Γ (α 1) = 1 ∧ (∀ q ∈ ([([], 0, 2)] : VSP), wkT Γ M (α 1) q.1) ∧ Q540 g (vsv M (α 0) ([], 0, 1)) (vsv M (α 0) ([(1, 22)], 0, 121)) (vsv M (α 0) ([(2, 23)], 0, 121)) (vsv M (α 0) ([(3, 24)], 0, 121)) (vsv M (α 1) ([], 0, 2)) (ρ 2 + 0) (ρ 3 + 1)) ∧ True := by
    try simp only [Int.add_zero]
    obtain ⟨t1, t2, t3, t4, h, hf⟩ := h0
    obtain ⟨-, -, hb, hv⟩ := h1
    refine ⟨⟨t1, t2, t3, t4, h, fun j hj hm => ?_⟩, trivial⟩
    obtain ⟨q1, q2⟩ := hf j hj hm
    refine ⟨fun hn => ?_, q2⟩
    by_cases hc : (j : Int) < ρ 3
    · exact q1 hc
    · have : j = (ρ 3).toNat := by omega
      subst this
      exact absurd (hv.symm.trans hm) h2
  exact ⟨nB, qB (key.1) (nB)⟩
def t_mpn5 : KT := ((0, 0, 0, 0), [(2, 0, 21, 0), (2, 1, 1, 0), (1, 2, 0, 0), (1, 3, 0, 0), (1, 4, 0, 0)], [(0, 0), (0, 0), (-2147483648, 2147483647), (-2147483648, 2147483647), (-2147483648, 2147483647)], [(540, [(2, 0, 21, 0), (2, 1, 1, 0), (1, 2, 0, 0), (1, 3, 0, 0)]), (6, [(1, 4, 0, 0), (1, 3, 0, 0)]), (10, [(2, 0, 21, 0), (0, 0, 0, 0), (1, 4, 0, 0)])], (0, 0, 0), [], [], ([], [(540, [(2, 0, 21, 0), (2, 1, 1, 0), (1, 2, 0, 1), (0, 0, 0, 0)])]), ([], []))
set_option maxRecDepth 100000 in
theorem l_mpn5 (g : GG) : LOK Yt (PSt g) t_mpn5 := by
  intro ρ α Γ M as hT hB hA hP
  have g0 : Γ (α 0) = 21 := tyAt hA (i := 0) rfl
  have g1 : Γ (α 1) = 1 := tyAt hA (i := 1) rfl
  have b2 : -2147483648 ≤ ρ 2 ∧ ρ 2 ≤ 2147483647 := hB 2
  have b3 : -2147483648 ≤ ρ 3 ∧ ρ 3 ≤ 2147483647 := hB 3
  have b4 : -2147483648 ≤ ρ 4 ∧ ρ 4 ≤ 2147483647 := hB 4
  have h0 : Γ (α 0) = 21 ∧ (∀ q ∈ ([([], 0, 1), ([(1, 22)], 0, 121), ([(2, 23)], 0, 121), ([(3, 24)], 0, 121)] : VSP), wkT Γ M (α 0) q.1) ∧ Γ (α 1) = 1 ∧ (∀ q ∈ ([([], 0, 2)] : VSP), wkT Γ M (α 1) q.1) ∧ Q540 g (vsv M (α 0) ([], 0, 1)) (vsv M (α 0) ([(1, 22)], 0, 121)) (vsv M (α 0) ([(2, 23)], 0, 121)) (vsv M (α 0) ([(3, 24)], 0, 121)) (vsv M (α 1) ([], 0, 2)) (ρ 2 + 0) (ρ 3 + 0) := hP _ (List.mem_of_getElem? (i := 0) rfl)
  have h1 : ρ 4 + 0 ≤ ρ 3 + 0 := hP _ (List.mem_of_getElem? (i := 1) rfl)
  have h2 : 0 ≤ (0 : Int) ∧ M.2.2.2.2 (α 0) (0 : Int).toNat = ρ 4 + 0 := hP _ (List.mem_of_getElem? (i := 2) rfl)
  try simp only [Int.add_zero] at h0 h1 h2
  have key : (Γ (α 0) = 21 ∧ (∀ q ∈ ([([], 0, 1), ([(1, 22)], 0, 121), ([(2, 23)], 0, 121), ([(3, 24)], 0, 121)] : VSP), wkT Γ M (α 0) q.1) ∧ Γ (α 1) = 1 ∧ (∀ q ∈ ([([], 0, 2)] : VSP), wkT Γ M (α 1) q.1) ∧ Q540 g (vsv M (α 0) ([], 0, 1)) (vsv M (α 0) ([(1, 22)], 0, 121)) (vsv M (α 0) ([(2, 23)], 0, 121)) (vsv M (α 0) ([(3, 24)], 0, 121)) (vsv M (α 1) ([], 0, 2)) (ρ 2 + 1) (0)) ∧ True := by
    try simp only [Int.add_zero]
    have ek : (vsv M (α 0) ([], 0, 1)) 0 = ρ 4 := (vs0 (by decide) (by decide)).trans h2.2
    
    obtain ⟨t1, t2, t3, t4, h, hf⟩ := h0
    refine ⟨⟨t1, t2, t3, t4, h, fun j hj hm => ⟨fun hn => by omega, ?_⟩⟩, trivial⟩
    have := (hf j hj hm).1 (by rw [ek] at hj; omega)
    omega
  exact ⟨nB, qB (key.1) (nB)⟩
def t_mpn6 : KT := ((0, 0, 0, 0), [(2, 0, 21, 0), (2, 1, 1, 0), (1, 2, 0, 0)], [(0, 0), (0, 0), (13, 1000)], [(540, [(2, 0, 21, 0), (2, 1, 1, 0), (1, 2, 0, 0), (0, 0, 0, 0)]), (511, [(2, 0, 21, 0), (2, 1, 1, 0)])], (0, 0, 0), [], [], ([], [(542, [(2, 0, 21, 0)])]), ([], []))
set_option maxRecDepth 100000 in
theorem l_mpn6 (g : GG) : LOK Yt (PSt g) t_mpn6 := by
  intro ρ α Γ M as hT hB hA hP
  have g0 : Γ (α 0) = 21 := tyAt hA (i := 0) rfl
  have g1 : Γ (α 1) = 1 := tyAt hA (i := 1) rfl
  have b2 : 13 ≤ ρ 2 ∧ ρ 2 ≤ 1000 := hB 2
  have h0 : Γ (α 0) = 21 ∧ (∀ q ∈ ([([], 0, 1), ([(1, 22)], 0, 121), ([(2, 23)], 0, 121), ([(3, 24)], 0, 121)] : VSP), wkT Γ M (α 0) q.1) ∧ Γ (α 1) = 1 ∧ (∀ q ∈ ([([], 0, 2)] : VSP), wkT Γ M (α 1) q.1) ∧ Q540 g (vsv M (α 0) ([], 0, 1)) (vsv M (α 0) ([(1, 22)], 0, 121)) (vsv M (α 0) ([(2, 23)], 0, 121)) (vsv M (α 0) ([(3, 24)], 0, 121)) (vsv M (α 1) ([], 0, 2)) (ρ 2 + 0) (0) := hP _ (List.mem_of_getElem? (i := 0) rfl)
  have h1 : Γ (α 0) = 21 ∧ (∀ q ∈ ([([], 0, 1), ([(1, 22)], 0, 121), ([(2, 23)], 0, 121)] : VSP), wkT Γ M (α 0) q.1) ∧ Γ (α 1) = 1 ∧ (∀ q ∈ ([([], 0, 2), ([(2, 2)], 0, 144)] : VSP), wkT Γ M (α 1) q.1) ∧ Q511 g (vsv M (α 0) ([], 0, 1)) (vsv M (α 0) ([(1, 22)], 0, 121)) (vsv M (α 0) ([(2, 23)], 0, 121)) (vsv M (α 1) ([], 0, 2)) (vsv M (α 1) ([(2, 2)], 0, 144))  := hP _ (List.mem_of_getElem? (i := 1) rfl)
  try simp only [Int.add_zero] at h0 h1
  have key : (Γ (α 0) = 21 ∧ (∀ q ∈ ([([], 0, 1), ([(2, 23)], 0, 121), ([(3, 24)], 0, 121)] : VSP), wkT Γ M (α 0) q.1) ∧ Q542 g (vsv M (α 0) ([], 0, 1)) (vsv M (α 0) ([(2, 23)], 0, 121)) (vsv M (α 0) ([(3, 24)], 0, 121)) ) ∧ True := by
    try simp only [Int.add_zero]
    obtain ⟨hr, hc⟩ := ch_dims hT g1
    have e0 : (vsv M (α 1) ([], 0, 2)) 0 = M.2.2.2.2 (α 1) 0 := vs0 (by decide) (by decide)
    have e1 : (vsv M (α 1) ([], 0, 2)) 1 = M.2.2.2.2 (α 1) 1 := vs0 (by decide) (by decide)
    
    obtain ⟨t1, -, -, -, h, hf⟩ := h0
    obtain ⟨-, -, -, -, ht⟩ := h1
    have ht : TRF ((vsv M (α 1) ([], 0, 2)) 0) ((vsv M (α 1) ([], 0, 2)) 1) (vsv M (α 1) ([(2, 2)], 0, 144)) ((vsv M (α 0) ([], 0, 1)) 0) (vsv M (α 0) ([(1, 22)], 0, 121)) (vsv M (α 0) ([(2, 23)], 0, 121)) := ht
    refine ⟨⟨t1, pic1 hT g0 (by decide) (by decide), fun i hi => ?_⟩, trivial⟩
    rcases h i hi with q | q
    · have x := (hf i hi q).2
      have y := fbF_bd (by rw [e0]; omega) (TRF_rg ht hi) (by rw [e1]; omega)
      have x : ρ 2 ≤ fbF ((vsv M (α 1) ([], 0, 2)) 0) ((vsv M (α 1) ([], 0, 2)) 1) ((vsv M (α 0) ([(1, 22)], 0, 121)) i) := x
      omega
    · exact q
  exact ⟨nB, qB (key.1) (nB)⟩
def t_mpa1 : KT := ((0, 0, 0, 0), [(2, 0, 21, 0), (2, 1, 1, 0), (2, 2, 22, 0), (1, 3, 0, 0), (1, 4, 0, 0), (1, 5, 0, 0)], [(0, 0), (0, 0), (0, 0), (0, 120), (-2147483648, 2147483647), (-2147483648, 2147483647)], [(11, [(2, 0, 21, 0), (0, 0, 0, 1), (2, 2, 22, 0)]), (10, [(2, 2, 22, 0), (1, 3, 0, 0), (1, 4, 0, 0)]), (520, [(2, 1, 1, 0), (1, 4, 0, 0), (1, 5, 0, 0)])], (0, 0, 0), [], [], ([], [(548, [(2, 0, 21, 0), (2, 1, 1, 0), (1, 3, 0, 0), (1, 5, 0, 0)])]), ([], []))
set_option maxRecDepth 100000 in
theorem l_mpa1 (g : GG) : LOK Yt (PSt g) t_mpa1 := by
  intro ρ α Γ M as hT hB hA hP
  have g0 : Γ (α 0) = 21 := tyAt hA (i := 0) rfl
  have g1 : Γ (α 1) = 1 := tyAt hA (i := 1) rfl
  have g2 : Γ (α 2) = 22 := tyAt hA (i := 2) rfl
  have b3 : 0 ≤ ρ 3 ∧ ρ 3 ≤ 120 := hB 3
  have b4 : -2147483648 ≤ ρ 4 ∧ ρ 4 ≤ 2147483647 := hB 4
  have b5 : -2147483648 ≤ ρ 5 ∧ ρ 5 ≤ 2147483647 := hB 5
  have h0 : 0 ≤ (1 : Int) ∧ M.2.2.2.1 (α 0) (1 : Int).toNat = some (α 2) := hP _ (List.mem_of_getElem? (i := 0) rfl)
  have h1 : 0 ≤ (ρ 3 + 0 : Int) ∧ M.2.2.2.2 (α 2) (ρ 3 + 0 : Int).toNat = ρ 4 + 0 := hP _ (List.mem_of_getElem? (i := 1) rfl)
  have h2 : Γ (α 1) = 1 ∧ (∀ q ∈ ([([], 0, 2)] : VSP), wkT Γ M (α 1) q.1) ∧ Q520 g (vsv M (α 1) ([], 0, 2)) (ρ 4 + 0) (ρ 5 + 0) := hP _ (List.mem_of_getElem? (i := 2) rfl)
  try simp only [Int.add_zero] at h0 h1 h2
  have key : (Γ (α 0) = 21 ∧ (∀ q ∈ ([([(1, 22)], 0, 121)] : VSP), wkT Γ M (α 0) q.1) ∧ Γ (α 1) = 1 ∧ (∀ q ∈ ([([], 0, 2)] : VSP), wkT Γ M (α 1) q.1) ∧ Q548 g (vsv M (α 0) ([(1, 22)], 0, 121)) (vsv M (α 1) ([], 0, 2)) (ρ 3 + 0) (ρ 5 + 0)) ∧ True := by
    try simp only [Int.add_zero]
    have fe : fl M (α 0) 1 = α 2 := fl_eq (show M.2.2.2.1 (α 0) 1 = some (α 2) from h0.2)
    
    obtain ⟨-, -, h⟩ := h2
    have h : ρ 5 = fbF ((vsv M (α 1) ([], 0, 2)) 0) ((vsv M (α 1) ([], 0, 2)) 1) (ρ 4) := h
    refine ⟨⟨g0, pic1 hT g0 (by decide) (by decide), g1, pic1 hT g1 (by decide) (by decide), ?_⟩, trivial⟩
    show ρ 5 = fbF ((vsv M (α 1) ([], 0, 2)) 0) ((vsv M (α 1) ([], 0, 2)) 1) (clp [(0, 121)] (M.2.2.2.2 (fl M (α 0) 1)) (ρ 3).toNat)
    rw [fe, cAll (by omega), h1.2]
    exact h
  exact ⟨nB, qB (key.1) (nB)⟩
def t_mpa2 : KT := ((0, 0, 0, 0), [(2, 0, 21, 0), (2, 1, 1, 0), (2, 2, 24, 0), (1, 3, 0, 0), (1, 4, 0, 0)], [(0, 0), (0, 0), (0, 0), (-2147483648, 2147483647), (-2147483648, 2147483647)], [(540, [(2, 0, 21, 0), (2, 1, 1, 0), (1, 3, 0, 0), (1, 4, 0, 0)]), (541, [(2, 0, 21, 0), (1, 4, 0, 0)]), (11, [(2, 0, 21, 0), (0, 0, 0, 3), (2, 2, 24, 0)])], (0, 0, 0), [], [], ([], [(613, [(2, 2, 24, 0), (1, 4, 0, 0), (2, 0, 21, 0), (2, 1, 1, 0), (1, 3, 0, 0), (1, 4, 0, 0)])]), ([], []))
set_option maxRecDepth 100000 in
theorem l_mpa2 (g : GG) : LOK Yt (PSt g) t_mpa2 := by
  intro ρ α Γ M as hT hB hA hP
  have g0 : Γ (α 0) = 21 := tyAt hA (i := 0) rfl
  have g1 : Γ (α 1) = 1 := tyAt hA (i := 1) rfl
  have g2 : Γ (α 2) = 24 := tyAt hA (i := 2) rfl
  have b3 : -2147483648 ≤ ρ 3 ∧ ρ 3 ≤ 2147483647 := hB 3
  have b4 : -2147483648 ≤ ρ 4 ∧ ρ 4 ≤ 2147483647 := hB 4
  have h0 : Γ (α 0) = 21 ∧ (∀ q ∈ ([([], 0, 1), ([(1, 22)], 0, 121), ([(2, 23)], 0, 121), ([(3, 24)], 0, 121)] : VSP), wkT Γ M (α 0) q.1) ∧ Γ (α 1) = 1 ∧ (∀ q ∈ ([([], 0, 2)] : VSP), wkT Γ M (α 1) q.1) ∧ Q540 g (vsv M (α 0) ([], 0, 1)) (vsv M (α 0) ([(1, 22)], 0, 121)) (vsv M (α 0) ([(2, 23)], 0, 121)) (vsv M (α 0) ([(3, 24)], 0, 121)) (vsv M (α 1) ([], 0, 2)) (ρ 3 + 0) (ρ 4 + 0) := hP _ (List.mem_of_getElem? (i := 0) rfl)
  have h1 : Γ (α 0) = 21 ∧ (∀ q ∈ ([([], 0, 1), ([(3, 24)], 0, 121)] : VSP), wkT Γ M (α 0) q.1) ∧ Q541 g (vsv M (α 0) ([], 0, 1)) (vsv M (α 0) ([(3, 24)], 0, 121)) (ρ 4 + 0) := hP _ (List.mem_of_getElem? (i := 1) rfl)
  have h2 : 0 ≤ (3 : Int) ∧ M.2.2.2.1 (α 0) (3 : Int).toNat = some (α 2) := hP _ (List.mem_of_getElem? (i := 2) rfl)
  try simp only [Int.add_zero] at h0 h1 h2
  have key : (Γ (α 2) = 24 ∧ wlk M (α 0) [(3, 24)] = (α 2) ∧ wkT Γ M (α 0) [(3, 24)] ∧ Γ (α 0) = 21 ∧ (∀ q ∈ ([([], 0, 1), ([(1, 22)], 0, 121), ([(2, 23)], 0, 121)] : VSP), wkT Γ M (α 0) q.1) ∧ Γ (α 1) = 1 ∧ (∀ q ∈ ([([], 0, 2)] : VSP), wkT Γ M (α 1) q.1) ∧ Q613 g (hcl [vi (ρ 4 + 0)] (clp [(0, 121)] (M.2.2.2.2 (α 2)))) (ρ 4 + 0) (vsv M (α 0) ([], 0, 1)) (vsv M (α 0) ([(1, 22)], 0, 121)) (vsv M (α 0) ([(2, 23)], 0, 121)) (vsv M (α 1) ([], 0, 2)) (ρ 3 + 0) (ρ 4 + 0)) ∧ True := by
    try simp only [Int.add_zero]
    have fe : fl M (α 0) 3 = α 2 := fl_eq (show M.2.2.2.1 (α 0) 3 = some (α 2) from h2.2)
    have mte : ∀ j : Nat, (j : Int) ≠ ρ 4 → hcl [vi (ρ 4)] (clp [(0, 121)] (M.2.2.2.2 (α 2))) j = (vsv M (α 0) ([(3, 24)], 0, 121)) j := fun j hj => by rw [hcl1 hj]; show _ = clp [(0, 121)] (M.2.2.2.2 (fl M (α 0) 3)) j; rw [fe]
    
    obtain ⟨-, -, -, -, h, hf⟩ := h0
    obtain ⟨-, -, hb, hv⟩ := h1
    have hv : (vsv M (α 0) ([(3, 24)], 0, 121)) (ρ 4).toNat = -2 := hv
    have ue : ∀ j : Nat, upZ (hcl [vi (ρ 4)] (clp [(0, 121)] (M.2.2.2.2 (α 2)))) (ρ 4) (-2) j = (vsv M (α 0) ([(3, 24)], 0, 121)) j := fun j => by
      by_cases hj : (j : Int) = ρ 4
      · rw [upZ_at hj, show j = (ρ 4).toNat by omega]
        exact hv.symm
      · rw [upZ_ne hj]
        exact mte j hj
    refine ⟨⟨g2, fe, wk1 h2.2 g2, g0, pic1 hT g0 (by decide) (by decide), g1, pic1 hT g1 (by decide) (by decide), rfl, hb, ?_, ?_⟩, trivial⟩
    · exact MTP_c (fun j _ => rfl) (fun j _ => ue j) h
    · exact fun j hj hm => hf j hj (by rw [← ue j]; exact hm)
  exact ⟨nB, qB (key.1) (nB)⟩
def t_mpa3 : KT := ((0, 0, 0, 0), [(2, 0, 21, 0), (2, 1, 1, 0), (2, 2, 24, 0), (1, 3, 0, 0), (1, 4, 0, 0)], [(0, 0), (0, 0), (0, 0), (-2147483648, 2147483647), (0, 120)], [(613, [(2, 2, 24, 0), (1, 4, 0, 0), (2, 0, 21, 0), (2, 1, 1, 0), (1, 3, 0, 0), (1, 4, 0, 0)]), (10, [(2, 2, 24, 0), (1, 4, 0, 0), (0, 0, 0, -1)])], (0, 0, 0), [], [], ([], [(540, [(2, 0, 21, 0), (2, 1, 1, 0), (1, 3, 0, 0), (1, 4, 0, 1)])]), ([], []))
set_option maxRecDepth 100000 in
theorem l_mpa3 (g : GG) : LOK Yt (PSt g) t_mpa3 := by
  intro ρ α Γ M as hT hB hA hP
  have g0 : Γ (α 0) = 21 := tyAt hA (i := 0) rfl
  have g1 : Γ (α 1) = 1 := tyAt hA (i := 1) rfl
  have g2 : Γ (α 2) = 24 := tyAt hA (i := 2) rfl
  have b3 : -2147483648 ≤ ρ 3 ∧ ρ 3 ≤ 2147483647 := hB 3
  have b4 : 0 ≤ ρ 4 ∧ ρ 4 ≤ 120 := hB 4
  have h0 : Γ (α 2) = 24 ∧ wlk M (α 0) [(3, 24)] = (α 2) ∧ wkT Γ M (α 0) [(3, 24)] ∧ Γ (α 0) = 21 ∧ (∀ q ∈ ([([], 0, 1), ([(1, 22)], 0, 121), ([(2, 23)], 0, 121)] : VSP), wkT Γ M (α 0) q.1) ∧ Γ (α 1) = 1 ∧ (∀ q ∈ ([([], 0, 2)] : VSP), wkT Γ M (α 1) q.1) ∧ Q613 g (hcl [vi (ρ 4 + 0)] (clp [(0, 121)] (M.2.2.2.2 (α 2)))) (ρ 4 + 0) (vsv M (α 0) ([], 0, 1)) (vsv M (α 0) ([(1, 22)], 0, 121)) (vsv M (α 0) ([(2, 23)], 0, 121)) (vsv M (α 1) ([], 0, 2)) (ρ 3 + 0) (ρ 4 + 0) := hP _ (List.mem_of_getElem? (i := 0) rfl)
  have h1 : 0 ≤ (ρ 4 + 0 : Int) ∧ M.2.2.2.2 (α 2) (ρ 4 + 0 : Int).toNat = (-1) := hP _ (List.mem_of_getElem? (i := 1) rfl)
  try simp only [Int.add_zero] at h0 h1
  have key : (Γ (α 0) = 21 ∧ (∀ q ∈ ([([], 0, 1), ([(1, 22)], 0, 121), ([(2, 23)], 0, 121), ([(3, 24)], 0, 121)] : VSP), wkT Γ M (α 0) q.1) ∧ Γ (α 1) = 1 ∧ (∀ q ∈ ([([], 0, 2)] : VSP), wkT Γ M (α 1) q.1) ∧ Q540 g (vsv M (α 0) ([], 0, 1)) (vsv M (α 0) ([(1, 22)], 0, 121)) (vsv M (α 0) ([(2, 23)], 0, 121)) (vsv M (α 0) ([(3, 24)], 0, 121)) (vsv M (α 1) ([], 0, 2)) (ρ 3 + 0) (ρ 4 + 1)) ∧ True := by
    try simp only [Int.add_zero]
    obtain ⟨-, fe, -, -, -, t3, t4, -, hb, h, hf⟩ := h0
    have fe : fl M (α 0) 3 = α 2 := fe
    have mte : ∀ j : Nat, (j : Int) ≠ ρ 4 → hcl [vi (ρ 4)] (clp [(0, 121)] (M.2.2.2.2 (α 2))) j = (vsv M (α 0) ([(3, 24)], 0, 121)) j := fun j hj => by rw [hcl1 hj]; show _ = clp [(0, 121)] (M.2.2.2.2 (fl M (α 0) 3)) j; rw [fe]
    
    have hx : (vsv M (α 0) ([(3, 24)], 0, 121)) (ρ 4).toNat = -1 := by
      show clp [(0, 121)] (M.2.2.2.2 (fl M (α 0) 3)) (ρ 4).toNat = -1
      rw [fe, cAll (by omega)]
      exact h1.2
    have ue : ∀ j : Nat, upZ (vsv M (α 0) ([(3, 24)], 0, 121)) (ρ 4) (-2) j = upZ (hcl [vi (ρ 4)] (clp [(0, 121)] (M.2.2.2.2 (α 2)))) (ρ 4) (-2) j := fun j => by
      by_cases hj : (j : Int) = ρ 4
      · rw [upZ_at hj, upZ_at hj]
      · rw [upZ_ne hj, upZ_ne hj]
        exact (mte j hj).symm
    refine ⟨⟨g0, pic1 hT g0 (by decide) (by decide), g1, pic1 hT g1 (by decide) (by decide), ?_, ?_⟩, trivial⟩
    · exact MTP_b b4.1 (MTP_c (fun j _ => rfl) (fun j _ => ue j) h) hx
    · intro j hj hm
      have hji : (j : Int) ≠ ρ 4 := fun e => by
        rw [show j = (ρ 4).toNat by omega] at hm
        have := hm.symm.trans hx
        omega
      obtain ⟨q1, q2⟩ := hf j hj (by rw [upZ_ne hji, mte j hji]; exact hm)
      exact ⟨fun hn => q1 (by omega), q2⟩
  exact ⟨nB, qB (key.1) (nB)⟩
def t_mpa4 : KT := ((0, 0, 0, 0), [(2, 0, 21, 0), (2, 1, 1, 0), (1, 2, 0, 0), (1, 3, 0, 0), (1, 4, 0, 0)], [(0, 0), (0, 0), (-2147483648, 2147483647), (-2147483648, 2147483647), (-2147483648, 2147483647)], [(540, [(2, 0, 21, 0), (2, 1, 1, 0), (1, 2, 0, 0), (1, 3, 0, 0)]), (541, [(2, 0, 21, 0), (1, 3, 0, 0)]), (548, [(2, 0, 21, 0), (2, 1, 1, 0), (1, 3, 0, 0), (1, 4, 0, 0)]), (99, [(1, 4, 0, 0), (1, 2, 0, 0), (0, 0, 0, 0)])], (0, 0, 0), [], [], ([], [(545, [(2, 0, 21, 0), (2, 1, 1, 0), (1, 3, 0, 0), (1, 2, 0, 0)])]), ([], []))
set_option maxRecDepth 100000 in
theorem l_mpa4 (g : GG) : LOK Yt (PSt g) t_mpa4 := by
  intro ρ α Γ M as hT hB hA hP
  have g0 : Γ (α 0) = 21 := tyAt hA (i := 0) rfl
  have g1 : Γ (α 1) = 1 := tyAt hA (i := 1) rfl
  have b2 : -2147483648 ≤ ρ 2 ∧ ρ 2 ≤ 2147483647 := hB 2
  have b3 : -2147483648 ≤ ρ 3 ∧ ρ 3 ≤ 2147483647 := hB 3
  have b4 : -2147483648 ≤ ρ 4 ∧ ρ 4 ≤ 2147483647 := hB 4
  have h0 : Γ (α 0) = 21 ∧ (∀ q ∈ ([([], 0, 1), ([(1, 22)], 0, 121), ([(2, 23)], 0, 121), ([(3, 24)], 0, 121)] : VSP), wkT Γ M (α 0) q.1) ∧ Γ (α 1) = 1 ∧ (∀ q ∈ ([([], 0, 2)] : VSP), wkT Γ M (α 1) q.1) ∧ Q540 g (vsv M (α 0) ([], 0, 1)) (vsv M (α 0) ([(1, 22)], 0, 121)) (vsv M (α 0) ([(2, 23)], 0, 121)) (vsv M (α 0) ([(3, 24)], 0, 121)) (vsv M (α 1) ([], 0, 2)) (ρ 2 + 0) (ρ 3 + 0) := hP _ (List.mem_of_getElem? (i := 0) rfl)
  have h1 : Γ (α 0) = 21 ∧ (∀ q ∈ ([([], 0, 1), ([(3, 24)], 0, 121)] : VSP), wkT Γ M (α 0) q.1) ∧ Q541 g (vsv M (α 0) ([], 0, 1)) (vsv M (α 0) ([(3, 24)], 0, 121)) (ρ 3 + 0) := hP _ (List.mem_of_getElem? (i := 1) rfl)
  have h2 : Γ (α 0) = 21 ∧ (∀ q ∈ ([([(1, 22)], 0, 121)] : VSP), wkT Γ M (α 0) q.1) ∧ Γ (α 1) = 1 ∧ (∀ q ∈ ([([], 0, 2)] : VSP), wkT Γ M (α 1) q.1) ∧ Q548 g (vsv M (α 0) ([(1, 22)], 0, 121)) (vsv M (α 1) ([], 0, 2)) (ρ 3 + 0) (ρ 4 + 0) := hP _ (List.mem_of_getElem? (i := 2) rfl)
  have h3 : (ρ 4 + 0 : Int) ≠ ρ 2 + 0 := hP _ (List.mem_of_getElem? (i := 3) rfl)
  try simp only [Int.add_zero] at h0 h1 h2 h3
  have key : (Γ (α 0) = 21 ∧ (∀ q ∈ ([([(1, 22)], 0, 121)] : VSP), wkT Γ M (α 0) q.1) ∧ Γ (α 1) = 1 ∧ (∀ q ∈ ([([], 0, 2)] : VSP), wkT Γ M (α 1) q.1) ∧ Q545 g (vsv M (α 0) ([(1, 22)], 0, 121)) (vsv M (α 1) ([], 0, 2)) (ρ 3 + 0) (ρ 2 + 0)) ∧ True := by
    try simp only [Int.add_zero]
    obtain ⟨-, -, t3, t4, h, hf⟩ := h0
    obtain ⟨-, -, hb, hv⟩ := h1
    obtain ⟨-, -, -, -, hz⟩ := h2
    have hz : ρ 4 = fbF ((vsv M (α 1) ([], 0, 2)) 0) ((vsv M (α 1) ([], 0, 2)) 1) ((vsv M (α 0) ([(1, 22)], 0, 121)) (ρ 3).toNat) := hz
    have hb : 0 ≤ ρ 3 ∧ ρ 3 < (vsv M (α 0) ([], 0, 1)) 0 := hb
    have x : ρ 2 ≤ fbF ((vsv M (α 1) ([], 0, 2)) 0) ((vsv M (α 1) ([], 0, 2)) 1) ((vsv M (α 0) ([(1, 22)], 0, 121)) (ρ 3).toNat) := (hf (ρ 3).toNat (by omega) hv).2
    refine ⟨⟨g0, pic1 hT g0 (by decide) (by decide), g1, pic1 hT g1 (by decide) (by decide), ?_⟩, trivial⟩
    show ρ 2 < fbF ((vsv M (α 1) ([], 0, 2)) 0) ((vsv M (α 1) ([], 0, 2)) 1) ((vsv M (α 0) ([(1, 22)], 0, 121)) (ρ 3).toNat)
    omega
  exact ⟨nB, qB (key.1) (nB)⟩
def t_mltS : KT := ((0, 0, 0, 0), [(1, 0, 0, 0)], [(-2147483648, 2147483647)], [], (0, 0, 0), [], [], ([], [(21, [(1, 0, 0, 0), (1, 0, 0, 1)])]), ([], []))
set_option maxRecDepth 100000 in
theorem l_mltS (g : GG) : LOK Yt (PSt g) t_mltS := by
  intro ρ α Γ M as hT hB hA hP
  have b0 : -2147483648 ≤ ρ 0 ∧ ρ 0 ≤ 2147483647 := hB 0
  have key : (ρ 0 + 0 < ρ 0 + 1) ∧ True := by
    try simp only [Int.add_zero]
    exact ⟨by omega, trivial⟩
  exact ⟨nB, qB (key.1) (nB)⟩
def t_mltT : KT := ((0, 0, 0, 0), [(1, 0, 0, 0), (1, 1, 0, 0)], [(-2147483648, 2147483647), (-2147483648, 2147483647)], [(21, [(1, 0, 0, 0), (1, 1, 0, -1)])], (0, 0, 0), [], [], ([], [(21, [(1, 0, 0, 0), (1, 1, 0, 0)])]), ([], []))
set_option maxRecDepth 100000 in
theorem l_mltT (g : GG) : LOK Yt (PSt g) t_mltT := by
  intro ρ α Γ M as hT hB hA hP
  have b0 : -2147483648 ≤ ρ 0 ∧ ρ 0 ≤ 2147483647 := hB 0
  have b1 : -2147483648 ≤ ρ 1 ∧ ρ 1 ≤ 2147483647 := hB 1
  have h0 : ρ 0 + 0 < ρ 1 + (-1) := hP _ (List.mem_of_getElem? (i := 0) rfl)
  try simp only [Int.add_zero] at h0
  have key : (ρ 0 + 0 < ρ 1 + 0) ∧ True := by
    try simp only [Int.add_zero]
    exact ⟨by omega, trivial⟩
  exact ⟨nB, qB (key.1) (nB)⟩
def t_mpa5 : KT := ((0, 0, 0, 0), [(2, 0, 21, 0), (2, 1, 23, 0), (1, 2, 0, 0), (1, 3, 0, 0), (1, 4, 0, 0), (1, 5, 0, 0)], [(0, 0), (0, 0), (0, 120), (0, 120), (-2147483648, 2147483647), (-2147483648, 2147483647)], [(11, [(2, 0, 21, 0), (0, 0, 0, 2), (2, 1, 23, 0)]), (10, [(2, 1, 23, 0), (1, 3, 0, 0), (1, 4, 0, 0)]), (10, [(2, 1, 23, 0), (1, 2, 0, 0), (1, 5, 0, 0)]), (99, [(1, 4, 0, 0), (1, 5, 0, 0), (0, 0, 0, 0)])], (0, 0, 0), [], [], ([], [(546, [(2, 0, 21, 0), (1, 2, 0, 0), (1, 3, 0, 0)])]), ([], []))
set_option maxRecDepth 100000 in
theorem l_mpa5 (g : GG) : LOK Yt (PSt g) t_mpa5 := by
  intro ρ α Γ M as hT hB hA hP
  have g0 : Γ (α 0) = 21 := tyAt hA (i := 0) rfl
  have g1 : Γ (α 1) = 23 := tyAt hA (i := 1) rfl
  have b2 : 0 ≤ ρ 2 ∧ ρ 2 ≤ 120 := hB 2
  have b3 : 0 ≤ ρ 3 ∧ ρ 3 ≤ 120 := hB 3
  have b4 : -2147483648 ≤ ρ 4 ∧ ρ 4 ≤ 2147483647 := hB 4
  have b5 : -2147483648 ≤ ρ 5 ∧ ρ 5 ≤ 2147483647 := hB 5
  have h0 : 0 ≤ (2 : Int) ∧ M.2.2.2.1 (α 0) (2 : Int).toNat = some (α 1) := hP _ (List.mem_of_getElem? (i := 0) rfl)
  have h1 : 0 ≤ (ρ 3 + 0 : Int) ∧ M.2.2.2.2 (α 1) (ρ 3 + 0 : Int).toNat = ρ 4 + 0 := hP _ (List.mem_of_getElem? (i := 1) rfl)
  have h2 : 0 ≤ (ρ 2 + 0 : Int) ∧ M.2.2.2.2 (α 1) (ρ 2 + 0 : Int).toNat = ρ 5 + 0 := hP _ (List.mem_of_getElem? (i := 2) rfl)
  have h3 : (ρ 4 + 0 : Int) ≠ ρ 5 + 0 := hP _ (List.mem_of_getElem? (i := 3) rfl)
  try simp only [Int.add_zero] at h0 h1 h2 h3
  have key : (Γ (α 0) = 21 ∧ (∀ q ∈ ([([(2, 23)], 0, 121)] : VSP), wkT Γ M (α 0) q.1) ∧ Q546 g (vsv M (α 0) ([(2, 23)], 0, 121)) (ρ 2 + 0) (ρ 3 + 0)) ∧ True := by
    try simp only [Int.add_zero]
    have fe : fl M (α 0) 2 = α 1 := fl_eq (show M.2.2.2.1 (α 0) 2 = some (α 1) from h0.2)
    
    refine ⟨⟨g0, pic1 hT g0 (by decide) (by decide), ?_⟩, trivial⟩
    show clp [(0, 121)] (M.2.2.2.2 (fl M (α 0) 2)) (ρ 3).toNat ≠ clp [(0, 121)] (M.2.2.2.2 (fl M (α 0) 2)) (ρ 2).toNat
    rw [fe, cAll (by omega), cAll (by omega), h1.2, h2.2]
    exact h3
  exact ⟨nB, qB (key.1) (nB)⟩
def t_mpa6 : KT := ((0, 0, 0, 0), [(2, 0, 21, 0), (2, 1, 1, 0), (2, 2, 24, 0), (1, 3, 0, 0), (1, 4, 0, 0), (1, 5, 0, 0), (1, 6, 0, 0)], [(0, 0), (0, 0), (0, 0), (-2147483648, 2147483647), (-2147483648, 2147483647), (-2147483648, 2147483647), (-2, -2)], [(540, [(2, 0, 21, 0), (2, 1, 1, 0), (1, 3, 0, 0), (1, 4, 0, 0)]), (541, [(2, 0, 21, 0), (1, 4, 0, 0)]), (11, [(2, 0, 21, 0), (0, 0, 0, 3), (2, 2, 24, 0)]), (547, [(2, 0, 21, 0), (1, 5, 0, 0), (1, 6, 0, 0)]), (546, [(2, 0, 21, 0), (1, 4, 0, 0), (1, 5, 0, 0)]), (21, [(1, 4, 0, 0), (1, 5, 0, 0)])], (0, 0, 0), [], [], ([], [(615, [(2, 2, 24, 0), (1, 4, 0, 0), (2, 0, 21, 0), (2, 1, 1, 0), (1, 3, 0, 0), (1, 4, 0, 0), (1, 5, 0, 0)])]), ([], []))
set_option maxRecDepth 100000 in
theorem l_mpa6 (g : GG) : LOK Yt (PSt g) t_mpa6 := by
  intro ρ α Γ M as hT hB hA hP
  have g0 : Γ (α 0) = 21 := tyAt hA (i := 0) rfl
  have g1 : Γ (α 1) = 1 := tyAt hA (i := 1) rfl
  have g2 : Γ (α 2) = 24 := tyAt hA (i := 2) rfl
  have b3 : -2147483648 ≤ ρ 3 ∧ ρ 3 ≤ 2147483647 := hB 3
  have b4 : -2147483648 ≤ ρ 4 ∧ ρ 4 ≤ 2147483647 := hB 4
  have b5 : -2147483648 ≤ ρ 5 ∧ ρ 5 ≤ 2147483647 := hB 5
  have b6 : -2 ≤ ρ 6 ∧ ρ 6 ≤ -2 := hB 6
  have h0 : Γ (α 0) = 21 ∧ (∀ q ∈ ([([], 0, 1), ([(1, 22)], 0, 121), ([(2, 23)], 0, 121), ([(3, 24)], 0, 121)] : VSP), wkT Γ M (α 0) q.1) ∧ Γ (α 1) = 1 ∧ (∀ q ∈ ([([], 0, 2)] : VSP), wkT Γ M (α 1) q.1) ∧ Q540 g (vsv M (α 0) ([], 0, 1)) (vsv M (α 0) ([(1, 22)], 0, 121)) (vsv M (α 0) ([(2, 23)], 0, 121)) (vsv M (α 0) ([(3, 24)], 0, 121)) (vsv M (α 1) ([], 0, 2)) (ρ 3 + 0) (ρ 4 + 0) := hP _ (List.mem_of_getElem? (i := 0) rfl)
  have h1 : Γ (α 0) = 21 ∧ (∀ q ∈ ([([], 0, 1), ([(3, 24)], 0, 121)] : VSP), wkT Γ M (α 0) q.1) ∧ Q541 g (vsv M (α 0) ([], 0, 1)) (vsv M (α 0) ([(3, 24)], 0, 121)) (ρ 4 + 0) := hP _ (List.mem_of_getElem? (i := 1) rfl)
  have h2 : 0 ≤ (3 : Int) ∧ M.2.2.2.1 (α 0) (3 : Int).toNat = some (α 2) := hP _ (List.mem_of_getElem? (i := 2) rfl)
  have h3 : Γ (α 0) = 21 ∧ (∀ q ∈ ([([], 0, 1), ([(3, 24)], 0, 121)] : VSP), wkT Γ M (α 0) q.1) ∧ Q547 g (vsv M (α 0) ([], 0, 1)) (vsv M (α 0) ([(3, 24)], 0, 121)) (ρ 5 + 0) (ρ 6 + 0) := hP _ (List.mem_of_getElem? (i := 3) rfl)
  have h4 : Γ (α 0) = 21 ∧ (∀ q ∈ ([([(2, 23)], 0, 121)] : VSP), wkT Γ M (α 0) q.1) ∧ Q546 g (vsv M (α 0) ([(2, 23)], 0, 121)) (ρ 4 + 0) (ρ 5 + 0) := hP _ (List.mem_of_getElem? (i := 4) rfl)
  have h5 : ρ 4 + 0 < ρ 5 + 0 := hP _ (List.mem_of_getElem? (i := 5) rfl)
  try simp only [Int.add_zero] at h0 h1 h2 h3 h4 h5
  have key : (Γ (α 2) = 24 ∧ wlk M (α 0) [(3, 24)] = (α 2) ∧ wkT Γ M (α 0) [(3, 24)] ∧ Γ (α 0) = 21 ∧ (∀ q ∈ ([([], 0, 1), ([(1, 22)], 0, 121), ([(2, 23)], 0, 121)] : VSP), wkT Γ M (α 0) q.1) ∧ Γ (α 1) = 1 ∧ (∀ q ∈ ([([], 0, 2)] : VSP), wkT Γ M (α 1) q.1) ∧ Q615 g (hcl [vi (ρ 4 + 0)] (clp [(0, 121)] (M.2.2.2.2 (α 2)))) (ρ 4 + 0) (vsv M (α 0) ([], 0, 1)) (vsv M (α 0) ([(1, 22)], 0, 121)) (vsv M (α 0) ([(2, 23)], 0, 121)) (vsv M (α 1) ([], 0, 2)) (ρ 3 + 0) (ρ 4 + 0) (ρ 5 + 0)) ∧ True := by
    try simp only [Int.add_zero]
    have fe : fl M (α 0) 3 = α 2 := fl_eq (show M.2.2.2.1 (α 0) 3 = some (α 2) from h2.2)
    have mte : ∀ j : Nat, (j : Int) ≠ ρ 4 → hcl [vi (ρ 4)] (clp [(0, 121)] (M.2.2.2.2 (α 2))) j = (vsv M (α 0) ([(3, 24)], 0, 121)) j := fun j hj => by rw [hcl1 hj]; show _ = clp [(0, 121)] (M.2.2.2.2 (fl M (α 0) 3)) j; rw [fe]
    
    obtain ⟨-, -, -, -, h, hf⟩ := h0
    obtain ⟨-, -, hb, hv⟩ := h1
    have hv : (vsv M (α 0) ([(3, 24)], 0, 121)) (ρ 4).toNat = -2 := hv
    obtain ⟨-, -, hb5, hv5⟩ := h3
    have hv5 : (vsv M (α 0) ([(3, 24)], 0, 121)) (ρ 5).toNat = ρ 6 := hv5
    obtain ⟨-, -, hc⟩ := h4
    have ue : ∀ j : Nat, upZ (hcl [vi (ρ 4)] (clp [(0, 121)] (M.2.2.2.2 (α 2)))) (ρ 4) (-2) j = (vsv M (α 0) ([(3, 24)], 0, 121)) j := fun j => by
      by_cases hj : (j : Int) = ρ 4
      · rw [upZ_at hj, show j = (ρ 4).toNat by omega]
        exact hv.symm
      · rw [upZ_ne hj]
        exact mte j hj
    refine ⟨⟨g2, fe, wk1 h2.2 g2, g0, pic1 hT g0 (by decide) (by decide), g1, pic1 hT g1 (by decide) (by decide), rfl, ?_, ?_, ?_, ?_, ?_⟩, trivial⟩
    · exact ⟨hb.1, h5, hb5.2⟩
    · rw [mte _ (by omega), hv5]
      omega
    · exact hc
    · exact MTP_c (fun j _ => rfl) (fun j _ => ue j) h
    · exact fun j hj hm => hf j hj (by rw [← ue j]; exact hm)
  exact ⟨nB, qB (key.1) (nB)⟩
def t_mpa7 : KT := ((0, 0, 0, 0), [(2, 0, 21, 0), (2, 1, 1, 0), (2, 2, 24, 0), (1, 3, 0, 0), (1, 4, 0, 0), (1, 5, 0, 0)], [(0, 0), (0, 0), (0, 0), (-2147483648, 2147483647), (0, 120), (-2147483648, 2147483647)], [(615, [(2, 2, 24, 0), (1, 4, 0, 0), (2, 0, 21, 0), (2, 1, 1, 0), (1, 3, 0, 0), (1, 4, 0, 0), (1, 5, 0, 0)]), (10, [(2, 2, 24, 0), (1, 4, 0, 0), (1, 5, 0, 0)])], (0, 0, 0), [], [], ([], [(543, [(2, 0, 21, 0), (2, 1, 1, 0), (1, 3, 0, 0), (1, 4, 0, 0), (1, 5, 0, 0)])]), ([], []))
set_option maxRecDepth 100000 in
theorem l_mpa7 (g : GG) : LOK Yt (PSt g) t_mpa7 := by
  intro ρ α Γ M as hT hB hA hP
  have g0 : Γ (α 0) = 21 := tyAt hA (i := 0) rfl
  have g1 : Γ (α 1) = 1 := tyAt hA (i := 1) rfl
  have g2 : Γ (α 2) = 24 := tyAt hA (i := 2) rfl
  have b3 : -2147483648 ≤ ρ 3 ∧ ρ 3 ≤ 2147483647 := hB 3
  have b4 : 0 ≤ ρ 4 ∧ ρ 4 ≤ 120 := hB 4
  have b5 : -2147483648 ≤ ρ 5 ∧ ρ 5 ≤ 2147483647 := hB 5
  have h0 : Γ (α 2) = 24 ∧ wlk M (α 0) [(3, 24)] = (α 2) ∧ wkT Γ M (α 0) [(3, 24)] ∧ Γ (α 0) = 21 ∧ (∀ q ∈ ([([], 0, 1), ([(1, 22)], 0, 121), ([(2, 23)], 0, 121)] : VSP), wkT Γ M (α 0) q.1) ∧ Γ (α 1) = 1 ∧ (∀ q ∈ ([([], 0, 2)] : VSP), wkT Γ M (α 1) q.1) ∧ Q615 g (hcl [vi (ρ 4 + 0)] (clp [(0, 121)] (M.2.2.2.2 (α 2)))) (ρ 4 + 0) (vsv M (α 0) ([], 0, 1)) (vsv M (α 0) ([(1, 22)], 0, 121)) (vsv M (α 0) ([(2, 23)], 0, 121)) (vsv M (α 1) ([], 0, 2)) (ρ 3 + 0) (ρ 4 + 0) (ρ 5 + 0) := hP _ (List.mem_of_getElem? (i := 0) rfl)
  have h1 : 0 ≤ (ρ 4 + 0 : Int) ∧ M.2.2.2.2 (α 2) (ρ 4 + 0 : Int).toNat = ρ 5 + 0 := hP _ (List.mem_of_getElem? (i := 1) rfl)
  try simp only [Int.add_zero] at h0 h1
  have key : (Γ (α 0) = 21 ∧ (∀ q ∈ ([([], 0, 1), ([(1, 22)], 0, 121), ([(2, 23)], 0, 121), ([(3, 24)], 0, 121)] : VSP), wkT Γ M (α 0) q.1) ∧ Γ (α 1) = 1 ∧ (∀ q ∈ ([([], 0, 2)] : VSP), wkT Γ M (α 1) q.1) ∧ Q543 g (vsv M (α 0) ([], 0, 1)) (vsv M (α 0) ([(1, 22)], 0, 121)) (vsv M (α 0) ([(2, 23)], 0, 121)) (vsv M (α 0) ([(3, 24)], 0, 121)) (vsv M (α 1) ([], 0, 2)) (ρ 3 + 0) (ρ 4 + 0) (ρ 5 + 0)) ∧ True := by
    try simp only [Int.add_zero]
    obtain ⟨-, fe, -, -, -, t3, t4, -, hb, hm, hc, h, hf⟩ := h0
    have fe : fl M (α 0) 3 = α 2 := fe
    have mte : ∀ j : Nat, (j : Int) ≠ ρ 4 → hcl [vi (ρ 4)] (clp [(0, 121)] (M.2.2.2.2 (α 2))) j = (vsv M (α 0) ([(3, 24)], 0, 121)) j := fun j hj => by rw [hcl1 hj]; show _ = clp [(0, 121)] (M.2.2.2.2 (fl M (α 0) 3)) j; rw [fe]
    
    have hx : (vsv M (α 0) ([(3, 24)], 0, 121)) (ρ 4).toNat = ρ 5 := by
      show clp [(0, 121)] (M.2.2.2.2 (fl M (α 0) 3)) (ρ 4).toNat = ρ 5
      rw [fe, cAll (by omega)]
      exact h1.2
    have ue : ∀ j : Nat, upZ (vsv M (α 0) ([(3, 24)], 0, 121)) (ρ 4) (-2) j = upZ (hcl [vi (ρ 4)] (clp [(0, 121)] (M.2.2.2.2 (α 2)))) (ρ 4) (-2) j := fun j => by
      by_cases hj : (j : Int) = ρ 4
      · rw [upZ_at hj, upZ_at hj]
      · rw [upZ_ne hj, upZ_ne hj]
        exact (mte j hj).symm
    refine ⟨⟨g0, pic1 hT g0 (by decide) (by decide), g1, pic1 hT g1 (by decide) (by decide), ?_, hx, ?_, ?_, ?_, ?_⟩, trivial⟩
    · exact hb
    · rw [← mte _ (by omega)]
      exact hm
    · exact hc
    · exact MTP_c (fun j _ => rfl) (fun j _ => ue j) h
    · exact fun j hj hq => hf j hj (by rw [← ue j]; exact hq)
  exact ⟨nB, qB (key.1) (nB)⟩
def t_mpa8 : KT := ((0, 0, 0, 0), [(2, 0, 21, 0), (2, 1, 1, 0), (2, 2, 24, 0), (1, 3, 0, 0), (1, 4, 0, 0), (1, 5, 0, 0)], [(0, 0), (0, 0), (0, 0), (-2147483648, 2147483647), (-2147483648, 2147483647), (-2147483648, 2147483647)], [(543, [(2, 0, 21, 0), (2, 1, 1, 0), (1, 3, 0, 0), (1, 4, 0, 0), (1, 5, 0, 0)]), (11, [(2, 0, 21, 0), (0, 0, 0, 3), (2, 2, 24, 0)])], (0, 0, 0), [], [], ([], [(614, [(2, 2, 24, 0), (1, 5, 0, 0), (2, 0, 21, 0), (2, 1, 1, 0), (1, 3, 0, 0), (1, 4, 0, 0), (1, 5, 0, 0)])]), ([], []))
set_option maxRecDepth 100000 in
theorem l_mpa8 (g : GG) : LOK Yt (PSt g) t_mpa8 := by
  intro ρ α Γ M as hT hB hA hP
  have g0 : Γ (α 0) = 21 := tyAt hA (i := 0) rfl
  have g1 : Γ (α 1) = 1 := tyAt hA (i := 1) rfl
  have g2 : Γ (α 2) = 24 := tyAt hA (i := 2) rfl
  have b3 : -2147483648 ≤ ρ 3 ∧ ρ 3 ≤ 2147483647 := hB 3
  have b4 : -2147483648 ≤ ρ 4 ∧ ρ 4 ≤ 2147483647 := hB 4
  have b5 : -2147483648 ≤ ρ 5 ∧ ρ 5 ≤ 2147483647 := hB 5
  have h0 : Γ (α 0) = 21 ∧ (∀ q ∈ ([([], 0, 1), ([(1, 22)], 0, 121), ([(2, 23)], 0, 121), ([(3, 24)], 0, 121)] : VSP), wkT Γ M (α 0) q.1) ∧ Γ (α 1) = 1 ∧ (∀ q ∈ ([([], 0, 2)] : VSP), wkT Γ M (α 1) q.1) ∧ Q543 g (vsv M (α 0) ([], 0, 1)) (vsv M (α 0) ([(1, 22)], 0, 121)) (vsv M (α 0) ([(2, 23)], 0, 121)) (vsv M (α 0) ([(3, 24)], 0, 121)) (vsv M (α 1) ([], 0, 2)) (ρ 3 + 0) (ρ 4 + 0) (ρ 5 + 0) := hP _ (List.mem_of_getElem? (i := 0) rfl)
  have h1 : 0 ≤ (3 : Int) ∧ M.2.2.2.1 (α 0) (3 : Int).toNat = some (α 2) := hP _ (List.mem_of_getElem? (i := 1) rfl)
  try simp only [Int.add_zero] at h0 h1
  have key : (Γ (α 2) = 24 ∧ wlk M (α 0) [(3, 24)] = (α 2) ∧ wkT Γ M (α 0) [(3, 24)] ∧ Γ (α 0) = 21 ∧ (∀ q ∈ ([([], 0, 1), ([(1, 22)], 0, 121), ([(2, 23)], 0, 121)] : VSP), wkT Γ M (α 0) q.1) ∧ Γ (α 1) = 1 ∧ (∀ q ∈ ([([], 0, 2)] : VSP), wkT Γ M (α 1) q.1) ∧ Q614 g (hcl [vi (ρ 5 + 0)] (clp [(0, 121)] (M.2.2.2.2 (α 2)))) (ρ 5 + 0) (vsv M (α 0) ([], 0, 1)) (vsv M (α 0) ([(1, 22)], 0, 121)) (vsv M (α 0) ([(2, 23)], 0, 121)) (vsv M (α 1) ([], 0, 2)) (ρ 3 + 0) (ρ 4 + 0) (ρ 5 + 0)) ∧ True := by
    try simp only [Int.add_zero]
    have fe : fl M (α 0) 3 = α 2 := fl_eq (show M.2.2.2.1 (α 0) 3 = some (α 2) from h1.2)
    have mte : ∀ j : Nat, (j : Int) ≠ ρ 5 → hcl [vi (ρ 5)] (clp [(0, 121)] (M.2.2.2.2 (α 2))) j = (vsv M (α 0) ([(3, 24)], 0, 121)) j := fun j hj => by rw [hcl1 hj]; show _ = clp [(0, 121)] (M.2.2.2.2 (fl M (α 0) 3)) j; rw [fe]
    
    obtain ⟨-, -, -, -, hb, hx, hm, hc, h, hf⟩ := h0
    have hm : (vsv M (α 0) ([(3, 24)], 0, 121)) (ρ 5).toNat = -2 := hm
    have ue : ∀ j : Nat, upZ (upZ (hcl [vi (ρ 5)] (clp [(0, 121)] (M.2.2.2.2 (α 2)))) (ρ 5) (-2)) (ρ 4) (-2) j = upZ (vsv M (α 0) ([(3, 24)], 0, 121)) (ρ 4) (-2) j := fun j => by
      by_cases hj : (j : Int) = ρ 4
      · rw [upZ_at hj, upZ_at hj]
      · rw [upZ_ne hj, upZ_ne hj]
        by_cases hj5 : (j : Int) = ρ 5
        · rw [upZ_at hj5, show j = (ρ 5).toNat by omega]
          exact hm.symm
        · rw [upZ_ne hj5]
          exact mte j hj5
    refine ⟨⟨g2, fe, wk1 h1.2 g2, g0, pic1 hT g0 (by decide) (by decide), g1, pic1 hT g1 (by decide) (by decide), rfl, ?_, ?_, ?_, ?_, ?_⟩, trivial⟩
    · exact hb
    · rw [mte _ (by omega)]
      exact hx
    · exact hc
    · exact MTP_c (fun j _ => rfl) (fun j _ => ue j) h
    · exact fun j hj hq => hf j hj (by rw [← ue j]; exact hq)
  exact ⟨nB, qB (key.1) (nB)⟩
def t_mpa9 : KT := ((0, 0, 0, 0), [(2, 0, 21, 0), (2, 1, 1, 0), (2, 2, 24, 0), (1, 3, 0, 0), (1, 4, 0, 0), (1, 5, 0, 0)], [(0, 0), (0, 0), (0, 0), (-2147483648, 2147483647), (-2147483648, 2147483647), (0, 120)], [(614, [(2, 2, 24, 0), (1, 5, 0, 0), (2, 0, 21, 0), (2, 1, 1, 0), (1, 3, 0, 0), (1, 4, 0, 0), (1, 5, 0, 0)]), (10, [(2, 2, 24, 0), (1, 5, 0, 0), (1, 4, 0, 0)])], (0, 0, 0), [], [], ([], [(540, [(2, 0, 21, 0), (2, 1, 1, 0), (1, 3, 0, 0), (1, 4, 0, 1)])]), ([], []))
set_option maxRecDepth 100000 in
theorem l_mpa9 (g : GG) : LOK Yt (PSt g) t_mpa9 := by
  intro ρ α Γ M as hT hB hA hP
  have g0 : Γ (α 0) = 21 := tyAt hA (i := 0) rfl
  have g1 : Γ (α 1) = 1 := tyAt hA (i := 1) rfl
  have g2 : Γ (α 2) = 24 := tyAt hA (i := 2) rfl
  have b3 : -2147483648 ≤ ρ 3 ∧ ρ 3 ≤ 2147483647 := hB 3
  have b4 : -2147483648 ≤ ρ 4 ∧ ρ 4 ≤ 2147483647 := hB 4
  have b5 : 0 ≤ ρ 5 ∧ ρ 5 ≤ 120 := hB 5
  have h0 : Γ (α 2) = 24 ∧ wlk M (α 0) [(3, 24)] = (α 2) ∧ wkT Γ M (α 0) [(3, 24)] ∧ Γ (α 0) = 21 ∧ (∀ q ∈ ([([], 0, 1), ([(1, 22)], 0, 121), ([(2, 23)], 0, 121)] : VSP), wkT Γ M (α 0) q.1) ∧ Γ (α 1) = 1 ∧ (∀ q ∈ ([([], 0, 2)] : VSP), wkT Γ M (α 1) q.1) ∧ Q614 g (hcl [vi (ρ 5 + 0)] (clp [(0, 121)] (M.2.2.2.2 (α 2)))) (ρ 5 + 0) (vsv M (α 0) ([], 0, 1)) (vsv M (α 0) ([(1, 22)], 0, 121)) (vsv M (α 0) ([(2, 23)], 0, 121)) (vsv M (α 1) ([], 0, 2)) (ρ 3 + 0) (ρ 4 + 0) (ρ 5 + 0) := hP _ (List.mem_of_getElem? (i := 0) rfl)
  have h1 : 0 ≤ (ρ 5 + 0 : Int) ∧ M.2.2.2.2 (α 2) (ρ 5 + 0 : Int).toNat = ρ 4 + 0 := hP _ (List.mem_of_getElem? (i := 1) rfl)
  try simp only [Int.add_zero] at h0 h1
  have key : (Γ (α 0) = 21 ∧ (∀ q ∈ ([([], 0, 1), ([(1, 22)], 0, 121), ([(2, 23)], 0, 121), ([(3, 24)], 0, 121)] : VSP), wkT Γ M (α 0) q.1) ∧ Γ (α 1) = 1 ∧ (∀ q ∈ ([([], 0, 2)] : VSP), wkT Γ M (α 1) q.1) ∧ Q540 g (vsv M (α 0) ([], 0, 1)) (vsv M (α 0) ([(1, 22)], 0, 121)) (vsv M (α 0) ([(2, 23)], 0, 121)) (vsv M (α 0) ([(3, 24)], 0, 121)) (vsv M (α 1) ([], 0, 2)) (ρ 3 + 0) (ρ 4 + 1)) ∧ True := by
    try simp only [Int.add_zero]
    obtain ⟨-, fe, -, -, -, t3, t4, -, hb, hx, hc, h, hf⟩ := h0
    have fe : fl M (α 0) 3 = α 2 := fe
    have mte : ∀ j : Nat, (j : Int) ≠ ρ 5 → hcl [vi (ρ 5)] (clp [(0, 121)] (M.2.2.2.2 (α 2))) j = (vsv M (α 0) ([(3, 24)], 0, 121)) j := fun j hj => by rw [hcl1 hj]; show _ = clp [(0, 121)] (M.2.2.2.2 (fl M (α 0) 3)) j; rw [fe]
    
    have h4 : (vsv M (α 0) ([(3, 24)], 0, 121)) (ρ 4).toNat = ρ 5 := by
      rw [← mte _ (by omega)]
      exact hx
    have h5 : (vsv M (α 0) ([(3, 24)], 0, 121)) (ρ 5).toNat = ρ 4 := by
      show clp [(0, 121)] (M.2.2.2.2 (fl M (α 0) 3)) (ρ 5).toNat = ρ 4
      rw [fe, cAll (by omega)]
      exact h1.2
    have ue : ∀ j : Nat, upZ (upZ (vsv M (α 0) ([(3, 24)], 0, 121)) (ρ 5) (-2)) (ρ 4) (-2) j = upZ (upZ (hcl [vi (ρ 5)] (clp [(0, 121)] (M.2.2.2.2 (α 2)))) (ρ 5) (-2)) (ρ 4) (-2) j := fun j => by
      by_cases hj : (j : Int) = ρ 4
      · rw [upZ_at hj, upZ_at hj]
      · rw [upZ_ne hj, upZ_ne hj]
        by_cases hj5 : (j : Int) = ρ 5
        · rw [upZ_at hj5, upZ_at hj5]
        · rw [upZ_ne hj5, upZ_ne hj5]
          exact (mte j hj5).symm
    refine ⟨⟨g0, pic1 hT g0 (by decide) (by decide), g1, pic1 hT g1 (by decide) (by decide), ?_, ?_⟩, trivial⟩
    · exact MTP_2 hb (MTP_c (fun j _ => rfl) (fun j _ => ue j) h) h4 h5 hc
    · intro j hj hq
      have j4 : (j : Int) ≠ ρ 4 := fun e => by
        rw [show j = (ρ 4).toNat by omega] at hq
        have := hq.symm.trans h4
        omega
      have j5 : (j : Int) ≠ ρ 5 := fun e => by
        rw [show j = (ρ 5).toNat by omega] at hq
        have := hq.symm.trans h5
        omega
      obtain ⟨q1, q2⟩ := hf j hj (by rw [← ue j, upZ_ne j4, upZ_ne j5]; exact hq)
      exact ⟨fun hn => q1 (by omega), q2⟩
  exact ⟨nB, qB (key.1) (nB)⟩
def t_mpaA : KT := ((0, 0, 0, 0), [(2, 0, 21, 0), (2, 1, 1, 0), (1, 2, 0, 0), (1, 3, 0, 0)], [(0, 0), (0, 0), (-2147483648, 2147483647), (-2147483648, 2147483647)], [(540, [(2, 0, 21, 0), (2, 1, 1, 0), (1, 2, 0, 0), (1, 3, 0, 0)]), (545, [(2, 0, 21, 0), (2, 1, 1, 0), (1, 3, 0, 0), (1, 2, 0, 0)]), (541, [(2, 0, 21, 0), (1, 3, 0, 0)])], (0, 0, 0), [], [], ([], [(540, [(2, 0, 21, 0), (2, 1, 1, 0), (1, 2, 0, 0), (1, 3, 0, 1)])]), ([], []))
set_option maxRecDepth 100000 in
theorem l_mpaA (g : GG) : LOK Yt (PSt g) t_mpaA := by
  intro ρ α Γ M as hT hB hA hP
  have g0 : Γ (α 0) = 21 := tyAt hA (i := 0) rfl
  have g1 : Γ (α 1) = 1 := tyAt hA (i := 1) rfl
  have b2 : -2147483648 ≤ ρ 2 ∧ ρ 2 ≤ 2147483647 := hB 2
  have b3 : -2147483648 ≤ ρ 3 ∧ ρ 3 ≤ 2147483647 := hB 3
  have h0 : Γ (α 0) = 21 ∧ (∀ q ∈ ([([], 0, 1), ([(1, 22)], 0, 121), ([(2, 23)], 0, 121), ([(3, 24)], 0, 121)] : VSP), wkT Γ M (α 0) q.1) ∧ Γ (α 1) = 1 ∧ (∀ q ∈ ([([], 0, 2)] : VSP), wkT Γ M (α 1) q.1) ∧ Q540 g (vsv M (α 0) ([], 0, 1)) (vsv M (α 0) ([(1, 22)], 0, 121)) (vsv M (α 0) ([(2, 23)], 0, 121)) (vsv M (α 0) ([(3, 24)], 0, 121)) (vsv M (α 1) ([], 0, 2)) (ρ 2 + 0) (ρ 3 + 0) := hP _ (List.mem_of_getElem? (i := 0) rfl)
  have h1 : Γ (α 0) = 21 ∧ (∀ q ∈ ([([(1, 22)], 0, 121)] : VSP), wkT Γ M (α 0) q.1) ∧ Γ (α 1) = 1 ∧ (∀ q ∈ ([([], 0, 2)] : VSP), wkT Γ M (α 1) q.1) ∧ Q545 g (vsv M (α 0) ([(1, 22)], 0, 121)) (vsv M (α 1) ([], 0, 2)) (ρ 3 + 0) (ρ 2 + 0) := hP _ (List.mem_of_getElem? (i := 1) rfl)
  have h2 : Γ (α 0) = 21 ∧ (∀ q ∈ ([([], 0, 1), ([(3, 24)], 0, 121)] : VSP), wkT Γ M (α 0) q.1) ∧ Q541 g (vsv M (α 0) ([], 0, 1)) (vsv M (α 0) ([(3, 24)], 0, 121)) (ρ 3 + 0) := hP _ (List.mem_of_getElem? (i := 2) rfl)
  try simp only [Int.add_zero] at h0 h1 h2
  have key : (Γ (α 0) = 21 ∧ (∀ q ∈ ([([], 0, 1), ([(1, 22)], 0, 121), ([(2, 23)], 0, 121), ([(3, 24)], 0, 121)] : VSP), wkT Γ M (α 0) q.1) ∧ Γ (α 1) = 1 ∧ (∀ q ∈ ([([], 0, 2)] : VSP), wkT Γ M (α 1) q.1) ∧ Q540 g (vsv M (α 0) ([], 0, 1)) (vsv M (α 0) ([(1, 22)], 0, 121)) (vsv M (α 0) ([(2, 23)], 0, 121)) (vsv M (α 0) ([(3, 24)], 0, 121)) (vsv M (α 1) ([], 0, 2)) (ρ 2 + 0) (ρ 3 + 1)) ∧ True := by
    try simp only [Int.add_zero]
    obtain ⟨t1, t2, t3, t4, h, hf⟩ := h0
    obtain ⟨-, -, -, -, hd⟩ := h1
    obtain ⟨-, -, hb, hv⟩ := h2
    have hd : ρ 2 < fbF ((vsv M (α 1) ([], 0, 2)) 0) ((vsv M (α 1) ([], 0, 2)) 1) ((vsv M (α 0) ([(1, 22)], 0, 121)) (ρ 3).toNat) := hd
    refine ⟨⟨t1, t2, t3, t4, h, fun j hj hm => ?_⟩, trivial⟩
    obtain ⟨q1, q2⟩ := hf j hj hm
    refine ⟨fun hn => ?_, q2⟩
    by_cases hc : (j : Int) < ρ 3
    · exact q1 hc
    · have : j = (ρ 3).toNat := by omega
      subst this
      exact hd
  exact ⟨nB, qB (key.1) (nB)⟩
def t_mbi1 : KT := ((0, 0, 0, 0), [(1, 0, 0, 0), (1, 1, 0, 0), (1, 2, 0, 0), (1, 3, 0, 0)], [(-2147483648, 2147483647), (-2147483648, 2147483647), (-2147483648, 2147483647), (1, 1)], [(81, [(1, 0, 0, 0), (1, 1, 0, 0), (1, 2, 0, 0)]), (82, [(1, 2, 0, 0), (0, 0, 0, 1), (1, 3, 0, 0)])], (0, 0, 0), [], [], ([], [(701, [(1, 0, 0, 0), (1, 1, 0, 0)])]), ([], []))
set_option maxRecDepth 100000 in
theorem l_mbi1 (g : GG) : LOK Yt (PSt g) t_mbi1 := by
  intro ρ α Γ M as hT hB hA hP
  have b0 : -2147483648 ≤ ρ 0 ∧ ρ 0 ≤ 2147483647 := hB 0
  have b1 : -2147483648 ≤ ρ 1 ∧ ρ 1 ≤ 2147483647 := hB 1
  have b2 : -2147483648 ≤ ρ 2 ∧ ρ 2 ≤ 2147483647 := hB 2
  have b3 : 1 ≤ ρ 3 ∧ ρ 3 ≤ 1 := hB 3
  have h0 : ρ 2 + 0 = sHr (ρ 0 + 0) (ρ 1 + 0) := hP _ (List.mem_of_getElem? (i := 0) rfl)
  have h1 : ρ 3 + 0 = aNd (ρ 2 + 0) (1) := hP _ (List.mem_of_getElem? (i := 1) rfl)
  try simp only [Int.add_zero] at h0 h1
  have key : (btS (ρ 0 + 0 : Int) (ρ 1 + 0 : Int)) ∧ True := by
    try simp only [Int.add_zero]
    refine ⟨?_, trivial⟩
    show aNd (sHr (ρ 0) (ρ 1)) 1 ≠ 0
    rw [← h0, ← h1]
    omega
  exact ⟨nB, qB (key.1) (nB)⟩
def t_mbi0 : KT := ((0, 0, 0, 0), [(1, 0, 0, 0), (1, 1, 0, 0), (1, 2, 0, 0), (1, 3, 0, 0)], [(-2147483648, 2147483647), (-2147483648, 2147483647), (-2147483648, 2147483647), (0, 0)], [(81, [(1, 0, 0, 0), (1, 1, 0, 0), (1, 2, 0, 0)]), (82, [(1, 2, 0, 0), (0, 0, 0, 1), (1, 3, 0, 0)])], (0, 0, 0), [], [], ([], [(702, [(1, 0, 0, 0), (1, 1, 0, 0)])]), ([], []))
set_option maxRecDepth 100000 in
theorem l_mbi0 (g : GG) : LOK Yt (PSt g) t_mbi0 := by
  intro ρ α Γ M as hT hB hA hP
  have b0 : -2147483648 ≤ ρ 0 ∧ ρ 0 ≤ 2147483647 := hB 0
  have b1 : -2147483648 ≤ ρ 1 ∧ ρ 1 ≤ 2147483647 := hB 1
  have b2 : -2147483648 ≤ ρ 2 ∧ ρ 2 ≤ 2147483647 := hB 2
  have b3 : 0 ≤ ρ 3 ∧ ρ 3 ≤ 0 := hB 3
  have h0 : ρ 2 + 0 = sHr (ρ 0 + 0) (ρ 1 + 0) := hP _ (List.mem_of_getElem? (i := 0) rfl)
  have h1 : ρ 3 + 0 = aNd (ρ 2 + 0) (1) := hP _ (List.mem_of_getElem? (i := 1) rfl)
  try simp only [Int.add_zero] at h0 h1
  have key : (¬ btS (ρ 0 + 0 : Int) (ρ 1 + 0 : Int)) ∧ True := by
    try simp only [Int.add_zero]
    refine ⟨fun q => ?_, trivial⟩
    have q : aNd (sHr (ρ 0) (ρ 1)) 1 ≠ 0 := q
    rw [← h0, ← h1] at q
    omega
  exact ⟨nB, qB (key.1) (nB)⟩
def t_mbw : KT := ((0, 0, 0, 0), [(1, 0, 0, 0), (1, 1, 0, 0), (1, 2, 0, 0), (1, 3, 0, 0), (1, 4, 0, 0)], [(-2147483648, 2147483647), (-2147483648, 2147483647), (-2147483648, 2147483647), (-2147483648, 2147483647), (-2147483648, 2147483647)], [(80, [(0, 0, 0, 1), (1, 1, 0, 0), (1, 2, 0, 0)]), (83, [(1, 2, 0, 0), (0, 0, 0, -1), (1, 3, 0, 0)]), (82, [(1, 0, 0, 0), (1, 3, 0, 0), (1, 4, 0, 0)])], (0, 0, 0), [], [], ([], [(703, [(1, 0, 0, 0), (1, 1, 0, 0), (1, 4, 0, 0)])]), ([], []))
set_option maxRecDepth 100000 in
theorem l_mbw (g : GG) : LOK Yt (PSt g) t_mbw := by
  intro ρ α Γ M as hT hB hA hP
  have b0 : -2147483648 ≤ ρ 0 ∧ ρ 0 ≤ 2147483647 := hB 0
  have b1 : -2147483648 ≤ ρ 1 ∧ ρ 1 ≤ 2147483647 := hB 1
  have b2 : -2147483648 ≤ ρ 2 ∧ ρ 2 ≤ 2147483647 := hB 2
  have b3 : -2147483648 ≤ ρ 3 ∧ ρ 3 ≤ 2147483647 := hB 3
  have b4 : -2147483648 ≤ ρ 4 ∧ ρ 4 ≤ 2147483647 := hB 4
  have h0 : ρ 2 + 0 = sHl (1) (ρ 1 + 0) := hP _ (List.mem_of_getElem? (i := 0) rfl)
  have h1 : ρ 3 + 0 = xOr (ρ 2 + 0) ((-1)) := hP _ (List.mem_of_getElem? (i := 1) rfl)
  have h2 : ρ 4 + 0 = aNd (ρ 0 + 0) (ρ 3 + 0) := hP _ (List.mem_of_getElem? (i := 2) rfl)
  try simp only [Int.add_zero] at h0 h1 h2
  have key : ((ρ 4 + 0 : Int) = wtS (ρ 0 + 0 : Int) (ρ 1 + 0 : Int)) ∧ True := by
    try simp only [Int.add_zero]
    refine ⟨?_, trivial⟩
    show ρ 4 = aNd (ρ 0) (xOr (sHl 1 (ρ 1)) (-1))
    rw [← h0, ← h1]
    exact h2
  exact ⟨nB, qB (key.1) (nB)⟩
def t_mlm0 : KT := ((0, 0, 0, 0), [(2, 0, 21, 0), (1, 1, 0, 0), (1, 2, 0, 0)], [(0, 0), (-2147483648, 2147483647), (-2147483648, 2147483647)], [], (0, 0, 0), [], [], ([], [(561, [(2, 0, 21, 0), (1, 1, 0, 0), (1, 2, 0, 0), (0, 0, 0, -1)])]), ([], []))
set_option maxRecDepth 100000 in
theorem l_mlm0 (g : GG) : LOK Yt (PSt g) t_mlm0 := by
  intro ρ α Γ M as hT hB hA hP
  have g0 : Γ (α 0) = 21 := tyAt hA (i := 0) rfl
  have b1 : -2147483648 ≤ ρ 1 ∧ ρ 1 ≤ 2147483647 := hB 1
  have b2 : -2147483648 ≤ ρ 2 ∧ ρ 2 ≤ 2147483647 := hB 2
  have key : (Γ (α 0) = 21 ∧ (∀ q ∈ ([([], 0, 1), ([(2, 23)], 0, 121)] : VSP), wkT Γ M (α 0) q.1) ∧ Q561 g (vsv M (α 0) ([], 0, 1)) (vsv M (α 0) ([(2, 23)], 0, 121)) (ρ 1 + 0) (ρ 2 + 0) ((-1))) ∧ True := by
    try simp only [Int.add_zero]
    exact ⟨⟨g0, pic1 hT g0 (by decide) (by decide), Or.inl rfl⟩, trivial⟩
  exact ⟨nB, qB (key.1) (nB)⟩
def t_mlm1 : KT := ((0, 0, 0, 0), [(2, 0, 21, 0), (1, 1, 0, 0), (1, 2, 0, 0), (1, 3, 0, 0), (1, 4, 0, 0)], [(0, 0), (-2147483648, 2147483647), (-2147483648, 2147483647), (-2147483648, 2147483647), (-2147483648, 2147483647)], [(701, [(1, 1, 0, 0), (1, 3, 0, 0)]), (546, [(2, 0, 21, 0), (1, 2, 0, 0), (1, 3, 0, 0)]), (21, [(1, 2, 0, 0), (1, 3, 0, 0)]), (21, [(1, 3, 0, 0), (1, 4, 0, 0)]), (10, [(2, 0, 21, 0), (0, 0, 0, 0), (1, 4, 0, 0)])], (0, 0, 0), [], [], ([], [(561, [(2, 0, 21, 0), (1, 1, 0, 0), (1, 2, 0, 0), (1, 3, 0, 0)])]), ([], []))
set_option maxRecDepth 100000 in
theorem l_mlm1 (g : GG) : LOK Yt (PSt g) t_mlm1 := by
  intro ρ α Γ M as hT hB hA hP
  have g0 : Γ (α 0) = 21 := tyAt hA (i := 0) rfl
  have b1 : -2147483648 ≤ ρ 1 ∧ ρ 1 ≤ 2147483647 := hB 1
  have b2 : -2147483648 ≤ ρ 2 ∧ ρ 2 ≤ 2147483647 := hB 2
  have b3 : -2147483648 ≤ ρ 3 ∧ ρ 3 ≤ 2147483647 := hB 3
  have b4 : -2147483648 ≤ ρ 4 ∧ ρ 4 ≤ 2147483647 := hB 4
  have h0 : btS (ρ 1 + 0 : Int) (ρ 3 + 0 : Int) := hP _ (List.mem_of_getElem? (i := 0) rfl)
  have h1 : Γ (α 0) = 21 ∧ (∀ q ∈ ([([(2, 23)], 0, 121)] : VSP), wkT Γ M (α 0) q.1) ∧ Q546 g (vsv M (α 0) ([(2, 23)], 0, 121)) (ρ 2 + 0) (ρ 3 + 0) := hP _ (List.mem_of_getElem? (i := 1) rfl)
  have h2 : ρ 2 + 0 < ρ 3 + 0 := hP _ (List.mem_of_getElem? (i := 2) rfl)
  have h3 : ρ 3 + 0 < ρ 4 + 0 := hP _ (List.mem_of_getElem? (i := 3) rfl)
  have h4 : 0 ≤ (0 : Int) ∧ M.2.2.2.2 (α 0) (0 : Int).toNat = ρ 4 + 0 := hP _ (List.mem_of_getElem? (i := 4) rfl)
  try simp only [Int.add_zero] at h0 h1 h2 h3 h4
  have key : (Γ (α 0) = 21 ∧ (∀ q ∈ ([([], 0, 1), ([(2, 23)], 0, 121)] : VSP), wkT Γ M (α 0) q.1) ∧ Q561 g (vsv M (α 0) ([], 0, 1)) (vsv M (α 0) ([(2, 23)], 0, 121)) (ρ 1 + 0) (ρ 2 + 0) (ρ 3 + 0)) ∧ True := by
    try simp only [Int.add_zero]
    have ek : (vsv M (α 0) ([], 0, 1)) 0 = ρ 4 := (vs0 (by decide) (by decide)).trans h4.2
    
    obtain ⟨-, -, hc⟩ := h1
    exact ⟨⟨g0, pic1 hT g0 (by decide) (by decide), Or.inr ⟨⟨h2, by show ρ 3 < (vsv M (α 0) ([], 0, 1)) 0; rw [ek]; exact h3⟩, h0, hc⟩⟩, trivial⟩
  exact ⟨nB, qB (key.1) (nB)⟩
def t_mpl0 : KT := ((0, 0, 0, 0), [(2, 0, 21, 0), (1, 1, 0, 0), (1, 2, 0, 0)], [(0, 0), (0, 12), (1, 4096)], [(80, [(0, 0, 0, 1), (1, 1, 0, 0), (1, 2, 0, 0)]), (10, [(2, 0, 21, 0), (0, 0, 0, 0), (1, 1, 0, 0)]), (519, [(2, 0, 21, 0)])], (0, 0, 0), [], [], ([], [(550, [(2, 0, 21, 0), (1, 2, 0, -1), (0, 0, 0, 0)])]), ([], []))
set_option maxRecDepth 100000 in
theorem l_mpl0 (g : GG) : LOK Yt (PSt g) t_mpl0 := by
  intro ρ α Γ M as hT hB hA hP
  have g0 : Γ (α 0) = 21 := tyAt hA (i := 0) rfl
  have b1 : 0 ≤ ρ 1 ∧ ρ 1 ≤ 12 := hB 1
  have b2 : 1 ≤ ρ 2 ∧ ρ 2 ≤ 4096 := hB 2
  have h0 : ρ 2 + 0 = sHl (1) (ρ 1 + 0) := hP _ (List.mem_of_getElem? (i := 0) rfl)
  have h1 : 0 ≤ (0 : Int) ∧ M.2.2.2.2 (α 0) (0 : Int).toNat = ρ 1 + 0 := hP _ (List.mem_of_getElem? (i := 1) rfl)
  have h2 : Γ (α 0) = 21 ∧ (∀ q ∈ ([([], 0, 1), ([(3, 24)], 0, 121)] : VSP), wkT Γ M (α 0) q.1) ∧ Q519 g (vsv M (α 0) ([], 0, 1)) (vsv M (α 0) ([(3, 24)], 0, 121))  := hP _ (List.mem_of_getElem? (i := 2) rfl)
  try simp only [Int.add_zero] at h0 h1 h2
  have key : (Γ (α 0) = 21 ∧ (∀ q ∈ ([([], 0, 1), ([(2, 23)], 0, 121), ([(3, 24)], 0, 121)] : VSP), wkT Γ M (α 0) q.1) ∧ Q550 g (vsv M (α 0) ([], 0, 1)) (vsv M (α 0) ([(2, 23)], 0, 121)) (vsv M (α 0) ([(3, 24)], 0, 121)) (ρ 2 + (-1)) (0)) ∧ True := by
    try simp only [Int.add_zero]
    have ek : (vsv M (α 0) ([], 0, 1)) 0 = ρ 1 := (vs0 (by decide) (by decide)).trans h1.2
    
    obtain ⟨-, -, hm⟩ := h2
    have hm : ∀ i : Nat, (i : Int) < (vsv M (α 0) ([], 0, 1)) 0 → (vsv M (α 0) ([(3, 24)], 0, 121)) i = -2 := hm
    have hs := shl_bd b1.1 b1.2
    rw [← h0] at hs
    refine ⟨⟨g0, pic1 hT g0 (by decide) (by decide), fun i hi => Or.inl (hm i hi), ⟨by omega, by omega⟩, fun j hj => ⟨⟨fun _ => hm j hj, fun _ => ?_⟩, fun hn => by omega⟩⟩, trivial⟩
    have hj : (j : Int) < (vsv M (α 0) ([], 0, 1)) 0 := hj
    have := bt_full (T := ρ 1) (j := (j : Int)) b1.1 b1.2 (by omega) (by rw [ek] at hj; exact hj)
    rw [h0, show sHl 1 (ρ 1) + -1 = sHl 1 (ρ 1) - 1 by omega]
    exact this
  exact ⟨nB, qB (key.1) (nB)⟩
def t_mpl1 : KT := ((0, 0, 0, 0), [(2, 0, 21, 0), (1, 1, 0, 0), (1, 2, 0, 0)], [(0, 0), (-2147483648, 2147483647), (-2147483648, 2147483647)], [(550, [(2, 0, 21, 0), (1, 1, 0, 0), (1, 2, 0, 0)]), (702, [(1, 1, 0, 0), (1, 2, 0, 0)])], (0, 0, 0), [], [], ([], [(550, [(2, 0, 21, 0), (1, 1, 0, 0), (1, 2, 0, 1)])]), ([], []))
set_option maxRecDepth 100000 in
theorem l_mpl1 (g : GG) : LOK Yt (PSt g) t_mpl1 := by
  intro ρ α Γ M as hT hB hA hP
  have g0 : Γ (α 0) = 21 := tyAt hA (i := 0) rfl
  have b1 : -2147483648 ≤ ρ 1 ∧ ρ 1 ≤ 2147483647 := hB 1
  have b2 : -2147483648 ≤ ρ 2 ∧ ρ 2 ≤ 2147483647 := hB 2
  have h0 : Γ (α 0) = 21 ∧ (∀ q ∈ ([([], 0, 1), ([(2, 23)], 0, 121), ([(3, 24)], 0, 121)] : VSP), wkT Γ M (α 0) q.1) ∧ Q550 g (vsv M (α 0) ([], 0, 1)) (vsv M (α 0) ([(2, 23)], 0, 121)) (vsv M (α 0) ([(3, 24)], 0, 121)) (ρ 1 + 0) (ρ 2 + 0) := hP _ (List.mem_of_getElem? (i := 0) rfl)
  have h1 : ¬ btS (ρ 1 + 0 : Int) (ρ 2 + 0 : Int) := hP _ (List.mem_of_getElem? (i := 1) rfl)
  try simp only [Int.add_zero] at h0 h1
  have key : (Γ (α 0) = 21 ∧ (∀ q ∈ ([([], 0, 1), ([(2, 23)], 0, 121), ([(3, 24)], 0, 121)] : VSP), wkT Γ M (α 0) q.1) ∧ Q550 g (vsv M (α 0) ([], 0, 1)) (vsv M (α 0) ([(2, 23)], 0, 121)) (vsv M (α 0) ([(3, 24)], 0, 121)) (ρ 1 + 0) (ρ 2 + 1)) ∧ True := by
    try simp only [Int.add_zero]
    obtain ⟨t1, t2, h, hb, hf⟩ := h0
    refine ⟨⟨t1, t2, h, hb, fun j hj => ?_⟩, trivial⟩
    obtain ⟨q1, q2⟩ := hf j hj
    refine ⟨q1, fun hn => ?_⟩
    by_cases hc : (j : Int) < ρ 2
    · exact q2 hc
    · have e : (j : Int) = ρ 2 := by omega
      exact fun z => h1 (by rw [← e]; exact q1.mpr z)
  exact ⟨nB, qB (key.1) (nB)⟩
def t_mpl2 : KT := ((0, 0, 0, 0), [(2, 0, 21, 0), (2, 1, 24, 0), (1, 2, 0, 0), (1, 3, 0, 0), (1, 4, 0, 0), (1, 5, 0, 0)], [(0, 0), (0, 0), (-2147483648, 2147483647), (0, 120), (-2147483648, 2147483647), (-2147483648, 2147483647)], [(550, [(2, 0, 21, 0), (1, 2, 0, 0), (1, 3, 0, 0)]), (701, [(1, 2, 0, 0), (1, 3, 0, 0)]), (561, [(2, 0, 21, 0), (1, 2, 0, 0), (1, 3, 0, 0), (1, 4, 0, 0)]), (11, [(2, 0, 21, 0), (0, 0, 0, 3), (2, 1, 24, 0)]), (21, [(1, 3, 0, 0), (1, 5, 0, 0)]), (10, [(2, 0, 21, 0), (0, 0, 0, 0), (1, 5, 0, 0)])], (0, 0, 0), [], [], ([], [(616, [(2, 1, 24, 0), (1, 3, 0, 0), (2, 0, 21, 0), (1, 2, 0, 0), (1, 3, 0, 0), (1, 4, 0, 0)])]), ([], []))
set_option maxRecDepth 100000 in
theorem l_mpl2 (g : GG) : LOK Yt (PSt g) t_mpl2 := by
  intro ρ α Γ M as hT hB hA hP
  have g0 : Γ (α 0) = 21 := tyAt hA (i := 0) rfl
  have g1 : Γ (α 1) = 24 := tyAt hA (i := 1) rfl
  have b2 : -2147483648 ≤ ρ 2 ∧ ρ 2 ≤ 2147483647 := hB 2
  have b3 : 0 ≤ ρ 3 ∧ ρ 3 ≤ 120 := hB 3
  have b4 : -2147483648 ≤ ρ 4 ∧ ρ 4 ≤ 2147483647 := hB 4
  have b5 : -2147483648 ≤ ρ 5 ∧ ρ 5 ≤ 2147483647 := hB 5
  have h0 : Γ (α 0) = 21 ∧ (∀ q ∈ ([([], 0, 1), ([(2, 23)], 0, 121), ([(3, 24)], 0, 121)] : VSP), wkT Γ M (α 0) q.1) ∧ Q550 g (vsv M (α 0) ([], 0, 1)) (vsv M (α 0) ([(2, 23)], 0, 121)) (vsv M (α 0) ([(3, 24)], 0, 121)) (ρ 2 + 0) (ρ 3 + 0) := hP _ (List.mem_of_getElem? (i := 0) rfl)
  have h1 : btS (ρ 2 + 0 : Int) (ρ 3 + 0 : Int) := hP _ (List.mem_of_getElem? (i := 1) rfl)
  have h2 : Γ (α 0) = 21 ∧ (∀ q ∈ ([([], 0, 1), ([(2, 23)], 0, 121)] : VSP), wkT Γ M (α 0) q.1) ∧ Q561 g (vsv M (α 0) ([], 0, 1)) (vsv M (α 0) ([(2, 23)], 0, 121)) (ρ 2 + 0) (ρ 3 + 0) (ρ 4 + 0) := hP _ (List.mem_of_getElem? (i := 2) rfl)
  have h3 : 0 ≤ (3 : Int) ∧ M.2.2.2.1 (α 0) (3 : Int).toNat = some (α 1) := hP _ (List.mem_of_getElem? (i := 3) rfl)
  have h4 : ρ 3 + 0 < ρ 5 + 0 := hP _ (List.mem_of_getElem? (i := 4) rfl)
  have h5 : 0 ≤ (0 : Int) ∧ M.2.2.2.2 (α 0) (0 : Int).toNat = ρ 5 + 0 := hP _ (List.mem_of_getElem? (i := 5) rfl)
  try simp only [Int.add_zero] at h0 h1 h2 h3 h4 h5
  have key : (Γ (α 1) = 24 ∧ wlk M (α 0) [(3, 24)] = (α 1) ∧ wkT Γ M (α 0) [(3, 24)] ∧ Γ (α 0) = 21 ∧ (∀ q ∈ ([([], 0, 1), ([(2, 23)], 0, 121)] : VSP), wkT Γ M (α 0) q.1) ∧ Q616 g (hcl [vi (ρ 3 + 0)] (clp [(0, 121)] (M.2.2.2.2 (α 1)))) (ρ 3 + 0) (vsv M (α 0) ([], 0, 1)) (vsv M (α 0) ([(2, 23)], 0, 121)) (ρ 2 + 0) (ρ 3 + 0) (ρ 4 + 0)) ∧ True := by
    try simp only [Int.add_zero]
    have fe : fl M (α 0) 3 = α 1 := fl_eq (show M.2.2.2.1 (α 0) 3 = some (α 1) from h3.2)
    have ek : (vsv M (α 0) ([], 0, 1)) 0 = ρ 5 := (vs0 (by decide) (by decide)).trans h5.2
    have mte : ∀ j : Nat, (j : Int) ≠ ρ 3 → hcl [vi (ρ 3)] (clp [(0, 121)] (M.2.2.2.2 (α 1))) j = (vsv M (α 0) ([(3, 24)], 0, 121)) j := fun j hj => by rw [hcl1 hj]; show _ = clp [(0, 121)] (M.2.2.2.2 (fl M (α 0) 3)) j; rw [fe]
    
    obtain ⟨-, -, h, hb, hf⟩ := h0
    obtain ⟨-, -, hl⟩ := h2
    have hv : (vsv M (α 0) ([(3, 24)], 0, 121)) (ρ 3).toNat = -2 := ((hf (ρ 3).toNat (by show ((ρ 3).toNat : Int) < (vsv M (α 0) ([], 0, 1)) 0; rw [ek]; omega)).1).mp (by rw [show ((ρ 3).toNat : Int) = ρ 3 by omega]; exact h1)
    have ue : ∀ j : Nat, upZ (hcl [vi (ρ 3)] (clp [(0, 121)] (M.2.2.2.2 (α 1)))) (ρ 3) (-2) j = (vsv M (α 0) ([(3, 24)], 0, 121)) j := fun j => by
      by_cases hj : (j : Int) = ρ 3
      · rw [upZ_at hj, show j = (ρ 3).toNat by omega]
        exact hv.symm
      · rw [upZ_ne hj]
        exact mte j hj
    refine ⟨⟨g1, fe, wk1 h3.2 g1, g0, pic1 hT g0 (by decide) (by decide), rfl, ⟨b3.1, by show ρ 3 < (vsv M (α 0) ([], 0, 1)) 0; rw [ek]; exact h4⟩, hl, ?_, hb, ?_⟩, trivial⟩
    · exact MTP_c (fun j _ => rfl) (fun j _ => ue j) h
    · exact fun j hj => by rw [ue j]; exact hf j hj
  exact ⟨nB, qB (key.1) (nB)⟩
def t_mpl3 : KT := ((0, 0, 0, 0), [(2, 0, 21, 0), (2, 1, 24, 0), (1, 2, 0, 0), (1, 3, 0, 0), (1, 4, 0, 0)], [(0, 0), (0, 0), (-2147483648, 2147483647), (0, 120), (-2147483648, 2147483647)], [(616, [(2, 1, 24, 0), (1, 3, 0, 0), (2, 0, 21, 0), (1, 2, 0, 0), (1, 3, 0, 0), (1, 4, 0, 0)]), (10, [(2, 1, 24, 0), (1, 3, 0, 0), (1, 4, 0, 0)])], (0, 0, 0), [], [], ([], [(551, [(2, 0, 21, 0), (1, 2, 0, 0), (1, 3, 0, 0), (1, 4, 0, 0)])]), ([], []))
set_option maxRecDepth 100000 in
theorem l_mpl3 (g : GG) : LOK Yt (PSt g) t_mpl3 := by
  intro ρ α Γ M as hT hB hA hP
  have g0 : Γ (α 0) = 21 := tyAt hA (i := 0) rfl
  have g1 : Γ (α 1) = 24 := tyAt hA (i := 1) rfl
  have b2 : -2147483648 ≤ ρ 2 ∧ ρ 2 ≤ 2147483647 := hB 2
  have b3 : 0 ≤ ρ 3 ∧ ρ 3 ≤ 120 := hB 3
  have b4 : -2147483648 ≤ ρ 4 ∧ ρ 4 ≤ 2147483647 := hB 4
  have h0 : Γ (α 1) = 24 ∧ wlk M (α 0) [(3, 24)] = (α 1) ∧ wkT Γ M (α 0) [(3, 24)] ∧ Γ (α 0) = 21 ∧ (∀ q ∈ ([([], 0, 1), ([(2, 23)], 0, 121)] : VSP), wkT Γ M (α 0) q.1) ∧ Q616 g (hcl [vi (ρ 3 + 0)] (clp [(0, 121)] (M.2.2.2.2 (α 1)))) (ρ 3 + 0) (vsv M (α 0) ([], 0, 1)) (vsv M (α 0) ([(2, 23)], 0, 121)) (ρ 2 + 0) (ρ 3 + 0) (ρ 4 + 0) := hP _ (List.mem_of_getElem? (i := 0) rfl)
  have h1 : 0 ≤ (ρ 3 + 0 : Int) ∧ M.2.2.2.2 (α 1) (ρ 3 + 0 : Int).toNat = ρ 4 + 0 := hP _ (List.mem_of_getElem? (i := 1) rfl)
  try simp only [Int.add_zero] at h0 h1
  have key : (Γ (α 0) = 21 ∧ (∀ q ∈ ([([], 0, 1), ([(2, 23)], 0, 121), ([(3, 24)], 0, 121)] : VSP), wkT Γ M (α 0) q.1) ∧ Q551 g (vsv M (α 0) ([], 0, 1)) (vsv M (α 0) ([(2, 23)], 0, 121)) (vsv M (α 0) ([(3, 24)], 0, 121)) (ρ 2 + 0) (ρ 3 + 0) (ρ 4 + 0)) ∧ True := by
    try simp only [Int.add_zero]
    obtain ⟨-, fe, -, -, -, -, hn, hl, h, hb, hf⟩ := h0
    have fe : fl M (α 0) 3 = α 1 := fe
    have mte : ∀ j : Nat, (j : Int) ≠ ρ 3 → hcl [vi (ρ 3)] (clp [(0, 121)] (M.2.2.2.2 (α 1))) j = (vsv M (α 0) ([(3, 24)], 0, 121)) j := fun j hj => by rw [hcl1 hj]; show _ = clp [(0, 121)] (M.2.2.2.2 (fl M (α 0) 3)) j; rw [fe]
    
    have hx : (vsv M (α 0) ([(3, 24)], 0, 121)) (ρ 3).toNat = ρ 4 := by
      show clp [(0, 121)] (M.2.2.2.2 (fl M (α 0) 3)) (ρ 3).toNat = ρ 4
      rw [fe, cAll (by omega)]
      exact h1.2
    have ue : ∀ j : Nat, upZ (vsv M (α 0) ([(3, 24)], 0, 121)) (ρ 3) (-2) j = upZ (hcl [vi (ρ 3)] (clp [(0, 121)] (M.2.2.2.2 (α 1)))) (ρ 3) (-2) j := fun j => by
      by_cases hj : (j : Int) = ρ 3
      · rw [upZ_at hj, upZ_at hj]
      · rw [upZ_ne hj, upZ_ne hj]
        exact (mte j hj).symm
    refine ⟨⟨g0, pic1 hT g0 (by decide) (by decide), hn, hx, hl, ?_, hb, ?_⟩, trivial⟩
    · exact MTP_c (fun j _ => rfl) (fun j _ => ue j) h
    · exact fun j hj => by rw [ue j]; exact hf j hj
  exact ⟨nB, qB (key.1) (nB)⟩
def t_mpl4 : KT := ((0, 0, 0, 0), [(2, 0, 21, 0), (1, 1, 0, 0), (1, 2, 0, 0), (1, 3, 0, 0), (1, 4, 0, 0)], [(0, 0), (-2147483648, 2147483647), (-2147483648, 2147483647), (-1, -1), (-2147483648, 2147483647)], [(551, [(2, 0, 21, 0), (1, 1, 0, 0), (1, 2, 0, 0), (1, 3, 0, 0)]), (703, [(1, 1, 0, 0), (1, 2, 0, 0), (1, 4, 0, 0)]), (2344, [(2, 0, 21, 0), (0, 0, 0, 0), (0, 0, 0, 12)])], (0, 0, 0), [], [], ([], [(550, [(2, 0, 21, 0), (1, 4, 0, 0), (1, 2, 0, 1)])]), ([], []))
set_option maxRecDepth 100000 in
theorem l_mpl4 (g : GG) : LOK Yt (PSt g) t_mpl4 := by
  intro ρ α Γ M as hT hB hA hP
  have g0 : Γ (α 0) = 21 := tyAt hA (i := 0) rfl
  have b1 : -2147483648 ≤ ρ 1 ∧ ρ 1 ≤ 2147483647 := hB 1
  have b2 : -2147483648 ≤ ρ 2 ∧ ρ 2 ≤ 2147483647 := hB 2
  have b3 : -1 ≤ ρ 3 ∧ ρ 3 ≤ -1 := hB 3
  have b4 : -2147483648 ≤ ρ 4 ∧ ρ 4 ≤ 2147483647 := hB 4
  have h0 : Γ (α 0) = 21 ∧ (∀ q ∈ ([([], 0, 1), ([(2, 23)], 0, 121), ([(3, 24)], 0, 121)] : VSP), wkT Γ M (α 0) q.1) ∧ Q551 g (vsv M (α 0) ([], 0, 1)) (vsv M (α 0) ([(2, 23)], 0, 121)) (vsv M (α 0) ([(3, 24)], 0, 121)) (ρ 1 + 0) (ρ 2 + 0) (ρ 3 + 0) := hP _ (List.mem_of_getElem? (i := 0) rfl)
  have h1 : (ρ 4 + 0 : Int) = wtS (ρ 1 + 0 : Int) (ρ 2 + 0 : Int) := hP _ (List.mem_of_getElem? (i := 1) rfl)
  have h2 : Γ (α 0) = 21 ∧ 21 ≠ 0 ∧ 0 ≤ M.2.2.2.2 (α 0) 0 ∧ M.2.2.2.2 (α 0) 0 ≤ 12 := (fId_eq g 21 0 (α 0) (0) (12) Γ M (by decide)).mp (hP _ (List.mem_of_getElem? (i := 2) rfl))
  try simp only [Int.add_zero] at h0 h1 h2
  have key : (Γ (α 0) = 21 ∧ (∀ q ∈ ([([], 0, 1), ([(2, 23)], 0, 121), ([(3, 24)], 0, 121)] : VSP), wkT Γ M (α 0) q.1) ∧ Q550 g (vsv M (α 0) ([], 0, 1)) (vsv M (α 0) ([(2, 23)], 0, 121)) (vsv M (α 0) ([(3, 24)], 0, 121)) (ρ 4 + 0) (ρ 2 + 1)) ∧ True := by
    try simp only [Int.add_zero]
    have k12 : (vsv M (α 0) ([], 0, 1)) 0 ≤ 12 := by rw [vs0 (by decide) (by decide)]; exact h2.2.2.2
    
    obtain ⟨t1, t2, hn, hx, -, h, hf⟩ := h0
    have hx : (vsv M (α 0) ([(3, 24)], 0, 121)) (ρ 2).toNat = ρ 3 := hx
    exact ⟨⟨t1, t2, MTP_b hn.1 h (hx.trans (by omega)), LFT_1 k12 hn hf h1 (hx.trans (by omega))⟩, trivial⟩
  exact ⟨nB, qB (key.1) (nB)⟩
def t_mpl5 : KT := ((0, 0, 0, 0), [(2, 0, 21, 0), (2, 1, 24, 0), (1, 2, 0, 0), (1, 3, 0, 0), (1, 4, 0, 0)], [(0, 0), (0, 0), (-2147483648, 2147483647), (-2147483648, 2147483647), (0, 120)], [(551, [(2, 0, 21, 0), (1, 2, 0, 0), (1, 3, 0, 0), (1, 4, 0, 0)]), (11, [(2, 0, 21, 0), (0, 0, 0, 3), (2, 1, 24, 0)])], (0, 0, 0), [], [], ([], [(617, [(2, 1, 24, 0), (1, 4, 0, 0), (2, 0, 21, 0), (1, 2, 0, 0), (1, 3, 0, 0), (1, 4, 0, 0)])]), ([], []))
set_option maxRecDepth 100000 in
theorem l_mpl5 (g : GG) : LOK Yt (PSt g) t_mpl5 := by
  intro ρ α Γ M as hT hB hA hP
  have g0 : Γ (α 0) = 21 := tyAt hA (i := 0) rfl
  have g1 : Γ (α 1) = 24 := tyAt hA (i := 1) rfl
  have b2 : -2147483648 ≤ ρ 2 ∧ ρ 2 ≤ 2147483647 := hB 2
  have b3 : -2147483648 ≤ ρ 3 ∧ ρ 3 ≤ 2147483647 := hB 3
  have b4 : 0 ≤ ρ 4 ∧ ρ 4 ≤ 120 := hB 4
  have h0 : Γ (α 0) = 21 ∧ (∀ q ∈ ([([], 0, 1), ([(2, 23)], 0, 121), ([(3, 24)], 0, 121)] : VSP), wkT Γ M (α 0) q.1) ∧ Q551 g (vsv M (α 0) ([], 0, 1)) (vsv M (α 0) ([(2, 23)], 0, 121)) (vsv M (α 0) ([(3, 24)], 0, 121)) (ρ 2 + 0) (ρ 3 + 0) (ρ 4 + 0) := hP _ (List.mem_of_getElem? (i := 0) rfl)
  have h1 : 0 ≤ (3 : Int) ∧ M.2.2.2.1 (α 0) (3 : Int).toNat = some (α 1) := hP _ (List.mem_of_getElem? (i := 1) rfl)
  try simp only [Int.add_zero] at h0 h1
  have key : (Γ (α 1) = 24 ∧ wlk M (α 0) [(3, 24)] = (α 1) ∧ wkT Γ M (α 0) [(3, 24)] ∧ Γ (α 0) = 21 ∧ (∀ q ∈ ([([], 0, 1), ([(2, 23)], 0, 121)] : VSP), wkT Γ M (α 0) q.1) ∧ Q617 g (hcl [vi (ρ 4 + 0)] (clp [(0, 121)] (M.2.2.2.2 (α 1)))) (ρ 4 + 0) (vsv M (α 0) ([], 0, 1)) (vsv M (α 0) ([(2, 23)], 0, 121)) (ρ 2 + 0) (ρ 3 + 0) (ρ 4 + 0)) ∧ True := by
    try simp only [Int.add_zero]
    have fe : fl M (α 0) 3 = α 1 := fl_eq (show M.2.2.2.1 (α 0) 3 = some (α 1) from h1.2)
    have mte : ∀ j : Nat, (j : Int) ≠ ρ 4 → hcl [vi (ρ 4)] (clp [(0, 121)] (M.2.2.2.2 (α 1))) j = (vsv M (α 0) ([(3, 24)], 0, 121)) j := fun j hj => by rw [hcl1 hj]; show _ = clp [(0, 121)] (M.2.2.2.2 (fl M (α 0) 3)) j; rw [fe]
    
    obtain ⟨-, -, hn, hx, hl, h, hb, hf⟩ := h0
    have hx : (vsv M (α 0) ([(3, 24)], 0, 121)) (ρ 3).toNat = ρ 4 := hx
    rcases hl with hl | ⟨hl, hbt, hc⟩
    · omega
    have hm : (vsv M (α 0) ([(3, 24)], 0, 121)) (ρ 4).toNat = -2 := by
      have q := ((hf (ρ 4).toNat (by omega)).1).mp (by rw [show ((ρ 4).toNat : Int) = ρ 4 by omega]; exact hbt)
      rw [upZ_ne (by omega)] at q
      exact q
    have ue : ∀ j : Nat, upZ (upZ (hcl [vi (ρ 4)] (clp [(0, 121)] (M.2.2.2.2 (α 1)))) (ρ 4) (-2)) (ρ 3) (-2) j = upZ (vsv M (α 0) ([(3, 24)], 0, 121)) (ρ 3) (-2) j := fun j => by
      by_cases hj : (j : Int) = ρ 3
      · rw [upZ_at hj, upZ_at hj]
      · rw [upZ_ne hj, upZ_ne hj]
        by_cases hj4 : (j : Int) = ρ 4
        · rw [upZ_at hj4, show j = (ρ 4).toNat by omega]
          exact hm.symm
        · rw [upZ_ne hj4]
          exact mte j hj4
    refine ⟨⟨g1, fe, wk1 h1.2 g1, g0, pic1 hT g0 (by decide) (by decide), rfl, ⟨hn.1, hl.1, hl.2⟩, ?_, hc, ?_, hb, ?_⟩, trivial⟩
    · rw [mte _ (by omega)]
      exact hx
    · exact MTP_c (fun j _ => rfl) (fun j _ => ue j) h
    · exact fun j hj => by rw [ue j]; exact hf j hj
  exact ⟨nB, qB (key.1) (nB)⟩
def t_mpl6 : KT := ((0, 0, 0, 0), [(2, 0, 21, 0), (2, 1, 24, 0), (1, 2, 0, 0), (1, 3, 0, 0), (1, 4, 0, 0)], [(0, 0), (0, 0), (-2147483648, 2147483647), (-2147483648, 2147483647), (0, 120)], [(617, [(2, 1, 24, 0), (1, 4, 0, 0), (2, 0, 21, 0), (1, 2, 0, 0), (1, 3, 0, 0), (1, 4, 0, 0)]), (10, [(2, 1, 24, 0), (1, 4, 0, 0), (1, 3, 0, 0)])], (0, 0, 0), [], [], ([], [(552, [(2, 0, 21, 0), (1, 2, 0, 0), (1, 3, 0, 0), (1, 4, 0, 0)])]), ([], []))
set_option maxRecDepth 100000 in
theorem l_mpl6 (g : GG) : LOK Yt (PSt g) t_mpl6 := by
  intro ρ α Γ M as hT hB hA hP
  have g0 : Γ (α 0) = 21 := tyAt hA (i := 0) rfl
  have g1 : Γ (α 1) = 24 := tyAt hA (i := 1) rfl
  have b2 : -2147483648 ≤ ρ 2 ∧ ρ 2 ≤ 2147483647 := hB 2
  have b3 : -2147483648 ≤ ρ 3 ∧ ρ 3 ≤ 2147483647 := hB 3
  have b4 : 0 ≤ ρ 4 ∧ ρ 4 ≤ 120 := hB 4
  have h0 : Γ (α 1) = 24 ∧ wlk M (α 0) [(3, 24)] = (α 1) ∧ wkT Γ M (α 0) [(3, 24)] ∧ Γ (α 0) = 21 ∧ (∀ q ∈ ([([], 0, 1), ([(2, 23)], 0, 121)] : VSP), wkT Γ M (α 0) q.1) ∧ Q617 g (hcl [vi (ρ 4 + 0)] (clp [(0, 121)] (M.2.2.2.2 (α 1)))) (ρ 4 + 0) (vsv M (α 0) ([], 0, 1)) (vsv M (α 0) ([(2, 23)], 0, 121)) (ρ 2 + 0) (ρ 3 + 0) (ρ 4 + 0) := hP _ (List.mem_of_getElem? (i := 0) rfl)
  have h1 : 0 ≤ (ρ 4 + 0 : Int) ∧ M.2.2.2.2 (α 1) (ρ 4 + 0 : Int).toNat = ρ 3 + 0 := hP _ (List.mem_of_getElem? (i := 1) rfl)
  try simp only [Int.add_zero] at h0 h1
  have key : (Γ (α 0) = 21 ∧ (∀ q ∈ ([([], 0, 1), ([(2, 23)], 0, 121), ([(3, 24)], 0, 121)] : VSP), wkT Γ M (α 0) q.1) ∧ Q552 g (vsv M (α 0) ([], 0, 1)) (vsv M (α 0) ([(2, 23)], 0, 121)) (vsv M (α 0) ([(3, 24)], 0, 121)) (ρ 2 + 0) (ρ 3 + 0) (ρ 4 + 0)) ∧ True := by
    try simp only [Int.add_zero]
    obtain ⟨-, fe, -, -, -, -, hn, hx, hc, h, hb, hf⟩ := h0
    have fe : fl M (α 0) 3 = α 1 := fe
    have mte : ∀ j : Nat, (j : Int) ≠ ρ 4 → hcl [vi (ρ 4)] (clp [(0, 121)] (M.2.2.2.2 (α 1))) j = (vsv M (α 0) ([(3, 24)], 0, 121)) j := fun j hj => by rw [hcl1 hj]; show _ = clp [(0, 121)] (M.2.2.2.2 (fl M (α 0) 3)) j; rw [fe]
    
    have h3 : (vsv M (α 0) ([(3, 24)], 0, 121)) (ρ 3).toNat = ρ 4 := by
      rw [← mte _ (by omega)]
      exact hx
    have h4 : (vsv M (α 0) ([(3, 24)], 0, 121)) (ρ 4).toNat = ρ 3 := by
      show clp [(0, 121)] (M.2.2.2.2 (fl M (α 0) 3)) (ρ 4).toNat = ρ 3
      rw [fe, cAll (by omega)]
      exact h1.2
    have ue : ∀ j : Nat, upZ (upZ (vsv M (α 0) ([(3, 24)], 0, 121)) (ρ 4) (-2)) (ρ 3) (-2) j = upZ (upZ (hcl [vi (ρ 4)] (clp [(0, 121)] (M.2.2.2.2 (α 1)))) (ρ 4) (-2)) (ρ 3) (-2) j := fun j => by
      by_cases hj : (j : Int) = ρ 3
      · rw [upZ_at hj, upZ_at hj]
      · rw [upZ_ne hj, upZ_ne hj]
        by_cases hj4 : (j : Int) = ρ 4
        · rw [upZ_at hj4, upZ_at hj4]
        · rw [upZ_ne hj4, upZ_ne hj4]
          exact (mte j hj4).symm
    refine ⟨⟨g0, pic1 hT g0 (by decide) (by decide), hn, h3, h4, ?_, hb, ?_⟩, trivial⟩
    · exact MTP_2 hn (MTP_c (fun j _ => rfl) (fun j _ => ue j) h) h3 h4 hc
    · exact fun j hj => by rw [ue j]; exact hf j hj
  exact ⟨nB, qB (key.1) (nB)⟩
def t_mpl7 : KT := ((0, 0, 0, 0), [(2, 0, 21, 0), (1, 1, 0, 0), (1, 2, 0, 0), (1, 3, 0, 0), (1, 4, 0, 0), (1, 5, 0, 0)], [(0, 0), (-2147483648, 2147483647), (-2147483648, 2147483647), (-2147483648, 2147483647), (-2147483648, 2147483647), (-2147483648, 2147483647)], [(552, [(2, 0, 21, 0), (1, 1, 0, 0), (1, 2, 0, 0), (1, 3, 0, 0)]), (703, [(1, 1, 0, 0), (1, 2, 0, 0), (1, 4, 0, 0)]), (703, [(1, 4, 0, 0), (1, 3, 0, 0), (1, 5, 0, 0)]), (2344, [(2, 0, 21, 0), (0, 0, 0, 0), (0, 0, 0, 12)])], (0, 0, 0), [], [], ([], [(550, [(2, 0, 21, 0), (1, 5, 0, 0), (1, 2, 0, 1)])]), ([], []))
set_option maxRecDepth 100000 in
theorem l_mpl7 (g : GG) : LOK Yt (PSt g) t_mpl7 := by
  intro ρ α Γ M as hT hB hA hP
  have g0 : Γ (α 0) = 21 := tyAt hA (i := 0) rfl
  have b1 : -2147483648 ≤ ρ 1 ∧ ρ 1 ≤ 2147483647 := hB 1
  have b2 : -2147483648 ≤ ρ 2 ∧ ρ 2 ≤ 2147483647 := hB 2
  have b3 : -2147483648 ≤ ρ 3 ∧ ρ 3 ≤ 2147483647 := hB 3
  have b4 : -2147483648 ≤ ρ 4 ∧ ρ 4 ≤ 2147483647 := hB 4
  have b5 : -2147483648 ≤ ρ 5 ∧ ρ 5 ≤ 2147483647 := hB 5
  have h0 : Γ (α 0) = 21 ∧ (∀ q ∈ ([([], 0, 1), ([(2, 23)], 0, 121), ([(3, 24)], 0, 121)] : VSP), wkT Γ M (α 0) q.1) ∧ Q552 g (vsv M (α 0) ([], 0, 1)) (vsv M (α 0) ([(2, 23)], 0, 121)) (vsv M (α 0) ([(3, 24)], 0, 121)) (ρ 1 + 0) (ρ 2 + 0) (ρ 3 + 0) := hP _ (List.mem_of_getElem? (i := 0) rfl)
  have h1 : (ρ 4 + 0 : Int) = wtS (ρ 1 + 0 : Int) (ρ 2 + 0 : Int) := hP _ (List.mem_of_getElem? (i := 1) rfl)
  have h2 : (ρ 5 + 0 : Int) = wtS (ρ 4 + 0 : Int) (ρ 3 + 0 : Int) := hP _ (List.mem_of_getElem? (i := 2) rfl)
  have h3 : Γ (α 0) = 21 ∧ 21 ≠ 0 ∧ 0 ≤ M.2.2.2.2 (α 0) 0 ∧ M.2.2.2.2 (α 0) 0 ≤ 12 := (fId_eq g 21 0 (α 0) (0) (12) Γ M (by decide)).mp (hP _ (List.mem_of_getElem? (i := 3) rfl))
  try simp only [Int.add_zero] at h0 h1 h2 h3
  have key : (Γ (α 0) = 21 ∧ (∀ q ∈ ([([], 0, 1), ([(2, 23)], 0, 121), ([(3, 24)], 0, 121)] : VSP), wkT Γ M (α 0) q.1) ∧ Q550 g (vsv M (α 0) ([], 0, 1)) (vsv M (α 0) ([(2, 23)], 0, 121)) (vsv M (α 0) ([(3, 24)], 0, 121)) (ρ 5 + 0) (ρ 2 + 1)) ∧ True := by
    try simp only [Int.add_zero]
    have k12 : (vsv M (α 0) ([], 0, 1)) 0 ≤ 12 := by rw [vs0 (by decide) (by decide)]; exact h3.2.2.2
    
    obtain ⟨t1, t2, hn, hx, hy, h, hf⟩ := h0
    exact ⟨⟨t1, t2, h, LFT_2 k12 hn hf h1 h2 hx hy⟩, trivial⟩
  exact ⟨nB, qB (key.1) (nB)⟩
def t_mpl8 : KT := ((0, 0, 0, 0), [(2, 0, 21, 0), (1, 1, 0, 0), (1, 2, 0, 0), (1, 3, 0, 0)], [(0, 0), (-2147483648, 2147483647), (-2147483648, 2147483647), (-2147483648, 2147483647)], [(550, [(2, 0, 21, 0), (1, 1, 0, 0), (1, 2, 0, 0)]), (6, [(1, 3, 0, 0), (1, 2, 0, 0)]), (10, [(2, 0, 21, 0), (0, 0, 0, 0), (1, 3, 0, 0)])], (0, 0, 0), [], [], ([], [(542, [(2, 0, 21, 0)])]), ([], []))
set_option maxRecDepth 100000 in
theorem l_mpl8 (g : GG) : LOK Yt (PSt g) t_mpl8 := by
  intro ρ α Γ M as hT hB hA hP
  have g0 : Γ (α 0) = 21 := tyAt hA (i := 0) rfl
  have b1 : -2147483648 ≤ ρ 1 ∧ ρ 1 ≤ 2147483647 := hB 1
  have b2 : -2147483648 ≤ ρ 2 ∧ ρ 2 ≤ 2147483647 := hB 2
  have b3 : -2147483648 ≤ ρ 3 ∧ ρ 3 ≤ 2147483647 := hB 3
  have h0 : Γ (α 0) = 21 ∧ (∀ q ∈ ([([], 0, 1), ([(2, 23)], 0, 121), ([(3, 24)], 0, 121)] : VSP), wkT Γ M (α 0) q.1) ∧ Q550 g (vsv M (α 0) ([], 0, 1)) (vsv M (α 0) ([(2, 23)], 0, 121)) (vsv M (α 0) ([(3, 24)], 0, 121)) (ρ 1 + 0) (ρ 2 + 0) := hP _ (List.mem_of_getElem? (i := 0) rfl)
  have h1 : ρ 3 + 0 ≤ ρ 2 + 0 := hP _ (List.mem_of_getElem? (i := 1) rfl)
  have h2 : 0 ≤ (0 : Int) ∧ M.2.2.2.2 (α 0) (0 : Int).toNat = ρ 3 + 0 := hP _ (List.mem_of_getElem? (i := 2) rfl)
  try simp only [Int.add_zero] at h0 h1 h2
  have key : (Γ (α 0) = 21 ∧ (∀ q ∈ ([([], 0, 1), ([(2, 23)], 0, 121), ([(3, 24)], 0, 121)] : VSP), wkT Γ M (α 0) q.1) ∧ Q542 g (vsv M (α 0) ([], 0, 1)) (vsv M (α 0) ([(2, 23)], 0, 121)) (vsv M (α 0) ([(3, 24)], 0, 121)) ) ∧ True := by
    try simp only [Int.add_zero]
    have ek : (vsv M (α 0) ([], 0, 1)) 0 = ρ 3 := (vs0 (by decide) (by decide)).trans h2.2
    
    obtain ⟨t1, t2, h, hb, hf⟩ := h0
    refine ⟨⟨t1, t2, fun i hi => ?_⟩, trivial⟩
    rcases h i hi with q | q
    · have hi : (i : Int) < (vsv M (α 0) ([], 0, 1)) 0 := hi
      exact absurd q ((hf i hi).2 (by rw [ek] at hi; omega))
    · exact q
  exact ⟨nB, qB (key.1) (nB)⟩
def t_mpr0 : KT := ((0, 0, 0, 0), [(2, 0, 21, 0), (1, 1, 0, 0), (1, 2, 0, 0)], [(0, 0), (-2147483648, 2147483647), (13, 121)], [(562, [(2, 0, 21, 0), (1, 1, 0, 0)]), (99, [(1, 1, 0, 0), (0, 0, 0, 1), (0, 0, 0, 0)]), (10, [(2, 0, 21, 0), (0, 0, 0, 0), (1, 2, 0, 0)])], (0, 0, 0), [], [], ([(1, 1, 0)], []), ([], []))
set_option maxRecDepth 100000 in
theorem l_mpr0 (g : GG) : LOK Yt (PSt g) t_mpr0 := by
  intro ρ α Γ M as hT hB hA hP
  have g0 : Γ (α 0) = 21 := tyAt hA (i := 0) rfl
  have b1 : -2147483648 ≤ ρ 1 ∧ ρ 1 ≤ 2147483647 := hB 1
  have b2 : 13 ≤ ρ 2 ∧ ρ 2 ≤ 121 := hB 2
  have h0 : Γ (α 0) = 21 ∧ (∀ q ∈ ([([], 0, 1)] : VSP), wkT Γ M (α 0) q.1) ∧ Q562 g (vsv M (α 0) ([], 0, 1)) (ρ 1 + 0) := hP _ (List.mem_of_getElem? (i := 0) rfl)
  have h1 : (ρ 1 + 0 : Int) ≠ 1 := hP _ (List.mem_of_getElem? (i := 1) rfl)
  have h2 : 0 ≤ (0 : Int) ∧ M.2.2.2.2 (α 0) (0 : Int).toNat = ρ 2 + 0 := hP _ (List.mem_of_getElem? (i := 2) rfl)
  try simp only [Int.add_zero] at h0 h1 h2
  have key : (1 ≤ ρ 1 ∧ ρ 1 ≤ 0) ∧ True := by
    try simp only [Int.add_zero]
    have ek : (vsv M (α 0) ([], 0, 1)) 0 = ρ 2 := (vs0 (by decide) (by decide)).trans h2.2
    
    obtain ⟨-, -, h⟩ := h0
    have h : ρ 1 = 1 ∨ (vsv M (α 0) ([], 0, 1)) 0 ≤ 12 := h
    rcases h with h | h
    · exact absurd h h1
    · omega
  exact ⟨qB (key.1) (nB), nB⟩
def t_mcp0 : KT := ((0, 0, 0, 0), [(2, 0, 21, 0), (1, 1, 0, 0)], [(0, 0), (1, 1)], [], (0, 0, 0), [], [], ([], [(562, [(2, 0, 21, 0), (1, 1, 0, 0)])]), ([], []))
set_option maxRecDepth 100000 in
theorem l_mcp0 (g : GG) : LOK Yt (PSt g) t_mcp0 := by
  intro ρ α Γ M as hT hB hA hP
  have g0 : Γ (α 0) = 21 := tyAt hA (i := 0) rfl
  have b1 : 1 ≤ ρ 1 ∧ ρ 1 ≤ 1 := hB 1
  have key : (Γ (α 0) = 21 ∧ (∀ q ∈ ([([], 0, 1)] : VSP), wkT Γ M (α 0) q.1) ∧ Q562 g (vsv M (α 0) ([], 0, 1)) (ρ 1 + 0)) ∧ True := by
    try simp only [Int.add_zero]
    exact ⟨⟨g0, pic1 hT g0 (by decide) (by decide), Or.inl (by omega)⟩, trivial⟩
  exact ⟨nB, qB (key.1) (nB)⟩
def t_mcp1 : KT := ((0, 0, 0, 0), [(2, 0, 21, 0), (1, 1, 0, 0), (1, 2, 0, 0)], [(0, 0), (-2147483648, 2147483647), (0, 12)], [(10, [(2, 0, 21, 0), (0, 0, 0, 0), (1, 2, 0, 0)])], (0, 0, 0), [], [], ([], [(562, [(2, 0, 21, 0), (1, 1, 0, 0)])]), ([], []))
set_option maxRecDepth 100000 in
theorem l_mcp1 (g : GG) : LOK Yt (PSt g) t_mcp1 := by
  intro ρ α Γ M as hT hB hA hP
  have g0 : Γ (α 0) = 21 := tyAt hA (i := 0) rfl
  have b1 : -2147483648 ≤ ρ 1 ∧ ρ 1 ≤ 2147483647 := hB 1
  have b2 : 0 ≤ ρ 2 ∧ ρ 2 ≤ 12 := hB 2
  have h0 : 0 ≤ (0 : Int) ∧ M.2.2.2.2 (α 0) (0 : Int).toNat = ρ 2 + 0 := hP _ (List.mem_of_getElem? (i := 0) rfl)
  try simp only [Int.add_zero] at h0
  have key : (Γ (α 0) = 21 ∧ (∀ q ∈ ([([], 0, 1)] : VSP), wkT Γ M (α 0) q.1) ∧ Q562 g (vsv M (α 0) ([], 0, 1)) (ρ 1 + 0)) ∧ True := by
    try simp only [Int.add_zero]
    have ek : (vsv M (α 0) ([], 0, 1)) 0 = ρ 2 := (vs0 (by decide) (by decide)).trans h0.2
    exact ⟨⟨g0, pic1 hT g0 (by decide) (by decide), Or.inr (by show (vsv M (α 0) ([], 0, 1)) 0 ≤ 12; omega)⟩, trivial⟩
  exact ⟨nB, qB (key.1) (nB)⟩
def t_mcp2 : KT := ((0, 0, 0, 0), [(2, 0, 21, 0), (1, 1, 0, 0)], [(0, 0), (-2147483648, 2147483647)], [(99, [(1, 1, 0, 0), (0, 0, 0, 1), (0, 0, 0, 0)]), (99, [(1, 1, 0, 0), (0, 0, 0, 0), (0, 0, 0, 0)])], (0, 0, 0), [], [], ([], [(563, [(2, 0, 21, 0), (1, 1, 0, 0)])]), ([], []))
set_option maxRecDepth 100000 in
theorem l_mcp2 (g : GG) : LOK Yt (PSt g) t_mcp2 := by
  intro ρ α Γ M as hT hB hA hP
  have g0 : Γ (α 0) = 21 := tyAt hA (i := 0) rfl
  have b1 : -2147483648 ≤ ρ 1 ∧ ρ 1 ≤ 2147483647 := hB 1
  have h0 : (ρ 1 + 0 : Int) ≠ 1 := hP _ (List.mem_of_getElem? (i := 0) rfl)
  have h1 : (ρ 1 + 0 : Int) ≠ 0 := hP _ (List.mem_of_getElem? (i := 1) rfl)
  try simp only [Int.add_zero] at h0 h1
  have key : (Γ (α 0) = 21 ∧ (∀ q ∈ ([([], 0, 1)] : VSP), wkT Γ M (α 0) q.1) ∧ Q563 g (vsv M (α 0) ([], 0, 1)) (ρ 1 + 0)) ∧ True := by
    try simp only [Int.add_zero]
    exact ⟨⟨g0, pic1 hT g0 (by decide) (by decide), fun q => q.elim (fun q => h0 q) (fun q => h1 q.1)⟩, trivial⟩
  exact ⟨nB, qB (key.1) (nB)⟩
def t_mcp3 : KT := ((0, 0, 0, 0), [(2, 0, 21, 0), (1, 1, 0, 0), (1, 2, 0, 0)], [(0, 0), (-2147483648, 2147483647), (13, 121)], [(99, [(1, 1, 0, 0), (0, 0, 0, 1), (0, 0, 0, 0)]), (10, [(2, 0, 21, 0), (0, 0, 0, 0), (1, 2, 0, 0)])], (0, 0, 0), [], [], ([], [(563, [(2, 0, 21, 0), (1, 1, 0, 0)])]), ([], []))
set_option maxRecDepth 100000 in
theorem l_mcp3 (g : GG) : LOK Yt (PSt g) t_mcp3 := by
  intro ρ α Γ M as hT hB hA hP
  have g0 : Γ (α 0) = 21 := tyAt hA (i := 0) rfl
  have b1 : -2147483648 ≤ ρ 1 ∧ ρ 1 ≤ 2147483647 := hB 1
  have b2 : 13 ≤ ρ 2 ∧ ρ 2 ≤ 121 := hB 2
  have h0 : (ρ 1 + 0 : Int) ≠ 1 := hP _ (List.mem_of_getElem? (i := 0) rfl)
  have h1 : 0 ≤ (0 : Int) ∧ M.2.2.2.2 (α 0) (0 : Int).toNat = ρ 2 + 0 := hP _ (List.mem_of_getElem? (i := 1) rfl)
  try simp only [Int.add_zero] at h0 h1
  have key : (Γ (α 0) = 21 ∧ (∀ q ∈ ([([], 0, 1)] : VSP), wkT Γ M (α 0) q.1) ∧ Q563 g (vsv M (α 0) ([], 0, 1)) (ρ 1 + 0)) ∧ True := by
    try simp only [Int.add_zero]
    have ek : (vsv M (α 0) ([], 0, 1)) 0 = ρ 2 := (vs0 (by decide) (by decide)).trans h1.2
    exact ⟨⟨g0, pic1 hT g0 (by decide) (by decide), fun q => q.elim (fun q => h0 q) (fun q => by have := q.2; have this : (vsv M (α 0) ([], 0, 1)) 0 ≤ 12 := this; omega)⟩, trivial⟩
  exact ⟨nB, qB (key.1) (nB)⟩
def t_mgr0 : KT := ((0, 0, 0, 0), [(2, 0, 6, 0), (2, 1, 1, 0), (1, 2, 0, 0), (1, 3, 0, 0), (1, 4, 0, 0), (1, 5, 0, 0), (1, 6, 0, 0), (1, 7, 0, 0), (1, 8, 0, 0), (1, 9, 0, 0), (1, 10, 0, 0), (1, 11, 0, 0)], [(0, 0), (0, 0), (0, 11), (0, 12), (-2147483648, 2147483647), (-2147483648, 2147483647), (-2147483648, 2147483647), (-2147483648, 2147483647), (-2147483648, 2147483647), (-2147483648, 2147483647), (-2147483648, 2147483647), (-2147483648, 2147483647)], [(455, [(2, 0, 6, 0), (1, 4, 0, 0), (1, 5, 0, 0), (1, 6, 0, 0), (1, 7, 0, 0), (1, 8, 0, 0), (1, 9, 0, 0), (1, 10, 0, 0), (1, 11, 0, 0)]), (572, [(2, 1, 1, 0)])], (0, 0, 0), [], [], ([], [(457, [(2, 0, 6, 0), (1, 4, 0, 0), (1, 5, 0, 0), (1, 6, 0, 0), (1, 7, 0, 0), (1, 8, 0, 0), (1, 9, 0, 0), (1, 10, 0, 0), (1, 11, 0, 0), (1, 2, 0, 0), (1, 3, 0, 0), (1, 3, 0, 0)])]), ([], []))
set_option maxRecDepth 100000 in
theorem l_mgr0 (g : GG) : LOK Yt (PSt g) t_mgr0 := by
  intro ρ α Γ M as hT hB hA hP
  have g0 : Γ (α 0) = 6 := tyAt hA (i := 0) rfl
  have g1 : Γ (α 1) = 1 := tyAt hA (i := 1) rfl
  have b2 : 0 ≤ ρ 2 ∧ ρ 2 ≤ 11 := hB 2
  have b3 : 0 ≤ ρ 3 ∧ ρ 3 ≤ 12 := hB 3
  have b4 : -2147483648 ≤ ρ 4 ∧ ρ 4 ≤ 2147483647 := hB 4
  have b5 : -2147483648 ≤ ρ 5 ∧ ρ 5 ≤ 2147483647 := hB 5
  have b6 : -2147483648 ≤ ρ 6 ∧ ρ 6 ≤ 2147483647 := hB 6
  have b7 : -2147483648 ≤ ρ 7 ∧ ρ 7 ≤ 2147483647 := hB 7
  have b8 : -2147483648 ≤ ρ 8 ∧ ρ 8 ≤ 2147483647 := hB 8
  have b9 : -2147483648 ≤ ρ 9 ∧ ρ 9 ≤ 2147483647 := hB 9
  have b10 : -2147483648 ≤ ρ 10 ∧ ρ 10 ≤ 2147483647 := hB 10
  have b11 : -2147483648 ≤ ρ 11 ∧ ρ 11 ≤ 2147483647 := hB 11
  have h0 : Γ (α 0) = 6 ∧ (∀ q ∈ ([([(4, 9)], 0, 288)] : VSP), wkT Γ M (α 0) q.1) ∧ Q455 g (vsv M (α 0) ([(4, 9)], 0, 288)) (ρ 4 + 0) (ρ 5 + 0) (ρ 6 + 0) (ρ 7 + 0) (ρ 8 + 0) (ρ 9 + 0) (ρ 10 + 0) (ρ 11 + 0) := hP _ (List.mem_of_getElem? (i := 0) rfl)
  have h1 : Γ (α 1) = 1 ∧ (∀ q ∈ ([([], 0, 2)] : VSP), wkT Γ M (α 1) q.1) ∧ Q572 g (vsv M (α 1) ([], 0, 2))  := hP _ (List.mem_of_getElem? (i := 1) rfl)
  try simp only [Int.add_zero] at h0 h1
  have key : (Γ (α 0) = 6 ∧ (∀ q ∈ ([([(4, 9)], 0, 288)] : VSP), wkT Γ M (α 0) q.1) ∧ Q457 g (vsv M (α 0) ([(4, 9)], 0, 288)) (ρ 4 + 0) (ρ 5 + 0) (ρ 6 + 0) (ρ 7 + 0) (ρ 8 + 0) (ρ 9 + 0) (ρ 10 + 0) (ρ 11 + 0) (ρ 2 + 0) (ρ 3 + 0) (ρ 3 + 0)) ∧ True := by
    try simp only [Int.add_zero]
    obtain ⟨t1, t2, hl, hw⟩ := h0
    obtain ⟨-, -, hR, hC⟩ := h1
    obtain ⟨hr, hc⟩ := ch_dims hT g1
    have e0 : vsv M (α 1) ([], 0, 2) 0 = M.2.2.2.2 (α 1) 0 := vs0 (by decide) (by decide)
    have e1 : vsv M (α 1) ([], 0, 2) 1 = M.2.2.2.2 (α 1) 1 := vs0 (by decide) (by decide)
    have hR := e0.symm.trans hR
    have hC := e1.symm.trans hC
    have hx : True := trivial
    refine ⟨⟨t1, t2, hl, WS2_0 hw, fun y hy hy2 => ?_⟩, trivial⟩
    obtain ⟨w, hs, -⟩ := hw
    exact (hs _ (ev_lt1 (e := vE (zC g).toNat (ρ 2).toNat y) (C := (zC g).toNat) (r := (ρ 2).toNat) (c := y) (by omega) (by omega) (by omega) (by unfold vE; omega))).1.2
  exact ⟨nB, qB (key.1) (nB)⟩
def t_mgr1 : KT := ((0, 0, 0, 0), [(2, 0, 6, 0), (2, 1, 9, 0), (2, 2, 1, 0), (1, 3, 0, 0), (1, 4, 0, 0), (1, 5, 0, 0), (1, 6, 0, 0), (1, 7, 0, 0), (1, 8, 0, 0), (1, 9, 0, 0), (1, 10, 0, 0), (1, 11, 0, 0), (1, 12, 0, 0), (1, 13, 0, 0), (1, 14, 0, 0), (1, 15, 0, 0), (1, 16, 0, 0), (1, 17, 0, 0), (1, 18, 0, 0), (1, 19, 0, 0)], [(0, 0), (0, 0), (0, 0), (-2147483648, 2147483647), (-2147483648, 2147483647), (-2147483648, 2147483647), (-2147483648, 2147483647), (-2147483648, 2147483647), (-2147483648, 2147483647), (-2147483648, 2147483647), (-2147483648, 2147483647), (0, 11), (0, 12), (0, 11), (-2147483648, 2147483647), (-2147483648, 2147483647), (-2147483648, 2147483647), (-2147483648, 2147483647), (-2147483648, 2147483647), (-1, 11)], [(457, [(2, 0, 6, 0), (1, 3, 0, 0), (1, 4, 0, 0), (1, 5, 0, 0), (1, 6, 0, 0), (1, 7, 0, 0), (1, 8, 0, 0), (1, 9, 0, 0), (1, 10, 0, 0), (1, 11, 0, 0), (1, 12, 0, 0), (1, 13, 0, 0)]), (572, [(2, 2, 1, 0)]), (11, [(2, 0, 6, 0), (0, 0, 0, 4), (2, 1, 9, 0)]), (10, [(2, 2, 1, 0), (0, 0, 0, 1), (1, 14, 0, 0)]), (25, [(1, 11, 0, 0), (1, 14, 0, 0), (1, 15, 0, 0)]), (23, [(1, 15, 0, 0), (1, 13, 0, 0), (1, 16, 0, 0)]), (25, [(0, 0, 0, 2), (1, 16, 0, 0), (1, 17, 0, 0)]), (10, [(2, 1, 9, 0), (1, 17, 0, 1), (1, 18, 0, 0)]), (6, [(1, 13, 0, 0), (1, 19, 0, 0)]), (704, [(1, 19, 0, 0)])], (0, 0, 0), [], [], ([(18, 0, 1000)], [(657, [(2, 1, 9, 0), (1, 17, 0, 1), (2, 0, 6, 0), (1, 3, 0, 0), (1, 4, 0, 0), (1, 5, 0, 0), (1, 6, 0, 0), (1, 7, 0, 0), (1, 8, 0, 0), (1, 9, 0, 0), (1, 10, 0, 0), (1, 11, 0, 0), (1, 12, 0, 0), (1, 13, 0, 0), (1, 18, 0, 0)])]), ([], []))
set_option maxRecDepth 100000 in
theorem l_mgr1 (g : GG) : LOK Yt (PSt g) t_mgr1 := by
  intro ρ α Γ M as hT hB hA hP
  have g0 : Γ (α 0) = 6 := tyAt hA (i := 0) rfl
  have g1 : Γ (α 1) = 9 := tyAt hA (i := 1) rfl
  have g2 : Γ (α 2) = 1 := tyAt hA (i := 2) rfl
  have b3 : -2147483648 ≤ ρ 3 ∧ ρ 3 ≤ 2147483647 := hB 3
  have b4 : -2147483648 ≤ ρ 4 ∧ ρ 4 ≤ 2147483647 := hB 4
  have b5 : -2147483648 ≤ ρ 5 ∧ ρ 5 ≤ 2147483647 := hB 5
  have b6 : -2147483648 ≤ ρ 6 ∧ ρ 6 ≤ 2147483647 := hB 6
  have b7 : -2147483648 ≤ ρ 7 ∧ ρ 7 ≤ 2147483647 := hB 7
  have b8 : -2147483648 ≤ ρ 8 ∧ ρ 8 ≤ 2147483647 := hB 8
  have b9 : -2147483648 ≤ ρ 9 ∧ ρ 9 ≤ 2147483647 := hB 9
  have b10 : -2147483648 ≤ ρ 10 ∧ ρ 10 ≤ 2147483647 := hB 10
  have b11 : 0 ≤ ρ 11 ∧ ρ 11 ≤ 11 := hB 11
  have b12 : 0 ≤ ρ 12 ∧ ρ 12 ≤ 12 := hB 12
  have b13 : 0 ≤ ρ 13 ∧ ρ 13 ≤ 11 := hB 13
  have b14 : -2147483648 ≤ ρ 14 ∧ ρ 14 ≤ 2147483647 := hB 14
  have b15 : -2147483648 ≤ ρ 15 ∧ ρ 15 ≤ 2147483647 := hB 15
  have b16 : -2147483648 ≤ ρ 16 ∧ ρ 16 ≤ 2147483647 := hB 16
  have b17 : -2147483648 ≤ ρ 17 ∧ ρ 17 ≤ 2147483647 := hB 17
  have b18 : -2147483648 ≤ ρ 18 ∧ ρ 18 ≤ 2147483647 := hB 18
  have b19 : -1 ≤ ρ 19 ∧ ρ 19 ≤ 11 := hB 19
  have h0 : Γ (α 0) = 6 ∧ (∀ q ∈ ([([(4, 9)], 0, 288)] : VSP), wkT Γ M (α 0) q.1) ∧ Q457 g (vsv M (α 0) ([(4, 9)], 0, 288)) (ρ 3 + 0) (ρ 4 + 0) (ρ 5 + 0) (ρ 6 + 0) (ρ 7 + 0) (ρ 8 + 0) (ρ 9 + 0) (ρ 10 + 0) (ρ 11 + 0) (ρ 12 + 0) (ρ 13 + 0) := hP _ (List.mem_of_getElem? (i := 0) rfl)
  have h1 : Γ (α 2) = 1 ∧ (∀ q ∈ ([([], 0, 2)] : VSP), wkT Γ M (α 2) q.1) ∧ Q572 g (vsv M (α 2) ([], 0, 2))  := hP _ (List.mem_of_getElem? (i := 1) rfl)
  have h2 : 0 ≤ (4 : Int) ∧ M.2.2.2.1 (α 0) (4 : Int).toNat = some (α 1) := hP _ (List.mem_of_getElem? (i := 2) rfl)
  have h3 : 0 ≤ (1 : Int) ∧ M.2.2.2.2 (α 2) (1 : Int).toNat = ρ 14 + 0 := hP _ (List.mem_of_getElem? (i := 3) rfl)
  have h4 : ρ 15 + 0 = wI ((ρ 11 + 0) * (ρ 14 + 0)) := hP _ (List.mem_of_getElem? (i := 4) rfl)
  have h5 : ρ 16 + 0 = wI ((ρ 15 + 0) + (ρ 13 + 0)) := hP _ (List.mem_of_getElem? (i := 5) rfl)
  have h6 : ρ 17 + 0 = wI ((2) * (ρ 16 + 0)) := hP _ (List.mem_of_getElem? (i := 6) rfl)
  have h7 : 0 ≤ (ρ 17 + 1 : Int) ∧ M.2.2.2.2 (α 1) (ρ 17 + 1 : Int).toNat = ρ 18 + 0 := hP _ (List.mem_of_getElem? (i := 7) rfl)
  have h8 : ρ 13 + 0 ≤ ρ 19 + 0 := hP _ (List.mem_of_getElem? (i := 8) rfl)
  have h9 : (ρ 19 + 0 : Int) < zC g := hP _ (List.mem_of_getElem? (i := 9) rfl)
  try simp only [Int.add_zero] at h0 h1 h2 h3 h4 h5 h6 h7 h8 h9
  have key : (0 ≤ ρ 18 ∧ ρ 18 ≤ 1000) ∧ (Γ (α 1) = 9 ∧ wlk M (α 0) [(4, 9)] = (α 1) ∧ wkT Γ M (α 0) [(4, 9)] ∧ Γ (α 0) = 6 ∧ (∀ q ∈ ([] : VSP), wkT Γ M (α 0) q.1) ∧ Q657 g (hcl [vi (ρ 17 + 1)] (clp [(0, 288)] (M.2.2.2.2 (α 1)))) (ρ 17 + 1)  (ρ 3 + 0) (ρ 4 + 0) (ρ 5 + 0) (ρ 6 + 0) (ρ 7 + 0) (ρ 8 + 0) (ρ 9 + 0) (ρ 10 + 0) (ρ 11 + 0) (ρ 12 + 0) (ρ 13 + 0) (ρ 18 + 0)) ∧ True := by
    try simp only [Int.add_zero]
    obtain ⟨t1, t2, hl, hw, hy⟩ := h0
    obtain ⟨-, -, hR, hC⟩ := h1
    have fe : fl M (α 0) 4 = α 1 := fl_eq (show M.2.2.2.1 (α 0) 4 = some (α 1) from h2.2)
    have e0 : vsv M (α 2) ([], 0, 2) 0 = M.2.2.2.2 (α 2) 0 := vs0 (by decide) (by decide)
    have e1 : vsv M (α 2) ([], 0, 2) 1 = M.2.2.2.2 (α 2) 1 := vs0 (by decide) (by decide)
    have hR := e0.symm.trans hR
    have hC := e1.symm.trans hC
    obtain ⟨hr, hc⟩ := ch_dims hT g2
    have h3 : M.2.2.2.2 (α 2) 1 = ρ 14 := h3.2
    have hC : ρ 14 = zC g := h3.symm.trans hC
    have h9 : ρ 19 < zC g := h9
    have hin : True := trivial
    have h14 : 2 ≤ ρ 14 ∧ ρ 14 ≤ 12 := by omega
    have m0 : 0 ≤ ρ 11 * ρ 14 ∧ ρ 11 * ρ 14 ≤ 11 * 12 := ⟨Int.mul_nonneg (by omega) (by omega), Int.mul_le_mul (by omega) (by omega) (by omega) (by decide)⟩
    rw [wI_id (by unfold inI; omega)] at h4
    have m1 : 0 ≤ ρ 15 ∧ ρ 15 ≤ 132 := by omega
    rw [wI_id (by unfold inI; omega)] at h5
    rw [wI_id (by unfold inI; omega)] at h6
    have e15 : ρ 15 = ρ 11 * zC g := by rw [← hC]; exact h4
    have hi : (ρ 17 + 1) = 2 * (ρ 11 * zC g + ρ 13) + 1 := by omega
    have ei2 : vE (zC g).toNat (ρ 11).toNat (ρ 13).toNat = (ρ 17 + 1).toNat := by
      have : ((ρ 11).toNat * (zC g).toNat : Nat) = (ρ 11 * zC g).toNat := by
        have e3 : ((ρ 11).toNat : Int) = ρ 11 := by omega
        have e4 : ((zC g).toNat : Int) = zC g := by omega
        have : (((ρ 11).toNat * (zC g).toNat : Nat) : Int) = ρ 11 * zC g := by rw [Int.natCast_mul, e3, e4]
        omega
      unfold vE
      omega
    have b17 : 0 ≤ (ρ 17 + 1) ∧ (ρ 17 + 1) < 288 := ix_lt (r := ρ 11) (c := ρ 13) (C := zC g) (by omega) (by omega) (by omega) (by omega)
    have hx : M.2.2.2.2 (α 1) (ρ 17 + 1).toNat = ρ 18 := h7.2
    have zx : (vsv M (α 0) ([(4, 9)], 0, 288)) (ρ 17 + 1).toNat = ρ 18 := by
      show clp [(0, 288)] (M.2.2.2.2 (fl M (α 0) 4)) (ρ 17 + 1).toNat = ρ 18
      rw [fe, cAll (by omega)]
      exact hx
    have ue : upZ (hcl [vi (ρ 17 + 1)] (clp [(0, 288)] (M.2.2.2.2 (α 1)))) (ρ 17 + 1) (ρ 18) = (vsv M (α 0) ([(4, 9)], 0, 288)) := by
      funext j
      by_cases hj : (j : Int) = (ρ 17 + 1)
      · rw [upZ_at hj, show j = (ρ 17 + 1).toNat by omega]
        exact zx.symm
      · rw [upZ_ne hj, hcl1 hj]
        show _ = clp [(0, 288)] (M.2.2.2.2 (fl M (α 0) 4)) j
        rw [fe]
    have hb : 0 ≤ ρ 18 := by
      obtain ⟨w, q1, -⟩ := hw 0
      have := (q1 (ρ 17 + 1).toNat (by omega)).1.1
      exact zx ▸ this
    have hb2 : ρ 18 ≤ 2 * ρ 3 + ρ 10 := by
      have := hy (ρ 13).toNat (by omega) (by omega)
      rw [ei2] at this
      exact zx ▸ this
    refine ⟨⟨hb, by omega⟩, ⟨g1, fe, wk1 h2.2 g1, g0, pic1 hT g0 (by decide) (by decide), hl, ?_, ?_, ⟨hi, by omega⟩, hb, hb2⟩, trivial⟩
    · rw [ue]
      exact hw
    · rw [ue]
      exact hy
  exact ⟨qB (key.1) (nB), qB (key.2.1) (nB)⟩
def t_mgr2 : KT := ((0, 0, 0, 0), [(2, 0, 6, 0), (2, 1, 9, 0), (1, 2, 0, 0), (1, 3, 0, 0), (1, 4, 0, 0), (1, 5, 0, 0), (1, 6, 0, 0), (1, 7, 0, 0), (1, 8, 0, 0), (1, 9, 0, 0), (1, 10, 0, 0), (1, 11, 0, 0), (1, 12, 0, 0), (1, 13, 0, 0), (1, 14, 0, 0)], [(0, 0), (0, 0), (-2147483648, 2147483647), (-2147483648, 2147483647), (-2147483648, 2147483647), (-2147483648, 2147483647), (-2147483648, 2147483647), (-2147483648, 2147483647), (-2147483648, 2147483647), (-2147483648, 2147483647), (0, 11), (0, 12), (0, 11), (0, 287), (-2147483648, 2147483647)], [(657, [(2, 1, 9, 0), (1, 13, 0, 0), (2, 0, 6, 0), (1, 2, 0, 0), (1, 3, 0, 0), (1, 4, 0, 0), (1, 5, 0, 0), (1, 6, 0, 0), (1, 7, 0, 0), (1, 8, 0, 0), (1, 9, 0, 0), (1, 10, 0, 0), (1, 11, 0, 0), (1, 12, 0, 0), (1, 14, 0, 0)]), (10, [(2, 1, 9, 0), (1, 13, 0, 0), (1, 14, 0, 1)])], (0, 0, 0), [], [], ([], [(457, [(2, 0, 6, 0), (1, 2, 0, 0), (1, 3, 0, 0), (1, 4, 0, 0), (1, 5, 0, 0), (1, 6, 0, 0), (1, 7, 0, 0), (1, 8, 0, 0), (1, 9, 0, 0), (1, 10, 0, 0), (1, 11, 0, 0), (1, 12, 0, 1)])]), ([], []))
set_option maxRecDepth 100000 in
theorem l_mgr2 (g : GG) : LOK Yt (PSt g) t_mgr2 := by
  intro ρ α Γ M as hT hB hA hP
  have g0 : Γ (α 0) = 6 := tyAt hA (i := 0) rfl
  have g1 : Γ (α 1) = 9 := tyAt hA (i := 1) rfl
  have b2 : -2147483648 ≤ ρ 2 ∧ ρ 2 ≤ 2147483647 := hB 2
  have b3 : -2147483648 ≤ ρ 3 ∧ ρ 3 ≤ 2147483647 := hB 3
  have b4 : -2147483648 ≤ ρ 4 ∧ ρ 4 ≤ 2147483647 := hB 4
  have b5 : -2147483648 ≤ ρ 5 ∧ ρ 5 ≤ 2147483647 := hB 5
  have b6 : -2147483648 ≤ ρ 6 ∧ ρ 6 ≤ 2147483647 := hB 6
  have b7 : -2147483648 ≤ ρ 7 ∧ ρ 7 ≤ 2147483647 := hB 7
  have b8 : -2147483648 ≤ ρ 8 ∧ ρ 8 ≤ 2147483647 := hB 8
  have b9 : -2147483648 ≤ ρ 9 ∧ ρ 9 ≤ 2147483647 := hB 9
  have b10 : 0 ≤ ρ 10 ∧ ρ 10 ≤ 11 := hB 10
  have b11 : 0 ≤ ρ 11 ∧ ρ 11 ≤ 12 := hB 11
  have b12 : 0 ≤ ρ 12 ∧ ρ 12 ≤ 11 := hB 12
  have b13 : 0 ≤ ρ 13 ∧ ρ 13 ≤ 287 := hB 13
  have b14 : -2147483648 ≤ ρ 14 ∧ ρ 14 ≤ 2147483647 := hB 14
  have h0 : Γ (α 1) = 9 ∧ wlk M (α 0) [(4, 9)] = (α 1) ∧ wkT Γ M (α 0) [(4, 9)] ∧ Γ (α 0) = 6 ∧ (∀ q ∈ ([] : VSP), wkT Γ M (α 0) q.1) ∧ Q657 g (hcl [vi (ρ 13 + 0)] (clp [(0, 288)] (M.2.2.2.2 (α 1)))) (ρ 13 + 0)  (ρ 2 + 0) (ρ 3 + 0) (ρ 4 + 0) (ρ 5 + 0) (ρ 6 + 0) (ρ 7 + 0) (ρ 8 + 0) (ρ 9 + 0) (ρ 10 + 0) (ρ 11 + 0) (ρ 12 + 0) (ρ 14 + 0) := hP _ (List.mem_of_getElem? (i := 0) rfl)
  have h1 : 0 ≤ (ρ 13 + 0 : Int) ∧ M.2.2.2.2 (α 1) (ρ 13 + 0 : Int).toNat = ρ 14 + 1 := hP _ (List.mem_of_getElem? (i := 1) rfl)
  try simp only [Int.add_zero] at h0 h1
  have key : (Γ (α 0) = 6 ∧ (∀ q ∈ ([([(4, 9)], 0, 288)] : VSP), wkT Γ M (α 0) q.1) ∧ Q457 g (vsv M (α 0) ([(4, 9)], 0, 288)) (ρ 2 + 0) (ρ 3 + 0) (ρ 4 + 0) (ρ 5 + 0) (ρ 6 + 0) (ρ 7 + 0) (ρ 8 + 0) (ρ 9 + 0) (ρ 10 + 0) (ρ 11 + 0) (ρ 12 + 1)) ∧ True := by
    try simp only [Int.add_zero]
    obtain ⟨-, fe, -, t1, t2, hl, hw, hy, hi, hb, hb2⟩ := h0
    have fe : fl M (α 0) 4 = α 1 := fe
    have hu : ρ 12 < zC g := by omega
    have a0 : ((ρ 10).toNat : Int) = ρ 10 := by omega
    have a2 : ((ρ 12).toNat : Int) = ρ 12 := by omega
    have ei2 : vE (zC g).toNat (ρ 10).toNat (ρ 12).toNat = (ρ 13).toNat := by
      have : ((ρ 10).toNat * (zC g).toNat : Nat) = (ρ 10 * zC g).toNat := by
        have e3 : ((ρ 10).toNat : Int) = ρ 10 := by omega
        have e4 : ((zC g).toNat : Int) = zC g := by omega
        have : (((ρ 10).toNat * (zC g).toNat : Nat) : Int) = ρ 10 * zC g := by rw [Int.natCast_mul, e3, e4]
        omega
      have := Int.mul_nonneg (show 0 ≤ ρ 10 by omega) (show 0 ≤ zC g by omega)
      unfold vE
      omega
    have z1 : ∀ j : Nat, j ≠ (ρ 13).toNat → (vsv M (α 0) ([(4, 9)], 0, 288)) j = upZ (hcl [vi (ρ 13)] (clp [(0, 288)] (M.2.2.2.2 (α 1)))) (ρ 13) (ρ 14) j := fun j hj => by
      rw [upZ_ne (by omega), hcl1 (by omega)]
      show clp [(0, 288)] (M.2.2.2.2 (fl M (α 0) 4)) j = _
      rw [fe]
    have z2 : (vsv M (α 0) ([(4, 9)], 0, 288)) (ρ 13).toNat = ρ 14 + 1 := by
      show clp [(0, 288)] (M.2.2.2.2 (fl M (α 0) 4)) (ρ 13).toNat = ρ 14 + 1
      rw [fe, cAll (by omega)]
      exact h1.2
    have z3 : upZ (hcl [vi (ρ 13)] (clp [(0, 288)] (M.2.2.2.2 (α 1)))) (ρ 13) (ρ 14) (ρ 13).toNat = ρ 14 := upZ_at (by omega)
    refine ⟨⟨t1, pic1 hT g0 (by decide) (by decide), hl, ?_, fun y hy1 hy2 => ?_⟩, trivial⟩
    · show WS2 g (vsv M (α 0) ([(4, 9)], 0, 288)) _ _ _ _ _ _ _ _ (ρ 10) (ρ 11 - 1) (ρ 10) (ρ 12 + 1 - 1)
      rw [show ρ 12 + 1 - 1 = ((ρ 12).toNat : Int) by omega, ← a0]
      refine WS2_row (by omega) (by rw [a0, a2]; exact hw) (fun x _ hx => z1 x (by rw [← ei2]; exact hx)) ?_ (by rw [ei2]; omega) ?_
      · rw [ei2, z2, z3]
      · rw [ei2, z3]
        exact hb2
    · have hne : vE (zC g).toNat (ρ 10).toNat y ≠ (ρ 13).toNat := by
        rw [← ei2]
        exact vE_ne (by omega)
      have e5 := z1 _ hne
      have e6 := hy y (by omega) hy2
      show (vsv M (α 0) ([(4, 9)], 0, 288)) _ ≤ _
      rw [e5]
      exact e6
  exact ⟨nB, qB (key.1) (nB)⟩
def t_mgr3 : KT := ((0, 0, 0, 0), [(2, 0, 6, 0), (1, 1, 0, 0), (1, 2, 0, 0), (1, 3, 0, 0), (1, 4, 0, 0), (1, 5, 0, 0), (1, 6, 0, 0), (1, 7, 0, 0), (1, 8, 0, 0), (1, 9, 0, 0), (1, 10, 0, 0), (1, 11, 0, 0), (1, 12, 0, 0)], [(0, 0), (-2147483648, 2147483647), (-2147483648, 2147483647), (-2147483648, 2147483647), (-2147483648, 2147483647), (-2147483648, 2147483647), (-2147483648, 2147483647), (-2147483648, 2147483647), (-2147483648, 2147483647), (0, 11), (0, 12), (-1, 11), (-2147483648, 2147483647)], [(457, [(2, 0, 6, 0), (1, 1, 0, 0), (1, 2, 0, 0), (1, 3, 0, 0), (1, 4, 0, 0), (1, 5, 0, 0), (1, 6, 0, 0), (1, 7, 0, 0), (1, 8, 0, 0), (1, 9, 0, 0), (1, 10, 0, 0), (1, 12, 0, 0)]), (21, [(1, 11, 0, 0), (1, 12, 0, 0)]), (6, [(1, 12, 0, 0), (1, 11, 0, 1)])], (0, 0, 0), [], [], ([], [(454, [(2, 0, 6, 0), (1, 1, 0, 0), (1, 2, 0, 0), (1, 3, 0, 0), (1, 4, 0, 0), (1, 5, 0, 0), (1, 6, 0, 0), (1, 7, 0, 0), (1, 8, 0, 0), (1, 9, 0, 0), (1, 10, 0, -1), (1, 9, 0, 0), (1, 11, 0, 0)])]), ([], []))
set_option maxRecDepth 100000 in
theorem l_mgr3 (g : GG) : LOK Yt (PSt g) t_mgr3 := by
  intro ρ α Γ M as hT hB hA hP
  have g0 : Γ (α 0) = 6 := tyAt hA (i := 0) rfl
  have b1 : -2147483648 ≤ ρ 1 ∧ ρ 1 ≤ 2147483647 := hB 1
  have b2 : -2147483648 ≤ ρ 2 ∧ ρ 2 ≤ 2147483647 := hB 2
  have b3 : -2147483648 ≤ ρ 3 ∧ ρ 3 ≤ 2147483647 := hB 3
  have b4 : -2147483648 ≤ ρ 4 ∧ ρ 4 ≤ 2147483647 := hB 4
  have b5 : -2147483648 ≤ ρ 5 ∧ ρ 5 ≤ 2147483647 := hB 5
  have b6 : -2147483648 ≤ ρ 6 ∧ ρ 6 ≤ 2147483647 := hB 6
  have b7 : -2147483648 ≤ ρ 7 ∧ ρ 7 ≤ 2147483647 := hB 7
  have b8 : -2147483648 ≤ ρ 8 ∧ ρ 8 ≤ 2147483647 := hB 8
  have b9 : 0 ≤ ρ 9 ∧ ρ 9 ≤ 11 := hB 9
  have b10 : 0 ≤ ρ 10 ∧ ρ 10 ≤ 12 := hB 10
  have b11 : -1 ≤ ρ 11 ∧ ρ 11 ≤ 11 := hB 11
  have b12 : -2147483648 ≤ ρ 12 ∧ ρ 12 ≤ 2147483647 := hB 12
  have h0 : Γ (α 0) = 6 ∧ (∀ q ∈ ([([(4, 9)], 0, 288)] : VSP), wkT Γ M (α 0) q.1) ∧ Q457 g (vsv M (α 0) ([(4, 9)], 0, 288)) (ρ 1 + 0) (ρ 2 + 0) (ρ 3 + 0) (ρ 4 + 0) (ρ 5 + 0) (ρ 6 + 0) (ρ 7 + 0) (ρ 8 + 0) (ρ 9 + 0) (ρ 10 + 0) (ρ 12 + 0) := hP _ (List.mem_of_getElem? (i := 0) rfl)
  have h1 : ρ 11 + 0 < ρ 12 + 0 := hP _ (List.mem_of_getElem? (i := 1) rfl)
  have h2 : ρ 12 + 0 ≤ ρ 11 + 1 := hP _ (List.mem_of_getElem? (i := 2) rfl)
  try simp only [Int.add_zero] at h0 h1 h2
  have key : (Γ (α 0) = 6 ∧ (∀ q ∈ ([([(4, 9)], 0, 288)] : VSP), wkT Γ M (α 0) q.1) ∧ Q454 g (vsv M (α 0) ([(4, 9)], 0, 288)) (ρ 1 + 0) (ρ 2 + 0) (ρ 3 + 0) (ρ 4 + 0) (ρ 5 + 0) (ρ 6 + 0) (ρ 7 + 0) (ρ 8 + 0) (ρ 9 + 0) (ρ 10 + (-1)) (ρ 9 + 0) (ρ 11 + 0)) ∧ True := by
    try simp only [Int.add_zero]
    obtain ⟨t1, t2, hl, hw, -⟩ := h0
    refine ⟨⟨t1, t2, hl, ?_⟩, trivial⟩
    have e : ρ 12 - 1 = ρ 11 := by omega
    have hw : WS2 g (vsv M (α 0) ([(4, 9)], 0, 288)) _ _ _ _ _ _ _ _ (ρ 9) (ρ 10 - 1) (ρ 9) (ρ 12 - 1) := hw
    rw [e] at hw
    exact hw
  exact ⟨nB, qB (key.1) (nB)⟩
def t_mgc0 : KT := ((0, 0, 0, 0), [(2, 0, 6, 0), (2, 1, 1, 0), (1, 2, 0, 0), (1, 3, 0, 0), (1, 4, 0, 0), (1, 5, 0, 0), (1, 6, 0, 0), (1, 7, 0, 0), (1, 8, 0, 0), (1, 9, 0, 0), (1, 10, 0, 0), (1, 11, 0, 0)], [(0, 0), (0, 0), (0, 11), (0, 12), (-2147483648, 2147483647), (-2147483648, 2147483647), (-2147483648, 2147483647), (-2147483648, 2147483647), (-2147483648, 2147483647), (-2147483648, 2147483647), (-2147483648, 2147483647), (-2147483648, 2147483647)], [(455, [(2, 0, 6, 0), (1, 4, 0, 0), (1, 5, 0, 0), (1, 6, 0, 0), (1, 7, 0, 0), (1, 8, 0, 0), (1, 9, 0, 0), (1, 10, 0, 0), (1, 11, 0, 0)]), (572, [(2, 1, 1, 0)]), (704, [(1, 2, 0, 0)])], (0, 0, 0), [], [], ([], [(458, [(2, 0, 6, 0), (1, 4, 0, 0), (1, 5, 0, 0), (1, 6, 0, 0), (1, 7, 0, 0), (1, 8, 0, 0), (1, 9, 0, 0), (1, 10, 0, 0), (1, 11, 0, 0), (1, 2, 0, 0), (1, 3, 0, 0), (1, 3, 0, 0)])]), ([], []))
set_option maxRecDepth 100000 in
theorem l_mgc0 (g : GG) : LOK Yt (PSt g) t_mgc0 := by
  intro ρ α Γ M as hT hB hA hP
  have g0 : Γ (α 0) = 6 := tyAt hA (i := 0) rfl
  have g1 : Γ (α 1) = 1 := tyAt hA (i := 1) rfl
  have b2 : 0 ≤ ρ 2 ∧ ρ 2 ≤ 11 := hB 2
  have b3 : 0 ≤ ρ 3 ∧ ρ 3 ≤ 12 := hB 3
  have b4 : -2147483648 ≤ ρ 4 ∧ ρ 4 ≤ 2147483647 := hB 4
  have b5 : -2147483648 ≤ ρ 5 ∧ ρ 5 ≤ 2147483647 := hB 5
  have b6 : -2147483648 ≤ ρ 6 ∧ ρ 6 ≤ 2147483647 := hB 6
  have b7 : -2147483648 ≤ ρ 7 ∧ ρ 7 ≤ 2147483647 := hB 7
  have b8 : -2147483648 ≤ ρ 8 ∧ ρ 8 ≤ 2147483647 := hB 8
  have b9 : -2147483648 ≤ ρ 9 ∧ ρ 9 ≤ 2147483647 := hB 9
  have b10 : -2147483648 ≤ ρ 10 ∧ ρ 10 ≤ 2147483647 := hB 10
  have b11 : -2147483648 ≤ ρ 11 ∧ ρ 11 ≤ 2147483647 := hB 11
  have h0 : Γ (α 0) = 6 ∧ (∀ q ∈ ([([(4, 9)], 0, 288)] : VSP), wkT Γ M (α 0) q.1) ∧ Q455 g (vsv M (α 0) ([(4, 9)], 0, 288)) (ρ 4 + 0) (ρ 5 + 0) (ρ 6 + 0) (ρ 7 + 0) (ρ 8 + 0) (ρ 9 + 0) (ρ 10 + 0) (ρ 11 + 0) := hP _ (List.mem_of_getElem? (i := 0) rfl)
  have h1 : Γ (α 1) = 1 ∧ (∀ q ∈ ([([], 0, 2)] : VSP), wkT Γ M (α 1) q.1) ∧ Q572 g (vsv M (α 1) ([], 0, 2))  := hP _ (List.mem_of_getElem? (i := 1) rfl)
  have h2 : (ρ 2 + 0 : Int) < zC g := hP _ (List.mem_of_getElem? (i := 2) rfl)
  try simp only [Int.add_zero] at h0 h1 h2
  have key : (Γ (α 0) = 6 ∧ (∀ q ∈ ([([(4, 9)], 0, 288)] : VSP), wkT Γ M (α 0) q.1) ∧ Q458 g (vsv M (α 0) ([(4, 9)], 0, 288)) (ρ 4 + 0) (ρ 5 + 0) (ρ 6 + 0) (ρ 7 + 0) (ρ 8 + 0) (ρ 9 + 0) (ρ 10 + 0) (ρ 11 + 0) (ρ 2 + 0) (ρ 3 + 0) (ρ 3 + 0)) ∧ True := by
    try simp only [Int.add_zero]
    obtain ⟨t1, t2, hl, hw⟩ := h0
    obtain ⟨-, -, hR, hC⟩ := h1
    obtain ⟨hr, hc⟩ := ch_dims hT g1
    have e0 : vsv M (α 1) ([], 0, 2) 0 = M.2.2.2.2 (α 1) 0 := vs0 (by decide) (by decide)
    have e1 : vsv M (α 1) ([], 0, 2) 1 = M.2.2.2.2 (α 1) 1 := vs0 (by decide) (by decide)
    have hR := e0.symm.trans hR
    have hC := e1.symm.trans hC
    have hx : ρ 2 < zC g := h2
    refine ⟨⟨t1, t2, hl, WS2_0 hw, fun y hy hy2 => ?_⟩, trivial⟩
    obtain ⟨w, hs, -⟩ := hw
    exact (hs _ (ev_lt1 (e := hE (zC g).toNat y (ρ 2).toNat) (C := (zC g).toNat) (r := y) (c := (ρ 2).toNat) (by omega) (by omega) (by omega) (by unfold hE; omega))).1.2
  exact ⟨nB, qB (key.1) (nB)⟩
def t_mgc1 : KT := ((0, 0, 0, 0), [(2, 0, 6, 0), (2, 1, 9, 0), (2, 2, 1, 0), (1, 3, 0, 0), (1, 4, 0, 0), (1, 5, 0, 0), (1, 6, 0, 0), (1, 7, 0, 0), (1, 8, 0, 0), (1, 9, 0, 0), (1, 10, 0, 0), (1, 11, 0, 0), (1, 12, 0, 0), (1, 13, 0, 0), (1, 14, 0, 0), (1, 15, 0, 0), (1, 16, 0, 0), (1, 17, 0, 0), (1, 18, 0, 0), (1, 19, 0, 0)], [(0, 0), (0, 0), (0, 0), (-2147483648, 2147483647), (-2147483648, 2147483647), (-2147483648, 2147483647), (-2147483648, 2147483647), (-2147483648, 2147483647), (-2147483648, 2147483647), (-2147483648, 2147483647), (-2147483648, 2147483647), (0, 11), (0, 12), (0, 11), (-2147483648, 2147483647), (-2147483648, 2147483647), (-2147483648, 2147483647), (-2147483648, 2147483647), (-2147483648, 2147483647), (-1, 11)], [(458, [(2, 0, 6, 0), (1, 3, 0, 0), (1, 4, 0, 0), (1, 5, 0, 0), (1, 6, 0, 0), (1, 7, 0, 0), (1, 8, 0, 0), (1, 9, 0, 0), (1, 10, 0, 0), (1, 11, 0, 0), (1, 12, 0, 0), (1, 13, 0, 0)]), (572, [(2, 2, 1, 0)]), (11, [(2, 0, 6, 0), (0, 0, 0, 4), (2, 1, 9, 0)]), (10, [(2, 2, 1, 0), (0, 0, 0, 1), (1, 14, 0, 0)]), (25, [(1, 13, 0, 0), (1, 14, 0, 0), (1, 15, 0, 0)]), (23, [(1, 15, 0, 0), (1, 11, 0, 0), (1, 16, 0, 0)]), (25, [(0, 0, 0, 2), (1, 16, 0, 0), (1, 17, 0, 0)]), (10, [(2, 1, 9, 0), (1, 17, 0, 0), (1, 18, 0, 0)]), (6, [(1, 13, 0, 0), (1, 19, 0, 0)]), (705, [(1, 19, 0, 0)]), (704, [(1, 11, 0, 0)])], (0, 0, 0), [], [], ([(18, 0, 1000)], [(658, [(2, 1, 9, 0), (1, 17, 0, 0), (2, 0, 6, 0), (1, 3, 0, 0), (1, 4, 0, 0), (1, 5, 0, 0), (1, 6, 0, 0), (1, 7, 0, 0), (1, 8, 0, 0), (1, 9, 0, 0), (1, 10, 0, 0), (1, 11, 0, 0), (1, 12, 0, 0), (1, 13, 0, 0), (1, 18, 0, 0)])]), ([], []))
set_option maxRecDepth 100000 in
theorem l_mgc1 (g : GG) : LOK Yt (PSt g) t_mgc1 := by
  intro ρ α Γ M as hT hB hA hP
  have g0 : Γ (α 0) = 6 := tyAt hA (i := 0) rfl
  have g1 : Γ (α 1) = 9 := tyAt hA (i := 1) rfl
  have g2 : Γ (α 2) = 1 := tyAt hA (i := 2) rfl
  have b3 : -2147483648 ≤ ρ 3 ∧ ρ 3 ≤ 2147483647 := hB 3
  have b4 : -2147483648 ≤ ρ 4 ∧ ρ 4 ≤ 2147483647 := hB 4
  have b5 : -2147483648 ≤ ρ 5 ∧ ρ 5 ≤ 2147483647 := hB 5
  have b6 : -2147483648 ≤ ρ 6 ∧ ρ 6 ≤ 2147483647 := hB 6
  have b7 : -2147483648 ≤ ρ 7 ∧ ρ 7 ≤ 2147483647 := hB 7
  have b8 : -2147483648 ≤ ρ 8 ∧ ρ 8 ≤ 2147483647 := hB 8
  have b9 : -2147483648 ≤ ρ 9 ∧ ρ 9 ≤ 2147483647 := hB 9
  have b10 : -2147483648 ≤ ρ 10 ∧ ρ 10 ≤ 2147483647 := hB 10
  have b11 : 0 ≤ ρ 11 ∧ ρ 11 ≤ 11 := hB 11
  have b12 : 0 ≤ ρ 12 ∧ ρ 12 ≤ 12 := hB 12
  have b13 : 0 ≤ ρ 13 ∧ ρ 13 ≤ 11 := hB 13
  have b14 : -2147483648 ≤ ρ 14 ∧ ρ 14 ≤ 2147483647 := hB 14
  have b15 : -2147483648 ≤ ρ 15 ∧ ρ 15 ≤ 2147483647 := hB 15
  have b16 : -2147483648 ≤ ρ 16 ∧ ρ 16 ≤ 2147483647 := hB 16
  have b17 : -2147483648 ≤ ρ 17 ∧ ρ 17 ≤ 2147483647 := hB 17
  have b18 : -2147483648 ≤ ρ 18 ∧ ρ 18 ≤ 2147483647 := hB 18
  have b19 : -1 ≤ ρ 19 ∧ ρ 19 ≤ 11 := hB 19
  have h0 : Γ (α 0) = 6 ∧ (∀ q ∈ ([([(4, 9)], 0, 288)] : VSP), wkT Γ M (α 0) q.1) ∧ Q458 g (vsv M (α 0) ([(4, 9)], 0, 288)) (ρ 3 + 0) (ρ 4 + 0) (ρ 5 + 0) (ρ 6 + 0) (ρ 7 + 0) (ρ 8 + 0) (ρ 9 + 0) (ρ 10 + 0) (ρ 11 + 0) (ρ 12 + 0) (ρ 13 + 0) := hP _ (List.mem_of_getElem? (i := 0) rfl)
  have h1 : Γ (α 2) = 1 ∧ (∀ q ∈ ([([], 0, 2)] : VSP), wkT Γ M (α 2) q.1) ∧ Q572 g (vsv M (α 2) ([], 0, 2))  := hP _ (List.mem_of_getElem? (i := 1) rfl)
  have h2 : 0 ≤ (4 : Int) ∧ M.2.2.2.1 (α 0) (4 : Int).toNat = some (α 1) := hP _ (List.mem_of_getElem? (i := 2) rfl)
  have h3 : 0 ≤ (1 : Int) ∧ M.2.2.2.2 (α 2) (1 : Int).toNat = ρ 14 + 0 := hP _ (List.mem_of_getElem? (i := 3) rfl)
  have h4 : ρ 15 + 0 = wI ((ρ 13 + 0) * (ρ 14 + 0)) := hP _ (List.mem_of_getElem? (i := 4) rfl)
  have h5 : ρ 16 + 0 = wI ((ρ 15 + 0) + (ρ 11 + 0)) := hP _ (List.mem_of_getElem? (i := 5) rfl)
  have h6 : ρ 17 + 0 = wI ((2) * (ρ 16 + 0)) := hP _ (List.mem_of_getElem? (i := 6) rfl)
  have h7 : 0 ≤ (ρ 17 + 0 : Int) ∧ M.2.2.2.2 (α 1) (ρ 17 + 0 : Int).toNat = ρ 18 + 0 := hP _ (List.mem_of_getElem? (i := 7) rfl)
  have h8 : ρ 13 + 0 ≤ ρ 19 + 0 := hP _ (List.mem_of_getElem? (i := 8) rfl)
  have h9 : (ρ 19 + 0 : Int) < zR g := hP _ (List.mem_of_getElem? (i := 9) rfl)
  have h10 : (ρ 11 + 0 : Int) < zC g := hP _ (List.mem_of_getElem? (i := 10) rfl)
  try simp only [Int.add_zero] at h0 h1 h2 h3 h4 h5 h6 h7 h8 h9 h10
  have key : (0 ≤ ρ 18 ∧ ρ 18 ≤ 1000) ∧ (Γ (α 1) = 9 ∧ wlk M (α 0) [(4, 9)] = (α 1) ∧ wkT Γ M (α 0) [(4, 9)] ∧ Γ (α 0) = 6 ∧ (∀ q ∈ ([] : VSP), wkT Γ M (α 0) q.1) ∧ Q658 g (hcl [vi (ρ 17 + 0)] (clp [(0, 288)] (M.2.2.2.2 (α 1)))) (ρ 17 + 0)  (ρ 3 + 0) (ρ 4 + 0) (ρ 5 + 0) (ρ 6 + 0) (ρ 7 + 0) (ρ 8 + 0) (ρ 9 + 0) (ρ 10 + 0) (ρ 11 + 0) (ρ 12 + 0) (ρ 13 + 0) (ρ 18 + 0)) ∧ True := by
    try simp only [Int.add_zero]
    obtain ⟨t1, t2, hl, hw, hy⟩ := h0
    obtain ⟨-, -, hR, hC⟩ := h1
    have fe : fl M (α 0) 4 = α 1 := fl_eq (show M.2.2.2.1 (α 0) 4 = some (α 1) from h2.2)
    have e0 : vsv M (α 2) ([], 0, 2) 0 = M.2.2.2.2 (α 2) 0 := vs0 (by decide) (by decide)
    have e1 : vsv M (α 2) ([], 0, 2) 1 = M.2.2.2.2 (α 2) 1 := vs0 (by decide) (by decide)
    have hR := e0.symm.trans hR
    have hC := e1.symm.trans hC
    obtain ⟨hr, hc⟩ := ch_dims hT g2
    have h3 : M.2.2.2.2 (α 2) 1 = ρ 14 := h3.2
    have hC : ρ 14 = zC g := h3.symm.trans hC
    have h9 : ρ 19 < zR g := h9
    have hin : ρ 11 < zC g := h10
    have h14 : 2 ≤ ρ 14 ∧ ρ 14 ≤ 12 := by omega
    have m0 : 0 ≤ ρ 13 * ρ 14 ∧ ρ 13 * ρ 14 ≤ 11 * 12 := ⟨Int.mul_nonneg (by omega) (by omega), Int.mul_le_mul (by omega) (by omega) (by omega) (by decide)⟩
    rw [wI_id (by unfold inI; omega)] at h4
    have m1 : 0 ≤ ρ 15 ∧ ρ 15 ≤ 132 := by omega
    rw [wI_id (by unfold inI; omega)] at h5
    rw [wI_id (by unfold inI; omega)] at h6
    have e15 : ρ 15 = ρ 13 * zC g := by rw [← hC]; exact h4
    have hi : (ρ 17) = 2 * (ρ 13 * zC g + ρ 11) := by omega
    have ei2 : hE (zC g).toNat (ρ 13).toNat (ρ 11).toNat = (ρ 17).toNat := by
      have : ((ρ 13).toNat * (zC g).toNat : Nat) = (ρ 13 * zC g).toNat := by
        have e3 : ((ρ 13).toNat : Int) = ρ 13 := by omega
        have e4 : ((zC g).toNat : Int) = zC g := by omega
        have : (((ρ 13).toNat * (zC g).toNat : Nat) : Int) = ρ 13 * zC g := by rw [Int.natCast_mul, e3, e4]
        omega
      unfold hE
      omega
    have b17 : 0 ≤ (ρ 17) ∧ (ρ 17) < 288 := ix_lt (r := ρ 13) (c := ρ 11) (C := zC g) (by omega) (by omega) (by omega) (by omega)
    have hx : M.2.2.2.2 (α 1) (ρ 17).toNat = ρ 18 := h7.2
    have zx : (vsv M (α 0) ([(4, 9)], 0, 288)) (ρ 17).toNat = ρ 18 := by
      show clp [(0, 288)] (M.2.2.2.2 (fl M (α 0) 4)) (ρ 17).toNat = ρ 18
      rw [fe, cAll (by omega)]
      exact hx
    have ue : upZ (hcl [vi (ρ 17)] (clp [(0, 288)] (M.2.2.2.2 (α 1)))) (ρ 17) (ρ 18) = (vsv M (α 0) ([(4, 9)], 0, 288)) := by
      funext j
      by_cases hj : (j : Int) = (ρ 17)
      · rw [upZ_at hj, show j = (ρ 17).toNat by omega]
        exact zx.symm
      · rw [upZ_ne hj, hcl1 hj]
        show _ = clp [(0, 288)] (M.2.2.2.2 (fl M (α 0) 4)) j
        rw [fe]
    have hb : 0 ≤ ρ 18 := by
      obtain ⟨w, q1, -⟩ := hw 0
      have := (q1 (ρ 17).toNat (by omega)).1.1
      exact zx ▸ this
    have hb2 : ρ 18 ≤ 2 * ρ 3 + ρ 10 := by
      have := hy (ρ 13).toNat (by omega) (by omega)
      rw [ei2] at this
      exact zx ▸ this
    refine ⟨⟨hb, by omega⟩, ⟨g1, fe, wk1 h2.2 g1, g0, pic1 hT g0 (by decide) (by decide), hl, ?_, ?_, ⟨hi, hin, by omega⟩, hb, hb2⟩, trivial⟩
    · rw [ue]
      exact hw
    · rw [ue]
      exact hy
  exact ⟨qB (key.1) (nB), qB (key.2.1) (nB)⟩
def t_mgc2 : KT := ((0, 0, 0, 0), [(2, 0, 6, 0), (2, 1, 9, 0), (1, 2, 0, 0), (1, 3, 0, 0), (1, 4, 0, 0), (1, 5, 0, 0), (1, 6, 0, 0), (1, 7, 0, 0), (1, 8, 0, 0), (1, 9, 0, 0), (1, 10, 0, 0), (1, 11, 0, 0), (1, 12, 0, 0), (1, 13, 0, 0), (1, 14, 0, 0)], [(0, 0), (0, 0), (-2147483648, 2147483647), (-2147483648, 2147483647), (-2147483648, 2147483647), (-2147483648, 2147483647), (-2147483648, 2147483647), (-2147483648, 2147483647), (-2147483648, 2147483647), (-2147483648, 2147483647), (0, 11), (0, 12), (0, 11), (0, 287), (-2147483648, 2147483647)], [(658, [(2, 1, 9, 0), (1, 13, 0, 0), (2, 0, 6, 0), (1, 2, 0, 0), (1, 3, 0, 0), (1, 4, 0, 0), (1, 5, 0, 0), (1, 6, 0, 0), (1, 7, 0, 0), (1, 8, 0, 0), (1, 9, 0, 0), (1, 10, 0, 0), (1, 11, 0, 0), (1, 12, 0, 0), (1, 14, 0, 0)]), (10, [(2, 1, 9, 0), (1, 13, 0, 0), (1, 14, 0, 1)])], (0, 0, 0), [], [], ([], [(458, [(2, 0, 6, 0), (1, 2, 0, 0), (1, 3, 0, 0), (1, 4, 0, 0), (1, 5, 0, 0), (1, 6, 0, 0), (1, 7, 0, 0), (1, 8, 0, 0), (1, 9, 0, 0), (1, 10, 0, 0), (1, 11, 0, 0), (1, 12, 0, 1)])]), ([], []))
set_option maxRecDepth 100000 in
theorem l_mgc2 (g : GG) : LOK Yt (PSt g) t_mgc2 := by
  intro ρ α Γ M as hT hB hA hP
  have g0 : Γ (α 0) = 6 := tyAt hA (i := 0) rfl
  have g1 : Γ (α 1) = 9 := tyAt hA (i := 1) rfl
  have b2 : -2147483648 ≤ ρ 2 ∧ ρ 2 ≤ 2147483647 := hB 2
  have b3 : -2147483648 ≤ ρ 3 ∧ ρ 3 ≤ 2147483647 := hB 3
  have b4 : -2147483648 ≤ ρ 4 ∧ ρ 4 ≤ 2147483647 := hB 4
  have b5 : -2147483648 ≤ ρ 5 ∧ ρ 5 ≤ 2147483647 := hB 5
  have b6 : -2147483648 ≤ ρ 6 ∧ ρ 6 ≤ 2147483647 := hB 6
  have b7 : -2147483648 ≤ ρ 7 ∧ ρ 7 ≤ 2147483647 := hB 7
  have b8 : -2147483648 ≤ ρ 8 ∧ ρ 8 ≤ 2147483647 := hB 8
  have b9 : -2147483648 ≤ ρ 9 ∧ ρ 9 ≤ 2147483647 := hB 9
  have b10 : 0 ≤ ρ 10 ∧ ρ 10 ≤ 11 := hB 10
  have b11 : 0 ≤ ρ 11 ∧ ρ 11 ≤ 12 := hB 11
  have b12 : 0 ≤ ρ 12 ∧ ρ 12 ≤ 11 := hB 12
  have b13 : 0 ≤ ρ 13 ∧ ρ 13 ≤ 287 := hB 13
  have b14 : -2147483648 ≤ ρ 14 ∧ ρ 14 ≤ 2147483647 := hB 14
  have h0 : Γ (α 1) = 9 ∧ wlk M (α 0) [(4, 9)] = (α 1) ∧ wkT Γ M (α 0) [(4, 9)] ∧ Γ (α 0) = 6 ∧ (∀ q ∈ ([] : VSP), wkT Γ M (α 0) q.1) ∧ Q658 g (hcl [vi (ρ 13 + 0)] (clp [(0, 288)] (M.2.2.2.2 (α 1)))) (ρ 13 + 0)  (ρ 2 + 0) (ρ 3 + 0) (ρ 4 + 0) (ρ 5 + 0) (ρ 6 + 0) (ρ 7 + 0) (ρ 8 + 0) (ρ 9 + 0) (ρ 10 + 0) (ρ 11 + 0) (ρ 12 + 0) (ρ 14 + 0) := hP _ (List.mem_of_getElem? (i := 0) rfl)
  have h1 : 0 ≤ (ρ 13 + 0 : Int) ∧ M.2.2.2.2 (α 1) (ρ 13 + 0 : Int).toNat = ρ 14 + 1 := hP _ (List.mem_of_getElem? (i := 1) rfl)
  try simp only [Int.add_zero] at h0 h1
  have key : (Γ (α 0) = 6 ∧ (∀ q ∈ ([([(4, 9)], 0, 288)] : VSP), wkT Γ M (α 0) q.1) ∧ Q458 g (vsv M (α 0) ([(4, 9)], 0, 288)) (ρ 2 + 0) (ρ 3 + 0) (ρ 4 + 0) (ρ 5 + 0) (ρ 6 + 0) (ρ 7 + 0) (ρ 8 + 0) (ρ 9 + 0) (ρ 10 + 0) (ρ 11 + 0) (ρ 12 + 1)) ∧ True := by
    try simp only [Int.add_zero]
    obtain ⟨-, fe, -, t1, t2, hl, hw, hy, hi, hb, hb2⟩ := h0
    have fe : fl M (α 0) 4 = α 1 := fe
    have hu : ρ 10 < zC g := by omega
    have a0 : ((ρ 10).toNat : Int) = ρ 10 := by omega
    have a2 : ((ρ 12).toNat : Int) = ρ 12 := by omega
    have ei2 : hE (zC g).toNat (ρ 12).toNat (ρ 10).toNat = (ρ 13).toNat := by
      have : ((ρ 12).toNat * (zC g).toNat : Nat) = (ρ 12 * zC g).toNat := by
        have e3 : ((ρ 12).toNat : Int) = ρ 12 := by omega
        have e4 : ((zC g).toNat : Int) = zC g := by omega
        have : (((ρ 12).toNat * (zC g).toNat : Nat) : Int) = ρ 12 * zC g := by rw [Int.natCast_mul, e3, e4]
        omega
      have := Int.mul_nonneg (show 0 ≤ ρ 12 by omega) (show 0 ≤ zC g by omega)
      unfold hE
      omega
    have z1 : ∀ j : Nat, j ≠ (ρ 13).toNat → (vsv M (α 0) ([(4, 9)], 0, 288)) j = upZ (hcl [vi (ρ 13)] (clp [(0, 288)] (M.2.2.2.2 (α 1)))) (ρ 13) (ρ 14) j := fun j hj => by
      rw [upZ_ne (by omega), hcl1 (by omega)]
      show clp [(0, 288)] (M.2.2.2.2 (fl M (α 0) 4)) j = _
      rw [fe]
    have z2 : (vsv M (α 0) ([(4, 9)], 0, 288)) (ρ 13).toNat = ρ 14 + 1 := by
      show clp [(0, 288)] (M.2.2.2.2 (fl M (α 0) 4)) (ρ 13).toNat = ρ 14 + 1
      rw [fe, cAll (by omega)]
      exact h1.2
    have z3 : upZ (hcl [vi (ρ 13)] (clp [(0, 288)] (M.2.2.2.2 (α 1)))) (ρ 13) (ρ 14) (ρ 13).toNat = ρ 14 := upZ_at (by omega)
    refine ⟨⟨t1, pic1 hT g0 (by decide) (by decide), hl, ?_, fun y hy1 hy2 => ?_⟩, trivial⟩
    · show WS2 g (vsv M (α 0) ([(4, 9)], 0, 288)) _ _ _ _ _ _ _ _ (ρ 12 + 1 - 1) (ρ 10) (ρ 11 - 1) (ρ 10)
      rw [show ρ 12 + 1 - 1 = ((ρ 12).toNat : Int) by omega, ← a0]
      refine WS2_col (by omega) (by rw [a0, a2]; exact hw) (fun x _ hx => z1 x (by rw [← ei2]; exact hx)) ?_ (by rw [ei2]; omega) ?_
      · rw [ei2, z2, z3]
      · rw [ei2, z3]
        exact hb2
    · have hne : hE (zC g).toNat y (ρ 10).toNat ≠ (ρ 13).toNat := by
        rw [← ei2]
        exact hE_ne (by omega) (by omega)
      have e5 := z1 _ hne
      have e6 := hy y (by omega) hy2
      show (vsv M (α 0) ([(4, 9)], 0, 288)) _ ≤ _
      rw [e5]
      exact e6
  exact ⟨nB, qB (key.1) (nB)⟩
def t_mgc3 : KT := ((0, 0, 0, 0), [(2, 0, 6, 0), (1, 1, 0, 0), (1, 2, 0, 0), (1, 3, 0, 0), (1, 4, 0, 0), (1, 5, 0, 0), (1, 6, 0, 0), (1, 7, 0, 0), (1, 8, 0, 0), (1, 9, 0, 0), (1, 10, 0, 0), (1, 11, 0, 0), (1, 12, 0, 0)], [(0, 0), (-2147483648, 2147483647), (-2147483648, 2147483647), (-2147483648, 2147483647), (-2147483648, 2147483647), (-2147483648, 2147483647), (-2147483648, 2147483647), (-2147483648, 2147483647), (-2147483648, 2147483647), (0, 11), (0, 12), (-1, 11), (-2147483648, 2147483647)], [(458, [(2, 0, 6, 0), (1, 1, 0, 0), (1, 2, 0, 0), (1, 3, 0, 0), (1, 4, 0, 0), (1, 5, 0, 0), (1, 6, 0, 0), (1, 7, 0, 0), (1, 8, 0, 0), (1, 9, 0, 0), (1, 10, 0, 0), (1, 12, 0, 0)]), (21, [(1, 11, 0, 0), (1, 12, 0, 0)]), (6, [(1, 12, 0, 0), (1, 11, 0, 1)])], (0, 0, 0), [], [], ([], [(454, [(2, 0, 6, 0), (1, 1, 0, 0), (1, 2, 0, 0), (1, 3, 0, 0), (1, 4, 0, 0), (1, 5, 0, 0), (1, 6, 0, 0), (1, 7, 0, 0), (1, 8, 0, 0), (1, 11, 0, 0), (1, 9, 0, 0), (1, 10, 0, -1), (1, 9, 0, 0)])]), ([], []))
set_option maxRecDepth 100000 in
theorem l_mgc3 (g : GG) : LOK Yt (PSt g) t_mgc3 := by
  intro ρ α Γ M as hT hB hA hP
  have g0 : Γ (α 0) = 6 := tyAt hA (i := 0) rfl
  have b1 : -2147483648 ≤ ρ 1 ∧ ρ 1 ≤ 2147483647 := hB 1
  have b2 : -2147483648 ≤ ρ 2 ∧ ρ 2 ≤ 2147483647 := hB 2
  have b3 : -2147483648 ≤ ρ 3 ∧ ρ 3 ≤ 2147483647 := hB 3
  have b4 : -2147483648 ≤ ρ 4 ∧ ρ 4 ≤ 2147483647 := hB 4
  have b5 : -2147483648 ≤ ρ 5 ∧ ρ 5 ≤ 2147483647 := hB 5
  have b6 : -2147483648 ≤ ρ 6 ∧ ρ 6 ≤ 2147483647 := hB 6
  have b7 : -2147483648 ≤ ρ 7 ∧ ρ 7 ≤ 2147483647 := hB 7
  have b8 : -2147483648 ≤ ρ 8 ∧ ρ 8 ≤ 2147483647 := hB 8
  have b9 : 0 ≤ ρ 9 ∧ ρ 9 ≤ 11 := hB 9
  have b10 : 0 ≤ ρ 10 ∧ ρ 10 ≤ 12 := hB 10
  have b11 : -1 ≤ ρ 11 ∧ ρ 11 ≤ 11 := hB 11
  have b12 : -2147483648 ≤ ρ 12 ∧ ρ 12 ≤ 2147483647 := hB 12
  have h0 : Γ (α 0) = 6 ∧ (∀ q ∈ ([([(4, 9)], 0, 288)] : VSP), wkT Γ M (α 0) q.1) ∧ Q458 g (vsv M (α 0) ([(4, 9)], 0, 288)) (ρ 1 + 0) (ρ 2 + 0) (ρ 3 + 0) (ρ 4 + 0) (ρ 5 + 0) (ρ 6 + 0) (ρ 7 + 0) (ρ 8 + 0) (ρ 9 + 0) (ρ 10 + 0) (ρ 12 + 0) := hP _ (List.mem_of_getElem? (i := 0) rfl)
  have h1 : ρ 11 + 0 < ρ 12 + 0 := hP _ (List.mem_of_getElem? (i := 1) rfl)
  have h2 : ρ 12 + 0 ≤ ρ 11 + 1 := hP _ (List.mem_of_getElem? (i := 2) rfl)
  try simp only [Int.add_zero] at h0 h1 h2
  have key : (Γ (α 0) = 6 ∧ (∀ q ∈ ([([(4, 9)], 0, 288)] : VSP), wkT Γ M (α 0) q.1) ∧ Q454 g (vsv M (α 0) ([(4, 9)], 0, 288)) (ρ 1 + 0) (ρ 2 + 0) (ρ 3 + 0) (ρ 4 + 0) (ρ 5 + 0) (ρ 6 + 0) (ρ 7 + 0) (ρ 8 + 0) (ρ 11 + 0) (ρ 9 + 0) (ρ 10 + (-1)) (ρ 9 + 0)) ∧ True := by
    try simp only [Int.add_zero]
    obtain ⟨t1, t2, hl, hw, -⟩ := h0
    refine ⟨⟨t1, t2, hl, ?_⟩, trivial⟩
    have e : ρ 12 - 1 = ρ 11 := by omega
    have hw : WS2 g (vsv M (α 0) ([(4, 9)], 0, 288)) _ _ _ _ _ _ _ _ (ρ 12 - 1) (ρ 9) (ρ 10 - 1) (ρ 9) := hw
    rw [e] at hw
    exact hw
  exact ⟨nB, qB (key.1) (nB)⟩
def t_mle9 : KT := ((0, 0, 0, 0), [(1, 0, 0, 0), (1, 1, 0, 0)], [(-2147483648, 2147483647), (-2147483648, 2147483647)], [(6, [(1, 0, 0, -1), (1, 1, 0, 0)])], (0, 0, 0), [], [], ([], [(6, [(1, 0, 0, 0), (1, 1, 0, 1)])]), ([], []))
set_option maxRecDepth 100000 in
theorem l_mle9 (g : GG) : LOK Yt (PSt g) t_mle9 := by
  intro ρ α Γ M as hT hB hA hP
  have b0 : -2147483648 ≤ ρ 0 ∧ ρ 0 ≤ 2147483647 := hB 0
  have b1 : -2147483648 ≤ ρ 1 ∧ ρ 1 ≤ 2147483647 := hB 1
  have h0 : ρ 0 + (-1) ≤ ρ 1 + 0 := hP _ (List.mem_of_getElem? (i := 0) rfl)
  try simp only [Int.add_zero] at h0
  have key : (ρ 0 + 0 ≤ ρ 1 + 1) ∧ True := by
    try simp only [Int.add_zero]
    exact ⟨by omega, trivial⟩
  exact ⟨nB, qB (key.1) (nB)⟩
def t_mcbc : KT := ((0, 0, 0, 0), [(2, 0, 1, 0), (1, 1, 0, 0), (1, 2, 0, 0)], [(0, 0), (0, 143), (-2147483648, 2147483647)], [(572, [(2, 0, 1, 0)]), (72, [(2, 0, 1, 0), (1, 1, 0, 0), (1, 2, 0, 0)])], (0, 0, 0), [], [], ([], [(704, [(1, 2, 0, 0)]), (6, [(0, 0, 0, 0), (1, 2, 0, 1)])]), ([], []))
set_option maxRecDepth 100000 in
theorem l_mcbc (g : GG) : LOK Yt (PSt g) t_mcbc := by
  intro ρ α Γ M as hT hB hA hP
  have g0 : Γ (α 0) = 1 := tyAt hA (i := 0) rfl
  have b1 : 0 ≤ ρ 1 ∧ ρ 1 ≤ 143 := hB 1
  have b2 : -2147483648 ≤ ρ 2 ∧ ρ 2 ≤ 2147483647 := hB 2
  have h0 : Γ (α 0) = 1 ∧ (∀ q ∈ ([([], 0, 2)] : VSP), wkT Γ M (α 0) q.1) ∧ Q572 g (vsv M (α 0) ([], 0, 2))  := hP _ (List.mem_of_getElem? (i := 0) rfl)
  have h1 : Γ (α 0) = 1 ∧ ρ 2 + 0 = (ρ 1 + 0) % M.2.2.2.2 (α 0) 1 := hP _ (List.mem_of_getElem? (i := 1) rfl)
  try simp only [Int.add_zero] at h0 h1
  have key : ((ρ 2 + 0 : Int) < zC g) ∧ (0 ≤ ρ 2 + 1) ∧ True := by
    try simp only [Int.add_zero]
    obtain ⟨hr, hc⟩ := ch_dims hT g0
    have e0 : vsv M (α 0) ([], 0, 2) 0 = M.2.2.2.2 (α 0) 0 := vs0 (by decide) (by decide)
    have e1 : vsv M (α 0) ([], 0, 2) 1 = M.2.2.2.2 (α 0) 1 := vs0 (by decide) (by decide)
    obtain ⟨-, -, hR, hC⟩ := h0
    have hR := e0.symm.trans hR
    have hC := e1.symm.trans hC
    
    have q := col_ltI (by omega) h1.2
    exact ⟨show ρ 2 < zC g by omega, by omega, trivial⟩
  exact ⟨nB, qB (key.1) (qB (key.2.1) (nB))⟩
def t_mcbr : KT := ((0, 0, 0, 0), [(2, 0, 1, 0), (1, 1, 0, 0), (1, 2, 0, 0)], [(0, 0), (0, 143), (-2147483648, 2147483647)], [(572, [(2, 0, 1, 0)]), (2, [(2, 0, 1, 0), (1, 1, 0, 0)]), (71, [(2, 0, 1, 0), (1, 1, 0, 0), (1, 2, 0, 0)])], (0, 0, 0), [], [], ([], [(705, [(1, 2, 0, 0)]), (6, [(0, 0, 0, 0), (1, 2, 0, 1)])]), ([], []))
set_option maxRecDepth 100000 in
theorem l_mcbr (g : GG) : LOK Yt (PSt g) t_mcbr := by
  intro ρ α Γ M as hT hB hA hP
  have g0 : Γ (α 0) = 1 := tyAt hA (i := 0) rfl
  have b1 : 0 ≤ ρ 1 ∧ ρ 1 ≤ 143 := hB 1
  have b2 : -2147483648 ≤ ρ 2 ∧ ρ 2 ≤ 2147483647 := hB 2
  have h0 : Γ (α 0) = 1 ∧ (∀ q ∈ ([([], 0, 2)] : VSP), wkT Γ M (α 0) q.1) ∧ Q572 g (vsv M (α 0) ([], 0, 2))  := hP _ (List.mem_of_getElem? (i := 0) rfl)
  have h1 : Γ (α 0) = 1 ∧ 0 ≤ ρ 1 + 0 ∧ ρ 1 + 0 < M.2.2.2.2 (α 0) 0 * M.2.2.2.2 (α 0) 1 := hP _ (List.mem_of_getElem? (i := 1) rfl)
  have h2 : Γ (α 0) = 1 ∧ ρ 2 + 0 = (ρ 1 + 0) / M.2.2.2.2 (α 0) 1 := hP _ (List.mem_of_getElem? (i := 2) rfl)
  try simp only [Int.add_zero] at h0 h1 h2
  have key : ((ρ 2 + 0 : Int) < zR g) ∧ (0 ≤ ρ 2 + 1) ∧ True := by
    try simp only [Int.add_zero]
    obtain ⟨hr, hc⟩ := ch_dims hT g0
    have e0 : vsv M (α 0) ([], 0, 2) 0 = M.2.2.2.2 (α 0) 0 := vs0 (by decide) (by decide)
    have e1 : vsv M (α 0) ([], 0, 2) 1 = M.2.2.2.2 (α 0) 1 := vs0 (by decide) (by decide)
    obtain ⟨-, -, hR, hC⟩ := h0
    have hR := e0.symm.trans hR
    have hC := e1.symm.trans hC
    
    have q := row_ltI h1.2.1 h1.2.2 (by omega) h2.2
    exact ⟨show ρ 2 < zR g by omega, by omega, trivial⟩
  exact ⟨nB, qB (key.1) (qB (key.2.1) (nB))⟩
def t_mcbR : KT := ((0, 0, 0, 0), [(2, 0, 1, 0), (1, 1, 0, 0), (1, 2, 0, 0)], [(0, 0), (-2147483648, 2147483647), (-2147483648, 2147483647)], [(572, [(2, 0, 1, 0)]), (705, [(1, 1, 0, 0)]), (10, [(2, 0, 1, 0), (0, 0, 0, 0), (1, 2, 0, 0)])], (0, 0, 0), [], [], ([], [(705, [(1, 2, 0, -1)]), (6, [(1, 1, 0, 1), (1, 2, 0, 0)])]), ([], []))
set_option maxRecDepth 100000 in
theorem l_mcbR (g : GG) : LOK Yt (PSt g) t_mcbR := by
  intro ρ α Γ M as hT hB hA hP
  have g0 : Γ (α 0) = 1 := tyAt hA (i := 0) rfl
  have b1 : -2147483648 ≤ ρ 1 ∧ ρ 1 ≤ 2147483647 := hB 1
  have b2 : -2147483648 ≤ ρ 2 ∧ ρ 2 ≤ 2147483647 := hB 2
  have h0 : Γ (α 0) = 1 ∧ (∀ q ∈ ([([], 0, 2)] : VSP), wkT Γ M (α 0) q.1) ∧ Q572 g (vsv M (α 0) ([], 0, 2))  := hP _ (List.mem_of_getElem? (i := 0) rfl)
  have h1 : (ρ 1 + 0 : Int) < zR g := hP _ (List.mem_of_getElem? (i := 1) rfl)
  have h2 : 0 ≤ (0 : Int) ∧ M.2.2.2.2 (α 0) (0 : Int).toNat = ρ 2 + 0 := hP _ (List.mem_of_getElem? (i := 2) rfl)
  try simp only [Int.add_zero] at h0 h1 h2
  have key : ((ρ 2 + (-1) : Int) < zR g) ∧ (ρ 1 + 1 ≤ ρ 2 + 0) ∧ True := by
    try simp only [Int.add_zero]
    obtain ⟨hr, hc⟩ := ch_dims hT g0
    have e0 : vsv M (α 0) ([], 0, 2) 0 = M.2.2.2.2 (α 0) 0 := vs0 (by decide) (by decide)
    have e1 : vsv M (α 0) ([], 0, 2) 1 = M.2.2.2.2 (α 0) 1 := vs0 (by decide) (by decide)
    obtain ⟨-, -, hR, hC⟩ := h0
    have hR := e0.symm.trans hR
    have hC := e1.symm.trans hC
    
    have h1 : ρ 1 < zR g := h1
    have h2 : M.2.2.2.2 (α 0) 0 = ρ 2 := h2.2
    exact ⟨show ρ 2 + -1 < zR g by omega, by omega, trivial⟩
  exact ⟨nB, qB (key.1) (qB (key.2.1) (nB))⟩
def t_mcbC : KT := ((0, 0, 0, 0), [(2, 0, 1, 0), (1, 1, 0, 0), (1, 2, 0, 0)], [(0, 0), (-2147483648, 2147483647), (-2147483648, 2147483647)], [(572, [(2, 0, 1, 0)]), (704, [(1, 1, 0, 0)]), (10, [(2, 0, 1, 0), (0, 0, 0, 1), (1, 2, 0, 0)])], (0, 0, 0), [], [], ([], [(704, [(1, 2, 0, -1)]), (6, [(1, 1, 0, 1), (1, 2, 0, 0)])]), ([], []))
set_option maxRecDepth 100000 in
theorem l_mcbC (g : GG) : LOK Yt (PSt g) t_mcbC := by
  intro ρ α Γ M as hT hB hA hP
  have g0 : Γ (α 0) = 1 := tyAt hA (i := 0) rfl
  have b1 : -2147483648 ≤ ρ 1 ∧ ρ 1 ≤ 2147483647 := hB 1
  have b2 : -2147483648 ≤ ρ 2 ∧ ρ 2 ≤ 2147483647 := hB 2
  have h0 : Γ (α 0) = 1 ∧ (∀ q ∈ ([([], 0, 2)] : VSP), wkT Γ M (α 0) q.1) ∧ Q572 g (vsv M (α 0) ([], 0, 2))  := hP _ (List.mem_of_getElem? (i := 0) rfl)
  have h1 : (ρ 1 + 0 : Int) < zC g := hP _ (List.mem_of_getElem? (i := 1) rfl)
  have h2 : 0 ≤ (1 : Int) ∧ M.2.2.2.2 (α 0) (1 : Int).toNat = ρ 2 + 0 := hP _ (List.mem_of_getElem? (i := 2) rfl)
  try simp only [Int.add_zero] at h0 h1 h2
  have key : ((ρ 2 + (-1) : Int) < zC g) ∧ (ρ 1 + 1 ≤ ρ 2 + 0) ∧ True := by
    try simp only [Int.add_zero]
    obtain ⟨hr, hc⟩ := ch_dims hT g0
    have e0 : vsv M (α 0) ([], 0, 2) 0 = M.2.2.2.2 (α 0) 0 := vs0 (by decide) (by decide)
    have e1 : vsv M (α 0) ([], 0, 2) 1 = M.2.2.2.2 (α 0) 1 := vs0 (by decide) (by decide)
    obtain ⟨-, -, hR, hC⟩ := h0
    have hR := e0.symm.trans hR
    have hC := e1.symm.trans hC
    
    have h1 : ρ 1 < zC g := h1
    have h2 : M.2.2.2.2 (α 0) 1 = ρ 2 := h2.2
    exact ⟨show ρ 2 + -1 < zC g by omega, by omega, trivial⟩
  exact ⟨nB, qB (key.1) (qB (key.2.1) (nB))⟩
def t_mcbm : KT := ((0, 0, 0, 0), [(1, 0, 0, 0), (1, 1, 0, 0), (1, 2, 0, 0), (1, 3, 0, 0)], [(-2147483648, 2147483647), (-2147483648, 2147483647), (-2147483648, 2147483647), (-2147483648, 2147483647)], [(704, [(1, 0, 0, 0)]), (704, [(1, 1, 0, 0)]), (85, [(1, 0, 0, 0), (1, 1, 0, 0), (1, 2, 0, 0)]), (84, [(1, 0, 0, 0), (1, 1, 0, 0), (1, 3, 0, 0)])], (0, 0, 0), [], [], ([], [(704, [(1, 3, 0, 0)]), (6, [(1, 2, 0, 1), (1, 3, 0, 1)])]), ([], []))
set_option maxRecDepth 100000 in
theorem l_mcbm (g : GG) : LOK Yt (PSt g) t_mcbm := by
  intro ρ α Γ M as hT hB hA hP
  have b0 : -2147483648 ≤ ρ 0 ∧ ρ 0 ≤ 2147483647 := hB 0
  have b1 : -2147483648 ≤ ρ 1 ∧ ρ 1 ≤ 2147483647 := hB 1
  have b2 : -2147483648 ≤ ρ 2 ∧ ρ 2 ≤ 2147483647 := hB 2
  have b3 : -2147483648 ≤ ρ 3 ∧ ρ 3 ≤ 2147483647 := hB 3
  have h0 : (ρ 0 + 0 : Int) < zC g := hP _ (List.mem_of_getElem? (i := 0) rfl)
  have h1 : (ρ 1 + 0 : Int) < zC g := hP _ (List.mem_of_getElem? (i := 1) rfl)
  have h2 : ρ 2 + 0 = mnI (ρ 0 + 0) (ρ 1 + 0) := hP _ (List.mem_of_getElem? (i := 2) rfl)
  have h3 : ρ 3 + 0 = mxI (ρ 0 + 0) (ρ 1 + 0) := hP _ (List.mem_of_getElem? (i := 3) rfl)
  try simp only [Int.add_zero] at h0 h1 h2 h3
  have key : ((ρ 3 + 0 : Int) < zC g) ∧ (ρ 2 + 1 ≤ ρ 3 + 1) ∧ True := by
    try simp only [Int.add_zero]
    have h0 : ρ 0 < zC g := h0
    have h1 : ρ 1 < zC g := h1
    unfold mnI at h2
    unfold mxI at h3
    refine ⟨show ρ 3 < zC g from ?_, ?_, trivial⟩
    · split at h3 <;> omega
    · split at h3 <;> split at h2 <;> omega
  exact ⟨nB, qB (key.1) (qB (key.2.1) (nB))⟩
def t_mcbq : KT := ((0, 0, 0, 0), [(2, 0, 1, 0), (1, 1, 0, 0), (1, 2, 0, 0), (1, 3, 0, 0), (1, 4, 0, 0)], [(0, 0), (0, 143), (0, 143), (-2147483648, 2147483647), (-2147483648, 2147483647)], [(71, [(2, 0, 1, 0), (1, 1, 0, 0), (1, 3, 0, 0)]), (71, [(2, 0, 1, 0), (1, 2, 0, 0), (1, 4, 0, 0)]), (21, [(1, 1, 0, 0), (1, 2, 0, 0)])], (0, 0, 0), [], [], ([], [(6, [(1, 3, 0, 1), (1, 4, 0, 1)])]), ([], []))
set_option maxRecDepth 100000 in
theorem l_mcbq (g : GG) : LOK Yt (PSt g) t_mcbq := by
  intro ρ α Γ M as hT hB hA hP
  have g0 : Γ (α 0) = 1 := tyAt hA (i := 0) rfl
  have b1 : 0 ≤ ρ 1 ∧ ρ 1 ≤ 143 := hB 1
  have b2 : 0 ≤ ρ 2 ∧ ρ 2 ≤ 143 := hB 2
  have b3 : -2147483648 ≤ ρ 3 ∧ ρ 3 ≤ 2147483647 := hB 3
  have b4 : -2147483648 ≤ ρ 4 ∧ ρ 4 ≤ 2147483647 := hB 4
  have h0 : Γ (α 0) = 1 ∧ ρ 3 + 0 = (ρ 1 + 0) / M.2.2.2.2 (α 0) 1 := hP _ (List.mem_of_getElem? (i := 0) rfl)
  have h1 : Γ (α 0) = 1 ∧ ρ 4 + 0 = (ρ 2 + 0) / M.2.2.2.2 (α 0) 1 := hP _ (List.mem_of_getElem? (i := 1) rfl)
  have h2 : ρ 1 + 0 < ρ 2 + 0 := hP _ (List.mem_of_getElem? (i := 2) rfl)
  try simp only [Int.add_zero] at h0 h1 h2
  have key : (ρ 3 + 1 ≤ ρ 4 + 1) ∧ True := by
    try simp only [Int.add_zero]
    obtain ⟨hr, hc⟩ := ch_dims hT g0
    have e0 : vsv M (α 0) ([], 0, 2) 0 = M.2.2.2.2 (α 0) 0 := vs0 (by decide) (by decide)
    have e1 : vsv M (α 0) ([], 0, 2) 1 = M.2.2.2.2 (α 0) 1 := vs0 (by decide) (by decide)
    
    have q := row_leI (C := M.2.2.2.2 (α 0) 1) (show ρ 1 ≤ ρ 2 by omega) (by omega)
    have h0 := h0.2
    have h1 := h1.2
    exact ⟨by omega, trivial⟩
  exact ⟨nB, qB (key.1) (nB)⟩
def t_mcb2 : KT := ((0, 0, 0, 0), [(2, 0, 6, 0), (1, 1, 0, 0), (1, 2, 0, 0), (1, 3, 0, 0), (1, 4, 0, 0), (1, 5, 0, 0), (1, 6, 0, 0)], [(0, 0), (-2147483648, 2147483647), (-2147483648, 2147483647), (-2147483648, 2147483647), (-2147483648, 2147483647), (-2147483648, 2147483647), (-2147483648, 2147483647)], [(454, [(2, 0, 6, 0), (1, 1, 0, 0), (0, 0, 0, 0), (0, 0, 0, 0), (0, 0, 0, 0), (0, 0, 0, 0), (0, 0, 0, 0), (0, 0, 0, 0), (0, 0, 0, 0), (1, 2, 0, 0), (1, 5, 0, 0), (1, 2, 0, 0), (1, 6, 0, 0)]), (85, [(1, 3, 0, 0), (1, 4, 0, 0), (1, 5, 0, 0)]), (84, [(1, 3, 0, 0), (1, 4, 0, 0), (1, 6, 0, 0)])], (0, 0, 0), [], [], ([], [(455, [(2, 0, 6, 0), (1, 1, 0, 0), (1, 2, 0, 0), (1, 3, 0, 0), (0, 0, 0, 1), (1, 2, 0, 0), (1, 4, 0, 0), (0, 0, 0, -1), (0, 0, 0, 1)])]), ([], []))
set_option maxRecDepth 100000 in
theorem l_mcb2 (g : GG) : LOK Yt (PSt g) t_mcb2 := by
  intro ρ α Γ M as hT hB hA hP
  have g0 : Γ (α 0) = 6 := tyAt hA (i := 0) rfl
  have b1 : -2147483648 ≤ ρ 1 ∧ ρ 1 ≤ 2147483647 := hB 1
  have b2 : -2147483648 ≤ ρ 2 ∧ ρ 2 ≤ 2147483647 := hB 2
  have b3 : -2147483648 ≤ ρ 3 ∧ ρ 3 ≤ 2147483647 := hB 3
  have b4 : -2147483648 ≤ ρ 4 ∧ ρ 4 ≤ 2147483647 := hB 4
  have b5 : -2147483648 ≤ ρ 5 ∧ ρ 5 ≤ 2147483647 := hB 5
  have b6 : -2147483648 ≤ ρ 6 ∧ ρ 6 ≤ 2147483647 := hB 6
  have h0 : Γ (α 0) = 6 ∧ (∀ q ∈ ([([(4, 9)], 0, 288)] : VSP), wkT Γ M (α 0) q.1) ∧ Q454 g (vsv M (α 0) ([(4, 9)], 0, 288)) (ρ 1 + 0) (0) (0) (0) (0) (0) (0) (0) (ρ 2 + 0) (ρ 5 + 0) (ρ 2 + 0) (ρ 6 + 0) := hP _ (List.mem_of_getElem? (i := 0) rfl)
  have h1 : ρ 5 + 0 = mnI (ρ 3 + 0) (ρ 4 + 0) := hP _ (List.mem_of_getElem? (i := 1) rfl)
  have h2 : ρ 6 + 0 = mxI (ρ 3 + 0) (ρ 4 + 0) := hP _ (List.mem_of_getElem? (i := 2) rfl)
  try simp only [Int.add_zero] at h0 h1 h2
  have key : (Γ (α 0) = 6 ∧ (∀ q ∈ ([([(4, 9)], 0, 288)] : VSP), wkT Γ M (α 0) q.1) ∧ Q455 g (vsv M (α 0) ([(4, 9)], 0, 288)) (ρ 1 + 0) (ρ 2 + 0) (ρ 3 + 0) (1) (ρ 2 + 0) (ρ 4 + 0) ((-1)) (1)) ∧ True := by
    try simp only [Int.add_zero]
    obtain ⟨t1, t2, hl, hw⟩ := h0
    have hw : WS2 g (vsv M (α 0) ([(4, 9)], 0, 288)) (ρ 1) 0 0 0 0 0 0 0 (ρ 2) (ρ 5) (ρ 2) (ρ 6) := hw
    refine ⟨⟨t1, t2, ⟨hl.1, hl.2.1, by decide, by decide⟩, WS2_W hw (by decide) (if ρ 4 < ρ 3 then -zCg g (ρ 1).toNat else zCg g (ρ 1).toNat) fun x y => ?_⟩, trivial⟩
    unfold mnI at h1
    unfold mxI at h2
    rw [Int.zero_mul, Int.add_zero, Int.mul_zero, Int.zero_add, Int.one_mul, show (-1 : Int) * ei (ρ 2) (ρ 4) x y = -ei (ρ 2) (ρ 4) x y by omega]
    by_cases hc : ρ 4 < ρ 3
    · rw [if_pos hc] at h1 ⊢
      rw [if_neg (by omega)] at h2
      rw [h1, h2, Int.neg_mul, Int.mul_sub, Int.mul_add, Int.mul_neg]
      omega
    · rw [if_neg hc] at h1 ⊢
      have h2 : ρ 6 = ρ 4 := by split at h2 <;> omega
      rw [h1, h2, Int.mul_sub, Int.mul_add, Int.mul_neg]
      omega
  exact ⟨nB, qB (key.1) (nB)⟩
def t_mcb3 : KT := ((0, 0, 0, 0), [(2, 0, 6, 0), (2, 1, 1, 0), (1, 2, 0, 0), (1, 3, 0, 0), (1, 4, 0, 0), (1, 5, 0, 0), (1, 6, 0, 0), (1, 7, 0, 0), (1, 8, 0, 0)], [(0, 0), (0, 0), (-2147483648, 2147483647), (0, 143), (0, 143), (-2147483648, 2147483647), (-2147483648, 2147483647), (-2147483648, 2147483647), (-2147483648, 2147483647)], [(572, [(2, 1, 1, 0)]), (454, [(2, 0, 6, 0), (1, 2, 0, 0), (1, 5, 0, 0), (1, 6, 0, 0), (0, 0, 0, 1), (1, 5, 0, 0), (1, 8, 0, 0), (0, 0, 0, -1), (0, 0, 0, 1), (1, 7, 0, 0), (1, 8, 0, 0), (1, 5, 0, 0), (1, 8, 0, 0)]), (71, [(2, 1, 1, 0), (1, 3, 0, 0), (1, 5, 0, 0)]), (72, [(2, 1, 1, 0), (1, 3, 0, 0), (1, 6, 0, 0)]), (71, [(2, 1, 1, 0), (1, 4, 0, 0), (1, 7, 0, 0)]), (72, [(2, 1, 1, 0), (1, 4, 0, 0), (1, 8, 0, 0)])], (0, 0, 0), [], [], ([], [(456, [(2, 0, 6, 0), (1, 2, 0, 0), (1, 3, 0, 0), (1, 4, 0, 0)])]), ([], []))
set_option maxRecDepth 100000 in
theorem l_mcb3 (g : GG) : LOK Yt (PSt g) t_mcb3 := by
  intro ρ α Γ M as hT hB hA hP
  have g0 : Γ (α 0) = 6 := tyAt hA (i := 0) rfl
  have g1 : Γ (α 1) = 1 := tyAt hA (i := 1) rfl
  have b2 : -2147483648 ≤ ρ 2 ∧ ρ 2 ≤ 2147483647 := hB 2
  have b3 : 0 ≤ ρ 3 ∧ ρ 3 ≤ 143 := hB 3
  have b4 : 0 ≤ ρ 4 ∧ ρ 4 ≤ 143 := hB 4
  have b5 : -2147483648 ≤ ρ 5 ∧ ρ 5 ≤ 2147483647 := hB 5
  have b6 : -2147483648 ≤ ρ 6 ∧ ρ 6 ≤ 2147483647 := hB 6
  have b7 : -2147483648 ≤ ρ 7 ∧ ρ 7 ≤ 2147483647 := hB 7
  have b8 : -2147483648 ≤ ρ 8 ∧ ρ 8 ≤ 2147483647 := hB 8
  have h0 : Γ (α 1) = 1 ∧ (∀ q ∈ ([([], 0, 2)] : VSP), wkT Γ M (α 1) q.1) ∧ Q572 g (vsv M (α 1) ([], 0, 2))  := hP _ (List.mem_of_getElem? (i := 0) rfl)
  have h1 : Γ (α 0) = 6 ∧ (∀ q ∈ ([([(4, 9)], 0, 288)] : VSP), wkT Γ M (α 0) q.1) ∧ Q454 g (vsv M (α 0) ([(4, 9)], 0, 288)) (ρ 2 + 0) (ρ 5 + 0) (ρ 6 + 0) (1) (ρ 5 + 0) (ρ 8 + 0) ((-1)) (1) (ρ 7 + 0) (ρ 8 + 0) (ρ 5 + 0) (ρ 8 + 0) := hP _ (List.mem_of_getElem? (i := 1) rfl)
  have h2 : Γ (α 1) = 1 ∧ ρ 5 + 0 = (ρ 3 + 0) / M.2.2.2.2 (α 1) 1 := hP _ (List.mem_of_getElem? (i := 2) rfl)
  have h3 : Γ (α 1) = 1 ∧ ρ 6 + 0 = (ρ 3 + 0) % M.2.2.2.2 (α 1) 1 := hP _ (List.mem_of_getElem? (i := 3) rfl)
  have h4 : Γ (α 1) = 1 ∧ ρ 7 + 0 = (ρ 4 + 0) / M.2.2.2.2 (α 1) 1 := hP _ (List.mem_of_getElem? (i := 4) rfl)
  have h5 : Γ (α 1) = 1 ∧ ρ 8 + 0 = (ρ 4 + 0) % M.2.2.2.2 (α 1) 1 := hP _ (List.mem_of_getElem? (i := 5) rfl)
  try simp only [Int.add_zero] at h0 h1 h2 h3 h4 h5
  have key : (Γ (α 0) = 6 ∧ (∀ q ∈ ([([(4, 9)], 0, 288)] : VSP), wkT Γ M (α 0) q.1) ∧ Q456 g (vsv M (α 0) ([(4, 9)], 0, 288)) (ρ 2 + 0) (ρ 3 + 0) (ρ 4 + 0)) ∧ True := by
    try simp only [Int.add_zero]
    obtain ⟨hr, hc⟩ := ch_dims hT g1
    have e0 : vsv M (α 1) ([], 0, 2) 0 = M.2.2.2.2 (α 1) 0 := vs0 (by decide) (by decide)
    have e1 : vsv M (α 1) ([], 0, 2) 1 = M.2.2.2.2 (α 1) 1 := vs0 (by decide) (by decide)
    obtain ⟨-, -, hR, hC⟩ := h0
    have hR := e0.symm.trans hR
    have hC := e1.symm.trans hC
    
    obtain ⟨t1, t2, hl, hw⟩ := h1
    have hw : WS2 g (vsv M (α 0) ([(4, 9)], 0, 288)) (ρ 2) (ρ 5) (ρ 6) 1 (ρ 5) (ρ 8) (-1) 1 (ρ 7) (ρ 8) (ρ 5) (ρ 8) := hw
    have a1 := h2.2
    have a2 := h3.2
    have a3 := h4.2
    have a4 := h5.2
    rw [hC] at a1 a2 a3 a4
    refine ⟨⟨t1, t2, ⟨hl.1, hl.2.1⟩, WS2_P hw (by decide) (-zCg g (ρ 2).toNat) fun x y _ _ => ?_⟩, trivial⟩
    show _ = zCg g (ρ 2).toNat * (ei (ρ 3 / zC g) (ρ 3 % zC g) x y - ei (ρ 4 / zC g) (ρ 4 % zC g) x y)
    rw [← a1, ← a2, ← a3, ← a4, Int.one_mul, show (-1 : Int) * ei (ρ 5) (ρ 8) x y = -ei (ρ 5) (ρ 8) x y by omega, Int.neg_mul, Int.mul_sub, Int.mul_sub, Int.mul_add, Int.mul_neg]
    omega
  exact ⟨nB, qB (key.1) (nB)⟩
def t_mbd0 : KT := ((0, 0, 0, 0), [(2, 0, 6, 0), (2, 1, 1, 0), (1, 2, 0, 0), (1, 3, 0, 0), (1, 4, 0, 0), (1, 5, 0, 0)], [(0, 0), (0, 0), (-2147483648, 2147483647), (0, 143), (-2147483648, 2147483647), (-2147483648, 2147483647)], [(572, [(2, 1, 1, 0)]), (454, [(2, 0, 6, 0), (1, 2, 0, 0), (0, 0, 0, 0), (0, 0, 0, 0), (0, 0, 0, 0), (0, 0, 0, 0), (0, 0, 0, 0), (0, 0, 0, 0), (0, 0, 0, 0), (1, 4, 0, 0), (1, 5, 0, 0), (0, 0, 0, -1), (1, 5, 0, 0)]), (71, [(2, 1, 1, 0), (1, 3, 0, 0), (1, 4, 0, 0)]), (72, [(2, 1, 1, 0), (1, 3, 0, 0), (1, 5, 0, 0)])], (0, 0, 0), [], [], ([], [(459, [(2, 0, 6, 0), (1, 2, 0, 0), (1, 3, 0, 0)])]), ([], []))
set_option maxRecDepth 100000 in
theorem l_mbd0 (g : GG) : LOK Yt (PSt g) t_mbd0 := by
  intro ρ α Γ M as hT hB hA hP
  have g0 : Γ (α 0) = 6 := tyAt hA (i := 0) rfl
  have g1 : Γ (α 1) = 1 := tyAt hA (i := 1) rfl
  have b2 : -2147483648 ≤ ρ 2 ∧ ρ 2 ≤ 2147483647 := hB 2
  have b3 : 0 ≤ ρ 3 ∧ ρ 3 ≤ 143 := hB 3
  have b4 : -2147483648 ≤ ρ 4 ∧ ρ 4 ≤ 2147483647 := hB 4
  have b5 : -2147483648 ≤ ρ 5 ∧ ρ 5 ≤ 2147483647 := hB 5
  have h0 : Γ (α 1) = 1 ∧ (∀ q ∈ ([([], 0, 2)] : VSP), wkT Γ M (α 1) q.1) ∧ Q572 g (vsv M (α 1) ([], 0, 2))  := hP _ (List.mem_of_getElem? (i := 0) rfl)
  have h1 : Γ (α 0) = 6 ∧ (∀ q ∈ ([([(4, 9)], 0, 288)] : VSP), wkT Γ M (α 0) q.1) ∧ Q454 g (vsv M (α 0) ([(4, 9)], 0, 288)) (ρ 2 + 0) (0) (0) (0) (0) (0) (0) (0) (ρ 4 + 0) (ρ 5 + 0) ((-1)) (ρ 5 + 0) := hP _ (List.mem_of_getElem? (i := 1) rfl)
  have h2 : Γ (α 1) = 1 ∧ ρ 4 + 0 = (ρ 3 + 0) / M.2.2.2.2 (α 1) 1 := hP _ (List.mem_of_getElem? (i := 2) rfl)
  have h3 : Γ (α 1) = 1 ∧ ρ 5 + 0 = (ρ 3 + 0) % M.2.2.2.2 (α 1) 1 := hP _ (List.mem_of_getElem? (i := 3) rfl)
  try simp only [Int.add_zero] at h0 h1 h2 h3
  have key : (Γ (α 0) = 6 ∧ (∀ q ∈ ([([(4, 9)], 0, 288)] : VSP), wkT Γ M (α 0) q.1) ∧ Q459 g (vsv M (α 0) ([(4, 9)], 0, 288)) (ρ 2 + 0) (ρ 3 + 0)) ∧ True := by
    try simp only [Int.add_zero]
    obtain ⟨hr, hc⟩ := ch_dims hT g1
    have e0 : vsv M (α 1) ([], 0, 2) 0 = M.2.2.2.2 (α 1) 0 := vs0 (by decide) (by decide)
    have e1 : vsv M (α 1) ([], 0, 2) 1 = M.2.2.2.2 (α 1) 1 := vs0 (by decide) (by decide)
    obtain ⟨-, -, hR, hC⟩ := h0
    have hR := e0.symm.trans hR
    have hC := e1.symm.trans hC
    
    obtain ⟨t1, t2, hl, hw⟩ := h1
    have hw : WS2 g (vsv M (α 0) ([(4, 9)], 0, 288)) (ρ 2) 0 0 0 0 0 0 0 (ρ 4) (ρ 5) (-1) (ρ 5) := hw
    have a1 := h2.2
    have a2 := h3.2
    rw [hC] at a1 a2
    refine ⟨⟨t1, t2, ⟨hl.1, hl.2.1⟩, WS2_P hw (by decide) (zCg g (ρ 2).toNat) fun x y hx hy => ?_⟩, trivial⟩
    show _ = zCg g (ρ 2).toNat * ei (ρ 3 / zC g) (ρ 3 % zC g) x y
    rw [← a1, ← a2, Int.zero_mul, Int.add_zero, Int.mul_zero, Int.zero_add]
    have z : ei (-1) (ρ 5) x y = 0 := if_neg fun q => by omega
    rw [z]
    rw [Int.sub_zero]
  exact ⟨nB, qB (key.1) (nB)⟩
def t_mbd1 : KT := ((0, 0, 0, 0), [(2, 0, 6, 0), (2, 1, 1, 0), (1, 2, 0, 0), (1, 3, 0, 0), (1, 4, 0, 0), (1, 5, 0, 0), (1, 6, 0, 0)], [(0, 0), (0, 0), (-2147483648, 2147483647), (0, 143), (-2147483648, 2147483647), (-2147483648, 2147483647), (-2147483648, 2147483647)], [(572, [(2, 1, 1, 0)]), (454, [(2, 0, 6, 0), (1, 2, 0, 0), (0, 0, 0, 0), (0, 0, 0, 0), (0, 0, 0, 0), (0, 0, 0, 0), (0, 0, 0, 0), (0, 0, 0, 0), (0, 0, 0, 0), (1, 6, 0, -1), (1, 5, 0, 0), (1, 4, 0, 0), (1, 5, 0, 0)]), (71, [(2, 1, 1, 0), (1, 3, 0, 0), (1, 4, 0, 0)]), (72, [(2, 1, 1, 0), (1, 3, 0, 0), (1, 5, 0, 0)]), (10, [(2, 1, 1, 0), (0, 0, 0, 0), (1, 6, 0, 0)])], (0, 0, 0), [], [], ([], [(459, [(2, 0, 6, 0), (1, 2, 0, 0), (1, 3, 0, 0)])]), ([], []))
set_option maxRecDepth 100000 in
theorem l_mbd1 (g : GG) : LOK Yt (PSt g) t_mbd1 := by
  intro ρ α Γ M as hT hB hA hP
  have g0 : Γ (α 0) = 6 := tyAt hA (i := 0) rfl
  have g1 : Γ (α 1) = 1 := tyAt hA (i := 1) rfl
  have b2 : -2147483648 ≤ ρ 2 ∧ ρ 2 ≤ 2147483647 := hB 2
  have b3 : 0 ≤ ρ 3 ∧ ρ 3 ≤ 143 := hB 3
  have b4 : -2147483648 ≤ ρ 4 ∧ ρ 4 ≤ 2147483647 := hB 4
  have b5 : -2147483648 ≤ ρ 5 ∧ ρ 5 ≤ 2147483647 := hB 5
  have b6 : -2147483648 ≤ ρ 6 ∧ ρ 6 ≤ 2147483647 := hB 6
  have h0 : Γ (α 1) = 1 ∧ (∀ q ∈ ([([], 0, 2)] : VSP), wkT Γ M (α 1) q.1) ∧ Q572 g (vsv M (α 1) ([], 0, 2))  := hP _ (List.mem_of_getElem? (i := 0) rfl)
  have h1 : Γ (α 0) = 6 ∧ (∀ q ∈ ([([(4, 9)], 0, 288)] : VSP), wkT Γ M (α 0) q.1) ∧ Q454 g (vsv M (α 0) ([(4, 9)], 0, 288)) (ρ 2 + 0) (0) (0) (0) (0) (0) (0) (0) (ρ 6 + (-1)) (ρ 5 + 0) (ρ 4 + 0) (ρ 5 + 0) := hP _ (List.mem_of_getElem? (i := 1) rfl)
  have h2 : Γ (α 1) = 1 ∧ ρ 4 + 0 = (ρ 3 + 0) / M.2.2.2.2 (α 1) 1 := hP _ (List.mem_of_getElem? (i := 2) rfl)
  have h3 : Γ (α 1) = 1 ∧ ρ 5 + 0 = (ρ 3 + 0) % M.2.2.2.2 (α 1) 1 := hP _ (List.mem_of_getElem? (i := 3) rfl)
  have h4 : 0 ≤ (0 : Int) ∧ M.2.2.2.2 (α 1) (0 : Int).toNat = ρ 6 + 0 := hP _ (List.mem_of_getElem? (i := 4) rfl)
  try simp only [Int.add_zero] at h0 h1 h2 h3 h4
  have key : (Γ (α 0) = 6 ∧ (∀ q ∈ ([([(4, 9)], 0, 288)] : VSP), wkT Γ M (α 0) q.1) ∧ Q459 g (vsv M (α 0) ([(4, 9)], 0, 288)) (ρ 2 + 0) (ρ 3 + 0)) ∧ True := by
    try simp only [Int.add_zero]
    obtain ⟨hr, hc⟩ := ch_dims hT g1
    have e0 : vsv M (α 1) ([], 0, 2) 0 = M.2.2.2.2 (α 1) 0 := vs0 (by decide) (by decide)
    have e1 : vsv M (α 1) ([], 0, 2) 1 = M.2.2.2.2 (α 1) 1 := vs0 (by decide) (by decide)
    obtain ⟨-, -, hR, hC⟩ := h0
    have hR := e0.symm.trans hR
    have hC := e1.symm.trans hC
    
    obtain ⟨t1, t2, hl, hw⟩ := h1
    have hw : WS2 g (vsv M (α 0) ([(4, 9)], 0, 288)) (ρ 2) 0 0 0 0 0 0 0 (ρ 6 + -1) (ρ 5) (ρ 4) (ρ 5) := hw
    have a1 := h2.2
    have a2 := h3.2
    rw [hC] at a1 a2
    refine ⟨⟨t1, t2, ⟨hl.1, hl.2.1⟩, WS2_P hw (by decide) (-zCg g (ρ 2).toNat) fun x y hx hy => ?_⟩, trivial⟩
    show _ = zCg g (ρ 2).toNat * ei (ρ 3 / zC g) (ρ 3 % zC g) x y
    rw [← a1, ← a2, Int.zero_mul, Int.add_zero, Int.mul_zero, Int.zero_add]
    have z : ei (ρ 6 + -1) (ρ 5) x y = 0 := if_neg fun q => by have h4 : M.2.2.2.2 (α 1) 0 = ρ 6 := h4.2; omega
    rw [z]
    rw [Int.zero_sub, Int.neg_mul, Int.mul_neg, Int.neg_neg]
  exact ⟨nB, qB (key.1) (nB)⟩
def t_mbd2 : KT := ((0, 0, 0, 0), [(2, 0, 6, 0), (2, 1, 1, 0), (1, 2, 0, 0), (1, 3, 0, 0), (1, 4, 0, 0), (1, 5, 0, 0)], [(0, 0), (0, 0), (-2147483648, 2147483647), (0, 143), (-2147483648, 2147483647), (-2147483648, 2147483647)], [(572, [(2, 1, 1, 0)]), (454, [(2, 0, 6, 0), (1, 2, 0, 0), (0, 0, 0, 0), (0, 0, 0, 0), (0, 0, 0, 0), (0, 0, 0, 0), (0, 0, 0, 0), (0, 0, 0, 0), (0, 0, 0, 0), (1, 4, 0, 0), (0, 0, 0, -1), (1, 4, 0, 0), (1, 5, 0, 0)]), (71, [(2, 1, 1, 0), (1, 3, 0, 0), (1, 4, 0, 0)]), (72, [(2, 1, 1, 0), (1, 3, 0, 0), (1, 5, 0, 0)])], (0, 0, 0), [], [], ([], [(459, [(2, 0, 6, 0), (1, 2, 0, 0), (1, 3, 0, 0)])]), ([], []))
set_option maxRecDepth 100000 in
theorem l_mbd2 (g : GG) : LOK Yt (PSt g) t_mbd2 := by
  intro ρ α Γ M as hT hB hA hP
  have g0 : Γ (α 0) = 6 := tyAt hA (i := 0) rfl
  have g1 : Γ (α 1) = 1 := tyAt hA (i := 1) rfl
  have b2 : -2147483648 ≤ ρ 2 ∧ ρ 2 ≤ 2147483647 := hB 2
  have b3 : 0 ≤ ρ 3 ∧ ρ 3 ≤ 143 := hB 3
  have b4 : -2147483648 ≤ ρ 4 ∧ ρ 4 ≤ 2147483647 := hB 4
  have b5 : -2147483648 ≤ ρ 5 ∧ ρ 5 ≤ 2147483647 := hB 5
  have h0 : Γ (α 1) = 1 ∧ (∀ q ∈ ([([], 0, 2)] : VSP), wkT Γ M (α 1) q.1) ∧ Q572 g (vsv M (α 1) ([], 0, 2))  := hP _ (List.mem_of_getElem? (i := 0) rfl)
  have h1 : Γ (α 0) = 6 ∧ (∀ q ∈ ([([(4, 9)], 0, 288)] : VSP), wkT Γ M (α 0) q.1) ∧ Q454 g (vsv M (α 0) ([(4, 9)], 0, 288)) (ρ 2 + 0) (0) (0) (0) (0) (0) (0) (0) (ρ 4 + 0) ((-1)) (ρ 4 + 0) (ρ 5 + 0) := hP _ (List.mem_of_getElem? (i := 1) rfl)
  have h2 : Γ (α 1) = 1 ∧ ρ 4 + 0 = (ρ 3 + 0) / M.2.2.2.2 (α 1) 1 := hP _ (List.mem_of_getElem? (i := 2) rfl)
  have h3 : Γ (α 1) = 1 ∧ ρ 5 + 0 = (ρ 3 + 0) % M.2.2.2.2 (α 1) 1 := hP _ (List.mem_of_getElem? (i := 3) rfl)
  try simp only [Int.add_zero] at h0 h1 h2 h3
  have key : (Γ (α 0) = 6 ∧ (∀ q ∈ ([([(4, 9)], 0, 288)] : VSP), wkT Γ M (α 0) q.1) ∧ Q459 g (vsv M (α 0) ([(4, 9)], 0, 288)) (ρ 2 + 0) (ρ 3 + 0)) ∧ True := by
    try simp only [Int.add_zero]
    obtain ⟨hr, hc⟩ := ch_dims hT g1
    have e0 : vsv M (α 1) ([], 0, 2) 0 = M.2.2.2.2 (α 1) 0 := vs0 (by decide) (by decide)
    have e1 : vsv M (α 1) ([], 0, 2) 1 = M.2.2.2.2 (α 1) 1 := vs0 (by decide) (by decide)
    obtain ⟨-, -, hR, hC⟩ := h0
    have hR := e0.symm.trans hR
    have hC := e1.symm.trans hC
    
    obtain ⟨t1, t2, hl, hw⟩ := h1
    have hw : WS2 g (vsv M (α 0) ([(4, 9)], 0, 288)) (ρ 2) 0 0 0 0 0 0 0 (ρ 4) (-1) (ρ 4) (ρ 5) := hw
    have a1 := h2.2
    have a2 := h3.2
    rw [hC] at a1 a2
    refine ⟨⟨t1, t2, ⟨hl.1, hl.2.1⟩, WS2_P hw (by decide) (-zCg g (ρ 2).toNat) fun x y hx hy => ?_⟩, trivial⟩
    show _ = zCg g (ρ 2).toNat * ei (ρ 3 / zC g) (ρ 3 % zC g) x y
    rw [← a1, ← a2, Int.zero_mul, Int.add_zero, Int.mul_zero, Int.zero_add]
    have z : ei (ρ 4) (-1) x y = 0 := if_neg fun q => by omega
    rw [z]
    rw [Int.zero_sub, Int.neg_mul, Int.mul_neg, Int.neg_neg]
  exact ⟨nB, qB (key.1) (nB)⟩
def t_mbd3 : KT := ((0, 0, 0, 0), [(2, 0, 6, 0), (2, 1, 1, 0), (1, 2, 0, 0), (1, 3, 0, 0), (1, 4, 0, 0), (1, 5, 0, 0), (1, 6, 0, 0)], [(0, 0), (0, 0), (-2147483648, 2147483647), (0, 143), (-2147483648, 2147483647), (-2147483648, 2147483647), (-2147483648, 2147483647)], [(572, [(2, 1, 1, 0)]), (454, [(2, 0, 6, 0), (1, 2, 0, 0), (0, 0, 0, 0), (0, 0, 0, 0), (0, 0, 0, 0), (0, 0, 0, 0), (0, 0, 0, 0), (0, 0, 0, 0), (0, 0, 0, 0), (1, 4, 0, 0), (1, 5, 0, 0), (1, 4, 0, 0), (1, 6, 0, -1)]), (71, [(2, 1, 1, 0), (1, 3, 0, 0), (1, 4, 0, 0)]), (72, [(2, 1, 1, 0), (1, 3, 0, 0), (1, 5, 0, 0)]), (10, [(2, 1, 1, 0), (0, 0, 0, 1), (1, 6, 0, 0)])], (0, 0, 0), [], [], ([], [(459, [(2, 0, 6, 0), (1, 2, 0, 0), (1, 3, 0, 0)])]), ([], []))
set_option maxRecDepth 100000 in
theorem l_mbd3 (g : GG) : LOK Yt (PSt g) t_mbd3 := by
  intro ρ α Γ M as hT hB hA hP
  have g0 : Γ (α 0) = 6 := tyAt hA (i := 0) rfl
  have g1 : Γ (α 1) = 1 := tyAt hA (i := 1) rfl
  have b2 : -2147483648 ≤ ρ 2 ∧ ρ 2 ≤ 2147483647 := hB 2
  have b3 : 0 ≤ ρ 3 ∧ ρ 3 ≤ 143 := hB 3
  have b4 : -2147483648 ≤ ρ 4 ∧ ρ 4 ≤ 2147483647 := hB 4
  have b5 : -2147483648 ≤ ρ 5 ∧ ρ 5 ≤ 2147483647 := hB 5
  have b6 : -2147483648 ≤ ρ 6 ∧ ρ 6 ≤ 2147483647 := hB 6
  have h0 : Γ (α 1) = 1 ∧ (∀ q ∈ ([([], 0, 2)] : VSP), wkT Γ M (α 1) q.1) ∧ Q572 g (vsv M (α 1) ([], 0, 2))  := hP _ (List.mem_of_getElem? (i := 0) rfl)
  have h1 : Γ (α 0) = 6 ∧ (∀ q ∈ ([([(4, 9)], 0, 288)] : VSP), wkT Γ M (α 0) q.1) ∧ Q454 g (vsv M (α 0) ([(4, 9)], 0, 288)) (ρ 2 + 0) (0) (0) (0) (0) (0) (0) (0) (ρ 4 + 0) (ρ 5 + 0) (ρ 4 + 0) (ρ 6 + (-1)) := hP _ (List.mem_of_getElem? (i := 1) rfl)
  have h2 : Γ (α 1) = 1 ∧ ρ 4 + 0 = (ρ 3 + 0) / M.2.2.2.2 (α 1) 1 := hP _ (List.mem_of_getElem? (i := 2) rfl)
  have h3 : Γ (α 1) = 1 ∧ ρ 5 + 0 = (ρ 3 + 0) % M.2.2.2.2 (α 1) 1 := hP _ (List.mem_of_getElem? (i := 3) rfl)
  have h4 : 0 ≤ (1 : Int) ∧ M.2.2.2.2 (α 1) (1 : Int).toNat = ρ 6 + 0 := hP _ (List.mem_of_getElem? (i := 4) rfl)
  try simp only [Int.add_zero] at h0 h1 h2 h3 h4
  have key : (Γ (α 0) = 6 ∧ (∀ q ∈ ([([(4, 9)], 0, 288)] : VSP), wkT Γ M (α 0) q.1) ∧ Q459 g (vsv M (α 0) ([(4, 9)], 0, 288)) (ρ 2 + 0) (ρ 3 + 0)) ∧ True := by
    try simp only [Int.add_zero]
    obtain ⟨hr, hc⟩ := ch_dims hT g1
    have e0 : vsv M (α 1) ([], 0, 2) 0 = M.2.2.2.2 (α 1) 0 := vs0 (by decide) (by decide)
    have e1 : vsv M (α 1) ([], 0, 2) 1 = M.2.2.2.2 (α 1) 1 := vs0 (by decide) (by decide)
    obtain ⟨-, -, hR, hC⟩ := h0
    have hR := e0.symm.trans hR
    have hC := e1.symm.trans hC
    
    obtain ⟨t1, t2, hl, hw⟩ := h1
    have hw : WS2 g (vsv M (α 0) ([(4, 9)], 0, 288)) (ρ 2) 0 0 0 0 0 0 0 (ρ 4) (ρ 5) (ρ 4) (ρ 6 + -1) := hw
    have a1 := h2.2
    have a2 := h3.2
    rw [hC] at a1 a2
    refine ⟨⟨t1, t2, ⟨hl.1, hl.2.1⟩, WS2_P hw (by decide) (zCg g (ρ 2).toNat) fun x y hx hy => ?_⟩, trivial⟩
    show _ = zCg g (ρ 2).toNat * ei (ρ 3 / zC g) (ρ 3 % zC g) x y
    rw [← a1, ← a2, Int.zero_mul, Int.add_zero, Int.mul_zero, Int.zero_add]
    have z : ei (ρ 4) (ρ 6 + -1) x y = 0 := if_neg fun q => by have h4 : M.2.2.2.2 (α 1) 1 = ρ 6 := h4.2; omega
    rw [z]
    rw [Int.sub_zero]
  exact ⟨nB, qB (key.1) (nB)⟩
def t_mad0 : KT := ((0, 0, 0, 0), [(2, 0, 6, 0), (1, 1, 0, 0), (1, 2, 0, 0)], [(0, 0), (0, 120), (-2147483648, 2147483647)], [(573, [(2, 0, 6, 0), (1, 1, 0, 0)]), (10, [(2, 0, 6, 0), (0, 0, 0, 0), (1, 2, 0, 0)])], (0, 0, 0), [], [], ([(2, -2147483648, 120)], [(6, [(1, 2, 0, 0), (1, 1, 0, 0)])]), ([], []))
set_option maxRecDepth 100000 in
theorem l_mad0 (g : GG) : LOK Yt (PSt g) t_mad0 := by
  intro ρ α Γ M as hT hB hA hP
  have g0 : Γ (α 0) = 6 := tyAt hA (i := 0) rfl
  have b1 : 0 ≤ ρ 1 ∧ ρ 1 ≤ 120 := hB 1
  have b2 : -2147483648 ≤ ρ 2 ∧ ρ 2 ≤ 2147483647 := hB 2
  have h0 : Γ (α 0) = 6 ∧ (∀ q ∈ ([([], 0, 2)] : VSP), wkT Γ M (α 0) q.1) ∧ Q573 g (vsv M (α 0) ([], 0, 2)) (ρ 1 + 0) := hP _ (List.mem_of_getElem? (i := 0) rfl)
  have h1 : 0 ≤ (0 : Int) ∧ M.2.2.2.2 (α 0) (0 : Int).toNat = ρ 2 + 0 := hP _ (List.mem_of_getElem? (i := 1) rfl)
  try simp only [Int.add_zero] at h0 h1
  have key : (-2147483648 ≤ ρ 2 ∧ ρ 2 ≤ 120) ∧ (ρ 2 + 0 ≤ ρ 1 + 0) ∧ True := by
    try simp only [Int.add_zero]
    obtain ⟨-, -, h⟩ := h0
    have e : vsv M (α 0) ([], 0, 2) 0 = M.2.2.2.2 (α 0) 0 := vs0 (by decide) (by decide)
    have h : vsv M (α 0) ([], 0, 2) 0 ≤ ρ 1 := h
    have h1 : M.2.2.2.2 (α 0) 0 = ρ 2 := h1.2
    exact ⟨by omega, by omega, trivial⟩
  exact ⟨qB (key.1) (nB), qB (key.2.1) (nB)⟩
def t_mad1 : KT := ((0, 0, 0, 0), [(2, 0, 6, 0), (1, 1, 0, 0), (1, 2, 0, 0)], [(0, 0), (-2147483648, 2147483647), (-2147483648, 2147483647)], [(6, [(1, 2, 0, 0), (1, 1, 0, 0)]), (10, [(2, 0, 6, 0), (0, 0, 0, 0), (1, 2, 0, 1)])], (0, 0, 0), [], [], ([], [(573, [(2, 0, 6, 0), (1, 1, 0, 1)])]), ([], []))
set_option maxRecDepth 100000 in
theorem l_mad1 (g : GG) : LOK Yt (PSt g) t_mad1 := by
  intro ρ α Γ M as hT hB hA hP
  have g0 : Γ (α 0) = 6 := tyAt hA (i := 0) rfl
  have b1 : -2147483648 ≤ ρ 1 ∧ ρ 1 ≤ 2147483647 := hB 1
  have b2 : -2147483648 ≤ ρ 2 ∧ ρ 2 ≤ 2147483647 := hB 2
  have h0 : ρ 2 + 0 ≤ ρ 1 + 0 := hP _ (List.mem_of_getElem? (i := 0) rfl)
  have h1 : 0 ≤ (0 : Int) ∧ M.2.2.2.2 (α 0) (0 : Int).toNat = ρ 2 + 1 := hP _ (List.mem_of_getElem? (i := 1) rfl)
  try simp only [Int.add_zero] at h0 h1
  have key : (Γ (α 0) = 6 ∧ (∀ q ∈ ([([], 0, 2)] : VSP), wkT Γ M (α 0) q.1) ∧ Q573 g (vsv M (α 0) ([], 0, 2)) (ρ 1 + 1)) ∧ True := by
    try simp only [Int.add_zero]
    have e : vsv M (α 0) ([], 0, 2) 0 = M.2.2.2.2 (α 0) 0 := vs0 (by decide) (by decide)
    have h1 : M.2.2.2.2 (α 0) 0 = ρ 2 + 1 := h1.2
    exact ⟨⟨g0, pic1 hT g0 (by decide) (by decide), show vsv M (α 0) ([], 0, 2) 0 ≤ ρ 1 + 1 by omega⟩, trivial⟩
  exact ⟨nB, qB (key.1) (nB)⟩
def t_mad2 : KT := ((0, 0, 0, 0), [(2, 0, 6, 0), (1, 1, 0, 0), (1, 2, 0, 0)], [(0, 0), (0, 120), (0, 143)], [(459, [(2, 0, 6, 0), (1, 1, 0, 0), (1, 2, 0, 0)]), (706, [(1, 1, 0, 0), (1, 2, 0, 0)]), (708, [])], (0, 0, 0), [], [], ([], [(455, [(2, 0, 6, 0), (1, 1, 0, 1), (0, 0, 0, 0), (0, 0, 0, 0), (0, 0, 0, 0), (0, 0, 0, 0), (0, 0, 0, 0), (0, 0, 0, 0), (0, 0, 0, 0)])]), ([], []))
set_option maxRecDepth 100000 in
theorem l_mad2 (g : GG) : LOK Yt (PSt g) t_mad2 := by
  intro ρ α Γ M as hT hB hA hP
  have g0 : Γ (α 0) = 6 := tyAt hA (i := 0) rfl
  have b1 : 0 ≤ ρ 1 ∧ ρ 1 ≤ 120 := hB 1
  have b2 : 0 ≤ ρ 2 ∧ ρ 2 ≤ 143 := hB 2
  have h0 : Γ (α 0) = 6 ∧ (∀ q ∈ ([([(4, 9)], 0, 288)] : VSP), wkT Γ M (α 0) q.1) ∧ Q459 g (vsv M (α 0) ([(4, 9)], 0, 288)) (ρ 1 + 0) (ρ 2 + 0) := hP _ (List.mem_of_getElem? (i := 0) rfl)
  have h1 : SD1 g (ρ 1 + 0 : Int) (ρ 2 + 0 : Int) := hP _ (List.mem_of_getElem? (i := 1) rfl)
  have h2 : SDM g := hP _ (List.mem_of_getElem? (i := 2) rfl)
  try simp only [Int.add_zero] at h0 h1 h2
  have key : (Γ (α 0) = 6 ∧ (∀ q ∈ ([([(4, 9)], 0, 288)] : VSP), wkT Γ M (α 0) q.1) ∧ Q455 g (vsv M (α 0) ([(4, 9)], 0, 288)) (ρ 1 + 1) (0) (0) (0) (0) (0) (0) (0)) ∧ True := by
    try simp only [Int.add_zero]
    obtain ⟨t1, t2, hl, hw⟩ := h0
    exact ⟨⟨t1, t2, ⟨by omega, by omega, by decide, by decide⟩, WSP_n hw fun x y hy => bas_1 h2 h1 (by omega) (by omega)⟩, trivial⟩
  exact ⟨nB, qB (key.1) (nB)⟩
def t_mad3 : KT := ((0, 0, 0, 0), [(2, 0, 6, 0), (1, 1, 0, 0), (1, 2, 0, 0), (1, 3, 0, 0)], [(0, 0), (0, 120), (0, 143), (0, 143)], [(456, [(2, 0, 6, 0), (1, 1, 0, 0), (1, 2, 0, 0), (1, 3, 0, 0)]), (707, [(1, 1, 0, 0), (1, 2, 0, 0), (1, 3, 0, 0)]), (708, [])], (0, 0, 0), [], [], ([], [(455, [(2, 0, 6, 0), (1, 1, 0, 1), (0, 0, 0, 0), (0, 0, 0, 0), (0, 0, 0, 0), (0, 0, 0, 0), (0, 0, 0, 0), (0, 0, 0, 0), (0, 0, 0, 0)])]), ([], []))
set_option maxRecDepth 100000 in
theorem l_mad3 (g : GG) : LOK Yt (PSt g) t_mad3 := by
  intro ρ α Γ M as hT hB hA hP
  have g0 : Γ (α 0) = 6 := tyAt hA (i := 0) rfl
  have b1 : 0 ≤ ρ 1 ∧ ρ 1 ≤ 120 := hB 1
  have b2 : 0 ≤ ρ 2 ∧ ρ 2 ≤ 143 := hB 2
  have b3 : 0 ≤ ρ 3 ∧ ρ 3 ≤ 143 := hB 3
  have h0 : Γ (α 0) = 6 ∧ (∀ q ∈ ([([(4, 9)], 0, 288)] : VSP), wkT Γ M (α 0) q.1) ∧ Q456 g (vsv M (α 0) ([(4, 9)], 0, 288)) (ρ 1 + 0) (ρ 2 + 0) (ρ 3 + 0) := hP _ (List.mem_of_getElem? (i := 0) rfl)
  have h1 : SD2 g (ρ 1 + 0 : Int) (ρ 2 + 0 : Int) (ρ 3 + 0 : Int) := hP _ (List.mem_of_getElem? (i := 1) rfl)
  have h2 : SDM g := hP _ (List.mem_of_getElem? (i := 2) rfl)
  try simp only [Int.add_zero] at h0 h1 h2
  have key : (Γ (α 0) = 6 ∧ (∀ q ∈ ([([(4, 9)], 0, 288)] : VSP), wkT Γ M (α 0) q.1) ∧ Q455 g (vsv M (α 0) ([(4, 9)], 0, 288)) (ρ 1 + 1) (0) (0) (0) (0) (0) (0) (0)) ∧ True := by
    try simp only [Int.add_zero]
    obtain ⟨t1, t2, hl, hw⟩ := h0
    exact ⟨⟨t1, t2, ⟨by omega, by omega, by decide, by decide⟩, WSP_n hw fun x y hy => bas_2 h2 h1 (by omega) (by omega)⟩, trivial⟩
  exact ⟨nB, qB (key.1) (nB)⟩
def t_mad4 : KT := ((0, 0, 0, 0), [(1, 0, 0, 0), (1, 1, 0, 0), (1, 2, 0, 0)], [(-2147483648, 2147483647), (-2147483648, 2147483647), (-2147483648, 2147483647)], [(707, [(1, 0, 0, 0), (1, 1, 0, 0), (1, 2, 0, 0)])], (0, 0, 0), [], [], ([], [(21, [(1, 1, 0, 0), (1, 2, 0, 0)])]), ([], []))
set_option maxRecDepth 100000 in
theorem l_mad4 (g : GG) : LOK Yt (PSt g) t_mad4 := by
  intro ρ α Γ M as hT hB hA hP
  have b0 : -2147483648 ≤ ρ 0 ∧ ρ 0 ≤ 2147483647 := hB 0
  have b1 : -2147483648 ≤ ρ 1 ∧ ρ 1 ≤ 2147483647 := hB 1
  have b2 : -2147483648 ≤ ρ 2 ∧ ρ 2 ≤ 2147483647 := hB 2
  have h0 : SD2 g (ρ 0 + 0 : Int) (ρ 1 + 0 : Int) (ρ 2 + 0 : Int) := hP _ (List.mem_of_getElem? (i := 0) rfl)
  try simp only [Int.add_zero] at h0
  have key : (ρ 1 + 0 < ρ 2 + 0) ∧ True := by
    try simp only [Int.add_zero]
    obtain ⟨m, -, h, -⟩ := h0
    exact ⟨h, trivial⟩
  exact ⟨nB, qB (key.1) (nB)⟩
def t_mfi0 : KT := ((0, 0, 0, 0), [(2, 0, 9, 0), (1, 1, 0, 0)], [(0, 0), (0, 0)], [], (0, 0, 0), [], [], ([], [(577, [(2, 0, 9, 0), (1, 1, 0, 0)])]), ([], []))
set_option maxRecDepth 100000 in
theorem l_mfi0 (g : GG) : LOK Yt (PSt g) t_mfi0 := by
  intro ρ α Γ M as hT hB hA hP
  have g0 : Γ (α 0) = 9 := tyAt hA (i := 0) rfl
  have b1 : 0 ≤ ρ 1 ∧ ρ 1 ≤ 0 := hB 1
  have key : (Γ (α 0) = 9 ∧ (∀ q ∈ ([([], 0, 288)] : VSP), wkT Γ M (α 0) q.1) ∧ Q577 g (vsv M (α 0) ([], 0, 288)) (ρ 1 + 0)) ∧ True := by
    try simp only [Int.add_zero]
    exact ⟨⟨g0, pic1 hT g0 (by decide) (by decide), fun j hj => by omega⟩, trivial⟩
  exact ⟨nB, qB (key.1) (nB)⟩
def t_mfi1 : KT := ((0, 0, 0, 0), [(2, 0, 9, 0), (1, 1, 0, 0)], [(0, 0), (0, 287)], [(577, [(2, 0, 9, 0), (1, 1, 0, 0)])], (0, 0, 0), [], [], ([], [(659, [(2, 0, 9, 0), (1, 1, 0, 0), (2, 0, 9, 0), (1, 1, 0, 0)])]), ([], []))
set_option maxRecDepth 100000 in
theorem l_mfi1 (g : GG) : LOK Yt (PSt g) t_mfi1 := by
  intro ρ α Γ M as hT hB hA hP
  have g0 : Γ (α 0) = 9 := tyAt hA (i := 0) rfl
  have b1 : 0 ≤ ρ 1 ∧ ρ 1 ≤ 287 := hB 1
  have h0 : Γ (α 0) = 9 ∧ (∀ q ∈ ([([], 0, 288)] : VSP), wkT Γ M (α 0) q.1) ∧ Q577 g (vsv M (α 0) ([], 0, 288)) (ρ 1 + 0) := hP _ (List.mem_of_getElem? (i := 0) rfl)
  try simp only [Int.add_zero] at h0
  have key : (Γ (α 0) = 9 ∧ wlk M (α 0) [] = (α 0) ∧ wkT Γ M (α 0) [] ∧ Γ (α 0) = 9 ∧ (∀ q ∈ ([] : VSP), wkT Γ M (α 0) q.1) ∧ Q659 g (hcl [vi (ρ 1 + 0)] (clp [(0, 288)] (M.2.2.2.2 (α 0)))) (ρ 1 + 0)  (ρ 1 + 0)) ∧ True := by
    try simp only [Int.add_zero]
    obtain ⟨t1, t2, h⟩ := h0
    refine ⟨⟨g0, rfl, trivial, t1, pic1 hT g0 (by decide) (by decide), rfl, fun j hj => ?_⟩, trivial⟩
    rw [hcl1 (by omega)]
    exact h j hj
  exact ⟨nB, qB (key.1) (nB)⟩
def t_mfi2 : KT := ((0, 0, 0, 0), [(2, 0, 9, 0), (1, 1, 0, 0), (1, 2, 0, 0)], [(0, 0), (0, 287), (0, 0)], [(659, [(2, 0, 9, 0), (1, 1, 0, 0), (2, 0, 9, 0), (1, 1, 0, 0)]), (10, [(2, 0, 9, 0), (1, 1, 0, 0), (1, 2, 0, 0)])], (0, 0, 0), [], [], ([], [(577, [(2, 0, 9, 0), (1, 1, 0, 1)])]), ([], []))
set_option maxRecDepth 100000 in
theorem l_mfi2 (g : GG) : LOK Yt (PSt g) t_mfi2 := by
  intro ρ α Γ M as hT hB hA hP
  have g0 : Γ (α 0) = 9 := tyAt hA (i := 0) rfl
  have b1 : 0 ≤ ρ 1 ∧ ρ 1 ≤ 287 := hB 1
  have b2 : 0 ≤ ρ 2 ∧ ρ 2 ≤ 0 := hB 2
  have h0 : Γ (α 0) = 9 ∧ wlk M (α 0) [] = (α 0) ∧ wkT Γ M (α 0) [] ∧ Γ (α 0) = 9 ∧ (∀ q ∈ ([] : VSP), wkT Γ M (α 0) q.1) ∧ Q659 g (hcl [vi (ρ 1 + 0)] (clp [(0, 288)] (M.2.2.2.2 (α 0)))) (ρ 1 + 0)  (ρ 1 + 0) := hP _ (List.mem_of_getElem? (i := 0) rfl)
  have h1 : 0 ≤ (ρ 1 + 0 : Int) ∧ M.2.2.2.2 (α 0) (ρ 1 + 0 : Int).toNat = ρ 2 + 0 := hP _ (List.mem_of_getElem? (i := 1) rfl)
  try simp only [Int.add_zero] at h0 h1
  have key : (Γ (α 0) = 9 ∧ (∀ q ∈ ([([], 0, 288)] : VSP), wkT Γ M (α 0) q.1) ∧ Q577 g (vsv M (α 0) ([], 0, 288)) (ρ 1 + 1)) ∧ True := by
    try simp only [Int.add_zero]
    obtain ⟨-, -, -, t1, -, -, h⟩ := h0
    refine ⟨⟨t1, pic1 hT g0 (by decide) (by decide), fun j hj => ?_⟩, trivial⟩
    show clp [(0, 288)] (M.2.2.2.2 (α 0)) j = 0
    by_cases hc : (j : Int) < ρ 1
    · have := h j hc
      rw [hcl1 (by omega)] at this
      exact this
    · rw [show j = (ρ 1).toNat by omega, cAll (by omega)]
      exact h1.2.trans (by omega)
  exact ⟨nB, qB (key.1) (nB)⟩
def t_mfi3 : KT := ((0, 0, 0, 0), [(2, 0, 9, 0), (1, 1, 0, 0), (1, 2, 0, 0)], [(0, 0), (-2147483648, 2147483647), (288, 288)], [(577, [(2, 0, 9, 0), (1, 1, 0, 0)]), (6, [(1, 2, 0, 0), (1, 1, 0, 0)])], (0, 0, 0), [], [], ([], [(577, [(2, 0, 9, 0), (0, 0, 0, 288)])]), ([], []))
set_option maxRecDepth 100000 in
theorem l_mfi3 (g : GG) : LOK Yt (PSt g) t_mfi3 := by
  intro ρ α Γ M as hT hB hA hP
  have g0 : Γ (α 0) = 9 := tyAt hA (i := 0) rfl
  have b1 : -2147483648 ≤ ρ 1 ∧ ρ 1 ≤ 2147483647 := hB 1
  have b2 : 288 ≤ ρ 2 ∧ ρ 2 ≤ 288 := hB 2
  have h0 : Γ (α 0) = 9 ∧ (∀ q ∈ ([([], 0, 288)] : VSP), wkT Γ M (α 0) q.1) ∧ Q577 g (vsv M (α 0) ([], 0, 288)) (ρ 1 + 0) := hP _ (List.mem_of_getElem? (i := 0) rfl)
  have h1 : ρ 2 + 0 ≤ ρ 1 + 0 := hP _ (List.mem_of_getElem? (i := 1) rfl)
  try simp only [Int.add_zero] at h0 h1
  have key : (Γ (α 0) = 9 ∧ (∀ q ∈ ([([], 0, 288)] : VSP), wkT Γ M (α 0) q.1) ∧ Q577 g (vsv M (α 0) ([], 0, 288)) (288)) ∧ True := by
    try simp only [Int.add_zero]
    obtain ⟨t1, t2, h⟩ := h0
    exact ⟨⟨t1, t2, fun j hj => h j (by omega)⟩, trivial⟩
  exact ⟨nB, qB (key.1) (nB)⟩
def t_mjc0 : KT := ((0, 0, 0, 0), [(2, 0, 6, 0), (2, 1, 9, 0), (1, 2, 0, 0)], [(0, 0), (0, 0), (288, 288)], [(577, [(2, 1, 9, 0), (1, 2, 0, 0)]), (11, [(2, 0, 6, 0), (0, 0, 0, 4), (2, 1, 9, 0)]), (10, [(2, 0, 6, 0), (0, 0, 0, 0), (0, 0, 0, 0)]), (10, [(2, 0, 6, 0), (0, 0, 0, 1), (0, 0, 0, 0)])], (0, 0, 0), [], [], ([], [(574, [(2, 0, 6, 0)])]), ([], []))
set_option maxRecDepth 100000 in
theorem l_mjc0 (g : GG) : LOK Yt (PSt g) t_mjc0 := by
  intro ρ α Γ M as hT hB hA hP
  have g0 : Γ (α 0) = 6 := tyAt hA (i := 0) rfl
  have g1 : Γ (α 1) = 9 := tyAt hA (i := 1) rfl
  have b2 : 288 ≤ ρ 2 ∧ ρ 2 ≤ 288 := hB 2
  have h0 : Γ (α 1) = 9 ∧ (∀ q ∈ ([([], 0, 288)] : VSP), wkT Γ M (α 1) q.1) ∧ Q577 g (vsv M (α 1) ([], 0, 288)) (ρ 2 + 0) := hP _ (List.mem_of_getElem? (i := 0) rfl)
  have h1 : 0 ≤ (4 : Int) ∧ M.2.2.2.1 (α 0) (4 : Int).toNat = some (α 1) := hP _ (List.mem_of_getElem? (i := 1) rfl)
  have h2 : 0 ≤ (0 : Int) ∧ M.2.2.2.2 (α 0) (0 : Int).toNat = 0 := hP _ (List.mem_of_getElem? (i := 2) rfl)
  have h3 : 0 ≤ (1 : Int) ∧ M.2.2.2.2 (α 0) (1 : Int).toNat = 0 := hP _ (List.mem_of_getElem? (i := 3) rfl)
  try simp only [Int.add_zero] at h0 h1 h2 h3
  have key : (Γ (α 0) = 6 ∧ (∀ q ∈ ([([], 0, 2), ([(4, 9)], 0, 288)] : VSP), wkT Γ M (α 0) q.1) ∧ Q574 g (vsv M (α 0) ([], 0, 2)) (vsv M (α 0) ([(4, 9)], 0, 288)) ) ∧ True := by
    try simp only [Int.add_zero]
    obtain ⟨-, -, h⟩ := h0
    have fe : fl M (α 0) 4 = α 1 := fl_eq (show M.2.2.2.1 (α 0) 4 = some (α 1) from h1.2)
    refine ⟨⟨g0, pic1 hT g0 (by decide) (by decide), (vs0 (by decide) (by decide)).trans h2.2, (vs0 (by decide) (by decide)).trans h3.2, fun j hj => ?_⟩, trivial⟩
    show clp [(0, 288)] (M.2.2.2.2 (fl M (α 0) 4)) j = 0
    rw [fe]
    exact h j (by omega)
  exact ⟨nB, qB (key.1) (nB)⟩
def t_mtl0 : KT := ((0, 0, 0, 0), [(2, 0, 6, 0), (1, 1, 0, 0)], [(0, 0), (-2147483648, 2147483647)], [(574, [(2, 0, 6, 0)])], (0, 0, 0), [], [], ([], [(455, [(2, 0, 6, 0), (0, 0, 0, 0), (0, 0, 0, 0), (0, 0, 0, 0), (0, 0, 0, 0), (0, 0, 0, 0), (0, 0, 0, 0), (0, 0, 0, 0), (0, 0, 0, 0)]), (573, [(2, 0, 6, 0), (0, 0, 0, 0)])]), ([], []))
set_option maxRecDepth 100000 in
theorem l_mtl0 (g : GG) : LOK Yt (PSt g) t_mtl0 := by
  intro ρ α Γ M as hT hB hA hP
  have g0 : Γ (α 0) = 6 := tyAt hA (i := 0) rfl
  have b1 : -2147483648 ≤ ρ 1 ∧ ρ 1 ≤ 2147483647 := hB 1
  have h0 : Γ (α 0) = 6 ∧ (∀ q ∈ ([([], 0, 2), ([(4, 9)], 0, 288)] : VSP), wkT Γ M (α 0) q.1) ∧ Q574 g (vsv M (α 0) ([], 0, 2)) (vsv M (α 0) ([(4, 9)], 0, 288))  := hP _ (List.mem_of_getElem? (i := 0) rfl)
  try simp only [Int.add_zero] at h0
  have key : (Γ (α 0) = 6 ∧ (∀ q ∈ ([([(4, 9)], 0, 288)] : VSP), wkT Γ M (α 0) q.1) ∧ Q455 g (vsv M (α 0) ([(4, 9)], 0, 288)) (0) (0) (0) (0) (0) (0) (0) (0)) ∧ (Γ (α 0) = 6 ∧ (∀ q ∈ ([([], 0, 2)] : VSP), wkT Γ M (α 0) q.1) ∧ Q573 g (vsv M (α 0) ([], 0, 2)) (0)) ∧ True := by
    try simp only [Int.add_zero]
    obtain ⟨t1, t2, h, -, hz⟩ := h0
    refine ⟨⟨t1, pic1 hT g0 (by decide) (by decide), ⟨by decide, by decide, by decide, by decide⟩, WS_0 fun j hj => hz j hj⟩, ⟨t1, pic1 hT g0 (by decide) (by decide), Int.le_of_eq h⟩, trivial⟩
  exact ⟨nB, qB (key.1) (qB (key.2.1) (nB))⟩
def t_mtl1 : KT := ((0, 0, 0, 0), [(2, 0, 21, 0), (2, 1, 22, 0), (1, 2, 0, 0), (1, 3, 0, 0), (1, 4, 0, 0)], [(0, 0), (0, 0), (0, 120), (-2147483648, 2147483647), (-1, -1)], [(571, [(2, 0, 21, 0)]), (11, [(2, 0, 21, 0), (0, 0, 0, 1), (2, 1, 22, 0)]), (10, [(2, 1, 22, 0), (1, 2, 0, 0), (1, 3, 0, 0)]), (547, [(2, 0, 21, 0), (1, 2, 0, 0), (1, 4, 0, 0)]), (708, [])], (0, 0, 0), [], [], ([], [(706, [(1, 2, 0, 0), (1, 3, 0, 0)])]), ([], []))
set_option maxRecDepth 100000 in
theorem l_mtl1 (g : GG) : LOK Yt (PSt g) t_mtl1 := by
  intro ρ α Γ M as hT hB hA hP
  have g0 : Γ (α 0) = 21 := tyAt hA (i := 0) rfl
  have g1 : Γ (α 1) = 22 := tyAt hA (i := 1) rfl
  have b2 : 0 ≤ ρ 2 ∧ ρ 2 ≤ 120 := hB 2
  have b3 : -2147483648 ≤ ρ 3 ∧ ρ 3 ≤ 2147483647 := hB 3
  have b4 : -1 ≤ ρ 4 ∧ ρ 4 ≤ -1 := hB 4
  have h0 : Γ (α 0) = 21 ∧ (∀ q ∈ ([([], 0, 1), ([(1, 22)], 0, 121), ([(3, 24)], 0, 121), ([(2, 23)], 0, 121)] : VSP), wkT Γ M (α 0) q.1) ∧ Q571 g (vsv M (α 0) ([], 0, 1)) (vsv M (α 0) ([(1, 22)], 0, 121)) (vsv M (α 0) ([(3, 24)], 0, 121)) (vsv M (α 0) ([(2, 23)], 0, 121))  := hP _ (List.mem_of_getElem? (i := 0) rfl)
  have h1 : 0 ≤ (1 : Int) ∧ M.2.2.2.1 (α 0) (1 : Int).toNat = some (α 1) := hP _ (List.mem_of_getElem? (i := 1) rfl)
  have h2 : 0 ≤ (ρ 2 + 0 : Int) ∧ M.2.2.2.2 (α 1) (ρ 2 + 0 : Int).toNat = ρ 3 + 0 := hP _ (List.mem_of_getElem? (i := 2) rfl)
  have h3 : Γ (α 0) = 21 ∧ (∀ q ∈ ([([], 0, 1), ([(3, 24)], 0, 121)] : VSP), wkT Γ M (α 0) q.1) ∧ Q547 g (vsv M (α 0) ([], 0, 1)) (vsv M (α 0) ([(3, 24)], 0, 121)) (ρ 2 + 0) (ρ 4 + 0) := hP _ (List.mem_of_getElem? (i := 3) rfl)
  have h4 : SDM g := hP _ (List.mem_of_getElem? (i := 4) rfl)
  try simp only [Int.add_zero] at h0 h1 h2 h3 h4
  have key : (SD1 g (ρ 2 + 0 : Int) (ρ 3 + 0 : Int)) ∧ True := by
    try simp only [Int.add_zero]
    have fe : fl M (α 0) 1 = α 1 := fl_eq (show M.2.2.2.1 (α 0) 1 = some (α 1) from h1.2)
    
    obtain ⟨-, -, hk, hi, h⟩ := h0
    obtain ⟨-, -, hb, hv⟩ := h3
    have hk : (vsv M (α 0) ([], 0, 1)) 0 = zK g := hk
    have hb : 0 ≤ ρ 2 ∧ ρ 2 < (vsv M (α 0) ([], 0, 1)) 0 := hb
    have hv : (vsv M (α 0) ([(3, 24)], 0, 121)) (ρ 2).toNat = ρ 4 := hv
    obtain ⟨q1, q2, -⟩ := h (ρ 2).toNat (by omega)
    have q1 : clp [(0, 121)] (M.2.2.2.2 (fl M (α 0) 1)) (ρ 2).toNat = _ := q1
    rw [fe, cAll (by omega), h2.2] at q1
    have q2 := hv.symm.trans q2
    exact ⟨⟨⟨hb.1, by omega⟩, q1.symm, by omega⟩, trivial⟩
  exact ⟨nB, qB (key.1) (nB)⟩
def t_mtl2 : KT := ((0, 0, 0, 0), [(2, 0, 21, 0), (2, 1, 22, 0), (1, 2, 0, 0), (1, 3, 0, 0), (1, 4, 0, 0), (1, 5, 0, 0)], [(0, 0), (0, 0), (0, 120), (-2147483648, 2147483647), (0, 120), (-2147483648, 2147483647)], [(571, [(2, 0, 21, 0)]), (11, [(2, 0, 21, 0), (0, 0, 0, 1), (2, 1, 22, 0)]), (10, [(2, 1, 22, 0), (1, 2, 0, 0), (1, 3, 0, 0)]), (10, [(2, 1, 22, 0), (1, 4, 0, 0), (1, 5, 0, 0)]), (547, [(2, 0, 21, 0), (1, 2, 0, 0), (1, 4, 0, 0)]), (708, []), (21, [(1, 2, 0, 0), (1, 4, 0, 0)])], (0, 0, 0), [], [], ([], [(707, [(1, 2, 0, 0), (1, 3, 0, 0), (1, 5, 0, 0)])]), ([], []))
set_option maxRecDepth 100000 in
theorem l_mtl2 (g : GG) : LOK Yt (PSt g) t_mtl2 := by
  intro ρ α Γ M as hT hB hA hP
  have g0 : Γ (α 0) = 21 := tyAt hA (i := 0) rfl
  have g1 : Γ (α 1) = 22 := tyAt hA (i := 1) rfl
  have b2 : 0 ≤ ρ 2 ∧ ρ 2 ≤ 120 := hB 2
  have b3 : -2147483648 ≤ ρ 3 ∧ ρ 3 ≤ 2147483647 := hB 3
  have b4 : 0 ≤ ρ 4 ∧ ρ 4 ≤ 120 := hB 4
  have b5 : -2147483648 ≤ ρ 5 ∧ ρ 5 ≤ 2147483647 := hB 5
  have h0 : Γ (α 0) = 21 ∧ (∀ q ∈ ([([], 0, 1), ([(1, 22)], 0, 121), ([(3, 24)], 0, 121), ([(2, 23)], 0, 121)] : VSP), wkT Γ M (α 0) q.1) ∧ Q571 g (vsv M (α 0) ([], 0, 1)) (vsv M (α 0) ([(1, 22)], 0, 121)) (vsv M (α 0) ([(3, 24)], 0, 121)) (vsv M (α 0) ([(2, 23)], 0, 121))  := hP _ (List.mem_of_getElem? (i := 0) rfl)
  have h1 : 0 ≤ (1 : Int) ∧ M.2.2.2.1 (α 0) (1 : Int).toNat = some (α 1) := hP _ (List.mem_of_getElem? (i := 1) rfl)
  have h2 : 0 ≤ (ρ 2 + 0 : Int) ∧ M.2.2.2.2 (α 1) (ρ 2 + 0 : Int).toNat = ρ 3 + 0 := hP _ (List.mem_of_getElem? (i := 2) rfl)
  have h3 : 0 ≤ (ρ 4 + 0 : Int) ∧ M.2.2.2.2 (α 1) (ρ 4 + 0 : Int).toNat = ρ 5 + 0 := hP _ (List.mem_of_getElem? (i := 3) rfl)
  have h4 : Γ (α 0) = 21 ∧ (∀ q ∈ ([([], 0, 1), ([(3, 24)], 0, 121)] : VSP), wkT Γ M (α 0) q.1) ∧ Q547 g (vsv M (α 0) ([], 0, 1)) (vsv M (α 0) ([(3, 24)], 0, 121)) (ρ 2 + 0) (ρ 4 + 0) := hP _ (List.mem_of_getElem? (i := 4) rfl)
  have h5 : SDM g := hP _ (List.mem_of_getElem? (i := 5) rfl)
  have h6 : ρ 2 + 0 < ρ 4 + 0 := hP _ (List.mem_of_getElem? (i := 6) rfl)
  try simp only [Int.add_zero] at h0 h1 h2 h3 h4 h5 h6
  have key : (SD2 g (ρ 2 + 0 : Int) (ρ 3 + 0 : Int) (ρ 5 + 0 : Int)) ∧ True := by
    try simp only [Int.add_zero]
    have fe : fl M (α 0) 1 = α 1 := fl_eq (show M.2.2.2.1 (α 0) 1 = some (α 1) from h1.2)
    
    obtain ⟨-, -, hk, hi, h⟩ := h0
    obtain ⟨-, -, hb, hv⟩ := h4
    have hk : (vsv M (α 0) ([], 0, 1)) 0 = zK g := hk
    have hb : 0 ≤ ρ 2 ∧ ρ 2 < (vsv M (α 0) ([], 0, 1)) 0 := hb
    have hv : (vsv M (α 0) ([(3, 24)], 0, 121)) (ρ 2).toNat = ρ 4 := hv
    obtain ⟨q1, q2, -⟩ := h (ρ 2).toNat (by omega)
    have q1 : clp [(0, 121)] (M.2.2.2.2 (fl M (α 0) 1)) (ρ 2).toNat = _ := q1
    rw [fe, cAll (by omega), h2.2] at q1
    have q2 := hv.symm.trans q2
    refine ⟨SD2_of h5 hi ⟨hb.1, by omega⟩ q1.symm q2.symm h6 fun m hm hm2 => ?_, trivial⟩
    have q3 : clp [(0, 121)] (M.2.2.2.2 (fl M (α 0) 1)) m = _ := (h m hm2).1
    rw [fe, cAll (by omega), show m = (ρ 4).toNat by omega, h3.2] at q3
    rw [show m = (ρ 4).toNat by omega]
    exact q3.symm
  exact ⟨nB, qB (key.1) (nB)⟩
def t_mtl5 : KT := ((0, 0, 0, 0), [(2, 0, 21, 0), (2, 1, 6, 0), (1, 2, 0, 0), (1, 3, 0, 0)], [(0, 0), (0, 0), (0, 120), (-2147483648, 2147483647)], [(455, [(2, 1, 6, 0), (1, 2, 0, 0), (0, 0, 0, 0), (0, 0, 0, 0), (0, 0, 0, 0), (0, 0, 0, 0), (0, 0, 0, 0), (0, 0, 0, 0), (0, 0, 0, 0)]), (573, [(2, 1, 6, 0), (1, 2, 0, 0)]), (571, [(2, 0, 21, 0)]), (708, []), (547, [(2, 0, 21, 0), (1, 2, 0, 0), (1, 3, 0, 0)]), (99, [(1, 3, 0, 0), (0, 0, 0, -1), (0, 0, 0, 0)]), (6, [(1, 3, 0, 0), (1, 2, 0, 0)])], (0, 0, 0), [], [], ([], [(455, [(2, 1, 6, 0), (1, 2, 0, 1), (0, 0, 0, 0), (0, 0, 0, 0), (0, 0, 0, 0), (0, 0, 0, 0), (0, 0, 0, 0), (0, 0, 0, 0), (0, 0, 0, 0)]), (573, [(2, 1, 6, 0), (1, 2, 0, 1)])]), ([], []))
set_option maxRecDepth 100000 in
theorem l_mtl5 (g : GG) : LOK Yt (PSt g) t_mtl5 := by
  intro ρ α Γ M as hT hB hA hP
  have g0 : Γ (α 0) = 21 := tyAt hA (i := 0) rfl
  have g1 : Γ (α 1) = 6 := tyAt hA (i := 1) rfl
  have b2 : 0 ≤ ρ 2 ∧ ρ 2 ≤ 120 := hB 2
  have b3 : -2147483648 ≤ ρ 3 ∧ ρ 3 ≤ 2147483647 := hB 3
  have h0 : Γ (α 1) = 6 ∧ (∀ q ∈ ([([(4, 9)], 0, 288)] : VSP), wkT Γ M (α 1) q.1) ∧ Q455 g (vsv M (α 1) ([(4, 9)], 0, 288)) (ρ 2 + 0) (0) (0) (0) (0) (0) (0) (0) := hP _ (List.mem_of_getElem? (i := 0) rfl)
  have h1 : Γ (α 1) = 6 ∧ (∀ q ∈ ([([], 0, 2)] : VSP), wkT Γ M (α 1) q.1) ∧ Q573 g (vsv M (α 1) ([], 0, 2)) (ρ 2 + 0) := hP _ (List.mem_of_getElem? (i := 1) rfl)
  have h2 : Γ (α 0) = 21 ∧ (∀ q ∈ ([([], 0, 1), ([(1, 22)], 0, 121), ([(3, 24)], 0, 121), ([(2, 23)], 0, 121)] : VSP), wkT Γ M (α 0) q.1) ∧ Q571 g (vsv M (α 0) ([], 0, 1)) (vsv M (α 0) ([(1, 22)], 0, 121)) (vsv M (α 0) ([(3, 24)], 0, 121)) (vsv M (α 0) ([(2, 23)], 0, 121))  := hP _ (List.mem_of_getElem? (i := 2) rfl)
  have h3 : SDM g := hP _ (List.mem_of_getElem? (i := 3) rfl)
  have h4 : Γ (α 0) = 21 ∧ (∀ q ∈ ([([], 0, 1), ([(3, 24)], 0, 121)] : VSP), wkT Γ M (α 0) q.1) ∧ Q547 g (vsv M (α 0) ([], 0, 1)) (vsv M (α 0) ([(3, 24)], 0, 121)) (ρ 2 + 0) (ρ 3 + 0) := hP _ (List.mem_of_getElem? (i := 4) rfl)
  have h5 : (ρ 3 + 0 : Int) ≠ (-1) := hP _ (List.mem_of_getElem? (i := 5) rfl)
  have h6 : ρ 3 + 0 ≤ ρ 2 + 0 := hP _ (List.mem_of_getElem? (i := 6) rfl)
  try simp only [Int.add_zero] at h0 h1 h2 h3 h4 h5 h6
  have key : (Γ (α 1) = 6 ∧ (∀ q ∈ ([([(4, 9)], 0, 288)] : VSP), wkT Γ M (α 1) q.1) ∧ Q455 g (vsv M (α 1) ([(4, 9)], 0, 288)) (ρ 2 + 1) (0) (0) (0) (0) (0) (0) (0)) ∧ (Γ (α 1) = 6 ∧ (∀ q ∈ ([([], 0, 2)] : VSP), wkT Γ M (α 1) q.1) ∧ Q573 g (vsv M (α 1) ([], 0, 2)) (ρ 2 + 1)) ∧ True := by
    try simp only [Int.add_zero]
    obtain ⟨t1, t2, hl, hw⟩ := h0
    obtain ⟨-, -, hj⟩ := h1
    obtain ⟨-, -, hk, hi, h⟩ := h2
    obtain ⟨-, -, hb, hv⟩ := h4
    have hk : (vsv M (α 0) ([], 0, 1)) 0 = zK g := hk
    have hb : 0 ≤ ρ 2 ∧ ρ 2 < (vsv M (α 0) ([], 0, 1)) 0 := hb
    have q2 := (h (ρ 2).toNat (by omega)).2.1
    have q2 := hv.symm.trans q2
    exact ⟨⟨t1, t2, ⟨by omega, by omega, by decide, by decide⟩, WS_skip h3 ⟨hb.1, by omega⟩ ⟨q2.symm, h5⟩ h6 hw⟩, ⟨t1, pic1 hT g1 (by decide) (by decide), Int.le_trans hj (by omega)⟩, trivial⟩
  exact ⟨nB, qB (key.1) (qB (key.2.1) (nB))⟩
def t_mtl6 : KT := ((0, 0, 0, 0), [(2, 0, 21, 0), (1, 1, 0, 0), (1, 2, 0, 0), (1, 3, 0, 0)], [(0, 0), (-2147483648, 2147483647), (-2147483648, 2147483647), (-2147483648, 2147483647)], [(571, [(2, 0, 21, 0)]), (708, []), (547, [(2, 0, 21, 0), (1, 1, 0, 0), (1, 2, 0, 0)]), (99, [(1, 2, 0, 0), (0, 0, 0, -1), (0, 0, 0, 0)]), (6, [(1, 3, 0, 0), (1, 2, 0, 0)]), (10, [(2, 0, 21, 0), (0, 0, 0, 0), (1, 3, 0, 0)])], (0, 0, 0), [], [], ([(2, 1, 0)], []), ([], []))
set_option maxRecDepth 100000 in
theorem l_mtl6 (g : GG) : LOK Yt (PSt g) t_mtl6 := by
  intro ρ α Γ M as hT hB hA hP
  have g0 : Γ (α 0) = 21 := tyAt hA (i := 0) rfl
  have b1 : -2147483648 ≤ ρ 1 ∧ ρ 1 ≤ 2147483647 := hB 1
  have b2 : -2147483648 ≤ ρ 2 ∧ ρ 2 ≤ 2147483647 := hB 2
  have b3 : -2147483648 ≤ ρ 3 ∧ ρ 3 ≤ 2147483647 := hB 3
  have h0 : Γ (α 0) = 21 ∧ (∀ q ∈ ([([], 0, 1), ([(1, 22)], 0, 121), ([(3, 24)], 0, 121), ([(2, 23)], 0, 121)] : VSP), wkT Γ M (α 0) q.1) ∧ Q571 g (vsv M (α 0) ([], 0, 1)) (vsv M (α 0) ([(1, 22)], 0, 121)) (vsv M (α 0) ([(3, 24)], 0, 121)) (vsv M (α 0) ([(2, 23)], 0, 121))  := hP _ (List.mem_of_getElem? (i := 0) rfl)
  have h1 : SDM g := hP _ (List.mem_of_getElem? (i := 1) rfl)
  have h2 : Γ (α 0) = 21 ∧ (∀ q ∈ ([([], 0, 1), ([(3, 24)], 0, 121)] : VSP), wkT Γ M (α 0) q.1) ∧ Q547 g (vsv M (α 0) ([], 0, 1)) (vsv M (α 0) ([(3, 24)], 0, 121)) (ρ 1 + 0) (ρ 2 + 0) := hP _ (List.mem_of_getElem? (i := 2) rfl)
  have h3 : (ρ 2 + 0 : Int) ≠ (-1) := hP _ (List.mem_of_getElem? (i := 3) rfl)
  have h4 : ρ 3 + 0 ≤ ρ 2 + 0 := hP _ (List.mem_of_getElem? (i := 4) rfl)
  have h5 : 0 ≤ (0 : Int) ∧ M.2.2.2.2 (α 0) (0 : Int).toNat = ρ 3 + 0 := hP _ (List.mem_of_getElem? (i := 5) rfl)
  try simp only [Int.add_zero] at h0 h1 h2 h3 h4 h5
  have key : (1 ≤ ρ 2 ∧ ρ 2 ≤ 0) ∧ True := by
    try simp only [Int.add_zero]
    have ek : (vsv M (α 0) ([], 0, 1)) 0 = ρ 3 := (vs0 (by decide) (by decide)).trans h5.2
    
    obtain ⟨-, -, hk, hi, h⟩ := h0
    obtain ⟨-, -, hb, hv⟩ := h2
    have hk : (vsv M (α 0) ([], 0, 1)) 0 = zK g := hk
    have hb : 0 ≤ ρ 1 ∧ ρ 1 < (vsv M (α 0) ([], 0, 1)) 0 := hb
    have q2 := hv.symm.trans (h (ρ 1).toNat (by omega)).2.1
    rcases h1.2 (ρ 1).toNat (by omega) with q | ⟨m, m1, -, m3, -⟩
    · omega
    · omega
  exact ⟨qB (key.1) (nB), nB⟩
def t_mtl7 : KT := ((0, 0, 0, 0), [(2, 0, 21, 0), (2, 1, 6, 0), (1, 2, 0, 0), (1, 3, 0, 0)], [(0, 0), (0, 0), (-2147483648, 2147483647), (-2147483648, 2147483647)], [(455, [(2, 1, 6, 0), (1, 2, 0, 0), (0, 0, 0, 0), (0, 0, 0, 0), (0, 0, 0, 0), (0, 0, 0, 0), (0, 0, 0, 0), (0, 0, 0, 0), (0, 0, 0, 0)]), (571, [(2, 0, 21, 0)]), (10, [(2, 0, 21, 0), (0, 0, 0, 0), (1, 3, 0, 0)]), (6, [(1, 3, 0, 0), (1, 2, 0, 0)])], (0, 0, 0), [], [], ([], [(575, [(2, 1, 6, 0)])]), ([], []))
set_option maxRecDepth 100000 in
theorem l_mtl7 (g : GG) : LOK Yt (PSt g) t_mtl7 := by
  intro ρ α Γ M as hT hB hA hP
  have g0 : Γ (α 0) = 21 := tyAt hA (i := 0) rfl
  have g1 : Γ (α 1) = 6 := tyAt hA (i := 1) rfl
  have b2 : -2147483648 ≤ ρ 2 ∧ ρ 2 ≤ 2147483647 := hB 2
  have b3 : -2147483648 ≤ ρ 3 ∧ ρ 3 ≤ 2147483647 := hB 3
  have h0 : Γ (α 1) = 6 ∧ (∀ q ∈ ([([(4, 9)], 0, 288)] : VSP), wkT Γ M (α 1) q.1) ∧ Q455 g (vsv M (α 1) ([(4, 9)], 0, 288)) (ρ 2 + 0) (0) (0) (0) (0) (0) (0) (0) := hP _ (List.mem_of_getElem? (i := 0) rfl)
  have h1 : Γ (α 0) = 21 ∧ (∀ q ∈ ([([], 0, 1), ([(1, 22)], 0, 121), ([(3, 24)], 0, 121), ([(2, 23)], 0, 121)] : VSP), wkT Γ M (α 0) q.1) ∧ Q571 g (vsv M (α 0) ([], 0, 1)) (vsv M (α 0) ([(1, 22)], 0, 121)) (vsv M (α 0) ([(3, 24)], 0, 121)) (vsv M (α 0) ([(2, 23)], 0, 121))  := hP _ (List.mem_of_getElem? (i := 1) rfl)
  have h2 : 0 ≤ (0 : Int) ∧ M.2.2.2.2 (α 0) (0 : Int).toNat = ρ 3 + 0 := hP _ (List.mem_of_getElem? (i := 2) rfl)
  have h3 : ρ 3 + 0 ≤ ρ 2 + 0 := hP _ (List.mem_of_getElem? (i := 3) rfl)
  try simp only [Int.add_zero] at h0 h1 h2 h3
  have key : (Γ (α 1) = 6 ∧ (∀ q ∈ ([([(4, 9)], 0, 288)] : VSP), wkT Γ M (α 1) q.1) ∧ Q575 g (vsv M (α 1) ([(4, 9)], 0, 288)) ) ∧ True := by
    try simp only [Int.add_zero]
    have ek : (vsv M (α 0) ([], 0, 1)) 0 = ρ 3 := (vs0 (by decide) (by decide)).trans h2.2
    
    obtain ⟨t1, t2, hl, hw⟩ := h0
    obtain ⟨-, -, hk, hi, h⟩ := h1
    have hk : (vsv M (α 0) ([], 0, 1)) 0 = zK g := hk
    exact ⟨⟨t1, t2, WSA_of hw (by omega)⟩, trivial⟩
  exact ⟨nB, qB (key.1) (nB)⟩
def t_mjn0 : KT := ((0, 0, 0, 0), [(2, 0, 21, 0), (2, 1, 1, 0), (2, 2, 6, 0)], [(0, 0), (0, 0), (0, 0)], [(511, [(2, 0, 21, 0), (2, 1, 1, 0)]), (571, [(2, 0, 21, 0)]), (572, [(2, 1, 1, 0)]), (575, [(2, 2, 6, 0)])], (0, 0, 0), [], [], ([], [(580, [(2, 1, 1, 0), (2, 2, 6, 0)])]), ([], []))
set_option maxRecDepth 100000 in
theorem l_mjn0 (g : GG) : LOK Yt (PSt g) t_mjn0 := by
  intro ρ α Γ M as hT hB hA hP
  have g0 : Γ (α 0) = 21 := tyAt hA (i := 0) rfl
  have g1 : Γ (α 1) = 1 := tyAt hA (i := 1) rfl
  have g2 : Γ (α 2) = 6 := tyAt hA (i := 2) rfl
  have h0 : Γ (α 0) = 21 ∧ (∀ q ∈ ([([], 0, 1), ([(1, 22)], 0, 121), ([(2, 23)], 0, 121)] : VSP), wkT Γ M (α 0) q.1) ∧ Γ (α 1) = 1 ∧ (∀ q ∈ ([([], 0, 2), ([(2, 2)], 0, 144)] : VSP), wkT Γ M (α 1) q.1) ∧ Q511 g (vsv M (α 0) ([], 0, 1)) (vsv M (α 0) ([(1, 22)], 0, 121)) (vsv M (α 0) ([(2, 23)], 0, 121)) (vsv M (α 1) ([], 0, 2)) (vsv M (α 1) ([(2, 2)], 0, 144))  := hP _ (List.mem_of_getElem? (i := 0) rfl)
  have h1 : Γ (α 0) = 21 ∧ (∀ q ∈ ([([], 0, 1), ([(1, 22)], 0, 121), ([(3, 24)], 0, 121), ([(2, 23)], 0, 121)] : VSP), wkT Γ M (α 0) q.1) ∧ Q571 g (vsv M (α 0) ([], 0, 1)) (vsv M (α 0) ([(1, 22)], 0, 121)) (vsv M (α 0) ([(3, 24)], 0, 121)) (vsv M (α 0) ([(2, 23)], 0, 121))  := hP _ (List.mem_of_getElem? (i := 1) rfl)
  have h2 : Γ (α 1) = 1 ∧ (∀ q ∈ ([([], 0, 2)] : VSP), wkT Γ M (α 1) q.1) ∧ Q572 g (vsv M (α 1) ([], 0, 2))  := hP _ (List.mem_of_getElem? (i := 2) rfl)
  have h3 : Γ (α 2) = 6 ∧ (∀ q ∈ ([([(4, 9)], 0, 288)] : VSP), wkT Γ M (α 2) q.1) ∧ Q575 g (vsv M (α 2) ([(4, 9)], 0, 288))  := hP _ (List.mem_of_getElem? (i := 3) rfl)
  try simp only [Int.add_zero] at h0 h1 h2 h3
  have key : (Γ (α 1) = 1 ∧ (∀ q ∈ ([([], 0, 2), ([(2, 2)], 0, 144)] : VSP), wkT Γ M (α 1) q.1) ∧ Γ (α 2) = 6 ∧ (∀ q ∈ ([([(4, 9)], 0, 288)] : VSP), wkT Γ M (α 2) q.1) ∧ Q580 g (vsv M (α 1) ([], 0, 2)) (vsv M (α 1) ([(2, 2)], 0, 144)) (vsv M (α 2) ([(4, 9)], 0, 288)) ) ∧ True := by
    try simp only [Int.add_zero]
    obtain ⟨hr, hc⟩ := ch_dims hT g1
    have e0 : vsv M (α 1) ([], 0, 2) 0 = M.2.2.2.2 (α 1) 0 := vs0 (by decide) (by decide)
    have e1 : vsv M (α 1) ([], 0, 2) 1 = M.2.2.2.2 (α 1) 1 := vs0 (by decide) (by decide)
    
    obtain ⟨-, -, -, -, ht⟩ := h0
    obtain ⟨-, -, hk, hi, h⟩ := h1
    obtain ⟨-, -, hR, hC⟩ := h2
    obtain ⟨-, -, hw⟩ := h3
    refine ⟨⟨g1, pic1 hT g1 (by decide) (by decide), g2, pic1 hT g2 (by decide) (by decide), JNF_of ht hR hC hk (fun i hi2 => ?_) (fun r c hr2 hc2 => ?_) hw⟩, trivial⟩
    · have hi3 : (i : Int) < zK g := hk ▸ hi2
      exact ⟨(h i hi3).1, (h i hi3).2.2⟩
    · exact rgP_of (by omega) hr2 hc2
  exact ⟨nB, qB (key.1) (nB)⟩
def t_nof_c : KT := ((0, 0, 0, 0), [(2, 0, 26, 0), (1, 1, 0, 0), (1, 2, 0, 0), (1, 3, 0, 0), (1, 4, 0, 0), (1, 5, 0, 0)], [(0, 0), (144, 144), (0, 143), (0, 143), (0, 144), (0, 4)], [(451, [(2, 0, 26, 0), (1, 4, 0, 0), (1, 5, 0, 0), (1, 3, 0, 0)]), (720, [(1, 2, 0, 0), (1, 3, 0, 0)]), (10, [(2, 0, 26, 0), (0, 0, 0, 4), (1, 1, 0, 0)])], (0, 0, 0), [], [], ([(1, 1, 0)], []), ([], []))
set_option maxRecDepth 100000 in
theorem l_nof_c (g : GG) : LOK Yt (PSt g) t_nof_c := by
  intro ρ α Γ M as hT hB hA hP
  have g0 : Γ (α 0) = 26 := tyAt hA (i := 0) rfl
  have b1 : 144 ≤ ρ 1 ∧ ρ 1 ≤ 144 := hB 1
  have b2 : 0 ≤ ρ 2 ∧ ρ 2 ≤ 143 := hB 2
  have b3 : 0 ≤ ρ 3 ∧ ρ 3 ≤ 143 := hB 3
  have b4 : 0 ≤ ρ 4 ∧ ρ 4 ≤ 144 := hB 4
  have b5 : 0 ≤ ρ 5 ∧ ρ 5 ≤ 4 := hB 5
  have h0 : Γ (α 0) = 26 ∧ (∀ q ∈ ([([(1, 28)], 0, 144), ([(3, 30)], 0, 144), ([], 4, 5)] : VSP), wkT Γ M (α 0) q.1) ∧ Q451 g (vsv M (α 0) ([(1, 28)], 0, 144)) (vsv M (α 0) ([(3, 30)], 0, 144)) (vsv M (α 0) ([], 4, 5)) (ρ 4 + 0) (ρ 5 + 0) (ρ 3 + 0) := hP _ (List.mem_of_getElem? (i := 0) rfl)
  have h1 : ((2 ≤ zR g ∧ zR g ≤ 9) ∧ 2 ≤ zC g ∧ zC g ≤ 9) ∧ ((0 ≤ (ρ 2 + 0 : Int) ∧ (ρ 2 + 0 : Int) < zR g * zC g) ∧ zS g (ρ 2 + 0 : Int).toNat = -1) ∧ (0 ≤ (ρ 3 + 0 : Int) ∧ zS g (ρ 3 + 0 : Int).toNat ≠ -1) ∧ lk (zR g) (zC g) (fun e => zB g e = 0) (ρ 3 + 0 : Int).toNat (ρ 2 + 0 : Int).toNat := hP _ (List.mem_of_getElem? (i := 1) rfl)
  have h2 : 0 ≤ (4 : Int) ∧ M.2.2.2.2 (α 0) (4 : Int).toNat = ρ 1 + 0 := hP _ (List.mem_of_getElem? (i := 2) rfl)
  try simp only [Int.add_zero] at h0 h1 h2
  have key : (1 ≤ ρ 1 ∧ ρ 1 ≤ 0) ∧ True := by
    try simp only [Int.add_zero]
    obtain ⟨-, -, p0⟩ := h0
    dsimp only [Q451] at p0
    have e2 : M.2.2.2.2 (α 0) 4 = ρ 1 := h2.2
    obtain ⟨zz, -⟩ := h1
    obtain ⟨⟨z1, z2⟩, z3, z4⟩ := zz
    have rc81 : 4 ≤ zR g * zC g ∧ zR g * zC g ≤ 81 := ⟨(rc_bd ⟨z1, by omega⟩ ⟨z3, by omega⟩).1, Int.le_trans (Int.mul_le_mul z2 z4 (by omega) (by decide)) (by decide)⟩
    refine ⟨?_, trivial⟩
    · have c := fn_cnt p0 (by omega)
      have : vsv M (α 0) ([], 4, 5) 4 = ρ 1 := (vs0 (by decide) (by decide)).trans e2
      omega
  exact ⟨qB (key.1) (nB), nB⟩
def t_nof_v : KT := ((0, 0, 0, 0), [(2, 0, 26, 0), (2, 1, 28, 0), (1, 2, 0, 0), (1, 3, 0, 0)], [(0, 0), (0, 0), (0, 143), (-2147483648, 2147483647)], [(583, [(2, 0, 26, 0), (1, 2, 0, 0), (1, 3, 0, 0)]), (99, [(1, 3, 0, 0), (0, 0, 0, -1), (0, 0, 0, 0)])], (0, 0, 0), [], [], ([], [(581, [(2, 0, 26, 0), (1, 2, 0, 0)])]), ([], []))
set_option maxRecDepth 100000 in
theorem l_nof_v (g : GG) : LOK Yt (PSt g) t_nof_v := by
  intro ρ α Γ M as hT hB hA hP
  have g0 : Γ (α 0) = 26 := tyAt hA (i := 0) rfl
  have g1 : Γ (α 1) = 28 := tyAt hA (i := 1) rfl
  have b2 : 0 ≤ ρ 2 ∧ ρ 2 ≤ 143 := hB 2
  have b3 : -2147483648 ≤ ρ 3 ∧ ρ 3 ≤ 2147483647 := hB 3
  have h0 : Γ (α 0) = 26 ∧ (∀ q ∈ ([([(1, 28)], 0, 144)] : VSP), wkT Γ M (α 0) q.1) ∧ Q583 g (vsv M (α 0) ([(1, 28)], 0, 144)) (ρ 2 + 0) (ρ 3 + 0) := hP _ (List.mem_of_getElem? (i := 0) rfl)
  have h1 : (ρ 3 + 0 : Int) ≠ (-1) := hP _ (List.mem_of_getElem? (i := 1) rfl)
  try simp only [Int.add_zero] at h0 h1
  have key : (Γ (α 0) = 26 ∧ (∀ q ∈ ([([(1, 28)], 0, 144)] : VSP), wkT Γ M (α 0) q.1) ∧ Q581 g (vsv M (α 0) ([(1, 28)], 0, 144)) (ρ 2 + 0)) ∧ True := by
    try simp only [Int.add_zero]
    obtain ⟨-, -, p0⟩ := h0
    dsimp only [Q583] at p0
    refine ⟨⟨g0, pic1 hT g0 (by decide) (by decide), ?_⟩, trivial⟩
    · dsimp only [Q581]
      show (vsv M (α 0) ([(1, 28)], 0, 144)) (ρ 2).toNat ≠ -1
      rw [p0.2]
      exact h1
  exact ⟨nB, qB (key.1) (nB)⟩
def t_nof_1 : KT := ((0, 0, 0, 0), [(2, 0, 26, 0), (2, 1, 28, 0), (2, 2, 30, 0), (1, 3, 0, 0), (1, 4, 0, 0), (1, 5, 0, 0), (1, 6, 0, 0), (1, 7, 0, 0), (1, 8, 0, 0)], [(0, 0), (0, 0), (0, 0), (0, 143), (0, 143), (0, 143), (-1, -1), (0, 144), (0, 4)], [(451, [(2, 0, 26, 0), (1, 7, 0, 0), (1, 8, 0, 0), (1, 5, 0, 0)]), (583, [(2, 0, 26, 0), (1, 4, 0, 0), (1, 6, 0, 0)]), (11, [(2, 0, 26, 0), (0, 0, 0, 3), (2, 2, 30, 0)]), (10, [(2, 0, 26, 0), (0, 0, 0, 4), (1, 3, 0, 0)])], (0, 0, 0), [], [], ([], [(620, [(2, 2, 30, 0), (1, 3, 0, 0), (2, 0, 26, 0), (1, 4, 0, 0), (1, 7, 0, 0), (1, 8, 0, 0), (1, 5, 0, 0)])]), ([], []))
set_option maxRecDepth 100000 in
theorem l_nof_1 (g : GG) : LOK Yt (PSt g) t_nof_1 := by
  intro ρ α Γ M as hT hB hA hP
  have g0 : Γ (α 0) = 26 := tyAt hA (i := 0) rfl
  have g1 : Γ (α 1) = 28 := tyAt hA (i := 1) rfl
  have g2 : Γ (α 2) = 30 := tyAt hA (i := 2) rfl
  have b3 : 0 ≤ ρ 3 ∧ ρ 3 ≤ 143 := hB 3
  have b4 : 0 ≤ ρ 4 ∧ ρ 4 ≤ 143 := hB 4
  have b5 : 0 ≤ ρ 5 ∧ ρ 5 ≤ 143 := hB 5
  have b6 : -1 ≤ ρ 6 ∧ ρ 6 ≤ -1 := hB 6
  have b7 : 0 ≤ ρ 7 ∧ ρ 7 ≤ 144 := hB 7
  have b8 : 0 ≤ ρ 8 ∧ ρ 8 ≤ 4 := hB 8
  have h0 : Γ (α 0) = 26 ∧ (∀ q ∈ ([([(1, 28)], 0, 144), ([(3, 30)], 0, 144), ([], 4, 5)] : VSP), wkT Γ M (α 0) q.1) ∧ Q451 g (vsv M (α 0) ([(1, 28)], 0, 144)) (vsv M (α 0) ([(3, 30)], 0, 144)) (vsv M (α 0) ([], 4, 5)) (ρ 7 + 0) (ρ 8 + 0) (ρ 5 + 0) := hP _ (List.mem_of_getElem? (i := 0) rfl)
  have h1 : Γ (α 0) = 26 ∧ (∀ q ∈ ([([(1, 28)], 0, 144)] : VSP), wkT Γ M (α 0) q.1) ∧ Q583 g (vsv M (α 0) ([(1, 28)], 0, 144)) (ρ 4 + 0) (ρ 6 + 0) := hP _ (List.mem_of_getElem? (i := 1) rfl)
  have h2 : 0 ≤ (3 : Int) ∧ M.2.2.2.1 (α 0) (3 : Int).toNat = some (α 2) := hP _ (List.mem_of_getElem? (i := 2) rfl)
  have h3 : 0 ≤ (4 : Int) ∧ M.2.2.2.2 (α 0) (4 : Int).toNat = ρ 3 + 0 := hP _ (List.mem_of_getElem? (i := 3) rfl)
  try simp only [Int.add_zero] at h0 h1 h2 h3
  have key : (Γ (α 2) = 30 ∧ wlk M (α 0) [(3, 30)] = (α 2) ∧ wkT Γ M (α 0) [(3, 30)] ∧ Γ (α 0) = 26 ∧ (∀ q ∈ ([([(1, 28)], 0, 144)] : VSP), wkT Γ M (α 0) q.1) ∧ Q620 g (hcl [vi (ρ 3 + 0)] (clp [(0, 144)] (M.2.2.2.2 (α 2)))) (ρ 3 + 0) (vsv M (α 0) ([(1, 28)], 0, 144)) (ρ 4 + 0) (ρ 7 + 0) (ρ 8 + 0) (ρ 5 + 0)) ∧ True := by
    try simp only [Int.add_zero]
    obtain ⟨-, -, p0⟩ := h0
    dsimp only [Q451] at p0
    obtain ⟨-, -, p1⟩ := h1
    dsimp only [Q583] at p1
    have e2 : M.2.2.2.1 (α 0) 3 = some (α 2) := h2.2
    have e3 : M.2.2.2.2 (α 0) 4 = ρ 3 := h3.2
    refine ⟨⟨g2, (fl_eq e2), wk1 e2 g2, g0, pic1 hT g0 (by decide) (by decide), ?_⟩, trivial⟩
    · dsimp only [Q620]
      have c : (vsv M (α 0) ([], 4, 5)) 4 = ρ 3 := (vs0 (by decide) (by decide)).trans e3
      have v : (vsv M (α 0) ([(1, 28)], 0, 144)) (ρ 4).toNat = -1 := p1.2.trans (by omega)
      refine ⟨v, ?_⟩
      rw [c] at p0
      obtain ⟨a0, a1, a2, a3, a4, a5⟩ := p0
      have w : ∀ j : Nat, (j : Int) < ρ 3 → hcl [vi (ρ 3)] (clp [(0, 144)] (M.2.2.2.2 (α 2))) j = (vsv M (α 0) ([(3, 30)], 0, 144)) j := fun j hj => by
        rw [hcl1 (by omega), vsv1 e2]
      refine ⟨a0, fun j hj => ?_, fun i j hij hj => ?_, fun q h1 h2 h3 => ?_, a4, a5⟩
      · rw [w j hj]
        exact a1 j hj
      · rw [w i (by omega), w j hj]
        exact a2 i j hij hj
      · obtain ⟨⟨j, j1, j2⟩, b⟩ := a3 q h1 h2 h3
        exact ⟨⟨j, j1, by rw [w j j1]; exact j2⟩, b⟩
  exact ⟨nB, qB (key.1) (nB)⟩
def t_nof_2 : KT := ((0, 0, 0, 0), [(2, 0, 26, 0), (2, 1, 30, 0), (1, 2, 0, 0), (1, 3, 0, 0), (1, 4, 0, 0), (1, 5, 0, 0), (1, 6, 0, 0)], [(0, 0), (0, 0), (0, 143), (0, 143), (0, 143), (0, 144), (0, 4)], [(620, [(2, 1, 30, 0), (1, 2, 0, 0), (2, 0, 26, 0), (1, 3, 0, 0), (1, 5, 0, 0), (1, 6, 0, 0), (1, 4, 0, 0)]), (11, [(2, 0, 26, 0), (0, 0, 0, 3), (2, 1, 30, 0)]), (10, [(2, 1, 30, 0), (1, 2, 0, 0), (1, 3, 0, 0)])], (0, 0, 0), [], [], ([], [(582, [(2, 0, 26, 0), (1, 2, 0, 0), (1, 3, 0, 0), (1, 5, 0, 0), (1, 6, 0, 0), (1, 4, 0, 0)])]), ([], []))
set_option maxRecDepth 100000 in
theorem l_nof_2 (g : GG) : LOK Yt (PSt g) t_nof_2 := by
  intro ρ α Γ M as hT hB hA hP
  have g0 : Γ (α 0) = 26 := tyAt hA (i := 0) rfl
  have g1 : Γ (α 1) = 30 := tyAt hA (i := 1) rfl
  have b2 : 0 ≤ ρ 2 ∧ ρ 2 ≤ 143 := hB 2
  have b3 : 0 ≤ ρ 3 ∧ ρ 3 ≤ 143 := hB 3
  have b4 : 0 ≤ ρ 4 ∧ ρ 4 ≤ 143 := hB 4
  have b5 : 0 ≤ ρ 5 ∧ ρ 5 ≤ 144 := hB 5
  have b6 : 0 ≤ ρ 6 ∧ ρ 6 ≤ 4 := hB 6
  have h0 : Γ (α 1) = 30 ∧ wlk M (α 0) [(3, 30)] = (α 1) ∧ wkT Γ M (α 0) [(3, 30)] ∧ Γ (α 0) = 26 ∧ (∀ q ∈ ([([(1, 28)], 0, 144)] : VSP), wkT Γ M (α 0) q.1) ∧ Q620 g (hcl [vi (ρ 2 + 0)] (clp [(0, 144)] (M.2.2.2.2 (α 1)))) (ρ 2 + 0) (vsv M (α 0) ([(1, 28)], 0, 144)) (ρ 3 + 0) (ρ 5 + 0) (ρ 6 + 0) (ρ 4 + 0) := hP _ (List.mem_of_getElem? (i := 0) rfl)
  have h1 : 0 ≤ (3 : Int) ∧ M.2.2.2.1 (α 0) (3 : Int).toNat = some (α 1) := hP _ (List.mem_of_getElem? (i := 1) rfl)
  have h2 : 0 ≤ (ρ 2 + 0 : Int) ∧ M.2.2.2.2 (α 1) (ρ 2 + 0 : Int).toNat = ρ 3 + 0 := hP _ (List.mem_of_getElem? (i := 2) rfl)
  try simp only [Int.add_zero] at h0 h1 h2
  have key : (Γ (α 0) = 26 ∧ (∀ q ∈ ([([(1, 28)], 0, 144), ([(3, 30)], 0, 144)] : VSP), wkT Γ M (α 0) q.1) ∧ Q582 g (vsv M (α 0) ([(1, 28)], 0, 144)) (vsv M (α 0) ([(3, 30)], 0, 144)) (ρ 2 + 0) (ρ 3 + 0) (ρ 5 + 0) (ρ 6 + 0) (ρ 4 + 0)) ∧ True := by
    try simp only [Int.add_zero]
    obtain ⟨-, -, -, -, -, p0⟩ := h0
    dsimp only [Q620] at p0
    have e1 : M.2.2.2.1 (α 0) 3 = some (α 1) := h1.2
    have e2 : M.2.2.2.2 (α 1) (ρ 2).toNat = ρ 3 := h2.2
    refine ⟨⟨g0, pic1 hT g0 (by decide) (by decide), ?_⟩, trivial⟩
    · dsimp only [Q582]
      obtain ⟨v, a0, a1, a2, a3, a4, a5⟩ := p0
      have w : ∀ j : Nat, (j : Int) < ρ 2 → (vsv M (α 0) ([(3, 30)], 0, 144)) j = hcl [vi (ρ 2)] (clp [(0, 144)] (M.2.2.2.2 (α 1))) j := fun j hj => by
        rw [hcl1 (by omega), vsv1 e1]
      refine ⟨⟨b2.1, (vs1 e1 (Nat.zero_le _) (by omega)).trans e2⟩, v, a0, fun j hj => ?_, fun i j hij hj => ?_, fun q h1 h2 h3 => ?_, a4, a5⟩
      · rw [w j hj]
        exact a1 j hj
      · rw [w i (by omega), w j hj]
        exact a2 i j hij hj
      · obtain ⟨⟨j, j1, j2⟩, b⟩ := a3 q h1 h2 h3
        exact ⟨⟨j, j1, by rw [w j j1]; exact j2⟩, b⟩
  exact ⟨nB, qB (key.1) (nB)⟩
def t_nof_5a : KT := ((0, 0, 0, 0), [(2, 0, 26, 0), (2, 1, 28, 0), (1, 2, 0, 0), (1, 3, 0, 0), (1, 4, 0, 0), (1, 5, 0, 0), (1, 6, 0, 0)], [(0, 0), (0, 0), (0, 143), (0, 143), (0, 143), (0, 144), (0, 4)], [(582, [(2, 0, 26, 0), (1, 4, 0, 0), (1, 2, 0, 0), (1, 5, 0, 0), (1, 6, 0, 0), (1, 3, 0, 0)]), (11, [(2, 0, 26, 0), (0, 0, 0, 1), (2, 1, 28, 0)]), (10, [(2, 0, 26, 0), (0, 0, 0, 4), (1, 4, 0, 1)])], (0, 0, 0), [], [], ([], [(621, [(2, 1, 28, 0), (1, 2, 0, 0), (2, 0, 26, 0), (1, 5, 0, 0), (1, 6, 0, 0), (1, 3, 0, 0)])]), ([], []))
set_option maxRecDepth 100000 in
theorem l_nof_5a (g : GG) : LOK Yt (PSt g) t_nof_5a := by
  intro ρ α Γ M as hT hB hA hP
  have g0 : Γ (α 0) = 26 := tyAt hA (i := 0) rfl
  have g1 : Γ (α 1) = 28 := tyAt hA (i := 1) rfl
  have b2 : 0 ≤ ρ 2 ∧ ρ 2 ≤ 143 := hB 2
  have b3 : 0 ≤ ρ 3 ∧ ρ 3 ≤ 143 := hB 3
  have b4 : 0 ≤ ρ 4 ∧ ρ 4 ≤ 143 := hB 4
  have b5 : 0 ≤ ρ 5 ∧ ρ 5 ≤ 144 := hB 5
  have b6 : 0 ≤ ρ 6 ∧ ρ 6 ≤ 4 := hB 6
  have h0 : Γ (α 0) = 26 ∧ (∀ q ∈ ([([(1, 28)], 0, 144), ([(3, 30)], 0, 144)] : VSP), wkT Γ M (α 0) q.1) ∧ Q582 g (vsv M (α 0) ([(1, 28)], 0, 144)) (vsv M (α 0) ([(3, 30)], 0, 144)) (ρ 4 + 0) (ρ 2 + 0) (ρ 5 + 0) (ρ 6 + 0) (ρ 3 + 0) := hP _ (List.mem_of_getElem? (i := 0) rfl)
  have h1 : 0 ≤ (1 : Int) ∧ M.2.2.2.1 (α 0) (1 : Int).toNat = some (α 1) := hP _ (List.mem_of_getElem? (i := 1) rfl)
  have h2 : 0 ≤ (4 : Int) ∧ M.2.2.2.2 (α 0) (4 : Int).toNat = ρ 4 + 1 := hP _ (List.mem_of_getElem? (i := 2) rfl)
  try simp only [Int.add_zero] at h0 h1 h2
  have key : (Γ (α 1) = 28 ∧ wlk M (α 0) [(1, 28)] = (α 1) ∧ wkT Γ M (α 0) [(1, 28)] ∧ Γ (α 0) = 26 ∧ (∀ q ∈ ([([(3, 30)], 0, 144), ([], 4, 5)] : VSP), wkT Γ M (α 0) q.1) ∧ Q621 g (hcl [vi (ρ 2 + 0)] (clp [(0, 144)] (M.2.2.2.2 (α 1)))) (ρ 2 + 0) (vsv M (α 0) ([(3, 30)], 0, 144)) (vsv M (α 0) ([], 4, 5)) (ρ 5 + 0) (ρ 6 + 0) (ρ 3 + 0)) ∧ True := by
    try simp only [Int.add_zero]
    obtain ⟨-, -, p0⟩ := h0
    dsimp only [Q582] at p0
    have e1 : M.2.2.2.1 (α 0) 1 = some (α 1) := h1.2
    have e2 : M.2.2.2.2 (α 0) 4 = ρ 4 + 1 := h2.2
    refine ⟨⟨g1, (fl_eq e1), wk1 e1 g1, g0, pic1 hT g0 (by decide) (by decide), ?_⟩, trivial⟩
    · dsimp only [Q621]
      obtain ⟨⟨n0, n1⟩, v, f⟩ := p0
      have c : (vsv M (α 0) ([], 4, 5)) 4 = ρ 4 + 1 := (vs0 (by decide) (by decide)).trans e2
      have x : ρ 4 + 1 - 1 = ρ 4 := by omega
      refine Or.inl ⟨by rw [c]; omega, by rw [c, x]; exact n1, ?_⟩
      rw [hlU b2.1 (by rw [← vsv1 e1]; exact v), ← vsv1 (t := 28) e1, c, x]
      exact f
  exact ⟨nB, qB (key.1) (nB)⟩
def t_nof_5b : KT := ((0, 0, 0, 0), [(2, 0, 26, 0), (2, 1, 28, 0), (1, 2, 0, 0), (1, 3, 0, 0), (1, 4, 0, 0), (1, 5, 0, 0)], [(0, 0), (0, 0), (0, 143), (0, 143), (0, 144), (0, 4)], [(451, [(2, 0, 26, 0), (1, 4, 0, 0), (1, 5, 0, 0), (1, 3, 0, 0)]), (581, [(2, 0, 26, 0), (1, 2, 0, 0)]), (11, [(2, 0, 26, 0), (0, 0, 0, 1), (2, 1, 28, 0)])], (0, 0, 0), [], [], ([], [(621, [(2, 1, 28, 0), (1, 2, 0, 0), (2, 0, 26, 0), (1, 4, 0, 0), (1, 5, 0, 0), (1, 3, 0, 0)])]), ([], []))
set_option maxRecDepth 100000 in
theorem l_nof_5b (g : GG) : LOK Yt (PSt g) t_nof_5b := by
  intro ρ α Γ M as hT hB hA hP
  have g0 : Γ (α 0) = 26 := tyAt hA (i := 0) rfl
  have g1 : Γ (α 1) = 28 := tyAt hA (i := 1) rfl
  have b2 : 0 ≤ ρ 2 ∧ ρ 2 ≤ 143 := hB 2
  have b3 : 0 ≤ ρ 3 ∧ ρ 3 ≤ 143 := hB 3
  have b4 : 0 ≤ ρ 4 ∧ ρ 4 ≤ 144 := hB 4
  have b5 : 0 ≤ ρ 5 ∧ ρ 5 ≤ 4 := hB 5
  have h0 : Γ (α 0) = 26 ∧ (∀ q ∈ ([([(1, 28)], 0, 144), ([(3, 30)], 0, 144), ([], 4, 5)] : VSP), wkT Γ M (α 0) q.1) ∧ Q451 g (vsv M (α 0) ([(1, 28)], 0, 144)) (vsv M (α 0) ([(3, 30)], 0, 144)) (vsv M (α 0) ([], 4, 5)) (ρ 4 + 0) (ρ 5 + 0) (ρ 3 + 0) := hP _ (List.mem_of_getElem? (i := 0) rfl)
  have h1 : Γ (α 0) = 26 ∧ (∀ q ∈ ([([(1, 28)], 0, 144)] : VSP), wkT Γ M (α 0) q.1) ∧ Q581 g (vsv M (α 0) ([(1, 28)], 0, 144)) (ρ 2 + 0) := hP _ (List.mem_of_getElem? (i := 1) rfl)
  have h2 : 0 ≤ (1 : Int) ∧ M.2.2.2.1 (α 0) (1 : Int).toNat = some (α 1) := hP _ (List.mem_of_getElem? (i := 2) rfl)
  try simp only [Int.add_zero] at h0 h1 h2
  have key : (Γ (α 1) = 28 ∧ wlk M (α 0) [(1, 28)] = (α 1) ∧ wkT Γ M (α 0) [(1, 28)] ∧ Γ (α 0) = 26 ∧ (∀ q ∈ ([([(3, 30)], 0, 144), ([], 4, 5)] : VSP), wkT Γ M (α 0) q.1) ∧ Q621 g (hcl [vi (ρ 2 + 0)] (clp [(0, 144)] (M.2.2.2.2 (α 1)))) (ρ 2 + 0) (vsv M (α 0) ([(3, 30)], 0, 144)) (vsv M (α 0) ([], 4, 5)) (ρ 4 + 0) (ρ 5 + 0) (ρ 3 + 0)) ∧ True := by
    try simp only [Int.add_zero]
    obtain ⟨-, -, p0⟩ := h0
    dsimp only [Q451] at p0
    obtain ⟨-, -, p1⟩ := h1
    dsimp only [Q581] at p1
    have e2 : M.2.2.2.1 (α 0) 1 = some (α 1) := h2.2
    refine ⟨⟨g1, (fl_eq e2), wk1 e2 g1, g0, pic1 hT g0 (by decide) (by decide), ?_⟩, trivial⟩
    · dsimp only [Q621]
      refine Or.inr ⟨_, p1, ?_⟩
      rw [hlU b2.1 (by rw [← vsv1 (t := 28) e2]), ← vsv1 (t := 28) e2]
      exact p0
  exact ⟨nB, qB (key.1) (nB)⟩
def t_nof_6 : KT := ((0, 0, 0, 0), [(2, 0, 26, 0), (2, 1, 28, 0), (1, 2, 0, 0), (1, 3, 0, 0), (1, 4, 0, 0), (1, 5, 0, 0)], [(0, 0), (0, 0), (0, 143), (0, 143), (0, 144), (0, 4)], [(621, [(2, 1, 28, 0), (1, 2, 0, 0), (2, 0, 26, 0), (1, 4, 0, 0), (1, 5, 0, 0), (1, 3, 0, 0)]), (11, [(2, 0, 26, 0), (0, 0, 0, 1), (2, 1, 28, 0)]), (10, [(2, 1, 28, 0), (1, 2, 0, 0), (1, 3, 0, 0)]), (720, [(1, 2, 0, 0), (1, 3, 0, 0)])], (0, 0, 0), [], [], ([], [(451, [(2, 0, 26, 0), (1, 4, 0, 0), (1, 5, 0, 0), (1, 3, 0, 0)]), (581, [(2, 0, 26, 0), (1, 2, 0, 0)])]), ([], []))
set_option maxRecDepth 100000 in
theorem l_nof_6 (g : GG) : LOK Yt (PSt g) t_nof_6 := by
  intro ρ α Γ M as hT hB hA hP
  have g0 : Γ (α 0) = 26 := tyAt hA (i := 0) rfl
  have g1 : Γ (α 1) = 28 := tyAt hA (i := 1) rfl
  have b2 : 0 ≤ ρ 2 ∧ ρ 2 ≤ 143 := hB 2
  have b3 : 0 ≤ ρ 3 ∧ ρ 3 ≤ 143 := hB 3
  have b4 : 0 ≤ ρ 4 ∧ ρ 4 ≤ 144 := hB 4
  have b5 : 0 ≤ ρ 5 ∧ ρ 5 ≤ 4 := hB 5
  have h0 : Γ (α 1) = 28 ∧ wlk M (α 0) [(1, 28)] = (α 1) ∧ wkT Γ M (α 0) [(1, 28)] ∧ Γ (α 0) = 26 ∧ (∀ q ∈ ([([(3, 30)], 0, 144), ([], 4, 5)] : VSP), wkT Γ M (α 0) q.1) ∧ Q621 g (hcl [vi (ρ 2 + 0)] (clp [(0, 144)] (M.2.2.2.2 (α 1)))) (ρ 2 + 0) (vsv M (α 0) ([(3, 30)], 0, 144)) (vsv M (α 0) ([], 4, 5)) (ρ 4 + 0) (ρ 5 + 0) (ρ 3 + 0) := hP _ (List.mem_of_getElem? (i := 0) rfl)
  have h1 : 0 ≤ (1 : Int) ∧ M.2.2.2.1 (α 0) (1 : Int).toNat = some (α 1) := hP _ (List.mem_of_getElem? (i := 1) rfl)
  have h2 : 0 ≤ (ρ 2 + 0 : Int) ∧ M.2.2.2.2 (α 1) (ρ 2 + 0 : Int).toNat = ρ 3 + 0 := hP _ (List.mem_of_getElem? (i := 2) rfl)
  have h3 : ((2 ≤ zR g ∧ zR g ≤ 9) ∧ 2 ≤ zC g ∧ zC g ≤ 9) ∧ ((0 ≤ (ρ 2 + 0 : Int) ∧ (ρ 2 + 0 : Int) < zR g * zC g) ∧ zS g (ρ 2 + 0 : Int).toNat = -1) ∧ (0 ≤ (ρ 3 + 0 : Int) ∧ zS g (ρ 3 + 0 : Int).toNat ≠ -1) ∧ lk (zR g) (zC g) (fun e => zB g e = 0) (ρ 3 + 0 : Int).toNat (ρ 2 + 0 : Int).toNat := hP _ (List.mem_of_getElem? (i := 3) rfl)
  try simp only [Int.add_zero] at h0 h1 h2 h3
  have key : (Γ (α 0) = 26 ∧ (∀ q ∈ ([([(1, 28)], 0, 144), ([(3, 30)], 0, 144), ([], 4, 5)] : VSP), wkT Γ M (α 0) q.1) ∧ Q451 g (vsv M (α 0) ([(1, 28)], 0, 144)) (vsv M (α 0) ([(3, 30)], 0, 144)) (vsv M (α 0) ([], 4, 5)) (ρ 4 + 0) (ρ 5 + 0) (ρ 3 + 0)) ∧ (Γ (α 0) = 26 ∧ (∀ q ∈ ([([(1, 28)], 0, 144)] : VSP), wkT Γ M (α 0) q.1) ∧ Q581 g (vsv M (α 0) ([(1, 28)], 0, 144)) (ρ 2 + 0)) ∧ True := by
    try simp only [Int.add_zero]
    obtain ⟨-, -, -, -, -, p0⟩ := h0
    dsimp only [Q621] at p0
    have e1 : M.2.2.2.1 (α 0) 1 = some (α 1) := h1.2
    have e2 : M.2.2.2.2 (α 1) (ρ 2).toNat = ρ 3 := h2.2
    obtain ⟨-, ⟨t1, t2⟩, ⟨f1, f2⟩, lk_⟩ := h3
    have v1 : (vsv M (α 0) ([(1, 28)], 0, 144)) (ρ 2).toNat = ((ρ 3).toNat : Int) := ((vs1 e1 (Nat.zero_le _) (by omega)).trans e2).trans (by omega)
    have v2 : ∀ (x : Int) (q : Nat), q ≠ (ρ 2).toNat → (vsv M (α 0) ([(1, 28)], 0, 144)) q = upZ (hcl [vi (ρ 2)] (vsv M (α 0) ([(1, 28)], 0, 144))) (ρ 2) x q := fun x q hq => hlN (by omega)
    rw [← vsv1 (t := 28) e1] at p0
    refine ⟨⟨g0, pic1 hT g0 (by decide) (by decide), ?_⟩, ⟨g0, pic1 hT g0 (by decide) (by decide), ?_⟩, trivial⟩
    · dsimp only [Q451]
      rcases p0 with ⟨c0, n1, f⟩ | ⟨v, hv, f⟩
      · have q := fn_new f (upZ_at (by omega)) (by omega) t2 f2 lk_ v1 (v2 _) (n1.trans (by omega)) (fun j hj => rfl)
        rw [show (vsv M (α 0) ([], 4, 5)) 4 - 1 + 1 = (vsv M (α 0) ([], 4, 5)) 4 by omega] at q
        exact q
      · exact fn_old f (by rw [upZ_at (by omega)]; exact hv) (by omega) t2 f2 lk_ v1 (v2 _)
    · dsimp only [Q581]
      show (vsv M (α 0) ([(1, 28)], 0, 144)) (ρ 2).toNat ≠ -1
      rw [v1]
      omega
  exact ⟨nB, qB (key.1) (qB (key.2.1) (nB))⟩
def t_nof_r : KT := ((0, 0, 0, 0), [(2, 0, 26, 0), (2, 1, 28, 0), (1, 2, 0, 0), (1, 3, 0, 0)], [(0, 0), (0, 0), (0, 143), (-2147483648, 2147483647)], [(11, [(2, 0, 26, 0), (0, 0, 0, 1), (2, 1, 28, 0)]), (10, [(2, 1, 28, 0), (1, 2, 0, 0), (1, 3, 0, 0)])], (0, 0, 0), [], [], ([], [(583, [(2, 0, 26, 0), (1, 2, 0, 0), (1, 3, 0, 0)])]), ([], []))
set_option maxRecDepth 100000 in
theorem l_nof_r (g : GG) : LOK Yt (PSt g) t_nof_r := by
  intro ρ α Γ M as hT hB hA hP
  have g0 : Γ (α 0) = 26 := tyAt hA (i := 0) rfl
  have g1 : Γ (α 1) = 28 := tyAt hA (i := 1) rfl
  have b2 : 0 ≤ ρ 2 ∧ ρ 2 ≤ 143 := hB 2
  have b3 : -2147483648 ≤ ρ 3 ∧ ρ 3 ≤ 2147483647 := hB 3
  have h0 : 0 ≤ (1 : Int) ∧ M.2.2.2.1 (α 0) (1 : Int).toNat = some (α 1) := hP _ (List.mem_of_getElem? (i := 0) rfl)
  have h1 : 0 ≤ (ρ 2 + 0 : Int) ∧ M.2.2.2.2 (α 1) (ρ 2 + 0 : Int).toNat = ρ 3 + 0 := hP _ (List.mem_of_getElem? (i := 1) rfl)
  try simp only [Int.add_zero] at h0 h1
  have key : (Γ (α 0) = 26 ∧ (∀ q ∈ ([([(1, 28)], 0, 144)] : VSP), wkT Γ M (α 0) q.1) ∧ Q583 g (vsv M (α 0) ([(1, 28)], 0, 144)) (ρ 2 + 0) (ρ 3 + 0)) ∧ True := by
    try simp only [Int.add_zero]
    have e0 : M.2.2.2.1 (α 0) 1 = some (α 1) := h0.2
    have e1 : M.2.2.2.2 (α 1) (ρ 2).toNat = ρ 3 := h1.2
    refine ⟨⟨g0, pic1 hT g0 (by decide) (by decide), ?_⟩, trivial⟩
    · dsimp only [Q583]
      exact ⟨⟨b2.1, by omega⟩, (vs1 e0 (Nat.zero_le _) (by omega)).trans e1⟩
  exact ⟨nB, qB (key.1) (nB)⟩
def t_nnb0 : KT := ((0, 0, 0, 0), [(2, 0, 1, 0), (1, 1, 0, 0), (1, 2, 0, 0), (1, 3, 0, 0), (1, 4, 0, 0)], [(0, 0), (0, 143), (0, 0), (-2147483648, 2147483647), (0, 143)], [(17, [(2, 0, 1, 0), (1, 1, 0, 0), (1, 2, 0, 0), (1, 4, 0, 0)]), (10, [(2, 0, 1, 0), (0, 0, 0, 1), (1, 3, 0, 0)]), (24, [(1, 1, 0, 0), (1, 3, 0, 0), (1, 4, 0, 0)])], (0, 0, 0), [], [], ([], [(585, [(2, 0, 1, 0), (1, 1, 0, 0), (1, 2, 0, 0), (1, 4, 0, 0)])]), ([], []))
set_option maxRecDepth 100000 in
theorem l_nnb0 (g : GG) : LOK Yt (PSt g) t_nnb0 := by
  intro ρ α Γ M as hT hB hA hP
  have g0 : Γ (α 0) = 1 := tyAt hA (i := 0) rfl
  have b1 : 0 ≤ ρ 1 ∧ ρ 1 ≤ 143 := hB 1
  have b2 : 0 ≤ ρ 2 ∧ ρ 2 ≤ 0 := hB 2
  have b3 : -2147483648 ≤ ρ 3 ∧ ρ 3 ≤ 2147483647 := hB 3
  have b4 : 0 ≤ ρ 4 ∧ ρ 4 ≤ 143 := hB 4
  have h0 : Γ (α 0) = 1 ∧ (ρ 4 + 0 ≠ -1 → nbP (M.2.2.2.2 (α 0) 0) (M.2.2.2.2 (α 0) 1) (ρ 1 + 0) (ρ 2 + 0)) := hP _ (List.mem_of_getElem? (i := 0) rfl)
  have h1 : 0 ≤ (1 : Int) ∧ M.2.2.2.2 (α 0) (1 : Int).toNat = ρ 3 + 0 := hP _ (List.mem_of_getElem? (i := 1) rfl)
  have h2 : ρ 4 + 0 = wI ((ρ 1 + 0) - (ρ 3 + 0)) := hP _ (List.mem_of_getElem? (i := 2) rfl)
  try simp only [Int.add_zero] at h0 h1 h2
  have key : (Γ (α 0) = 1 ∧ (∀ q ∈ ([([], 0, 2)] : VSP), wkT Γ M (α 0) q.1) ∧ Q585 g (vsv M (α 0) ([], 0, 2)) (ρ 1 + 0) (ρ 2 + 0) (ρ 4 + 0)) ∧ True := by
    try simp only [Int.add_zero]
    have dm0 := cdim hT g0
    have rc0 := rc_bd dm0.1 dm0.2
    have e1 : M.2.2.2.2 (α 0) 1 = ρ 3 := h1.2
    have m0 : (vsv M (α 0) ([], 0, 2)) 0 = M.2.2.2.2 (α 0) 0 := vs0 (by decide) (by decide)
    have m1 : (vsv M (α 0) ([], 0, 2)) 1 = M.2.2.2.2 (α 0) 1 := vs0 (by decide) (by decide)
    have h17 := h0.2 (by omega)
    rw [← m0, ← m1] at h17
    have c1 : (vsv M (α 0) ([], 0, 2)) 1 = ρ 3 := (vs0 (by decide) (by decide)).trans e1
    refine ⟨⟨g0, pic1 hT g0 (by decide) (by decide), ?_⟩, trivial⟩
    · dsimp only [Q585]
      refine Or.inr ⟨h17, ?_⟩
      show _ = nbq ((vsv M (α 0) ([], 0, 2)) 1) (ρ 1) (ρ 2)
      unfold nbq
      rw [if_pos (by omega)]
      rw [h2, wI_id (by unfold inI; omega), c1]
  exact ⟨nB, qB (key.1) (nB)⟩
def t_nnb1 : KT := ((0, 0, 0, 0), [(2, 0, 1, 0), (1, 1, 0, 0), (1, 2, 0, 0)], [(0, 0), (0, 143), (1, 1)], [(17, [(2, 0, 1, 0), (1, 1, 0, 0), (1, 2, 0, 0), (1, 1, 0, -1)]), (15, [(2, 0, 1, 0), (1, 1, 0, -1)])], (0, 0, 0), [], [], ([], [(585, [(2, 0, 1, 0), (1, 1, 0, 0), (1, 2, 0, 0), (1, 1, 0, -1)])]), ([], []))
set_option maxRecDepth 100000 in
theorem l_nnb1 (g : GG) : LOK Yt (PSt g) t_nnb1 := by
  intro ρ α Γ M as hT hB hA hP
  have g0 : Γ (α 0) = 1 := tyAt hA (i := 0) rfl
  have b1 : 0 ≤ ρ 1 ∧ ρ 1 ≤ 143 := hB 1
  have b2 : 1 ≤ ρ 2 ∧ ρ 2 ≤ 1 := hB 2
  have h0 : Γ (α 0) = 1 ∧ (ρ 1 + (-1) ≠ -1 → nbP (M.2.2.2.2 (α 0) 0) (M.2.2.2.2 (α 0) 1) (ρ 1 + 0) (ρ 2 + 0)) := hP _ (List.mem_of_getElem? (i := 0) rfl)
  have h1 : Γ (α 0) = 1 ∧ (ρ 1 + (-1) = -1 ∨ isPx (M.2.2.2.2 (α 0) 0) (M.2.2.2.2 (α 0) 1) (ρ 1 + (-1))) := hP _ (List.mem_of_getElem? (i := 1) rfl)
  try simp only [Int.add_zero] at h0 h1
  have key : (Γ (α 0) = 1 ∧ (∀ q ∈ ([([], 0, 2)] : VSP), wkT Γ M (α 0) q.1) ∧ Q585 g (vsv M (α 0) ([], 0, 2)) (ρ 1 + 0) (ρ 2 + 0) (ρ 1 + (-1))) ∧ True := by
    try simp only [Int.add_zero]
    have dm0 := cdim hT g0
    have rc0 := rc_bd dm0.1 dm0.2
    have m0 : (vsv M (α 0) ([], 0, 2)) 0 = M.2.2.2.2 (α 0) 0 := vs0 (by decide) (by decide)
    have m1 : (vsv M (α 0) ([], 0, 2)) 1 = M.2.2.2.2 (α 0) 1 := vs0 (by decide) (by decide)
    refine ⟨⟨g0, pic1 hT g0 (by decide) (by decide), ?_⟩, trivial⟩
    · dsimp only [Q585]
      rcases Int.lt_or_le (ρ 1) 1 with hp | hp
      · refine Or.inl ⟨by omega, fun q => ?_⟩
        have := q.2.1 (by omega)
        rw [show ρ 1 = 0 by omega, Int.zero_emod] at this
        omega
      · have h17 := h0.2 (by omega)
        rw [← m0, ← m1] at h17
        refine Or.inr ⟨h17, ?_⟩
        show _ = nbq ((vsv M (α 0) ([], 0, 2)) 1) (ρ 1) (ρ 2)
        unfold nbq
        rw [if_neg (by omega)]
        rw [if_pos (by omega)]
        omega
  exact ⟨nB, qB (key.1) (nB)⟩
def t_nnb2 : KT := ((0, 0, 0, 0), [(2, 0, 1, 0), (1, 1, 0, 0), (1, 2, 0, 0)], [(0, 0), (0, 143), (2, 2)], [(17, [(2, 0, 1, 0), (1, 1, 0, 0), (1, 2, 0, 0), (1, 1, 0, 1)])], (0, 0, 0), [], [], ([], [(585, [(2, 0, 1, 0), (1, 1, 0, 0), (1, 2, 0, 0), (1, 1, 0, 1)])]), ([], []))
set_option maxRecDepth 100000 in
theorem l_nnb2 (g : GG) : LOK Yt (PSt g) t_nnb2 := by
  intro ρ α Γ M as hT hB hA hP
  have g0 : Γ (α 0) = 1 := tyAt hA (i := 0) rfl
  have b1 : 0 ≤ ρ 1 ∧ ρ 1 ≤ 143 := hB 1
  have b2 : 2 ≤ ρ 2 ∧ ρ 2 ≤ 2 := hB 2
  have h0 : Γ (α 0) = 1 ∧ (ρ 1 + 1 ≠ -1 → nbP (M.2.2.2.2 (α 0) 0) (M.2.2.2.2 (α 0) 1) (ρ 1 + 0) (ρ 2 + 0)) := hP _ (List.mem_of_getElem? (i := 0) rfl)
  try simp only [Int.add_zero] at h0
  have key : (Γ (α 0) = 1 ∧ (∀ q ∈ ([([], 0, 2)] : VSP), wkT Γ M (α 0) q.1) ∧ Q585 g (vsv M (α 0) ([], 0, 2)) (ρ 1 + 0) (ρ 2 + 0) (ρ 1 + 1)) ∧ True := by
    try simp only [Int.add_zero]
    have dm0 := cdim hT g0
    have rc0 := rc_bd dm0.1 dm0.2
    have m0 : (vsv M (α 0) ([], 0, 2)) 0 = M.2.2.2.2 (α 0) 0 := vs0 (by decide) (by decide)
    have m1 : (vsv M (α 0) ([], 0, 2)) 1 = M.2.2.2.2 (α 0) 1 := vs0 (by decide) (by decide)
    have h17 := h0.2 (by omega)
    rw [← m0, ← m1] at h17
    refine ⟨⟨g0, pic1 hT g0 (by decide) (by decide), ?_⟩, trivial⟩
    · dsimp only [Q585]
      refine Or.inr ⟨h17, ?_⟩
      show _ = nbq ((vsv M (α 0) ([], 0, 2)) 1) (ρ 1) (ρ 2)
      unfold nbq
      rw [if_neg (by omega)]
      rw [if_neg (by omega)]
      rw [if_pos (by omega)]
  exact ⟨nB, qB (key.1) (nB)⟩
def t_nnb3 : KT := ((0, 0, 0, 0), [(2, 0, 1, 0), (1, 1, 0, 0), (1, 2, 0, 0), (1, 3, 0, 0), (1, 4, 0, 0)], [(0, 0), (0, 143), (3, 3), (-2147483648, 2147483647), (0, 143)], [(17, [(2, 0, 1, 0), (1, 1, 0, 0), (1, 2, 0, 0), (1, 4, 0, 0)]), (10, [(2, 0, 1, 0), (0, 0, 0, 1), (1, 3, 0, 0)]), (23, [(1, 1, 0, 0), (1, 3, 0, 0), (1, 4, 0, 0)])], (0, 0, 0), [], [], ([], [(585, [(2, 0, 1, 0), (1, 1, 0, 0), (1, 2, 0, 0), (1, 4, 0, 0)])]), ([], []))
set_option maxRecDepth 100000 in
theorem l_nnb3 (g : GG) : LOK Yt (PSt g) t_nnb3 := by
  intro ρ α Γ M as hT hB hA hP
  have g0 : Γ (α 0) = 1 := tyAt hA (i := 0) rfl
  have b1 : 0 ≤ ρ 1 ∧ ρ 1 ≤ 143 := hB 1
  have b2 : 3 ≤ ρ 2 ∧ ρ 2 ≤ 3 := hB 2
  have b3 : -2147483648 ≤ ρ 3 ∧ ρ 3 ≤ 2147483647 := hB 3
  have b4 : 0 ≤ ρ 4 ∧ ρ 4 ≤ 143 := hB 4
  have h0 : Γ (α 0) = 1 ∧ (ρ 4 + 0 ≠ -1 → nbP (M.2.2.2.2 (α 0) 0) (M.2.2.2.2 (α 0) 1) (ρ 1 + 0) (ρ 2 + 0)) := hP _ (List.mem_of_getElem? (i := 0) rfl)
  have h1 : 0 ≤ (1 : Int) ∧ M.2.2.2.2 (α 0) (1 : Int).toNat = ρ 3 + 0 := hP _ (List.mem_of_getElem? (i := 1) rfl)
  have h2 : ρ 4 + 0 = wI ((ρ 1 + 0) + (ρ 3 + 0)) := hP _ (List.mem_of_getElem? (i := 2) rfl)
  try simp only [Int.add_zero] at h0 h1 h2
  have key : (Γ (α 0) = 1 ∧ (∀ q ∈ ([([], 0, 2)] : VSP), wkT Γ M (α 0) q.1) ∧ Q585 g (vsv M (α 0) ([], 0, 2)) (ρ 1 + 0) (ρ 2 + 0) (ρ 4 + 0)) ∧ True := by
    try simp only [Int.add_zero]
    have dm0 := cdim hT g0
    have rc0 := rc_bd dm0.1 dm0.2
    have e1 : M.2.2.2.2 (α 0) 1 = ρ 3 := h1.2
    have m0 : (vsv M (α 0) ([], 0, 2)) 0 = M.2.2.2.2 (α 0) 0 := vs0 (by decide) (by decide)
    have m1 : (vsv M (α 0) ([], 0, 2)) 1 = M.2.2.2.2 (α 0) 1 := vs0 (by decide) (by decide)
    have h17 := h0.2 (by omega)
    rw [← m0, ← m1] at h17
    have c1 : (vsv M (α 0) ([], 0, 2)) 1 = ρ 3 := (vs0 (by decide) (by decide)).trans e1
    refine ⟨⟨g0, pic1 hT g0 (by decide) (by decide), ?_⟩, trivial⟩
    · dsimp only [Q585]
      refine Or.inr ⟨h17, ?_⟩
      show _ = nbq ((vsv M (α 0) ([], 0, 2)) 1) (ρ 1) (ρ 2)
      unfold nbq
      rw [if_neg (by omega)]
      rw [if_neg (by omega)]
      rw [if_neg (by omega)]
      rw [h2, wI_id (by unfold inI; omega), c1]
  exact ⟨nB, qB (key.1) (nB)⟩
def t_nnn0 : KT := ((0, 0, 0, 0), [(2, 0, 1, 0), (1, 1, 0, 0), (1, 2, 0, 0), (1, 3, 0, 0)], [(0, 0), (0, 143), (0, 0), (-2147483648, 2147483647)], [(10, [(2, 0, 1, 0), (0, 0, 0, 1), (1, 3, 0, 0)]), (21, [(1, 1, 0, 0), (1, 3, 0, 0)])], (0, 0, 0), [], [], ([], [(585, [(2, 0, 1, 0), (1, 1, 0, 0), (1, 2, 0, 0), (0, 0, 0, -1)])]), ([], []))
set_option maxRecDepth 100000 in
theorem l_nnn0 (g : GG) : LOK Yt (PSt g) t_nnn0 := by
  intro ρ α Γ M as hT hB hA hP
  have g0 : Γ (α 0) = 1 := tyAt hA (i := 0) rfl
  have b1 : 0 ≤ ρ 1 ∧ ρ 1 ≤ 143 := hB 1
  have b2 : 0 ≤ ρ 2 ∧ ρ 2 ≤ 0 := hB 2
  have b3 : -2147483648 ≤ ρ 3 ∧ ρ 3 ≤ 2147483647 := hB 3
  have h0 : 0 ≤ (1 : Int) ∧ M.2.2.2.2 (α 0) (1 : Int).toNat = ρ 3 + 0 := hP _ (List.mem_of_getElem? (i := 0) rfl)
  have h1 : ρ 1 + 0 < ρ 3 + 0 := hP _ (List.mem_of_getElem? (i := 1) rfl)
  try simp only [Int.add_zero] at h0 h1
  have key : (Γ (α 0) = 1 ∧ (∀ q ∈ ([([], 0, 2)] : VSP), wkT Γ M (α 0) q.1) ∧ Q585 g (vsv M (α 0) ([], 0, 2)) (ρ 1 + 0) (ρ 2 + 0) ((-1))) ∧ True := by
    try simp only [Int.add_zero]
    have dm0 := cdim hT g0
    have rc0 := rc_bd dm0.1 dm0.2
    have e0 : M.2.2.2.2 (α 0) 1 = ρ 3 := h0.2
    have m0 : (vsv M (α 0) ([], 0, 2)) 0 = M.2.2.2.2 (α 0) 0 := vs0 (by decide) (by decide)
    have m1 : (vsv M (α 0) ([], 0, 2)) 1 = M.2.2.2.2 (α 0) 1 := vs0 (by decide) (by decide)
    have c1 : (vsv M (α 0) ([], 0, 2)) 1 = ρ 3 := (vs0 (by decide) (by decide)).trans e0
    refine ⟨⟨g0, pic1 hT g0 (by decide) (by decide), ?_⟩, trivial⟩
    · dsimp only [Q585]
      exact Or.inl ⟨rfl, fun q => by
        have := q.1 (by omega)
        omega⟩
  exact ⟨nB, qB (key.1) (nB)⟩
def t_nnn1 : KT := ((0, 0, 0, 0), [(2, 0, 1, 0), (1, 1, 0, 0), (1, 2, 0, 0), (1, 3, 0, 0)], [(0, 0), (0, 143), (1, 1), (-2147483648, 0)], [(72, [(2, 0, 1, 0), (1, 1, 0, 0), (1, 3, 0, 0)])], (0, 0, 0), [], [], ([], [(585, [(2, 0, 1, 0), (1, 1, 0, 0), (1, 2, 0, 0), (0, 0, 0, -1)])]), ([], []))
set_option maxRecDepth 100000 in
theorem l_nnn1 (g : GG) : LOK Yt (PSt g) t_nnn1 := by
  intro ρ α Γ M as hT hB hA hP
  have g0 : Γ (α 0) = 1 := tyAt hA (i := 0) rfl
  have b1 : 0 ≤ ρ 1 ∧ ρ 1 ≤ 143 := hB 1
  have b2 : 1 ≤ ρ 2 ∧ ρ 2 ≤ 1 := hB 2
  have b3 : -2147483648 ≤ ρ 3 ∧ ρ 3 ≤ 0 := hB 3
  have h0 : Γ (α 0) = 1 ∧ ρ 3 + 0 = (ρ 1 + 0) % M.2.2.2.2 (α 0) 1 := hP _ (List.mem_of_getElem? (i := 0) rfl)
  try simp only [Int.add_zero] at h0
  have key : (Γ (α 0) = 1 ∧ (∀ q ∈ ([([], 0, 2)] : VSP), wkT Γ M (α 0) q.1) ∧ Q585 g (vsv M (α 0) ([], 0, 2)) (ρ 1 + 0) (ρ 2 + 0) ((-1))) ∧ True := by
    try simp only [Int.add_zero]
    have dm0 := cdim hT g0
    have rc0 := rc_bd dm0.1 dm0.2
    have m0 : (vsv M (α 0) ([], 0, 2)) 0 = M.2.2.2.2 (α 0) 0 := vs0 (by decide) (by decide)
    have m1 : (vsv M (α 0) ([], 0, 2)) 1 = M.2.2.2.2 (α 0) 1 := vs0 (by decide) (by decide)
    have h0 := h0.2
    rw [← m1] at h0
    refine ⟨⟨g0, pic1 hT g0 (by decide) (by decide), ?_⟩, trivial⟩
    · dsimp only [Q585]
      exact Or.inl ⟨rfl, fun q => by
        have := q.2.1 (by omega)
        omega⟩
  exact ⟨nB, qB (key.1) (nB)⟩
def t_nnn2 : KT := ((0, 0, 0, 0), [(2, 0, 1, 0), (1, 1, 0, 0), (1, 2, 0, 0), (1, 3, 0, 0), (1, 4, 0, 0)], [(0, 0), (0, 143), (2, 2), (-2147483648, 2147483647), (-2147483648, 2147483647)], [(72, [(2, 0, 1, 0), (1, 1, 0, 0), (1, 3, 0, 0)]), (10, [(2, 0, 1, 0), (0, 0, 0, 1), (1, 4, 0, 0)]), (6, [(1, 4, 0, -1), (1, 3, 0, 0)])], (0, 0, 0), [], [], ([], [(585, [(2, 0, 1, 0), (1, 1, 0, 0), (1, 2, 0, 0), (0, 0, 0, -1)])]), ([], []))
set_option maxRecDepth 100000 in
theorem l_nnn2 (g : GG) : LOK Yt (PSt g) t_nnn2 := by
  intro ρ α Γ M as hT hB hA hP
  have g0 : Γ (α 0) = 1 := tyAt hA (i := 0) rfl
  have b1 : 0 ≤ ρ 1 ∧ ρ 1 ≤ 143 := hB 1
  have b2 : 2 ≤ ρ 2 ∧ ρ 2 ≤ 2 := hB 2
  have b3 : -2147483648 ≤ ρ 3 ∧ ρ 3 ≤ 2147483647 := hB 3
  have b4 : -2147483648 ≤ ρ 4 ∧ ρ 4 ≤ 2147483647 := hB 4
  have h0 : Γ (α 0) = 1 ∧ ρ 3 + 0 = (ρ 1 + 0) % M.2.2.2.2 (α 0) 1 := hP _ (List.mem_of_getElem? (i := 0) rfl)
  have h1 : 0 ≤ (1 : Int) ∧ M.2.2.2.2 (α 0) (1 : Int).toNat = ρ 4 + 0 := hP _ (List.mem_of_getElem? (i := 1) rfl)
  have h2 : ρ 4 + (-1) ≤ ρ 3 + 0 := hP _ (List.mem_of_getElem? (i := 2) rfl)
  try simp only [Int.add_zero] at h0 h1 h2
  have key : (Γ (α 0) = 1 ∧ (∀ q ∈ ([([], 0, 2)] : VSP), wkT Γ M (α 0) q.1) ∧ Q585 g (vsv M (α 0) ([], 0, 2)) (ρ 1 + 0) (ρ 2 + 0) ((-1))) ∧ True := by
    try simp only [Int.add_zero]
    have dm0 := cdim hT g0
    have rc0 := rc_bd dm0.1 dm0.2
    have e1 : M.2.2.2.2 (α 0) 1 = ρ 4 := h1.2
    have m0 : (vsv M (α 0) ([], 0, 2)) 0 = M.2.2.2.2 (α 0) 0 := vs0 (by decide) (by decide)
    have m1 : (vsv M (α 0) ([], 0, 2)) 1 = M.2.2.2.2 (α 0) 1 := vs0 (by decide) (by decide)
    have c1 : (vsv M (α 0) ([], 0, 2)) 1 = ρ 4 := (vs0 (by decide) (by decide)).trans e1
    have h0 := h0.2
    rw [← m1] at h0
    refine ⟨⟨g0, pic1 hT g0 (by decide) (by decide), ?_⟩, trivial⟩
    · dsimp only [Q585]
      exact Or.inl ⟨rfl, fun q => by
        have := q.2.2.1 (by omega)
        omega⟩
  exact ⟨nB, qB (key.1) (nB)⟩
def t_nnn3 : KT := ((0, 0, 0, 0), [(2, 0, 1, 0), (1, 1, 0, 0), (1, 2, 0, 0), (1, 3, 0, 0), (1, 4, 0, 0)], [(0, 0), (0, 143), (3, 3), (-2147483648, 2147483647), (-2147483648, 2147483647)], [(71, [(2, 0, 1, 0), (1, 1, 0, 0), (1, 3, 0, 0)]), (10, [(2, 0, 1, 0), (0, 0, 0, 0), (1, 4, 0, 0)]), (6, [(1, 4, 0, -1), (1, 3, 0, 0)])], (0, 0, 0), [], [], ([], [(585, [(2, 0, 1, 0), (1, 1, 0, 0), (1, 2, 0, 0), (0, 0, 0, -1)])]), ([], []))
set_option maxRecDepth 100000 in
theorem l_nnn3 (g : GG) : LOK Yt (PSt g) t_nnn3 := by
  intro ρ α Γ M as hT hB hA hP
  have g0 : Γ (α 0) = 1 := tyAt hA (i := 0) rfl
  have b1 : 0 ≤ ρ 1 ∧ ρ 1 ≤ 143 := hB 1
  have b2 : 3 ≤ ρ 2 ∧ ρ 2 ≤ 3 := hB 2
  have b3 : -2147483648 ≤ ρ 3 ∧ ρ 3 ≤ 2147483647 := hB 3
  have b4 : -2147483648 ≤ ρ 4 ∧ ρ 4 ≤ 2147483647 := hB 4
  have h0 : Γ (α 0) = 1 ∧ ρ 3 + 0 = (ρ 1 + 0) / M.2.2.2.2 (α 0) 1 := hP _ (List.mem_of_getElem? (i := 0) rfl)
  have h1 : 0 ≤ (0 : Int) ∧ M.2.2.2.2 (α 0) (0 : Int).toNat = ρ 4 + 0 := hP _ (List.mem_of_getElem? (i := 1) rfl)
  have h2 : ρ 4 + (-1) ≤ ρ 3 + 0 := hP _ (List.mem_of_getElem? (i := 2) rfl)
  try simp only [Int.add_zero] at h0 h1 h2
  have key : (Γ (α 0) = 1 ∧ (∀ q ∈ ([([], 0, 2)] : VSP), wkT Γ M (α 0) q.1) ∧ Q585 g (vsv M (α 0) ([], 0, 2)) (ρ 1 + 0) (ρ 2 + 0) ((-1))) ∧ True := by
    try simp only [Int.add_zero]
    have dm0 := cdim hT g0
    have rc0 := rc_bd dm0.1 dm0.2
    have e1 : M.2.2.2.2 (α 0) 0 = ρ 4 := h1.2
    have m0 : (vsv M (α 0) ([], 0, 2)) 0 = M.2.2.2.2 (α 0) 0 := vs0 (by decide) (by decide)
    have m1 : (vsv M (α 0) ([], 0, 2)) 1 = M.2.2.2.2 (α 0) 1 := vs0 (by decide) (by decide)
    have c0 : (vsv M (α 0) ([], 0, 2)) 0 = ρ 4 := (vs0 (by decide) (by decide)).trans e1
    have h0 := h0.2
    rw [← m1] at h0
    refine ⟨⟨g0, pic1 hT g0 (by decide) (by decide), ?_⟩, trivial⟩
    · dsimp only [Q585]
      exact Or.inl ⟨rfl, fun q => by
        have := q.2.2.2 (by omega) (by omega) (by omega)
        omega⟩
  exact ⟨nB, qB (key.1) (nB)⟩
def t_nne0 : KT := ((0, 0, 0, 0), [(2, 0, 1, 0), (1, 1, 0, 0), (1, 2, 0, 0), (1, 3, 0, 0), (1, 4, 0, 0), (1, 5, 0, 0)], [(0, 0), (0, 143), (0, 0), (-2147483648, 2147483647), (-1000, 1000), (-2147483648, 2147483647)], [(10, [(2, 0, 1, 0), (0, 0, 0, 1), (1, 3, 0, 0)]), (24, [(1, 1, 0, 0), (1, 3, 0, 0), (1, 4, 0, 0)]), (25, [(0, 0, 0, 2), (1, 4, 0, 0), (1, 5, 0, 0)])], (0, 0, 0), [], [], ([], [(588, [(2, 0, 1, 0), (1, 1, 0, 0), (1, 2, 0, 0), (1, 5, 0, 1)])]), ([], []))
set_option maxRecDepth 100000 in
theorem l_nne0 (g : GG) : LOK Yt (PSt g) t_nne0 := by
  intro ρ α Γ M as hT hB hA hP
  have g0 : Γ (α 0) = 1 := tyAt hA (i := 0) rfl
  have b1 : 0 ≤ ρ 1 ∧ ρ 1 ≤ 143 := hB 1
  have b2 : 0 ≤ ρ 2 ∧ ρ 2 ≤ 0 := hB 2
  have b3 : -2147483648 ≤ ρ 3 ∧ ρ 3 ≤ 2147483647 := hB 3
  have b4 : -1000 ≤ ρ 4 ∧ ρ 4 ≤ 1000 := hB 4
  have b5 : -2147483648 ≤ ρ 5 ∧ ρ 5 ≤ 2147483647 := hB 5
  have h0 : 0 ≤ (1 : Int) ∧ M.2.2.2.2 (α 0) (1 : Int).toNat = ρ 3 + 0 := hP _ (List.mem_of_getElem? (i := 0) rfl)
  have h1 : ρ 4 + 0 = wI ((ρ 1 + 0) - (ρ 3 + 0)) := hP _ (List.mem_of_getElem? (i := 1) rfl)
  have h2 : ρ 5 + 0 = wI ((2) * (ρ 4 + 0)) := hP _ (List.mem_of_getElem? (i := 2) rfl)
  try simp only [Int.add_zero] at h0 h1 h2
  have key : (Γ (α 0) = 1 ∧ (∀ q ∈ ([([], 0, 2)] : VSP), wkT Γ M (α 0) q.1) ∧ Q588 g (vsv M (α 0) ([], 0, 2)) (ρ 1 + 0) (ρ 2 + 0) (ρ 5 + 1)) ∧ True := by
    try simp only [Int.add_zero]
    have dm0 := cdim hT g0
    have rc0 := rc_bd dm0.1 dm0.2
    have e0 : M.2.2.2.2 (α 0) 1 = ρ 3 := h0.2
    have m0 : (vsv M (α 0) ([], 0, 2)) 0 = M.2.2.2.2 (α 0) 0 := vs0 (by decide) (by decide)
    have m1 : (vsv M (α 0) ([], 0, 2)) 1 = M.2.2.2.2 (α 0) 1 := vs0 (by decide) (by decide)
    have c1 : (vsv M (α 0) ([], 0, 2)) 1 = ρ 3 := (vs0 (by decide) (by decide)).trans e0
    refine ⟨⟨g0, pic1 hT g0 (by decide) (by decide), ?_⟩, trivial⟩
    · dsimp only [Q588]
      show _ = nbe ((vsv M (α 0) ([], 0, 2)) 1) (ρ 1) (ρ 2)
      unfold nbe
      rw [if_pos (by omega)]
      rw [h2, wI_id (by unfold inI; omega), h1, wI_id (by unfold inI; omega), c1]
  exact ⟨nB, qB (key.1) (nB)⟩
def t_nne1 : KT := ((0, 0, 0, 0), [(2, 0, 1, 0), (1, 1, 0, 0), (1, 2, 0, 0), (1, 3, 0, 0)], [(0, 0), (0, 143), (1, 1), (-2147483648, 2147483647)], [(25, [(0, 0, 0, 2), (1, 1, 0, -1), (1, 3, 0, 0)])], (0, 0, 0), [], [], ([], [(588, [(2, 0, 1, 0), (1, 1, 0, 0), (1, 2, 0, 0), (1, 3, 0, 0)])]), ([], []))
set_option maxRecDepth 100000 in
theorem l_nne1 (g : GG) : LOK Yt (PSt g) t_nne1 := by
  intro ρ α Γ M as hT hB hA hP
  have g0 : Γ (α 0) = 1 := tyAt hA (i := 0) rfl
  have b1 : 0 ≤ ρ 1 ∧ ρ 1 ≤ 143 := hB 1
  have b2 : 1 ≤ ρ 2 ∧ ρ 2 ≤ 1 := hB 2
  have b3 : -2147483648 ≤ ρ 3 ∧ ρ 3 ≤ 2147483647 := hB 3
  have h0 : ρ 3 + 0 = wI ((2) * (ρ 1 + (-1))) := hP _ (List.mem_of_getElem? (i := 0) rfl)
  try simp only [Int.add_zero] at h0
  have key : (Γ (α 0) = 1 ∧ (∀ q ∈ ([([], 0, 2)] : VSP), wkT Γ M (α 0) q.1) ∧ Q588 g (vsv M (α 0) ([], 0, 2)) (ρ 1 + 0) (ρ 2 + 0) (ρ 3 + 0)) ∧ True := by
    try simp only [Int.add_zero]
    have dm0 := cdim hT g0
    have rc0 := rc_bd dm0.1 dm0.2
    refine ⟨⟨g0, pic1 hT g0 (by decide) (by decide), ?_⟩, trivial⟩
    · dsimp only [Q588]
      show _ = nbe ((vsv M (α 0) ([], 0, 2)) 1) (ρ 1) (ρ 2)
      unfold nbe
      rw [if_neg (by omega)]
      rw [if_pos (by omega)]
      rw [h0, wI_id (by unfold inI; omega)]
      omega
  exact ⟨nB, qB (key.1) (nB)⟩
def t_nne2 : KT := ((0, 0, 0, 0), [(2, 0, 1, 0), (1, 1, 0, 0), (1, 2, 0, 0), (1, 3, 0, 0)], [(0, 0), (0, 143), (2, 2), (-2147483648, 2147483647)], [(25, [(0, 0, 0, 2), (1, 1, 0, 0), (1, 3, 0, 0)])], (0, 0, 0), [], [], ([], [(588, [(2, 0, 1, 0), (1, 1, 0, 0), (1, 2, 0, 0), (1, 3, 0, 0)])]), ([], []))
set_option maxRecDepth 100000 in
theorem l_nne2 (g : GG) : LOK Yt (PSt g) t_nne2 := by
  intro ρ α Γ M as hT hB hA hP
  have g0 : Γ (α 0) = 1 := tyAt hA (i := 0) rfl
  have b1 : 0 ≤ ρ 1 ∧ ρ 1 ≤ 143 := hB 1
  have b2 : 2 ≤ ρ 2 ∧ ρ 2 ≤ 2 := hB 2
  have b3 : -2147483648 ≤ ρ 3 ∧ ρ 3 ≤ 2147483647 := hB 3
  have h0 : ρ 3 + 0 = wI ((2) * (ρ 1 + 0)) := hP _ (List.mem_of_getElem? (i := 0) rfl)
  try simp only [Int.add_zero] at h0
  have key : (Γ (α 0) = 1 ∧ (∀ q ∈ ([([], 0, 2)] : VSP), wkT Γ M (α 0) q.1) ∧ Q588 g (vsv M (α 0) ([], 0, 2)) (ρ 1 + 0) (ρ 2 + 0) (ρ 3 + 0)) ∧ True := by
    try simp only [Int.add_zero]
    have dm0 := cdim hT g0
    have rc0 := rc_bd dm0.1 dm0.2
    refine ⟨⟨g0, pic1 hT g0 (by decide) (by decide), ?_⟩, trivial⟩
    · dsimp only [Q588]
      show _ = nbe ((vsv M (α 0) ([], 0, 2)) 1) (ρ 1) (ρ 2)
      unfold nbe
      rw [if_neg (by omega)]
      rw [if_neg (by omega)]
      rw [if_pos (by omega)]
      rw [h0, wI_id (by unfold inI; omega)]
  exact ⟨nB, qB (key.1) (nB)⟩
def t_nne3 : KT := ((0, 0, 0, 0), [(2, 0, 1, 0), (1, 1, 0, 0), (1, 2, 0, 0), (1, 3, 0, 0)], [(0, 0), (0, 143), (3, 3), (-2147483648, 2147483647)], [(25, [(0, 0, 0, 2), (1, 1, 0, 0), (1, 3, 0, 0)])], (0, 0, 0), [], [], ([], [(588, [(2, 0, 1, 0), (1, 1, 0, 0), (1, 2, 0, 0), (1, 3, 0, 1)])]), ([], []))
set_option maxRecDepth 100000 in
theorem l_nne3 (g : GG) : LOK Yt (PSt g) t_nne3 := by
  intro ρ α Γ M as hT hB hA hP
  have g0 : Γ (α 0) = 1 := tyAt hA (i := 0) rfl
  have b1 : 0 ≤ ρ 1 ∧ ρ 1 ≤ 143 := hB 1
  have b2 : 3 ≤ ρ 2 ∧ ρ 2 ≤ 3 := hB 2
  have b3 : -2147483648 ≤ ρ 3 ∧ ρ 3 ≤ 2147483647 := hB 3
  have h0 : ρ 3 + 0 = wI ((2) * (ρ 1 + 0)) := hP _ (List.mem_of_getElem? (i := 0) rfl)
  try simp only [Int.add_zero] at h0
  have key : (Γ (α 0) = 1 ∧ (∀ q ∈ ([([], 0, 2)] : VSP), wkT Γ M (α 0) q.1) ∧ Q588 g (vsv M (α 0) ([], 0, 2)) (ρ 1 + 0) (ρ 2 + 0) (ρ 3 + 1)) ∧ True := by
    try simp only [Int.add_zero]
    have dm0 := cdim hT g0
    have rc0 := rc_bd dm0.1 dm0.2
    refine ⟨⟨g0, pic1 hT g0 (by decide) (by decide), ?_⟩, trivial⟩
    · dsimp only [Q588]
      show _ = nbe ((vsv M (α 0) ([], 0, 2)) 1) (ρ 1) (ρ 2)
      unfold nbe
      rw [if_neg (by omega)]
      rw [if_neg (by omega)]
      rw [if_neg (by omega)]
      rw [h0, wI_id (by unfold inI; omega)]
  exact ⟨nB, qB (key.1) (nB)⟩
def t_nil1 : KT := ((0, 0, 0, 0), [(2, 0, 10, 0), (1, 1, 0, 0), (1, 2, 0, 0)], [(0, 0), (0, 143), (0, 2147483647)], [(75, [(2, 0, 10, 0), (1, 1, 0, 0), (1, 2, 0, 0)])], (0, 0, 0), [], [], ([], [(586, [(2, 0, 10, 0), (1, 1, 0, 0)])]), ([], []))
set_option maxRecDepth 100000 in
theorem l_nil1 (g : GG) : LOK Yt (PSt g) t_nil1 := by
  intro ρ α Γ M as hT hB hA hP
  have g0 : Γ (α 0) = 10 := tyAt hA (i := 0) rfl
  have b1 : 0 ≤ ρ 1 ∧ ρ 1 ≤ 143 := hB 1
  have b2 : 0 ≤ ρ 2 ∧ ρ 2 ≤ 2147483647 := hB 2
  have h0 : Γ (α 0) = 10 ∧ 0 ≤ ρ 1 + 0 ∧ ρ 1 + 0 < 144 ∧ ∃ s, M.2.2.2.1 (α 0) 6 = some s ∧ Γ s = 13 ∧ M.2.2.2.2 s (ρ 1 + 0 : Int).toNat = ρ 2 + 0 := hP _ (List.mem_of_getElem? (i := 0) rfl)
  try simp only [Int.add_zero] at h0
  have key : (Γ (α 0) = 10 ∧ (∀ q ∈ ([([(6, 13)], 0, 144)] : VSP), wkT Γ M (α 0) q.1) ∧ Q586 g (vsv M (α 0) ([(6, 13)], 0, 144)) (ρ 1 + 0)) ∧ True := by
    try simp only [Int.add_zero]
    obtain ⟨-, q0, q1, s, q2, q3, q4⟩ := h0
    have e : (vsv M (α 0) ([(6, 13)], 0, 144)) (ρ 1).toNat = ρ 2 := (vs1 q2 (Nat.zero_le _) (by omega)).trans q4
    refine ⟨⟨g0, pic1 hT g0 (by decide) (by decide), ?_⟩, trivial⟩
    · dsimp only [Q586]
      refine ⟨b1.1, ?_⟩
      show (vsv M (α 0) ([(6, 13)], 0, 144)) (ρ 1).toNat ≠ -1
      rw [e]
      omega
  exact ⟨nB, qB (key.1) (nB)⟩
def t_nil2 : KT := ((0, 0, 0, 0), [(2, 0, 10, 0), (1, 1, 0, 0), (1, 2, 0, 0)], [(0, 0), (0, 143), (-1, -1)], [(75, [(2, 0, 10, 0), (1, 1, 0, 0), (1, 2, 0, 0)])], (0, 0, 0), [], [], ([], [(587, [(2, 0, 10, 0), (1, 1, 0, 0)])]), ([], []))
set_option maxRecDepth 100000 in
theorem l_nil2 (g : GG) : LOK Yt (PSt g) t_nil2 := by
  intro ρ α Γ M as hT hB hA hP
  have g0 : Γ (α 0) = 10 := tyAt hA (i := 0) rfl
  have b1 : 0 ≤ ρ 1 ∧ ρ 1 ≤ 143 := hB 1
  have b2 : -1 ≤ ρ 2 ∧ ρ 2 ≤ -1 := hB 2
  have h0 : Γ (α 0) = 10 ∧ 0 ≤ ρ 1 + 0 ∧ ρ 1 + 0 < 144 ∧ ∃ s, M.2.2.2.1 (α 0) 6 = some s ∧ Γ s = 13 ∧ M.2.2.2.2 s (ρ 1 + 0 : Int).toNat = ρ 2 + 0 := hP _ (List.mem_of_getElem? (i := 0) rfl)
  try simp only [Int.add_zero] at h0
  have key : (Γ (α 0) = 10 ∧ (∀ q ∈ ([([(6, 13)], 0, 144)] : VSP), wkT Γ M (α 0) q.1) ∧ Q587 g (vsv M (α 0) ([(6, 13)], 0, 144)) (ρ 1 + 0)) ∧ True := by
    try simp only [Int.add_zero]
    obtain ⟨-, q0, q1, s, q2, q3, q4⟩ := h0
    have e : (vsv M (α 0) ([(6, 13)], 0, 144)) (ρ 1).toNat = ρ 2 := (vs1 q2 (Nat.zero_le _) (by omega)).trans q4
    refine ⟨⟨g0, pic1 hT g0 (by decide) (by decide), ?_⟩, trivial⟩
    · dsimp only [Q587]
      refine ⟨b1.1, ?_⟩
      show (vsv M (α 0) ([(6, 13)], 0, 144)) (ρ 1).toNat = -1
      rw [e]
      omega
  exact ⟨nB, qB (key.1) (nB)⟩
def t_nsp_0a : KT := ((0, 0, 0, 0), [(2, 0, 26, 0), (2, 1, 1, 0), (2, 2, 10, 0), (1, 3, 0, 0)], [(0, 0), (0, 0), (0, 0), (0, 143)], [(591, [(2, 0, 26, 0), (2, 1, 1, 0), (2, 2, 10, 0), (1, 3, 0, 0), (0, 0, 0, 0), (1, 3, 0, 0)]), (463, [(2, 2, 10, 0), (2, 1, 1, 0)]), (464, [(2, 0, 26, 0)])], (0, 0, 0), [], [], ([], [(451, [(2, 0, 26, 0), (1, 3, 0, 0), (0, 0, 0, 0), (1, 3, 0, 0)]), (722, [])]), ([], []))
set_option maxRecDepth 100000 in
theorem l_nsp_0a (g : GG) : LOK Yt (PSt g) t_nsp_0a := by
  intro ρ α Γ M as hT hB hA hP
  have g0 : Γ (α 0) = 26 := tyAt hA (i := 0) rfl
  have g1 : Γ (α 1) = 1 := tyAt hA (i := 1) rfl
  have g2 : Γ (α 2) = 10 := tyAt hA (i := 2) rfl
  have b3 : 0 ≤ ρ 3 ∧ ρ 3 ≤ 143 := hB 3
  have h0 : Γ (α 0) = 26 ∧ (∀ q ∈ ([([(0, 27)], 0, 288), ([(1, 28)], 0, 144), ([(3, 30)], 0, 144), ([], 4, 5)] : VSP), wkT Γ M (α 0) q.1) ∧ Γ (α 1) = 1 ∧ (∀ q ∈ ([([], 0, 2)] : VSP), wkT Γ M (α 1) q.1) ∧ Γ (α 2) = 10 ∧ (∀ q ∈ ([([(6, 13)], 0, 144)] : VSP), wkT Γ M (α 2) q.1) ∧ Q591 g (vsv M (α 0) ([(0, 27)], 0, 288)) (vsv M (α 0) ([(1, 28)], 0, 144)) (vsv M (α 0) ([(3, 30)], 0, 144)) (vsv M (α 0) ([], 4, 5)) (vsv M (α 1) ([], 0, 2)) (vsv M (α 2) ([(6, 13)], 0, 144)) (ρ 3 + 0) (0) (ρ 3 + 0) := hP _ (List.mem_of_getElem? (i := 0) rfl)
  have h1 : Γ (α 2) = 10 ∧ (∀ q ∈ ([([(6, 13)], 0, 144)] : VSP), wkT Γ M (α 2) q.1) ∧ Γ (α 1) = 1 ∧ (∀ q ∈ ([([], 0, 2)] : VSP), wkT Γ M (α 1) q.1) ∧ Q463 g (vsv M (α 2) ([(6, 13)], 0, 144)) (vsv M (α 1) ([], 0, 2))  := hP _ (List.mem_of_getElem? (i := 1) rfl)
  have h2 : Γ (α 0) = 26 ∧ (∀ q ∈ ([([(0, 27)], 0, 288)] : VSP), wkT Γ M (α 0) q.1) ∧ Q464 g (vsv M (α 0) ([(0, 27)], 0, 288))  := hP _ (List.mem_of_getElem? (i := 2) rfl)
  try simp only [Int.add_zero] at h0 h1 h2
  have key : (Γ (α 0) = 26 ∧ (∀ q ∈ ([([(1, 28)], 0, 144), ([(3, 30)], 0, 144), ([], 4, 5)] : VSP), wkT Γ M (α 0) q.1) ∧ Q451 g (vsv M (α 0) ([(1, 28)], 0, 144)) (vsv M (α 0) ([(3, 30)], 0, 144)) (vsv M (α 0) ([], 4, 5)) (ρ 3 + 0) (0) (ρ 3 + 0)) ∧ (((2 ≤ zR g ∧ zR g ≤ 9) ∧ 2 ≤ zC g ∧ zC g ≤ 9)) ∧ True := by
    try simp only [Int.add_zero]
    have dm1 := cdim hT g1
    have rc1 := rc_bd dm1.1 dm1.2
    obtain ⟨-, -, -, -, -, -, p0⟩ := h0
    dsimp only [Q591] at p0
    obtain ⟨-, -, -, -, p1⟩ := h1
    dsimp only [Q463] at p1
    obtain ⟨-, -, p2⟩ := h2
    dsimp only [Q464] at p2
    obtain ⟨⟨s1, s2⟩, ⟨⟨z1, z2⟩, z3, z4⟩, hS⟩ := p1
    have hB := p2
    have rc81 : 4 ≤ zR g * zC g ∧ zR g * zC g ≤ 81 := ⟨(rc_bd ⟨z1, by omega⟩ ⟨z3, by omega⟩).1, Int.le_trans (Int.mul_le_mul z2 z4 (by omega) (by decide)) (by decide)⟩
    rw [s1, s2] at p0
    refine ⟨⟨g0, pic1 hT g0 (by decide) (by decide), ?_⟩, ?_, trivial⟩
    · dsimp only [Q451]
      exact fn_c (by omega) (by omega) (fun j hj => (hS j hj).symm) (fun _ _ => rfl) (fun _ _ => rfl) (fun e he => by show ((vsv M (α 0) ([(0, 27)], 0, 288)) e = 0) ↔ _; rw [hB e (by have := he.2.1; omega)]) (Or.inl (Int.le_refl _)) (by decide) p0
    · exact ⟨⟨z1, z2⟩, z3, z4⟩
  exact ⟨nB, qB (key.1) (qB (key.2.1) (nB))⟩
def t_nsp_aa : KT := ((0, 0, 0, 0), [(2, 0, 26, 0), (2, 1, 1, 0), (2, 2, 10, 0), (1, 3, 0, 0), (1, 4, 0, 0), (1, 5, 0, 0)], [(0, 0), (0, 0), (0, 0), (0, 143), (0, 3), (-1, -1)], [(451, [(2, 0, 26, 0), (1, 3, 0, 0), (1, 4, 0, 0), (1, 3, 0, 0)]), (463, [(2, 2, 10, 0), (2, 1, 1, 0)]), (584, [(2, 2, 10, 0), (2, 1, 1, 0), (1, 3, 0, 0)]), (585, [(2, 1, 1, 0), (1, 3, 0, 0), (1, 4, 0, 0), (1, 5, 0, 0)])], (0, 0, 0), [], [], ([], [(451, [(2, 0, 26, 0), (1, 3, 0, 0), (1, 4, 0, 1), (1, 3, 0, 0)])]), ([], []))
set_option maxRecDepth 100000 in
theorem l_nsp_aa (g : GG) : LOK Yt (PSt g) t_nsp_aa := by
  intro ρ α Γ M as hT hB hA hP
  have g0 : Γ (α 0) = 26 := tyAt hA (i := 0) rfl
  have g1 : Γ (α 1) = 1 := tyAt hA (i := 1) rfl
  have g2 : Γ (α 2) = 10 := tyAt hA (i := 2) rfl
  have b3 : 0 ≤ ρ 3 ∧ ρ 3 ≤ 143 := hB 3
  have b4 : 0 ≤ ρ 4 ∧ ρ 4 ≤ 3 := hB 4
  have b5 : -1 ≤ ρ 5 ∧ ρ 5 ≤ -1 := hB 5
  have h0 : Γ (α 0) = 26 ∧ (∀ q ∈ ([([(1, 28)], 0, 144), ([(3, 30)], 0, 144), ([], 4, 5)] : VSP), wkT Γ M (α 0) q.1) ∧ Q451 g (vsv M (α 0) ([(1, 28)], 0, 144)) (vsv M (α 0) ([(3, 30)], 0, 144)) (vsv M (α 0) ([], 4, 5)) (ρ 3 + 0) (ρ 4 + 0) (ρ 3 + 0) := hP _ (List.mem_of_getElem? (i := 0) rfl)
  have h1 : Γ (α 2) = 10 ∧ (∀ q ∈ ([([(6, 13)], 0, 144)] : VSP), wkT Γ M (α 2) q.1) ∧ Γ (α 1) = 1 ∧ (∀ q ∈ ([([], 0, 2)] : VSP), wkT Γ M (α 1) q.1) ∧ Q463 g (vsv M (α 2) ([(6, 13)], 0, 144)) (vsv M (α 1) ([], 0, 2))  := hP _ (List.mem_of_getElem? (i := 1) rfl)
  have h2 : Γ (α 2) = 10 ∧ (∀ q ∈ ([([(6, 13)], 0, 144)] : VSP), wkT Γ M (α 2) q.1) ∧ Γ (α 1) = 1 ∧ (∀ q ∈ ([([], 0, 2)] : VSP), wkT Γ M (α 1) q.1) ∧ Q584 g (vsv M (α 2) ([(6, 13)], 0, 144)) (vsv M (α 1) ([], 0, 2)) (ρ 3 + 0) := hP _ (List.mem_of_getElem? (i := 2) rfl)
  have h3 : Γ (α 1) = 1 ∧ (∀ q ∈ ([([], 0, 2)] : VSP), wkT Γ M (α 1) q.1) ∧ Q585 g (vsv M (α 1) ([], 0, 2)) (ρ 3 + 0) (ρ 4 + 0) (ρ 5 + 0) := hP _ (List.mem_of_getElem? (i := 3) rfl)
  try simp only [Int.add_zero] at h0 h1 h2 h3
  have key : (Γ (α 0) = 26 ∧ (∀ q ∈ ([([(1, 28)], 0, 144), ([(3, 30)], 0, 144), ([], 4, 5)] : VSP), wkT Γ M (α 0) q.1) ∧ Q451 g (vsv M (α 0) ([(1, 28)], 0, 144)) (vsv M (α 0) ([(3, 30)], 0, 144)) (vsv M (α 0) ([], 4, 5)) (ρ 3 + 0) (ρ 4 + 1) (ρ 3 + 0)) ∧ True := by
    try simp only [Int.add_zero]
    have dm1 := cdim hT g1
    have rc1 := rc_bd dm1.1 dm1.2
    obtain ⟨-, -, p0⟩ := h0
    dsimp only [Q451] at p0
    obtain ⟨-, -, -, -, p1⟩ := h1
    dsimp only [Q463] at p1
    obtain ⟨-, -, -, -, p2⟩ := h2
    dsimp only [Q584] at p2
    obtain ⟨-, -, p3⟩ := h3
    dsimp only [Q585] at p3
    obtain ⟨⟨s1, s2⟩, ⟨⟨z1, z2⟩, z3, z4⟩, hS⟩ := p1
    obtain ⟨⟨f0, f1⟩, f2⟩ := p2
    have rc81 : 4 ≤ zR g * zC g ∧ zR g * zC g ≤ 81 := ⟨(rc_bd ⟨z1, by omega⟩ ⟨z3, by omega⟩).1, Int.le_trans (Int.mul_le_mul z2 z4 (by omega) (by decide)) (by decide)⟩
    refine ⟨⟨g0, pic1 hT g0 (by decide) (by decide), ?_⟩, trivial⟩
    · dsimp only [Q451]
      refine fn_side p0 (by omega) fun hn hp hs => ?_
      rw [s1, s2] at p3 f1
      rcases p3 with ⟨-, h⟩ | ⟨h, e⟩
      · exact absurd hn h
      · have := nb_lk (pe := fun e => zB g e = 0) (by omega) f0 f1 ⟨b4.1, by omega⟩ hn hp
        omega
  exact ⟨nB, qB (key.1) (nB)⟩
def t_nsp_ba : KT := ((0, 0, 0, 0), [(2, 0, 26, 0), (2, 1, 1, 0), (2, 2, 10, 0), (1, 3, 0, 0), (1, 4, 0, 0), (1, 5, 0, 0)], [(0, 0), (0, 0), (0, 0), (0, 143), (0, 3), (0, 143)], [(451, [(2, 0, 26, 0), (1, 3, 0, 0), (1, 4, 0, 0), (1, 3, 0, 0)]), (463, [(2, 2, 10, 0), (2, 1, 1, 0)]), (584, [(2, 2, 10, 0), (2, 1, 1, 0), (1, 3, 0, 0)]), (585, [(2, 1, 1, 0), (1, 3, 0, 0), (1, 4, 0, 0), (1, 5, 0, 0)]), (586, [(2, 2, 10, 0), (1, 5, 0, 0)])], (0, 0, 0), [], [], ([], [(451, [(2, 0, 26, 0), (1, 3, 0, 0), (1, 4, 0, 1), (1, 3, 0, 0)])]), ([], []))
set_option maxRecDepth 100000 in
theorem l_nsp_ba (g : GG) : LOK Yt (PSt g) t_nsp_ba := by
  intro ρ α Γ M as hT hB hA hP
  have g0 : Γ (α 0) = 26 := tyAt hA (i := 0) rfl
  have g1 : Γ (α 1) = 1 := tyAt hA (i := 1) rfl
  have g2 : Γ (α 2) = 10 := tyAt hA (i := 2) rfl
  have b3 : 0 ≤ ρ 3 ∧ ρ 3 ≤ 143 := hB 3
  have b4 : 0 ≤ ρ 4 ∧ ρ 4 ≤ 3 := hB 4
  have b5 : 0 ≤ ρ 5 ∧ ρ 5 ≤ 143 := hB 5
  have h0 : Γ (α 0) = 26 ∧ (∀ q ∈ ([([(1, 28)], 0, 144), ([(3, 30)], 0, 144), ([], 4, 5)] : VSP), wkT Γ M (α 0) q.1) ∧ Q451 g (vsv M (α 0) ([(1, 28)], 0, 144)) (vsv M (α 0) ([(3, 30)], 0, 144)) (vsv M (α 0) ([], 4, 5)) (ρ 3 + 0) (ρ 4 + 0) (ρ 3 + 0) := hP _ (List.mem_of_getElem? (i := 0) rfl)
  have h1 : Γ (α 2) = 10 ∧ (∀ q ∈ ([([(6, 13)], 0, 144)] : VSP), wkT Γ M (α 2) q.1) ∧ Γ (α 1) = 1 ∧ (∀ q ∈ ([([], 0, 2)] : VSP), wkT Γ M (α 1) q.1) ∧ Q463 g (vsv M (α 2) ([(6, 13)], 0, 144)) (vsv M (α 1) ([], 0, 2))  := hP _ (List.mem_of_getElem? (i := 1) rfl)
  have h2 : Γ (α 2) = 10 ∧ (∀ q ∈ ([([(6, 13)], 0, 144)] : VSP), wkT Γ M (α 2) q.1) ∧ Γ (α 1) = 1 ∧ (∀ q ∈ ([([], 0, 2)] : VSP), wkT Γ M (α 1) q.1) ∧ Q584 g (vsv M (α 2) ([(6, 13)], 0, 144)) (vsv M (α 1) ([], 0, 2)) (ρ 3 + 0) := hP _ (List.mem_of_getElem? (i := 2) rfl)
  have h3 : Γ (α 1) = 1 ∧ (∀ q ∈ ([([], 0, 2)] : VSP), wkT Γ M (α 1) q.1) ∧ Q585 g (vsv M (α 1) ([], 0, 2)) (ρ 3 + 0) (ρ 4 + 0) (ρ 5 + 0) := hP _ (List.mem_of_getElem? (i := 3) rfl)
  have h4 : Γ (α 2) = 10 ∧ (∀ q ∈ ([([(6, 13)], 0, 144)] : VSP), wkT Γ M (α 2) q.1) ∧ Q586 g (vsv M (α 2) ([(6, 13)], 0, 144)) (ρ 5 + 0) := hP _ (List.mem_of_getElem? (i := 4) rfl)
  try simp only [Int.add_zero] at h0 h1 h2 h3 h4
  have key : (Γ (α 0) = 26 ∧ (∀ q ∈ ([([(1, 28)], 0, 144), ([(3, 30)], 0, 144), ([], 4, 5)] : VSP), wkT Γ M (α 0) q.1) ∧ Q451 g (vsv M (α 0) ([(1, 28)], 0, 144)) (vsv M (α 0) ([(3, 30)], 0, 144)) (vsv M (α 0) ([], 4, 5)) (ρ 3 + 0) (ρ 4 + 1) (ρ 3 + 0)) ∧ True := by
    try simp only [Int.add_zero]
    have dm1 := cdim hT g1
    have rc1 := rc_bd dm1.1 dm1.2
    obtain ⟨-, -, p0⟩ := h0
    dsimp only [Q451] at p0
    obtain ⟨-, -, -, -, p1⟩ := h1
    dsimp only [Q463] at p1
    obtain ⟨-, -, -, -, p2⟩ := h2
    dsimp only [Q584] at p2
    obtain ⟨-, -, p3⟩ := h3
    dsimp only [Q585] at p3
    obtain ⟨-, -, p4⟩ := h4
    dsimp only [Q586] at p4
    obtain ⟨⟨s1, s2⟩, ⟨⟨z1, z2⟩, z3, z4⟩, hS⟩ := p1
    obtain ⟨⟨f0, f1⟩, f2⟩ := p2
    have rc81 : 4 ≤ zR g * zC g ∧ zR g * zC g ≤ 81 := ⟨(rc_bd ⟨z1, by omega⟩ ⟨z3, by omega⟩).1, Int.le_trans (Int.mul_le_mul z2 z4 (by omega) (by decide)) (by decide)⟩
    refine ⟨⟨g0, pic1 hT g0 (by decide) (by decide), ?_⟩, trivial⟩
    · dsimp only [Q451]
      refine fn_side p0 (by omega) fun hn hp hs => ?_
      rw [s1, s2] at p3
      rcases p3 with ⟨h, -⟩ | ⟨h, e⟩
      · omega
      · rw [← e, ← hS _ (by omega)] at hs
        exact absurd hs p4.2
  exact ⟨nB, qB (key.1) (nB)⟩
def t_nsp_ca : KT := ((0, 0, 0, 0), [(2, 0, 26, 0), (2, 1, 1, 0), (2, 2, 10, 0), (1, 3, 0, 0), (1, 4, 0, 0), (1, 5, 0, 0), (1, 6, 0, 0)], [(0, 0), (0, 0), (0, 0), (0, 143), (0, 3), (0, 287), (1, 1)], [(451, [(2, 0, 26, 0), (1, 3, 0, 0), (1, 4, 0, 0), (1, 3, 0, 0)]), (463, [(2, 2, 10, 0), (2, 1, 1, 0)]), (584, [(2, 2, 10, 0), (2, 1, 1, 0), (1, 3, 0, 0)]), (588, [(2, 1, 1, 0), (1, 3, 0, 0), (1, 4, 0, 0), (1, 5, 0, 0)]), (589, [(2, 0, 26, 0), (1, 5, 0, 0), (1, 6, 0, 0)]), (464, [(2, 0, 26, 0)])], (0, 0, 0), [], [], ([], [(451, [(2, 0, 26, 0), (1, 3, 0, 0), (1, 4, 0, 1), (1, 3, 0, 0)])]), ([], []))
set_option maxRecDepth 100000 in
theorem l_nsp_ca (g : GG) : LOK Yt (PSt g) t_nsp_ca := by
  intro ρ α Γ M as hT hB hA hP
  have g0 : Γ (α 0) = 26 := tyAt hA (i := 0) rfl
  have g1 : Γ (α 1) = 1 := tyAt hA (i := 1) rfl
  have g2 : Γ (α 2) = 10 := tyAt hA (i := 2) rfl
  have b3 : 0 ≤ ρ 3 ∧ ρ 3 ≤ 143 := hB 3
  have b4 : 0 ≤ ρ 4 ∧ ρ 4 ≤ 3 := hB 4
  have b5 : 0 ≤ ρ 5 ∧ ρ 5 ≤ 287 := hB 5
  have b6 : 1 ≤ ρ 6 ∧ ρ 6 ≤ 1 := hB 6
  have h0 : Γ (α 0) = 26 ∧ (∀ q ∈ ([([(1, 28)], 0, 144), ([(3, 30)], 0, 144), ([], 4, 5)] : VSP), wkT Γ M (α 0) q.1) ∧ Q451 g (vsv M (α 0) ([(1, 28)], 0, 144)) (vsv M (α 0) ([(3, 30)], 0, 144)) (vsv M (α 0) ([], 4, 5)) (ρ 3 + 0) (ρ 4 + 0) (ρ 3 + 0) := hP _ (List.mem_of_getElem? (i := 0) rfl)
  have h1 : Γ (α 2) = 10 ∧ (∀ q ∈ ([([(6, 13)], 0, 144)] : VSP), wkT Γ M (α 2) q.1) ∧ Γ (α 1) = 1 ∧ (∀ q ∈ ([([], 0, 2)] : VSP), wkT Γ M (α 1) q.1) ∧ Q463 g (vsv M (α 2) ([(6, 13)], 0, 144)) (vsv M (α 1) ([], 0, 2))  := hP _ (List.mem_of_getElem? (i := 1) rfl)
  have h2 : Γ (α 2) = 10 ∧ (∀ q ∈ ([([(6, 13)], 0, 144)] : VSP), wkT Γ M (α 2) q.1) ∧ Γ (α 1) = 1 ∧ (∀ q ∈ ([([], 0, 2)] : VSP), wkT Γ M (α 1) q.1) ∧ Q584 g (vsv M (α 2) ([(6, 13)], 0, 144)) (vsv M (α 1) ([], 0, 2)) (ρ 3 + 0) := hP _ (List.mem_of_getElem? (i := 2) rfl)
  have h3 : Γ (α 1) = 1 ∧ (∀ q ∈ ([([], 0, 2)] : VSP), wkT Γ M (α 1) q.1) ∧ Q588 g (vsv M (α 1) ([], 0, 2)) (ρ 3 + 0) (ρ 4 + 0) (ρ 5 + 0) := hP _ (List.mem_of_getElem? (i := 3) rfl)
  have h4 : Γ (α 0) = 26 ∧ (∀ q ∈ ([([(0, 27)], 0, 288)] : VSP), wkT Γ M (α 0) q.1) ∧ Q589 g (vsv M (α 0) ([(0, 27)], 0, 288)) (ρ 5 + 0) (ρ 6 + 0) := hP _ (List.mem_of_getElem? (i := 4) rfl)
  have h5 : Γ (α 0) = 26 ∧ (∀ q ∈ ([([(0, 27)], 0, 288)] : VSP), wkT Γ M (α 0) q.1) ∧ Q464 g (vsv M (α 0) ([(0, 27)], 0, 288))  := hP _ (List.mem_of_getElem? (i := 5) rfl)
  try simp only [Int.add_zero] at h0 h1 h2 h3 h4 h5
  have key : (Γ (α 0) = 26 ∧ (∀ q ∈ ([([(1, 28)], 0, 144), ([(3, 30)], 0, 144), ([], 4, 5)] : VSP), wkT Γ M (α 0) q.1) ∧ Q451 g (vsv M (α 0) ([(1, 28)], 0, 144)) (vsv M (α 0) ([(3, 30)], 0, 144)) (vsv M (α 0) ([], 4, 5)) (ρ 3 + 0) (ρ 4 + 1) (ρ 3 + 0)) ∧ True := by
    try simp only [Int.add_zero]
    have dm1 := cdim hT g1
    have rc1 := rc_bd dm1.1 dm1.2
    obtain ⟨-, -, p0⟩ := h0
    dsimp only [Q451] at p0
    obtain ⟨-, -, -, -, p1⟩ := h1
    dsimp only [Q463] at p1
    obtain ⟨-, -, -, -, p2⟩ := h2
    dsimp only [Q584] at p2
    obtain ⟨-, -, p3⟩ := h3
    dsimp only [Q588] at p3
    obtain ⟨-, -, p4⟩ := h4
    dsimp only [Q589] at p4
    obtain ⟨-, -, p5⟩ := h5
    dsimp only [Q464] at p5
    obtain ⟨⟨s1, s2⟩, ⟨⟨z1, z2⟩, z3, z4⟩, hS⟩ := p1
    obtain ⟨⟨f0, f1⟩, f2⟩ := p2
    have rc81 : 4 ≤ zR g * zC g ∧ zR g * zC g ≤ 81 := ⟨(rc_bd ⟨z1, by omega⟩ ⟨z3, by omega⟩).1, Int.le_trans (Int.mul_le_mul z2 z4 (by omega) (by decide)) (by decide)⟩
    refine ⟨⟨g0, pic1 hT g0 (by decide) (by decide), ?_⟩, trivial⟩
    · dsimp only [Q451]
      refine fn_side p0 (by omega) fun hn hp hs => ?_
      rw [s2] at p3
      have hB := p5 (ρ 5).toNat (by omega)
      rw [p4.2, p3] at hB
      have hp : zB g (nbe (zC g) (ρ 3) (ρ 4)).toNat = 0 := hp
      omega
  exact ⟨nB, qB (key.1) (nB)⟩
def t_nsp_da : KT := ((0, 0, 0, 0), [(2, 0, 26, 0), (2, 1, 1, 0), (2, 2, 10, 0), (1, 3, 0, 0), (1, 4, 0, 0), (1, 5, 0, 0)], [(0, 0), (0, 0), (0, 0), (0, 143), (0, 3), (0, 143)], [(451, [(2, 0, 26, 0), (1, 3, 0, 0), (1, 4, 0, 0), (1, 3, 0, 0)]), (463, [(2, 2, 10, 0), (2, 1, 1, 0)]), (584, [(2, 2, 10, 0), (2, 1, 1, 0), (1, 3, 0, 0)]), (585, [(2, 1, 1, 0), (1, 3, 0, 0), (1, 4, 0, 0), (1, 5, 0, 0)]), (581, [(2, 0, 26, 0), (1, 5, 0, 0)])], (0, 0, 0), [], [], ([], [(451, [(2, 0, 26, 0), (1, 3, 0, 0), (1, 4, 0, 1), (1, 3, 0, 0)])]), ([], []))
set_option maxRecDepth 100000 in
theorem l_nsp_da (g : GG) : LOK Yt (PSt g) t_nsp_da := by
  intro ρ α Γ M as hT hB hA hP
  have g0 : Γ (α 0) = 26 := tyAt hA (i := 0) rfl
  have g1 : Γ (α 1) = 1 := tyAt hA (i := 1) rfl
  have g2 : Γ (α 2) = 10 := tyAt hA (i := 2) rfl
  have b3 : 0 ≤ ρ 3 ∧ ρ 3 ≤ 143 := hB 3
  have b4 : 0 ≤ ρ 4 ∧ ρ 4 ≤ 3 := hB 4
  have b5 : 0 ≤ ρ 5 ∧ ρ 5 ≤ 143 := hB 5
  have h0 : Γ (α 0) = 26 ∧ (∀ q ∈ ([([(1, 28)], 0, 144), ([(3, 30)], 0, 144), ([], 4, 5)] : VSP), wkT Γ M (α 0) q.1) ∧ Q451 g (vsv M (α 0) ([(1, 28)], 0, 144)) (vsv M (α 0) ([(3, 30)], 0, 144)) (vsv M (α 0) ([], 4, 5)) (ρ 3 + 0) (ρ 4 + 0) (ρ 3 + 0) := hP _ (List.mem_of_getElem? (i := 0) rfl)
  have h1 : Γ (α 2) = 10 ∧ (∀ q ∈ ([([(6, 13)], 0, 144)] : VSP), wkT Γ M (α 2) q.1) ∧ Γ (α 1) = 1 ∧ (∀ q ∈ ([([], 0, 2)] : VSP), wkT Γ M (α 1) q.1) ∧ Q463 g (vsv M (α 2) ([(6, 13)], 0, 144)) (vsv M (α 1) ([], 0, 2))  := hP _ (List.mem_of_getElem? (i := 1) rfl)
  have h2 : Γ (α 2) = 10 ∧ (∀ q ∈ ([([(6, 13)], 0, 144)] : VSP), wkT Γ M (α 2) q.1) ∧ Γ (α 1) = 1 ∧ (∀ q ∈ ([([], 0, 2)] : VSP), wkT Γ M (α 1) q.1) ∧ Q584 g (vsv M (α 2) ([(6, 13)], 0, 144)) (vsv M (α 1) ([], 0, 2)) (ρ 3 + 0) := hP _ (List.mem_of_getElem? (i := 2) rfl)
  have h3 : Γ (α 1) = 1 ∧ (∀ q ∈ ([([], 0, 2)] : VSP), wkT Γ M (α 1) q.1) ∧ Q585 g (vsv M (α 1) ([], 0, 2)) (ρ 3 + 0) (ρ 4 + 0) (ρ 5 + 0) := hP _ (List.mem_of_getElem? (i := 3) rfl)
  have h4 : Γ (α 0) = 26 ∧ (∀ q ∈ ([([(1, 28)], 0, 144)] : VSP), wkT Γ M (α 0) q.1) ∧ Q581 g (vsv M (α 0) ([(1, 28)], 0, 144)) (ρ 5 + 0) := hP _ (List.mem_of_getElem? (i := 4) rfl)
  try simp only [Int.add_zero] at h0 h1 h2 h3 h4
  have key : (Γ (α 0) = 26 ∧ (∀ q ∈ ([([(1, 28)], 0, 144), ([(3, 30)], 0, 144), ([], 4, 5)] : VSP), wkT Γ M (α 0) q.1) ∧ Q451 g (vsv M (α 0) ([(1, 28)], 0, 144)) (vsv M (α 0) ([(3, 30)], 0, 144)) (vsv M (α 0) ([], 4, 5)) (ρ 3 + 0) (ρ 4 + 1) (ρ 3 + 0)) ∧ True := by
    try simp only [Int.add_zero]
    have dm1 := cdim hT g1
    have rc1 := rc_bd dm1.1 dm1.2
    obtain ⟨-, -, p0⟩ := h0
    dsimp only [Q451] at p0
    obtain ⟨-, -, -, -, p1⟩ := h1
    dsimp only [Q463] at p1
    obtain ⟨-, -, -, -, p2⟩ := h2
    dsimp only [Q584] at p2
    obtain ⟨-, -, p3⟩ := h3
    dsimp only [Q585] at p3
    obtain ⟨-, -, p4⟩ := h4
    dsimp only [Q581] at p4
    obtain ⟨⟨s1, s2⟩, ⟨⟨z1, z2⟩, z3, z4⟩, hS⟩ := p1
    obtain ⟨⟨f0, f1⟩, f2⟩ := p2
    have rc81 : 4 ≤ zR g * zC g ∧ zR g * zC g ≤ 81 := ⟨(rc_bd ⟨z1, by omega⟩ ⟨z3, by omega⟩).1, Int.le_trans (Int.mul_le_mul z2 z4 (by omega) (by decide)) (by decide)⟩
    refine ⟨⟨g0, pic1 hT g0 (by decide) (by decide), ?_⟩, trivial⟩
    · dsimp only [Q451]
      refine fn_side p0 (by omega) fun hn hp hs => ?_
      rw [s1, s2] at p3
      rcases p3 with ⟨h, -⟩ | ⟨h, e⟩
      · omega
      · rw [← e]
        exact p4
  exact ⟨nB, qB (key.1) (nB)⟩
def t_nsp_ea : KT := ((0, 0, 0, 0), [(2, 0, 26, 0), (2, 1, 1, 0), (2, 2, 10, 0), (1, 3, 0, 0), (1, 4, 0, 0)], [(0, 0), (0, 0), (0, 0), (0, 143), (4, 4)], [(451, [(2, 0, 26, 0), (1, 3, 0, 0), (1, 4, 0, 0), (1, 3, 0, 0)]), (463, [(2, 2, 10, 0), (2, 1, 1, 0)]), (584, [(2, 2, 10, 0), (2, 1, 1, 0), (1, 3, 0, 0)]), (464, [(2, 0, 26, 0)])], (0, 0, 0), [], [], ([], [(591, [(2, 0, 26, 0), (2, 1, 1, 0), (2, 2, 10, 0), (1, 3, 0, 1), (0, 0, 0, 0), (0, 0, 0, -1)])]), ([], []))
set_option maxRecDepth 100000 in
theorem l_nsp_ea (g : GG) : LOK Yt (PSt g) t_nsp_ea := by
  intro ρ α Γ M as hT hB hA hP
  have g0 : Γ (α 0) = 26 := tyAt hA (i := 0) rfl
  have g1 : Γ (α 1) = 1 := tyAt hA (i := 1) rfl
  have g2 : Γ (α 2) = 10 := tyAt hA (i := 2) rfl
  have b3 : 0 ≤ ρ 3 ∧ ρ 3 ≤ 143 := hB 3
  have b4 : 4 ≤ ρ 4 ∧ ρ 4 ≤ 4 := hB 4
  have h0 : Γ (α 0) = 26 ∧ (∀ q ∈ ([([(1, 28)], 0, 144), ([(3, 30)], 0, 144), ([], 4, 5)] : VSP), wkT Γ M (α 0) q.1) ∧ Q451 g (vsv M (α 0) ([(1, 28)], 0, 144)) (vsv M (α 0) ([(3, 30)], 0, 144)) (vsv M (α 0) ([], 4, 5)) (ρ 3 + 0) (ρ 4 + 0) (ρ 3 + 0) := hP _ (List.mem_of_getElem? (i := 0) rfl)
  have h1 : Γ (α 2) = 10 ∧ (∀ q ∈ ([([(6, 13)], 0, 144)] : VSP), wkT Γ M (α 2) q.1) ∧ Γ (α 1) = 1 ∧ (∀ q ∈ ([([], 0, 2)] : VSP), wkT Γ M (α 1) q.1) ∧ Q463 g (vsv M (α 2) ([(6, 13)], 0, 144)) (vsv M (α 1) ([], 0, 2))  := hP _ (List.mem_of_getElem? (i := 1) rfl)
  have h2 : Γ (α 2) = 10 ∧ (∀ q ∈ ([([(6, 13)], 0, 144)] : VSP), wkT Γ M (α 2) q.1) ∧ Γ (α 1) = 1 ∧ (∀ q ∈ ([([], 0, 2)] : VSP), wkT Γ M (α 1) q.1) ∧ Q584 g (vsv M (α 2) ([(6, 13)], 0, 144)) (vsv M (α 1) ([], 0, 2)) (ρ 3 + 0) := hP _ (List.mem_of_getElem? (i := 2) rfl)
  have h3 : Γ (α 0) = 26 ∧ (∀ q ∈ ([([(0, 27)], 0, 288)] : VSP), wkT Γ M (α 0) q.1) ∧ Q464 g (vsv M (α 0) ([(0, 27)], 0, 288))  := hP _ (List.mem_of_getElem? (i := 3) rfl)
  try simp only [Int.add_zero] at h0 h1 h2 h3
  have key : (Γ (α 0) = 26 ∧ (∀ q ∈ ([([(0, 27)], 0, 288), ([(1, 28)], 0, 144), ([(3, 30)], 0, 144), ([], 4, 5)] : VSP), wkT Γ M (α 0) q.1) ∧ Γ (α 1) = 1 ∧ (∀ q ∈ ([([], 0, 2)] : VSP), wkT Γ M (α 1) q.1) ∧ Γ (α 2) = 10 ∧ (∀ q ∈ ([([(6, 13)], 0, 144)] : VSP), wkT Γ M (α 2) q.1) ∧ Q591 g (vsv M (α 0) ([(0, 27)], 0, 288)) (vsv M (α 0) ([(1, 28)], 0, 144)) (vsv M (α 0) ([(3, 30)], 0, 144)) (vsv M (α 0) ([], 4, 5)) (vsv M (α 1) ([], 0, 2)) (vsv M (α 2) ([(6, 13)], 0, 144)) (ρ 3 + 1) (0) ((-1))) ∧ True := by
    try simp only [Int.add_zero]
    have dm1 := cdim hT g1
    have rc1 := rc_bd dm1.1 dm1.2
    obtain ⟨-, -, p0⟩ := h0
    dsimp only [Q451] at p0
    obtain ⟨-, -, -, -, p1⟩ := h1
    dsimp only [Q463] at p1
    obtain ⟨-, -, -, -, p2⟩ := h2
    dsimp only [Q584] at p2
    obtain ⟨-, -, p3⟩ := h3
    dsimp only [Q464] at p3
    obtain ⟨⟨s1, s2⟩, ⟨⟨z1, z2⟩, z3, z4⟩, hS⟩ := p1
    obtain ⟨⟨f0, f1⟩, f2⟩ := p2
    have rc81 : 4 ≤ zR g * zC g ∧ zR g * zC g ≤ 81 := ⟨(rc_bd ⟨z1, by omega⟩ ⟨z3, by omega⟩).1, Int.le_trans (Int.mul_le_mul z2 z4 (by omega) (by decide)) (by decide)⟩
    have hB := p3
    refine ⟨⟨g0, pic1 hT g0 (by decide) (by decide), g1, pic1 hT g1 (by decide) (by decide), g2, pic1 hT g2 (by decide) (by decide), ?_⟩, trivial⟩
    · dsimp only [Q591]
      rw [show ρ 3 = ((ρ 3).toNat : Int) by omega] at p0
      have q := fn_end (b2 := ρ 3 + 1) p0 (by omega) (by omega) (fun p hp => by omega)
      show fnI ((vsv M (α 1) ([], 0, 2)) 0) ((vsv M (α 1) ([], 0, 2)) 1) _ (vsv M (α 2) ([(6, 13)], 0, 144)) _ _ _ _ _ _
      rw [s1, s2]
      exact fn_c (by omega) (by omega) (fun j hj => hS j hj) (fun _ _ => rfl) (fun _ _ => rfl) (fun e he => by show _ ↔ ((vsv M (α 0) ([(0, 27)], 0, 288)) e = 0); rw [hB e (by have := he.2.1; omega)]) (Or.inl (Int.le_refl _)) (by decide) q
  exact ⟨nB, qB (key.1) (nB)⟩
def t_nsp_0b : KT := ((0, 0, 0, 0), [(2, 0, 26, 0), (2, 1, 1, 0), (2, 2, 10, 0), (1, 3, 0, 0)], [(0, 0), (0, 0), (0, 0), (0, 143)], [(591, [(2, 0, 26, 0), (2, 1, 1, 0), (2, 2, 10, 0), (0, 0, 0, 144), (0, 0, 0, 0), (1, 3, 0, 0)]), (463, [(2, 2, 10, 0), (2, 1, 1, 0)]), (464, [(2, 0, 26, 0)])], (0, 0, 0), [], [], ([], [(451, [(2, 0, 26, 0), (0, 0, 0, 144), (0, 0, 0, 0), (1, 3, 0, 0)]), (722, [])]), ([], []))
set_option maxRecDepth 100000 in
theorem l_nsp_0b (g : GG) : LOK Yt (PSt g) t_nsp_0b := by
  intro ρ α Γ M as hT hB hA hP
  have g0 : Γ (α 0) = 26 := tyAt hA (i := 0) rfl
  have g1 : Γ (α 1) = 1 := tyAt hA (i := 1) rfl
  have g2 : Γ (α 2) = 10 := tyAt hA (i := 2) rfl
  have b3 : 0 ≤ ρ 3 ∧ ρ 3 ≤ 143 := hB 3
  have h0 : Γ (α 0) = 26 ∧ (∀ q ∈ ([([(0, 27)], 0, 288), ([(1, 28)], 0, 144), ([(3, 30)], 0, 144), ([], 4, 5)] : VSP), wkT Γ M (α 0) q.1) ∧ Γ (α 1) = 1 ∧ (∀ q ∈ ([([], 0, 2)] : VSP), wkT Γ M (α 1) q.1) ∧ Γ (α 2) = 10 ∧ (∀ q ∈ ([([(6, 13)], 0, 144)] : VSP), wkT Γ M (α 2) q.1) ∧ Q591 g (vsv M (α 0) ([(0, 27)], 0, 288)) (vsv M (α 0) ([(1, 28)], 0, 144)) (vsv M (α 0) ([(3, 30)], 0, 144)) (vsv M (α 0) ([], 4, 5)) (vsv M (α 1) ([], 0, 2)) (vsv M (α 2) ([(6, 13)], 0, 144)) (144) (0) (ρ 3 + 0) := hP _ (List.mem_of_getElem? (i := 0) rfl)
  have h1 : Γ (α 2) = 10 ∧ (∀ q ∈ ([([(6, 13)], 0, 144)] : VSP), wkT Γ M (α 2) q.1) ∧ Γ (α 1) = 1 ∧ (∀ q ∈ ([([], 0, 2)] : VSP), wkT Γ M (α 1) q.1) ∧ Q463 g (vsv M (α 2) ([(6, 13)], 0, 144)) (vsv M (α 1) ([], 0, 2))  := hP _ (List.mem_of_getElem? (i := 1) rfl)
  have h2 : Γ (α 0) = 26 ∧ (∀ q ∈ ([([(0, 27)], 0, 288)] : VSP), wkT Γ M (α 0) q.1) ∧ Q464 g (vsv M (α 0) ([(0, 27)], 0, 288))  := hP _ (List.mem_of_getElem? (i := 2) rfl)
  try simp only [Int.add_zero] at h0 h1 h2
  have key : (Γ (α 0) = 26 ∧ (∀ q ∈ ([([(1, 28)], 0, 144), ([(3, 30)], 0, 144), ([], 4, 5)] : VSP), wkT Γ M (α 0) q.1) ∧ Q451 g (vsv M (α 0) ([(1, 28)], 0, 144)) (vsv M (α 0) ([(3, 30)], 0, 144)) (vsv M (α 0) ([], 4, 5)) (144) (0) (ρ 3 + 0)) ∧ (((2 ≤ zR g ∧ zR g ≤ 9) ∧ 2 ≤ zC g ∧ zC g ≤ 9)) ∧ True := by
    try simp only [Int.add_zero]
    have dm1 := cdim hT g1
    have rc1 := rc_bd dm1.1 dm1.2
    obtain ⟨-, -, -, -, -, -, p0⟩ := h0
    dsimp only [Q591] at p0
    obtain ⟨-, -, -, -, p1⟩ := h1
    dsimp only [Q463] at p1
    obtain ⟨-, -, p2⟩ := h2
    dsimp only [Q464] at p2
    obtain ⟨⟨s1, s2⟩, ⟨⟨z1, z2⟩, z3, z4⟩, hS⟩ := p1
    have hB := p2
    have rc81 : 4 ≤ zR g * zC g ∧ zR g * zC g ≤ 81 := ⟨(rc_bd ⟨z1, by omega⟩ ⟨z3, by omega⟩).1, Int.le_trans (Int.mul_le_mul z2 z4 (by omega) (by decide)) (by decide)⟩
    rw [s1, s2] at p0
    refine ⟨⟨g0, pic1 hT g0 (by decide) (by decide), ?_⟩, ?_, trivial⟩
    · dsimp only [Q451]
      exact fn_c (by omega) (by omega) (fun j hj => (hS j hj).symm) (fun _ _ => rfl) (fun _ _ => rfl) (fun e he => by show ((vsv M (α 0) ([(0, 27)], 0, 288)) e = 0) ↔ _; rw [hB e (by have := he.2.1; omega)]) (Or.inl (Int.le_refl _)) (by decide) p0
    · exact ⟨⟨z1, z2⟩, z3, z4⟩
  exact ⟨nB, qB (key.1) (qB (key.2.1) (nB))⟩
def t_nsp_ab : KT := ((0, 0, 0, 0), [(2, 0, 26, 0), (2, 1, 1, 0), (2, 2, 10, 0), (1, 3, 0, 0), (1, 4, 0, 0), (1, 5, 0, 0)], [(0, 0), (0, 0), (0, 0), (0, 143), (0, 3), (-1, -1)], [(451, [(2, 0, 26, 0), (0, 0, 0, 144), (1, 4, 0, 0), (1, 3, 0, 0)]), (463, [(2, 2, 10, 0), (2, 1, 1, 0)]), (584, [(2, 2, 10, 0), (2, 1, 1, 0), (1, 3, 0, 0)]), (585, [(2, 1, 1, 0), (1, 3, 0, 0), (1, 4, 0, 0), (1, 5, 0, 0)])], (0, 0, 0), [], [], ([], [(451, [(2, 0, 26, 0), (0, 0, 0, 144), (1, 4, 0, 1), (1, 3, 0, 0)])]), ([], []))
set_option maxRecDepth 100000 in
theorem l_nsp_ab (g : GG) : LOK Yt (PSt g) t_nsp_ab := by
  intro ρ α Γ M as hT hB hA hP
  have g0 : Γ (α 0) = 26 := tyAt hA (i := 0) rfl
  have g1 : Γ (α 1) = 1 := tyAt hA (i := 1) rfl
  have g2 : Γ (α 2) = 10 := tyAt hA (i := 2) rfl
  have b3 : 0 ≤ ρ 3 ∧ ρ 3 ≤ 143 := hB 3
  have b4 : 0 ≤ ρ 4 ∧ ρ 4 ≤ 3 := hB 4
  have b5 : -1 ≤ ρ 5 ∧ ρ 5 ≤ -1 := hB 5
  have h0 : Γ (α 0) = 26 ∧ (∀ q ∈ ([([(1, 28)], 0, 144), ([(3, 30)], 0, 144), ([], 4, 5)] : VSP), wkT Γ M (α 0) q.1) ∧ Q451 g (vsv M (α 0) ([(1, 28)], 0, 144)) (vsv M (α 0) ([(3, 30)], 0, 144)) (vsv M (α 0) ([], 4, 5)) (144) (ρ 4 + 0) (ρ 3 + 0) := hP _ (List.mem_of_getElem? (i := 0) rfl)
  have h1 : Γ (α 2) = 10 ∧ (∀ q ∈ ([([(6, 13)], 0, 144)] : VSP), wkT Γ M (α 2) q.1) ∧ Γ (α 1) = 1 ∧ (∀ q ∈ ([([], 0, 2)] : VSP), wkT Γ M (α 1) q.1) ∧ Q463 g (vsv M (α 2) ([(6, 13)], 0, 144)) (vsv M (α 1) ([], 0, 2))  := hP _ (List.mem_of_getElem? (i := 1) rfl)
  have h2 : Γ (α 2) = 10 ∧ (∀ q ∈ ([([(6, 13)], 0, 144)] : VSP), wkT Γ M (α 2) q.1) ∧ Γ (α 1) = 1 ∧ (∀ q ∈ ([([], 0, 2)] : VSP), wkT Γ M (α 1) q.1) ∧ Q584 g (vsv M (α 2) ([(6, 13)], 0, 144)) (vsv M (α 1) ([], 0, 2)) (ρ 3 + 0) := hP _ (List.mem_of_getElem? (i := 2) rfl)
  have h3 : Γ (α 1) = 1 ∧ (∀ q ∈ ([([], 0, 2)] : VSP), wkT Γ M (α 1) q.1) ∧ Q585 g (vsv M (α 1) ([], 0, 2)) (ρ 3 + 0) (ρ 4 + 0) (ρ 5 + 0) := hP _ (List.mem_of_getElem? (i := 3) rfl)
  try simp only [Int.add_zero] at h0 h1 h2 h3
  have key : (Γ (α 0) = 26 ∧ (∀ q ∈ ([([(1, 28)], 0, 144), ([(3, 30)], 0, 144), ([], 4, 5)] : VSP), wkT Γ M (α 0) q.1) ∧ Q451 g (vsv M (α 0) ([(1, 28)], 0, 144)) (vsv M (α 0) ([(3, 30)], 0, 144)) (vsv M (α 0) ([], 4, 5)) (144) (ρ 4 + 1) (ρ 3 + 0)) ∧ True := by
    try simp only [Int.add_zero]
    have dm1 := cdim hT g1
    have rc1 := rc_bd dm1.1 dm1.2
    obtain ⟨-, -, p0⟩ := h0
    dsimp only [Q451] at p0
    obtain ⟨-, -, -, -, p1⟩ := h1
    dsimp only [Q463] at p1
    obtain ⟨-, -, -, -, p2⟩ := h2
    dsimp only [Q584] at p2
    obtain ⟨-, -, p3⟩ := h3
    dsimp only [Q585] at p3
    obtain ⟨⟨s1, s2⟩, ⟨⟨z1, z2⟩, z3, z4⟩, hS⟩ := p1
    obtain ⟨⟨f0, f1⟩, f2⟩ := p2
    have rc81 : 4 ≤ zR g * zC g ∧ zR g * zC g ≤ 81 := ⟨(rc_bd ⟨z1, by omega⟩ ⟨z3, by omega⟩).1, Int.le_trans (Int.mul_le_mul z2 z4 (by omega) (by decide)) (by decide)⟩
    refine ⟨⟨g0, pic1 hT g0 (by decide) (by decide), ?_⟩, trivial⟩
    · dsimp only [Q451]
      refine fn_side p0 (by omega) fun hn hp hs => ?_
      rw [s1, s2] at p3 f1
      rcases p3 with ⟨-, h⟩ | ⟨h, e⟩
      · exact absurd hn h
      · have := nb_lk (pe := fun e => zB g e = 0) (by omega) f0 f1 ⟨b4.1, by omega⟩ hn hp
        omega
  exact ⟨nB, qB (key.1) (nB)⟩
def t_nsp_bb : KT := ((0, 0, 0, 0), [(2, 0, 26, 0), (2, 1, 1, 0), (2, 2, 10, 0), (1, 3, 0, 0), (1, 4, 0, 0), (1, 5, 0, 0)], [(0, 0), (0, 0), (0, 0), (0, 143), (0, 3), (0, 143)], [(451, [(2, 0, 26, 0), (0, 0, 0, 144), (1, 4, 0, 0), (1, 3, 0, 0)]), (463, [(2, 2, 10, 0), (2, 1, 1, 0)]), (584, [(2, 2, 10, 0), (2, 1, 1, 0), (1, 3, 0, 0)]), (585, [(2, 1, 1, 0), (1, 3, 0, 0), (1, 4, 0, 0), (1, 5, 0, 0)]), (586, [(2, 2, 10, 0), (1, 5, 0, 0)])], (0, 0, 0), [], [], ([], [(451, [(2, 0, 26, 0), (0, 0, 0, 144), (1, 4, 0, 1), (1, 3, 0, 0)])]), ([], []))
set_option maxRecDepth 100000 in
theorem l_nsp_bb (g : GG) : LOK Yt (PSt g) t_nsp_bb := by
  intro ρ α Γ M as hT hB hA hP
  have g0 : Γ (α 0) = 26 := tyAt hA (i := 0) rfl
  have g1 : Γ (α 1) = 1 := tyAt hA (i := 1) rfl
  have g2 : Γ (α 2) = 10 := tyAt hA (i := 2) rfl
  have b3 : 0 ≤ ρ 3 ∧ ρ 3 ≤ 143 := hB 3
  have b4 : 0 ≤ ρ 4 ∧ ρ 4 ≤ 3 := hB 4
  have b5 : 0 ≤ ρ 5 ∧ ρ 5 ≤ 143 := hB 5
  have h0 : Γ (α 0) = 26 ∧ (∀ q ∈ ([([(1, 28)], 0, 144), ([(3, 30)], 0, 144), ([], 4, 5)] : VSP), wkT Γ M (α 0) q.1) ∧ Q451 g (vsv M (α 0) ([(1, 28)], 0, 144)) (vsv M (α 0) ([(3, 30)], 0, 144)) (vsv M (α 0) ([], 4, 5)) (144) (ρ 4 + 0) (ρ 3 + 0) := hP _ (List.mem_of_getElem? (i := 0) rfl)
  have h1 : Γ (α 2) = 10 ∧ (∀ q ∈ ([([(6, 13)], 0, 144)] : VSP), wkT Γ M (α 2) q.1) ∧ Γ (α 1) = 1 ∧ (∀ q ∈ ([([], 0, 2)] : VSP), wkT Γ M (α 1) q.1) ∧ Q463 g (vsv M (α 2) ([(6, 13)], 0, 144)) (vsv M (α 1) ([], 0, 2))  := hP _ (List.mem_of_getElem? (i := 1) rfl)
  have h2 : Γ (α 2) = 10 ∧ (∀ q ∈ ([([(6, 13)], 0, 144)] : VSP), wkT Γ M (α 2) q.1) ∧ Γ (α 1) = 1 ∧ (∀ q ∈ ([([], 0, 2)] : VSP), wkT Γ M (α 1) q.1) ∧ Q584 g (vsv M (α 2) ([(6, 13)], 0, 144)) (vsv M (α 1) ([], 0, 2)) (ρ 3 + 0) := hP _ (List.mem_of_getElem? (i := 2) rfl)
  have h3 : Γ (α 1) = 1 ∧ (∀ q ∈ ([([], 0, 2)] : VSP), wkT Γ M (α 1) q.1) ∧ Q585 g (vsv M (α 1) ([], 0, 2)) (ρ 3 + 0) (ρ 4 + 0) (ρ 5 + 0) := hP _ (List.mem_of_getElem? (i := 3) rfl)
  have h4 : Γ (α 2) = 10 ∧ (∀ q ∈ ([([(6, 13)], 0, 144)] : VSP), wkT Γ M (α 2) q.1) ∧ Q586 g (vsv M (α 2) ([(6, 13)], 0, 144)) (ρ 5 + 0) := hP _ (List.mem_of_getElem? (i := 4) rfl)
  try simp only [Int.add_zero] at h0 h1 h2 h3 h4
  have key : (Γ (α 0) = 26 ∧ (∀ q ∈ ([([(1, 28)], 0, 144), ([(3, 30)], 0, 144), ([], 4, 5)] : VSP), wkT Γ M (α 0) q.1) ∧ Q451 g (vsv M (α 0) ([(1, 28)], 0, 144)) (vsv M (α 0) ([(3, 30)], 0, 144)) (vsv M (α 0) ([], 4, 5)) (144) (ρ 4 + 1) (ρ 3 + 0)) ∧ True := by
    try simp only [Int.add_zero]
    have dm1 := cdim hT g1
    have rc1 := rc_bd dm1.1 dm1.2
    obtain ⟨-, -, p0⟩ := h0
    dsimp only [Q451] at p0
    obtain ⟨-, -, -, -, p1⟩ := h1
    dsimp only [Q463] at p1
    obtain ⟨-, -, -, -, p2⟩ := h2
    dsimp only [Q584] at p2
    obtain ⟨-, -, p3⟩ := h3
    dsimp only [Q585] at p3
    obtain ⟨-, -, p4⟩ := h4
    dsimp only [Q586] at p4
    obtain ⟨⟨s1, s2⟩, ⟨⟨z1, z2⟩, z3, z4⟩, hS⟩ := p1
    obtain ⟨⟨f0, f1⟩, f2⟩ := p2
    have rc81 : 4 ≤ zR g * zC g ∧ zR g * zC g ≤ 81 := ⟨(rc_bd ⟨z1, by omega⟩ ⟨z3, by omega⟩).1, Int.le_trans (Int.mul_le_mul z2 z4 (by omega) (by decide)) (by decide)⟩
    refine ⟨⟨g0, pic1 hT g0 (by decide) (by decide), ?_⟩, trivial⟩
    · dsimp only [Q451]
      refine fn_side p0 (by omega) fun hn hp hs => ?_
      rw [s1, s2] at p3
      rcases p3 with ⟨h, -⟩ | ⟨h, e⟩
      · omega
      · rw [← e, ← hS _ (by omega)] at hs
        exact absurd hs p4.2
  exact ⟨nB, qB (key.1) (nB)⟩
def t_nsp_cb : KT := ((0, 0, 0, 0), [(2, 0, 26, 0), (2, 1, 1, 0), (2, 2, 10, 0), (1, 3, 0, 0), (1, 4, 0, 0), (1, 5, 0, 0), (1, 6, 0, 0)], [(0, 0), (0, 0), (0, 0), (0, 143), (0, 3), (0, 287), (1, 1)], [(451, [(2, 0, 26, 0), (0, 0, 0, 144), (1, 4, 0, 0), (1, 3, 0, 0)]), (463, [(2, 2, 10, 0), (2, 1, 1, 0)]), (584, [(2, 2, 10, 0), (2, 1, 1, 0), (1, 3, 0, 0)]), (588, [(2, 1, 1, 0), (1, 3, 0, 0), (1, 4, 0, 0), (1, 5, 0, 0)]), (589, [(2, 0, 26, 0), (1, 5, 0, 0), (1, 6, 0, 0)]), (464, [(2, 0, 26, 0)])], (0, 0, 0), [], [], ([], [(451, [(2, 0, 26, 0), (0, 0, 0, 144), (1, 4, 0, 1), (1, 3, 0, 0)])]), ([], []))
set_option maxRecDepth 100000 in
theorem l_nsp_cb (g : GG) : LOK Yt (PSt g) t_nsp_cb := by
  intro ρ α Γ M as hT hB hA hP
  have g0 : Γ (α 0) = 26 := tyAt hA (i := 0) rfl
  have g1 : Γ (α 1) = 1 := tyAt hA (i := 1) rfl
  have g2 : Γ (α 2) = 10 := tyAt hA (i := 2) rfl
  have b3 : 0 ≤ ρ 3 ∧ ρ 3 ≤ 143 := hB 3
  have b4 : 0 ≤ ρ 4 ∧ ρ 4 ≤ 3 := hB 4
  have b5 : 0 ≤ ρ 5 ∧ ρ 5 ≤ 287 := hB 5
  have b6 : 1 ≤ ρ 6 ∧ ρ 6 ≤ 1 := hB 6
  have h0 : Γ (α 0) = 26 ∧ (∀ q ∈ ([([(1, 28)], 0, 144), ([(3, 30)], 0, 144), ([], 4, 5)] : VSP), wkT Γ M (α 0) q.1) ∧ Q451 g (vsv M (α 0) ([(1, 28)], 0, 144)) (vsv M (α 0) ([(3, 30)], 0, 144)) (vsv M (α 0) ([], 4, 5)) (144) (ρ 4 + 0) (ρ 3 + 0) := hP _ (List.mem_of_getElem? (i := 0) rfl)
  have h1 : Γ (α 2) = 10 ∧ (∀ q ∈ ([([(6, 13)], 0, 144)] : VSP), wkT Γ M (α 2) q.1) ∧ Γ (α 1) = 1 ∧ (∀ q ∈ ([([], 0, 2)] : VSP), wkT Γ M (α 1) q.1) ∧ Q463 g (vsv M (α 2) ([(6, 13)], 0, 144)) (vsv M (α 1) ([], 0, 2))  := hP _ (List.mem_of_getElem? (i := 1) rfl)
  have h2 : Γ (α 2) = 10 ∧ (∀ q ∈ ([([(6, 13)], 0, 144)] : VSP), wkT Γ M (α 2) q.1) ∧ Γ (α 1) = 1 ∧ (∀ q ∈ ([([], 0, 2)] : VSP), wkT Γ M (α 1) q.1) ∧ Q584 g (vsv M (α 2) ([(6, 13)], 0, 144)) (vsv M (α 1) ([], 0, 2)) (ρ 3 + 0) := hP _ (List.mem_of_getElem? (i := 2) rfl)
  have h3 : Γ (α 1) = 1 ∧ (∀ q ∈ ([([], 0, 2)] : VSP), wkT Γ M (α 1) q.1) ∧ Q588 g (vsv M (α 1) ([], 0, 2)) (ρ 3 + 0) (ρ 4 + 0) (ρ 5 + 0) := hP _ (List.mem_of_getElem? (i := 3) rfl)
  have h4 : Γ (α 0) = 26 ∧ (∀ q ∈ ([([(0, 27)], 0, 288)] : VSP), wkT Γ M (α 0) q.1) ∧ Q589 g (vsv M (α 0) ([(0, 27)], 0, 288)) (ρ 5 + 0) (ρ 6 + 0) := hP _ (List.mem_of_getElem? (i := 4) rfl)
  have h5 : Γ (α 0) = 26 ∧ (∀ q ∈ ([([(0, 27)], 0, 288)] : VSP), wkT Γ M (α 0) q.1) ∧ Q464 g (vsv M (α 0) ([(0, 27)], 0, 288))  := hP _ (List.mem_of_getElem? (i := 5) rfl)
  try simp only [Int.add_zero] at h0 h1 h2 h3 h4 h5
  have key : (Γ (α 0) = 26 ∧ (∀ q ∈ ([([(1, 28)], 0, 144), ([(3, 30)], 0, 144), ([], 4, 5)] : VSP), wkT Γ M (α 0) q.1) ∧ Q451 g (vsv M (α 0) ([(1, 28)], 0, 144)) (vsv M (α 0) ([(3, 30)], 0, 144)) (vsv M (α 0) ([], 4, 5)) (144) (ρ 4 + 1) (ρ 3 + 0)) ∧ True := by
    try simp only [Int.add_zero]
    have dm1 := cdim hT g1
    have rc1 := rc_bd dm1.1 dm1.2
    obtain ⟨-, -, p0⟩ := h0
    dsimp only [Q451] at p0
    obtain ⟨-, -, -, -, p1⟩ := h1
    dsimp only [Q463] at p1
    obtain ⟨-, -, -, -, p2⟩ := h2
    dsimp only [Q584] at p2
    obtain ⟨-, -, p3⟩ := h3
    dsimp only [Q588] at p3
    obtain ⟨-, -, p4⟩ := h4
    dsimp only [Q589] at p4
    obtain ⟨-, -, p5⟩ := h5
    dsimp only [Q464] at p5
    obtain ⟨⟨s1, s2⟩, ⟨⟨z1, z2⟩, z3, z4⟩, hS⟩ := p1
    obtain ⟨⟨f0, f1⟩, f2⟩ := p2
    have rc81 : 4 ≤ zR g * zC g ∧ zR g * zC g ≤ 81 := ⟨(rc_bd ⟨z1, by omega⟩ ⟨z3, by omega⟩).1, Int.le_trans (Int.mul_le_mul z2 z4 (by omega) (by decide)) (by decide)⟩
    refine ⟨⟨g0, pic1 hT g0 (by decide) (by decide), ?_⟩, trivial⟩
    · dsimp only [Q451]
      refine fn_side p0 (by omega) fun hn hp hs => ?_
      rw [s2] at p3
      have hB := p5 (ρ 5).toNat (by omega)
      rw [p4.2, p3] at hB
      have hp : zB g (nbe (zC g) (ρ 3) (ρ 4)).toNat = 0 := hp
      omega
  exact ⟨nB, qB (key.1) (nB)⟩
def t_nsp_db : KT := ((0, 0, 0, 0), [(2, 0, 26, 0), (2, 1, 1, 0), (2, 2, 10, 0), (1, 3, 0, 0), (1, 4, 0, 0), (1, 5, 0, 0)], [(0, 0), (0, 0), (0, 0), (0, 143), (0, 3), (0, 143)], [(451, [(2, 0, 26, 0), (0, 0, 0, 144), (1, 4, 0, 0), (1, 3, 0, 0)]), (463, [(2, 2, 10, 0), (2, 1, 1, 0)]), (584, [(2, 2, 10, 0), (2, 1, 1, 0), (1, 3, 0, 0)]), (585, [(2, 1, 1, 0), (1, 3, 0, 0), (1, 4, 0, 0), (1, 5, 0, 0)]), (581, [(2, 0, 26, 0), (1, 5, 0, 0)])], (0, 0, 0), [], [], ([], [(451, [(2, 0, 26, 0), (0, 0, 0, 144), (1, 4, 0, 1), (1, 3, 0, 0)])]), ([], []))
set_option maxRecDepth 100000 in
theorem l_nsp_db (g : GG) : LOK Yt (PSt g) t_nsp_db := by
  intro ρ α Γ M as hT hB hA hP
  have g0 : Γ (α 0) = 26 := tyAt hA (i := 0) rfl
  have g1 : Γ (α 1) = 1 := tyAt hA (i := 1) rfl
  have g2 : Γ (α 2) = 10 := tyAt hA (i := 2) rfl
  have b3 : 0 ≤ ρ 3 ∧ ρ 3 ≤ 143 := hB 3
  have b4 : 0 ≤ ρ 4 ∧ ρ 4 ≤ 3 := hB 4
  have b5 : 0 ≤ ρ 5 ∧ ρ 5 ≤ 143 := hB 5
  have h0 : Γ (α 0) = 26 ∧ (∀ q ∈ ([([(1, 28)], 0, 144), ([(3, 30)], 0, 144), ([], 4, 5)] : VSP), wkT Γ M (α 0) q.1) ∧ Q451 g (vsv M (α 0) ([(1, 28)], 0, 144)) (vsv M (α 0) ([(3, 30)], 0, 144)) (vsv M (α 0) ([], 4, 5)) (144) (ρ 4 + 0) (ρ 3 + 0) := hP _ (List.mem_of_getElem? (i := 0) rfl)
  have h1 : Γ (α 2) = 10 ∧ (∀ q ∈ ([([(6, 13)], 0, 144)] : VSP), wkT Γ M (α 2) q.1) ∧ Γ (α 1) = 1 ∧ (∀ q ∈ ([([], 0, 2)] : VSP), wkT Γ M (α 1) q.1) ∧ Q463 g (vsv M (α 2) ([(6, 13)], 0, 144)) (vsv M (α 1) ([], 0, 2))  := hP _ (List.mem_of_getElem? (i := 1) rfl)
  have h2 : Γ (α 2) = 10 ∧ (∀ q ∈ ([([(6, 13)], 0, 144)] : VSP), wkT Γ M (α 2) q.1) ∧ Γ (α 1) = 1 ∧ (∀ q ∈ ([([], 0, 2)] : VSP), wkT Γ M (α 1) q.1) ∧ Q584 g (vsv M (α 2) ([(6, 13)], 0, 144)) (vsv M (α 1) ([], 0, 2)) (ρ 3 + 0) := hP _ (List.mem_of_getElem? (i := 2) rfl)
  have h3 : Γ (α 1) = 1 ∧ (∀ q ∈ ([([], 0, 2)] : VSP), wkT Γ M (α 1) q.1) ∧ Q585 g (vsv M (α 1) ([], 0, 2)) (ρ 3 + 0) (ρ 4 + 0) (ρ 5 + 0) := hP _ (List.mem_of_getElem? (i := 3) rfl)
  have h4 : Γ (α 0) = 26 ∧ (∀ q ∈ ([([(1, 28)], 0, 144)] : VSP), wkT Γ M (α 0) q.1) ∧ Q581 g (vsv M (α 0) ([(1, 28)], 0, 144)) (ρ 5 + 0) := hP _ (List.mem_of_getElem? (i := 4) rfl)
  try simp only [Int.add_zero] at h0 h1 h2 h3 h4
  have key : (Γ (α 0) = 26 ∧ (∀ q ∈ ([([(1, 28)], 0, 144), ([(3, 30)], 0, 144), ([], 4, 5)] : VSP), wkT Γ M (α 0) q.1) ∧ Q451 g (vsv M (α 0) ([(1, 28)], 0, 144)) (vsv M (α 0) ([(3, 30)], 0, 144)) (vsv M (α 0) ([], 4, 5)) (144) (ρ 4 + 1) (ρ 3 + 0)) ∧ True := by
    try simp only [Int.add_zero]
    have dm1 := cdim hT g1
    have rc1 := rc_bd dm1.1 dm1.2
    obtain ⟨-, -, p0⟩ := h0
    dsimp only [Q451] at p0
    obtain ⟨-, -, -, -, p1⟩ := h1
    dsimp only [Q463] at p1
    obtain ⟨-, -, -, -, p2⟩ := h2
    dsimp only [Q584] at p2
    obtain ⟨-, -, p3⟩ := h3
    dsimp only [Q585] at p3
    obtain ⟨-, -, p4⟩ := h4
    dsimp only [Q581] at p4
    obtain ⟨⟨s1, s2⟩, ⟨⟨z1, z2⟩, z3, z4⟩, hS⟩ := p1
    obtain ⟨⟨f0, f1⟩, f2⟩ := p2
    have rc81 : 4 ≤ zR g * zC g ∧ zR g * zC g ≤ 81 := ⟨(rc_bd ⟨z1, by omega⟩ ⟨z3, by omega⟩).1, Int.le_trans (Int.mul_le_mul z2 z4 (by omega) (by decide)) (by decide)⟩
    refine ⟨⟨g0, pic1 hT g0 (by decide) (by decide), ?_⟩, trivial⟩
    · dsimp only [Q451]
      refine fn_side p0 (by omega) fun hn hp hs => ?_
      rw [s1, s2] at p3
      rcases p3 with ⟨h, -⟩ | ⟨h, e⟩
      · omega
      · rw [← e]
        exact p4
  exact ⟨nB, qB (key.1) (nB)⟩
def t_nsp_eb : KT := ((0, 0, 0, 0), [(2, 0, 26, 0), (2, 1, 1, 0), (2, 2, 10, 0), (1, 3, 0, 0), (1, 4, 0, 0)], [(0, 0), (0, 0), (0, 0), (0, 143), (4, 4)], [(451, [(2, 0, 26, 0), (0, 0, 0, 144), (1, 4, 0, 0), (1, 3, 0, 0)]), (463, [(2, 2, 10, 0), (2, 1, 1, 0)]), (584, [(2, 2, 10, 0), (2, 1, 1, 0), (1, 3, 0, 0)]), (464, [(2, 0, 26, 0)])], (0, 0, 0), [], [], ([], [(591, [(2, 0, 26, 0), (2, 1, 1, 0), (2, 2, 10, 0), (0, 0, 0, 144), (0, 0, 0, 0), (0, 0, 0, -1)])]), ([], []))
set_option maxRecDepth 100000 in
theorem l_nsp_eb (g : GG) : LOK Yt (PSt g) t_nsp_eb := by
  intro ρ α Γ M as hT hB hA hP
  have g0 : Γ (α 0) = 26 := tyAt hA (i := 0) rfl
  have g1 : Γ (α 1) = 1 := tyAt hA (i := 1) rfl
  have g2 : Γ (α 2) = 10 := tyAt hA (i := 2) rfl
  have b3 : 0 ≤ ρ 3 ∧ ρ 3 ≤ 143 := hB 3
  have b4 : 4 ≤ ρ 4 ∧ ρ 4 ≤ 4 := hB 4
  have h0 : Γ (α 0) = 26 ∧ (∀ q ∈ ([([(1, 28)], 0, 144), ([(3, 30)], 0, 144), ([], 4, 5)] : VSP), wkT Γ M (α 0) q.1) ∧ Q451 g (vsv M (α 0) ([(1, 28)], 0, 144)) (vsv M (α 0) ([(3, 30)], 0, 144)) (vsv M (α 0) ([], 4, 5)) (144) (ρ 4 + 0) (ρ 3 + 0) := hP _ (List.mem_of_getElem? (i := 0) rfl)
  have h1 : Γ (α 2) = 10 ∧ (∀ q ∈ ([([(6, 13)], 0, 144)] : VSP), wkT Γ M (α 2) q.1) ∧ Γ (α 1) = 1 ∧ (∀ q ∈ ([([], 0, 2)] : VSP), wkT Γ M (α 1) q.1) ∧ Q463 g (vsv M (α 2) ([(6, 13)], 0, 144)) (vsv M (α 1) ([], 0, 2))  := hP _ (List.mem_of_getElem? (i := 1) rfl)
  have h2 : Γ (α 2) = 10 ∧ (∀ q ∈ ([([(6, 13)], 0, 144)] : VSP), wkT Γ M (α 2) q.1) ∧ Γ (α 1) = 1 ∧ (∀ q ∈ ([([], 0, 2)] : VSP), wkT Γ M (α 1) q.1) ∧ Q584 g (vsv M (α 2) ([(6, 13)], 0, 144)) (vsv M (α 1) ([], 0, 2)) (ρ 3 + 0) := hP _ (List.mem_of_getElem? (i := 2) rfl)
  have h3 : Γ (α 0) = 26 ∧ (∀ q ∈ ([([(0, 27)], 0, 288)] : VSP), wkT Γ M (α 0) q.1) ∧ Q464 g (vsv M (α 0) ([(0, 27)], 0, 288))  := hP _ (List.mem_of_getElem? (i := 3) rfl)
  try simp only [Int.add_zero] at h0 h1 h2 h3
  have key : (Γ (α 0) = 26 ∧ (∀ q ∈ ([([(0, 27)], 0, 288), ([(1, 28)], 0, 144), ([(3, 30)], 0, 144), ([], 4, 5)] : VSP), wkT Γ M (α 0) q.1) ∧ Γ (α 1) = 1 ∧ (∀ q ∈ ([([], 0, 2)] : VSP), wkT Γ M (α 1) q.1) ∧ Γ (α 2) = 10 ∧ (∀ q ∈ ([([(6, 13)], 0, 144)] : VSP), wkT Γ M (α 2) q.1) ∧ Q591 g (vsv M (α 0) ([(0, 27)], 0, 288)) (vsv M (α 0) ([(1, 28)], 0, 144)) (vsv M (α 0) ([(3, 30)], 0, 144)) (vsv M (α 0) ([], 4, 5)) (vsv M (α 1) ([], 0, 2)) (vsv M (α 2) ([(6, 13)], 0, 144)) (144) (0) ((-1))) ∧ True := by
    try simp only [Int.add_zero]
    have dm1 := cdim hT g1
    have rc1 := rc_bd dm1.1 dm1.2
    obtain ⟨-, -, p0⟩ := h0
    dsimp only [Q451] at p0
    obtain ⟨-, -, -, -, p1⟩ := h1
    dsimp only [Q463] at p1
    obtain ⟨-, -, -, -, p2⟩ := h2
    dsimp only [Q584] at p2
    obtain ⟨-, -, p3⟩ := h3
    dsimp only [Q464] at p3
    obtain ⟨⟨s1, s2⟩, ⟨⟨z1, z2⟩, z3, z4⟩, hS⟩ := p1
    obtain ⟨⟨f0, f1⟩, f2⟩ := p2
    have rc81 : 4 ≤ zR g * zC g ∧ zR g * zC g ≤ 81 := ⟨(rc_bd ⟨z1, by omega⟩ ⟨z3, by omega⟩).1, Int.le_trans (Int.mul_le_mul z2 z4 (by omega) (by decide)) (by decide)⟩
    have hB := p3
    refine ⟨⟨g0, pic1 hT g0 (by decide) (by decide), g1, pic1 hT g1 (by decide) (by decide), g2, pic1 hT g2 (by decide) (by decide), ?_⟩, trivial⟩
    · dsimp only [Q591]
      rw [show ρ 3 = ((ρ 3).toNat : Int) by omega] at p0
      have q := fn_end (b2 := 144) p0 (by omega) (by omega) (fun p hp => by omega)
      show fnI ((vsv M (α 1) ([], 0, 2)) 0) ((vsv M (α 1) ([], 0, 2)) 1) _ (vsv M (α 2) ([(6, 13)], 0, 144)) _ _ _ _ _ _
      rw [s1, s2]
      exact fn_c (by omega) (by omega) (fun j hj => hS j hj) (fun _ _ => rfl) (fun _ _ => rfl) (fun e he => by show _ ↔ ((vsv M (α 0) ([(0, 27)], 0, 288)) e = 0); rw [hB e (by have := he.2.1; omega)]) (Or.inl (Int.le_refl _)) (by decide) q
  exact ⟨nB, qB (key.1) (nB)⟩
def t_nsp_r : KT := ((0, 0, 0, 0), [(2, 0, 26, 0), (2, 1, 27, 0), (1, 2, 0, 0), (1, 3, 0, 0)], [(0, 0), (0, 0), (0, 287), (0, 1)], [(11, [(2, 0, 26, 0), (0, 0, 0, 0), (2, 1, 27, 0)]), (10, [(2, 1, 27, 0), (1, 2, 0, 0), (1, 3, 0, 0)])], (0, 0, 0), [], [], ([], [(589, [(2, 0, 26, 0), (1, 2, 0, 0), (1, 3, 0, 0)])]), ([], []))
set_option maxRecDepth 100000 in
theorem l_nsp_r (g : GG) : LOK Yt (PSt g) t_nsp_r := by
  intro ρ α Γ M as hT hB hA hP
  have g0 : Γ (α 0) = 26 := tyAt hA (i := 0) rfl
  have g1 : Γ (α 1) = 27 := tyAt hA (i := 1) rfl
  have b2 : 0 ≤ ρ 2 ∧ ρ 2 ≤ 287 := hB 2
  have b3 : 0 ≤ ρ 3 ∧ ρ 3 ≤ 1 := hB 3
  have h0 : 0 ≤ (0 : Int) ∧ M.2.2.2.1 (α 0) (0 : Int).toNat = some (α 1) := hP _ (List.mem_of_getElem? (i := 0) rfl)
  have h1 : 0 ≤ (ρ 2 + 0 : Int) ∧ M.2.2.2.2 (α 1) (ρ 2 + 0 : Int).toNat = ρ 3 + 0 := hP _ (List.mem_of_getElem? (i := 1) rfl)
  try simp only [Int.add_zero] at h0 h1
  have key : (Γ (α 0) = 26 ∧ (∀ q ∈ ([([(0, 27)], 0, 288)] : VSP), wkT Γ M (α 0) q.1) ∧ Q589 g (vsv M (α 0) ([(0, 27)], 0, 288)) (ρ 2 + 0) (ρ 3 + 0)) ∧ True := by
    try simp only [Int.add_zero]
    have e0 : M.2.2.2.1 (α 0) 0 = some (α 1) := h0.2
    have e1 : M.2.2.2.2 (α 1) (ρ 2).toNat = ρ 3 := h1.2
    refine ⟨⟨g0, pic1 hT g0 (by decide) (by decide), ?_⟩, trivial⟩
    · dsimp only [Q589]
      exact ⟨⟨b2.1, by omega⟩, (vs1 e0 (Nat.zero_le _) (by omega)).trans e1⟩
  exact ⟨nB, qB (key.1) (nB)⟩
def t_nsp_o : KT := ((0, 0, 0, 0), [(2, 0, 26, 0), (2, 1, 1, 0), (2, 2, 10, 0), (1, 3, 0, 0), (1, 4, 0, 0), (1, 5, 0, 0), (1, 6, 0, 0), (1, 7, 0, 0)], [(0, 0), (0, 0), (0, 0), (0, 143), (0, 3), (0, 143), (0, 287), (0, 0)], [(463, [(2, 2, 10, 0), (2, 1, 1, 0)]), (584, [(2, 2, 10, 0), (2, 1, 1, 0), (1, 3, 0, 0)]), (585, [(2, 1, 1, 0), (1, 3, 0, 0), (1, 4, 0, 0), (1, 5, 0, 0)]), (587, [(2, 2, 10, 0), (1, 5, 0, 0)]), (588, [(2, 1, 1, 0), (1, 3, 0, 0), (1, 4, 0, 0), (1, 6, 0, 0)]), (589, [(2, 0, 26, 0), (1, 6, 0, 0), (1, 7, 0, 0)]), (464, [(2, 0, 26, 0)])], (0, 0, 0), [], [], ([], [(720, [(1, 5, 0, 0), (1, 3, 0, 0)])]), ([], []))
set_option maxRecDepth 100000 in
theorem l_nsp_o (g : GG) : LOK Yt (PSt g) t_nsp_o := by
  intro ρ α Γ M as hT hB hA hP
  have g0 : Γ (α 0) = 26 := tyAt hA (i := 0) rfl
  have g1 : Γ (α 1) = 1 := tyAt hA (i := 1) rfl
  have g2 : Γ (α 2) = 10 := tyAt hA (i := 2) rfl
  have b3 : 0 ≤ ρ 3 ∧ ρ 3 ≤ 143 := hB 3
  have b4 : 0 ≤ ρ 4 ∧ ρ 4 ≤ 3 := hB 4
  have b5 : 0 ≤ ρ 5 ∧ ρ 5 ≤ 143 := hB 5
  have b6 : 0 ≤ ρ 6 ∧ ρ 6 ≤ 287 := hB 6
  have b7 : 0 ≤ ρ 7 ∧ ρ 7 ≤ 0 := hB 7
  have h0 : Γ (α 2) = 10 ∧ (∀ q ∈ ([([(6, 13)], 0, 144)] : VSP), wkT Γ M (α 2) q.1) ∧ Γ (α 1) = 1 ∧ (∀ q ∈ ([([], 0, 2)] : VSP), wkT Γ M (α 1) q.1) ∧ Q463 g (vsv M (α 2) ([(6, 13)], 0, 144)) (vsv M (α 1) ([], 0, 2))  := hP _ (List.mem_of_getElem? (i := 0) rfl)
  have h1 : Γ (α 2) = 10 ∧ (∀ q ∈ ([([(6, 13)], 0, 144)] : VSP), wkT Γ M (α 2) q.1) ∧ Γ (α 1) = 1 ∧ (∀ q ∈ ([([], 0, 2)] : VSP), wkT Γ M (α 1) q.1) ∧ Q584 g (vsv M (α 2) ([(6, 13)], 0, 144)) (vsv M (α 1) ([], 0, 2)) (ρ 3 + 0) := hP _ (List.mem_of_getElem? (i := 1) rfl)
  have h2 : Γ (α 1) = 1 ∧ (∀ q ∈ ([([], 0, 2)] : VSP), wkT Γ M (α 1) q.1) ∧ Q585 g (vsv M (α 1) ([], 0, 2)) (ρ 3 + 0) (ρ 4 + 0) (ρ 5 + 0) := hP _ (List.mem_of_getElem? (i := 2) rfl)
  have h3 : Γ (α 2) = 10 ∧ (∀ q ∈ ([([(6, 13)], 0, 144)] : VSP), wkT Γ M (α 2) q.1) ∧ Q587 g (vsv M (α 2) ([(6, 13)], 0, 144)) (ρ 5 + 0) := hP _ (List.mem_of_getElem? (i := 3) rfl)
  have h4 : Γ (α 1) = 1 ∧ (∀ q ∈ ([([], 0, 2)] : VSP), wkT Γ M (α 1) q.1) ∧ Q588 g (vsv M (α 1) ([], 0, 2)) (ρ 3 + 0) (ρ 4 + 0) (ρ 6 + 0) := hP _ (List.mem_of_getElem? (i := 4) rfl)
  have h5 : Γ (α 0) = 26 ∧ (∀ q ∈ ([([(0, 27)], 0, 288)] : VSP), wkT Γ M (α 0) q.1) ∧ Q589 g (vsv M (α 0) ([(0, 27)], 0, 288)) (ρ 6 + 0) (ρ 7 + 0) := hP _ (List.mem_of_getElem? (i := 5) rfl)
  have h6 : Γ (α 0) = 26 ∧ (∀ q ∈ ([([(0, 27)], 0, 288)] : VSP), wkT Γ M (α 0) q.1) ∧ Q464 g (vsv M (α 0) ([(0, 27)], 0, 288))  := hP _ (List.mem_of_getElem? (i := 6) rfl)
  try simp only [Int.add_zero] at h0 h1 h2 h3 h4 h5 h6
  have key : (((2 ≤ zR g ∧ zR g ≤ 9) ∧ 2 ≤ zC g ∧ zC g ≤ 9) ∧ ((0 ≤ (ρ 5 + 0 : Int) ∧ (ρ 5 + 0 : Int) < zR g * zC g) ∧ zS g (ρ 5 + 0 : Int).toNat = -1) ∧ (0 ≤ (ρ 3 + 0 : Int) ∧ zS g (ρ 3 + 0 : Int).toNat ≠ -1) ∧ lk (zR g) (zC g) (fun e => zB g e = 0) (ρ 3 + 0 : Int).toNat (ρ 5 + 0 : Int).toNat) ∧ True := by
    try simp only [Int.add_zero]
    have dm1 := cdim hT g1
    have rc1 := rc_bd dm1.1 dm1.2
    obtain ⟨-, -, -, -, p0⟩ := h0
    dsimp only [Q463] at p0
    obtain ⟨-, -, -, -, p1⟩ := h1
    dsimp only [Q584] at p1
    obtain ⟨-, -, p2⟩ := h2
    dsimp only [Q585] at p2
    obtain ⟨-, -, p3⟩ := h3
    dsimp only [Q587] at p3
    obtain ⟨-, -, p4⟩ := h4
    dsimp only [Q588] at p4
    obtain ⟨-, -, p5⟩ := h5
    dsimp only [Q589] at p5
    obtain ⟨-, -, p6⟩ := h6
    dsimp only [Q464] at p6
    obtain ⟨⟨s1, s2⟩, ⟨⟨z1, z2⟩, z3, z4⟩, hS⟩ := p0
    obtain ⟨⟨f0, f1⟩, f2⟩ := p1
    rw [s1, s2] at f1 p2
    rw [s2] at p4
    have rc81 : 4 ≤ zR g * zC g ∧ zR g * zC g ≤ 81 := ⟨(rc_bd ⟨z1, by omega⟩ ⟨z3, by omega⟩).1, Int.le_trans (Int.mul_le_mul z2 z4 (by omega) (by decide)) (by decide)⟩
    refine ⟨?_, trivial⟩
    · rcases p2 with ⟨h, -⟩ | ⟨h, e⟩
      · omega
      · have hB := p6 (ρ 6).toNat (by omega)
        rw [p5.2, p4] at hB
        have hb : zB g (nbe (zC g) (ρ 3) (ρ 4)).toNat = 0 := by omega
        have q := nb_lk (pe := fun e => zB g e = 0) (by omega) f0 f1 ⟨b4.1, by omega⟩ h hb
        rw [← e] at q
        exact ⟨⟨⟨z1, z2⟩, z3, z4⟩, ⟨⟨q.1, q.2.1⟩, (hS _ (by omega)).symm.trans p3.2⟩, ⟨f0, by rw [← hS _ (by omega)]; exact f2⟩, q.2.2.2⟩
  exact ⟨nB, qB (key.1) (nB)⟩
def t_ntk0 : KT := ((0, 0, 0, 0), [(1, 0, 0, 0), (1, 1, 0, 0)], [(-1, -1), (0, 0)], [], (0, 0, 0), [], [], ([], [(723, [(1, 0, 0, 0), (1, 1, 0, 0)])]), ([], []))
set_option maxRecDepth 100000 in
theorem l_ntk0 (g : GG) : LOK Yt (PSt g) t_ntk0 := by
  intro ρ α Γ M as hT hB hA hP
  have b0 : -1 ≤ ρ 0 ∧ ρ 0 ≤ -1 := hB 0
  have b1 : 0 ≤ ρ 1 ∧ ρ 1 ≤ 0 := hB 1
  have key : ((ρ 0 + 0 : Int) ≠ -1 ∨ (ρ 1 + 0 : Int) = 0) ∧ True := by
    try simp only [Int.add_zero]
    refine ⟨?_, trivial⟩
    · exact Or.inr (by omega)
  exact ⟨nB, qB (key.1) (nB)⟩
def t_ntk1 : KT := ((0, 0, 0, 0), [(1, 0, 0, 0), (1, 1, 0, 0)], [(0, 144), (-2147483648, 2147483647)], [], (0, 0, 0), [], [], ([], [(723, [(1, 0, 0, 0), (1, 1, 0, 0)])]), ([], []))
set_option maxRecDepth 100000 in
theorem l_ntk1 (g : GG) : LOK Yt (PSt g) t_ntk1 := by
  intro ρ α Γ M as hT hB hA hP
  have b0 : 0 ≤ ρ 0 ∧ ρ 0 ≤ 144 := hB 0
  have b1 : -2147483648 ≤ ρ 1 ∧ ρ 1 ≤ 2147483647 := hB 1
  have key : ((ρ 0 + 0 : Int) ≠ -1 ∨ (ρ 1 + 0 : Int) = 0) ∧ True := by
    try simp only [Int.add_zero]
    refine ⟨?_, trivial⟩
    · exact Or.inl (by omega)
  exact ⟨nB, qB (key.1) (nB)⟩
def t_ntk2 : KT := ((0, 0, 0, 0), [(2, 0, 26, 0), (1, 1, 0, 0), (1, 2, 0, 0), (1, 3, 0, 0)], [(0, 0), (-1, -1), (0, 144), (0, 144)], [(451, [(2, 0, 26, 0), (0, 0, 0, 144), (0, 0, 0, 0), (0, 0, 0, -1)]), (723, [(1, 1, 0, 0), (1, 2, 0, 0)]), (6, [(1, 3, 0, 0), (1, 2, 0, 0)]), (10, [(2, 0, 26, 0), (0, 0, 0, 4), (1, 3, 0, 0)])], (0, 0, 0), [], [], ([], [(592, [(2, 0, 26, 0), (0, 0, 0, -1)])]), ([], []))
set_option maxRecDepth 100000 in
theorem l_ntk2 (g : GG) : LOK Yt (PSt g) t_ntk2 := by
  intro ρ α Γ M as hT hB hA hP
  have g0 : Γ (α 0) = 26 := tyAt hA (i := 0) rfl
  have b1 : -1 ≤ ρ 1 ∧ ρ 1 ≤ -1 := hB 1
  have b2 : 0 ≤ ρ 2 ∧ ρ 2 ≤ 144 := hB 2
  have b3 : 0 ≤ ρ 3 ∧ ρ 3 ≤ 144 := hB 3
  have h0 : Γ (α 0) = 26 ∧ (∀ q ∈ ([([(1, 28)], 0, 144), ([(3, 30)], 0, 144), ([], 4, 5)] : VSP), wkT Γ M (α 0) q.1) ∧ Q451 g (vsv M (α 0) ([(1, 28)], 0, 144)) (vsv M (α 0) ([(3, 30)], 0, 144)) (vsv M (α 0) ([], 4, 5)) (144) (0) ((-1)) := hP _ (List.mem_of_getElem? (i := 0) rfl)
  have h1 : (ρ 1 + 0 : Int) ≠ -1 ∨ (ρ 2 + 0 : Int) = 0 := hP _ (List.mem_of_getElem? (i := 1) rfl)
  have h2 : ρ 3 + 0 ≤ ρ 2 + 0 := hP _ (List.mem_of_getElem? (i := 2) rfl)
  have h3 : 0 ≤ (4 : Int) ∧ M.2.2.2.2 (α 0) (4 : Int).toNat = ρ 3 + 0 := hP _ (List.mem_of_getElem? (i := 3) rfl)
  try simp only [Int.add_zero] at h0 h1 h2 h3
  have key : (Γ (α 0) = 26 ∧ (∀ q ∈ ([([(1, 28)], 0, 144), ([(3, 30)], 0, 144), ([], 4, 5)] : VSP), wkT Γ M (α 0) q.1) ∧ Q592 g (vsv M (α 0) ([(1, 28)], 0, 144)) (vsv M (α 0) ([(3, 30)], 0, 144)) (vsv M (α 0) ([], 4, 5)) ((-1))) ∧ True := by
    try simp only [Int.add_zero]
    obtain ⟨-, -, p0⟩ := h0
    dsimp only [Q451] at p0
    have e3 : M.2.2.2.2 (α 0) 4 = ρ 3 := h3.2
    have c : (vsv M (α 0) ([], 4, 5)) 4 = ρ 3 := (vs0 (by decide) (by decide)).trans e3
    refine ⟨⟨g0, pic1 hT g0 (by decide) (by decide), ?_⟩, trivial⟩
    · dsimp only [Q592]
      exact Or.inl ⟨rfl, by rcases h1 with h1 | h1 <;> omega, p0⟩
  exact ⟨nB, qB (key.1) (nB)⟩
def t_ntk3 : KT := ((0, 0, 0, 0), [(2, 0, 26, 0), (2, 1, 30, 0), (1, 2, 0, 0), (1, 3, 0, 0), (1, 4, 0, 0)], [(0, 0), (0, 0), (0, 143), (0, 143), (0, 144)], [(451, [(2, 0, 26, 0), (0, 0, 0, 144), (0, 0, 0, 0), (0, 0, 0, -1)]), (11, [(2, 0, 26, 0), (0, 0, 0, 3), (2, 1, 30, 0)]), (10, [(2, 1, 30, 0), (1, 2, 0, 0), (1, 3, 0, 0)]), (10, [(2, 0, 26, 0), (0, 0, 0, 4), (1, 4, 0, 0)]), (12, [(2, 0, 26, 0), (1, 2, 0, 0)])], (0, 0, 0), [], [], ([], [(593, [(2, 0, 26, 0), (1, 4, 0, 0), (1, 2, 0, 0), (1, 3, 0, 0)])]), ([], []))
set_option maxRecDepth 100000 in
theorem l_ntk3 (g : GG) : LOK Yt (PSt g) t_ntk3 := by
  intro ρ α Γ M as hT hB hA hP
  have g0 : Γ (α 0) = 26 := tyAt hA (i := 0) rfl
  have g1 : Γ (α 1) = 30 := tyAt hA (i := 1) rfl
  have b2 : 0 ≤ ρ 2 ∧ ρ 2 ≤ 143 := hB 2
  have b3 : 0 ≤ ρ 3 ∧ ρ 3 ≤ 143 := hB 3
  have b4 : 0 ≤ ρ 4 ∧ ρ 4 ≤ 144 := hB 4
  have h0 : Γ (α 0) = 26 ∧ (∀ q ∈ ([([(1, 28)], 0, 144), ([(3, 30)], 0, 144), ([], 4, 5)] : VSP), wkT Γ M (α 0) q.1) ∧ Q451 g (vsv M (α 0) ([(1, 28)], 0, 144)) (vsv M (α 0) ([(3, 30)], 0, 144)) (vsv M (α 0) ([], 4, 5)) (144) (0) ((-1)) := hP _ (List.mem_of_getElem? (i := 0) rfl)
  have h1 : 0 ≤ (3 : Int) ∧ M.2.2.2.1 (α 0) (3 : Int).toNat = some (α 1) := hP _ (List.mem_of_getElem? (i := 1) rfl)
  have h2 : 0 ≤ (ρ 2 + 0 : Int) ∧ M.2.2.2.2 (α 1) (ρ 2 + 0 : Int).toNat = ρ 3 + 0 := hP _ (List.mem_of_getElem? (i := 2) rfl)
  have h3 : 0 ≤ (4 : Int) ∧ M.2.2.2.2 (α 0) (4 : Int).toNat = ρ 4 + 0 := hP _ (List.mem_of_getElem? (i := 3) rfl)
  have h4 : Γ (α 0) = 26 ∧ (ρ 2 + 0 = -1 ∨ (0 ≤ ρ 2 + 0 ∧ ρ 2 + 0 < M.2.2.2.2 (α 0) 4)) := hP _ (List.mem_of_getElem? (i := 4) rfl)
  try simp only [Int.add_zero] at h0 h1 h2 h3 h4
  have key : (Γ (α 0) = 26 ∧ (∀ q ∈ ([([(1, 28)], 0, 144), ([(3, 30)], 0, 144)] : VSP), wkT Γ M (α 0) q.1) ∧ Q593 g (vsv M (α 0) ([(1, 28)], 0, 144)) (vsv M (α 0) ([(3, 30)], 0, 144)) (ρ 4 + 0) (ρ 2 + 0) (ρ 3 + 0)) ∧ True := by
    try simp only [Int.add_zero]
    obtain ⟨-, -, p0⟩ := h0
    dsimp only [Q451] at p0
    have e1 : M.2.2.2.1 (α 0) 3 = some (α 1) := h1.2
    have e2 : M.2.2.2.2 (α 1) (ρ 2).toNat = ρ 3 := h2.2
    have e3 : M.2.2.2.2 (α 0) 4 = ρ 4 := h3.2
    have c : (vsv M (α 0) ([], 4, 5)) 4 = ρ 4 := (vs0 (by decide) (by decide)).trans e3
    refine ⟨⟨g0, pic1 hT g0 (by decide) (by decide), ?_⟩, trivial⟩
    · dsimp only [Q593]
      rw [c] at p0
      have h4 := h4.2
      have c2 : M.2.2.2.2 (α 0) 4 = ρ 4 := e3
      exact ⟨⟨⟨b2.1, by omega⟩, (vs1 e1 (Nat.zero_le _) (by omega)).trans e2⟩, p0⟩
  exact ⟨nB, qB (key.1) (nB)⟩
def t_ntk4 : KT := ((0, 0, 0, 0), [(2, 0, 26, 0), (2, 1, 30, 0), (1, 2, 0, 0), (1, 3, 0, 0), (1, 4, 0, 0), (1, 5, 0, 0)], [(0, 0), (0, 0), (0, 143), (0, 143), (0, 144), (-2147483648, 2147483647)], [(593, [(2, 0, 26, 0), (1, 4, 0, 0), (1, 2, 0, 0), (1, 3, 0, 0)]), (11, [(2, 0, 26, 0), (0, 0, 0, 3), (2, 1, 30, 0)]), (10, [(2, 0, 26, 0), (0, 0, 0, 4), (1, 4, 0, -1)]), (10, [(2, 1, 30, 0), (1, 4, 0, -1), (1, 5, 0, 0)])], (0, 0, 0), [], [], ([], [(622, [(2, 1, 30, 0), (1, 2, 0, 0), (2, 0, 26, 0), (1, 3, 0, 0), (1, 5, 0, 0)])]), ([], []))
set_option maxRecDepth 100000 in
theorem l_ntk4 (g : GG) : LOK Yt (PSt g) t_ntk4 := by
  intro ρ α Γ M as hT hB hA hP
  have g0 : Γ (α 0) = 26 := tyAt hA (i := 0) rfl
  have g1 : Γ (α 1) = 30 := tyAt hA (i := 1) rfl
  have b2 : 0 ≤ ρ 2 ∧ ρ 2 ≤ 143 := hB 2
  have b3 : 0 ≤ ρ 3 ∧ ρ 3 ≤ 143 := hB 3
  have b4 : 0 ≤ ρ 4 ∧ ρ 4 ≤ 144 := hB 4
  have b5 : -2147483648 ≤ ρ 5 ∧ ρ 5 ≤ 2147483647 := hB 5
  have h0 : Γ (α 0) = 26 ∧ (∀ q ∈ ([([(1, 28)], 0, 144), ([(3, 30)], 0, 144)] : VSP), wkT Γ M (α 0) q.1) ∧ Q593 g (vsv M (α 0) ([(1, 28)], 0, 144)) (vsv M (α 0) ([(3, 30)], 0, 144)) (ρ 4 + 0) (ρ 2 + 0) (ρ 3 + 0) := hP _ (List.mem_of_getElem? (i := 0) rfl)
  have h1 : 0 ≤ (3 : Int) ∧ M.2.2.2.1 (α 0) (3 : Int).toNat = some (α 1) := hP _ (List.mem_of_getElem? (i := 1) rfl)
  have h2 : 0 ≤ (4 : Int) ∧ M.2.2.2.2 (α 0) (4 : Int).toNat = ρ 4 + (-1) := hP _ (List.mem_of_getElem? (i := 2) rfl)
  have h3 : 0 ≤ (ρ 4 + (-1) : Int) ∧ M.2.2.2.2 (α 1) (ρ 4 + (-1) : Int).toNat = ρ 5 + 0 := hP _ (List.mem_of_getElem? (i := 3) rfl)
  try simp only [Int.add_zero] at h0 h1 h2 h3
  have key : (Γ (α 1) = 30 ∧ wlk M (α 0) [(3, 30)] = (α 1) ∧ wkT Γ M (α 0) [(3, 30)] ∧ Γ (α 0) = 26 ∧ (∀ q ∈ ([([(1, 28)], 0, 144), ([], 4, 5)] : VSP), wkT Γ M (α 0) q.1) ∧ Q622 g (hcl [vi (ρ 2 + 0)] (clp [(0, 144)] (M.2.2.2.2 (α 1)))) (ρ 2 + 0) (vsv M (α 0) ([(1, 28)], 0, 144)) (vsv M (α 0) ([], 4, 5)) (ρ 3 + 0) (ρ 5 + 0)) ∧ True := by
    try simp only [Int.add_zero]
    obtain ⟨-, -, p0⟩ := h0
    dsimp only [Q593] at p0
    have e1 : M.2.2.2.1 (α 0) 3 = some (α 1) := h1.2
    have e2 : M.2.2.2.2 (α 0) 4 = ρ 4 + (-1) := h2.2
    have e3 : M.2.2.2.2 (α 1) (ρ 4 + (-1)).toNat = ρ 5 := h3.2
    refine ⟨⟨g1, (fl_eq e1), wk1 e1 g1, g0, pic1 hT g0 (by decide) (by decide), ?_⟩, trivial⟩
    · dsimp only [Q622]
      obtain ⟨⟨⟨a0, a1⟩, a2⟩, f⟩ := p0
      have c : (vsv M (α 0) ([], 4, 5)) 4 = ρ 4 + -1 := (vs0 (by decide) (by decide)).trans e2
      refine ⟨⟨⟨a0, by omega⟩, fun hl => ?_⟩, ?_⟩
      · rw [c, hcl1 (by omega), cAll (by omega)]
        exact e3
      · rw [hlU a0 (by rw [← vsv1 e1]; exact a2), ← vsv1 (t := 30) e1, c, show ρ 4 + -1 + 1 = ρ 4 by omega]
        exact f
  exact ⟨nB, qB (key.1) (nB)⟩
def t_ntk5 : KT := ((0, 0, 0, 0), [(2, 0, 26, 0), (2, 1, 30, 0), (1, 2, 0, 0), (1, 3, 0, 0), (1, 4, 0, 0)], [(0, 0), (0, 0), (0, 143), (0, 143), (-2147483648, 2147483647)], [(622, [(2, 1, 30, 0), (1, 2, 0, 0), (2, 0, 26, 0), (1, 3, 0, 0), (1, 4, 0, 0)]), (11, [(2, 0, 26, 0), (0, 0, 0, 3), (2, 1, 30, 0)]), (10, [(2, 1, 30, 0), (1, 2, 0, 0), (1, 4, 0, 0)]), (722, [])], (0, 0, 0), [], [], ([], [(592, [(2, 0, 26, 0), (1, 3, 0, 0)])]), ([], []))
set_option maxRecDepth 100000 in
theorem l_ntk5 (g : GG) : LOK Yt (PSt g) t_ntk5 := by
  intro ρ α Γ M as hT hB hA hP
  have g0 : Γ (α 0) = 26 := tyAt hA (i := 0) rfl
  have g1 : Γ (α 1) = 30 := tyAt hA (i := 1) rfl
  have b2 : 0 ≤ ρ 2 ∧ ρ 2 ≤ 143 := hB 2
  have b3 : 0 ≤ ρ 3 ∧ ρ 3 ≤ 143 := hB 3
  have b4 : -2147483648 ≤ ρ 4 ∧ ρ 4 ≤ 2147483647 := hB 4
  have h0 : Γ (α 1) = 30 ∧ wlk M (α 0) [(3, 30)] = (α 1) ∧ wkT Γ M (α 0) [(3, 30)] ∧ Γ (α 0) = 26 ∧ (∀ q ∈ ([([(1, 28)], 0, 144), ([], 4, 5)] : VSP), wkT Γ M (α 0) q.1) ∧ Q622 g (hcl [vi (ρ 2 + 0)] (clp [(0, 144)] (M.2.2.2.2 (α 1)))) (ρ 2 + 0) (vsv M (α 0) ([(1, 28)], 0, 144)) (vsv M (α 0) ([], 4, 5)) (ρ 3 + 0) (ρ 4 + 0) := hP _ (List.mem_of_getElem? (i := 0) rfl)
  have h1 : 0 ≤ (3 : Int) ∧ M.2.2.2.1 (α 0) (3 : Int).toNat = some (α 1) := hP _ (List.mem_of_getElem? (i := 1) rfl)
  have h2 : 0 ≤ (ρ 2 + 0 : Int) ∧ M.2.2.2.2 (α 1) (ρ 2 + 0 : Int).toNat = ρ 4 + 0 := hP _ (List.mem_of_getElem? (i := 2) rfl)
  have h3 : ((2 ≤ zR g ∧ zR g ≤ 9) ∧ 2 ≤ zC g ∧ zC g ≤ 9) := hP _ (List.mem_of_getElem? (i := 3) rfl)
  try simp only [Int.add_zero] at h0 h1 h2 h3
  have key : (Γ (α 0) = 26 ∧ (∀ q ∈ ([([(1, 28)], 0, 144), ([(3, 30)], 0, 144), ([], 4, 5)] : VSP), wkT Γ M (α 0) q.1) ∧ Q592 g (vsv M (α 0) ([(1, 28)], 0, 144)) (vsv M (α 0) ([(3, 30)], 0, 144)) (vsv M (α 0) ([], 4, 5)) (ρ 3 + 0)) ∧ True := by
    try simp only [Int.add_zero]
    obtain ⟨-, -, -, -, -, p0⟩ := h0
    dsimp only [Q622] at p0
    have e1 : M.2.2.2.1 (α 0) 3 = some (α 1) := h1.2
    have e2 : M.2.2.2.2 (α 1) (ρ 2).toNat = ρ 4 := h2.2
    obtain ⟨⟨z1, z2⟩, z3, z4⟩ := h3
    have rc81 : 4 ≤ zR g * zC g ∧ zR g * zC g ≤ 81 := ⟨(rc_bd ⟨z1, by omega⟩ ⟨z3, by omega⟩).1, Int.le_trans (Int.mul_le_mul z2 z4 (by omega) (by decide)) (by decide)⟩
    refine ⟨⟨g0, pic1 hT g0 (by decide) (by decide), ?_⟩, trivial⟩
    · dsimp only [Q592]
      obtain ⟨⟨⟨a0, a1⟩, a2⟩, f⟩ := p0
      rw [← vsv1 (t := 30) e1] at a2 f
      have hw : (vsv M (α 0) ([(3, 30)], 0, 144)) (ρ 2).toNat = ρ 4 := (vs1 e1 (Nat.zero_le _) (by omega)).trans e2
      have hr : upZ (hcl [vi (ρ 2)] (vsv M (α 0) ([(3, 30)], 0, 144))) (ρ 2) (ρ 3) (ρ 2).toNat = ρ 3 := upZ_at (by omega)
      obtain ⟨q1, q2, q3⟩ := fn_take (wa2 := (vsv M (α 0) ([(3, 30)], 0, 144))) f (by omega) (by omega) a0 a1 hr (fun hl => by
        rw [hw, show (vsv M (α 0) ([], 4, 5)) 4 + 1 - 1 = (vsv M (α 0) ([], 4, 5)) 4 by omega, upZ_ne (by omega)]
        exact (a2 (by omega)).symm) (fun j hj hne => hlN hne)
      rw [show (vsv M (α 0) ([], 4, 5)) 4 + 1 - 1 = (vsv M (α 0) ([], 4, 5)) 4 by omega] at q3
      obtain ⟨p, x1, x2, x3⟩ := (f.2.2.2.1 (ρ 3).toNat (by omega) q2.1 q2.2).2
      exact Or.inr ⟨⟨q1, q2.1⟩, ⟨p, x1, x2, x3⟩, q3⟩
  exact ⟨nB, qB (key.1) (nB)⟩
def t_nfi0597 : KT := ((0, 0, 0, 0), [(2, 0, 28, 0), (1, 1, 0, 0)], [(0, 0), (0, 0)], [], (0, 0, 0), [], [], ([], [(597, [(2, 0, 28, 0), (1, 1, 0, 0)])]), ([], []))
set_option maxRecDepth 100000 in
theorem l_nfi0597 (g : GG) : LOK Yt (PSt g) t_nfi0597 := by
  intro ρ α Γ M as hT hB hA hP
  have g0 : Γ (α 0) = 28 := tyAt hA (i := 0) rfl
  have b1 : 0 ≤ ρ 1 ∧ ρ 1 ≤ 0 := hB 1
  have key : (Γ (α 0) = 28 ∧ (∀ q ∈ ([([], 0, 144)] : VSP), wkT Γ M (α 0) q.1) ∧ Q597 g (vsv M (α 0) ([], 0, 144)) (ρ 1 + 0)) ∧ True := by
    try simp only [Int.add_zero]
    refine ⟨⟨g0, pic1 hT g0 (by decide) (by decide), ?_⟩, trivial⟩
    · dsimp only [Q597]
      exact fun j hj => by omega
  exact ⟨nB, qB (key.1) (nB)⟩
def t_nfi1597 : KT := ((0, 0, 0, 0), [(2, 0, 28, 0), (1, 1, 0, 0)], [(0, 0), (0, 143)], [(597, [(2, 0, 28, 0), (1, 1, 0, 0)])], (0, 0, 0), [], [], ([], [(632, [(2, 0, 28, 0), (1, 1, 0, 0), (2, 0, 28, 0), (1, 1, 0, 0)])]), ([], []))
set_option maxRecDepth 100000 in
theorem l_nfi1597 (g : GG) : LOK Yt (PSt g) t_nfi1597 := by
  intro ρ α Γ M as hT hB hA hP
  have g0 : Γ (α 0) = 28 := tyAt hA (i := 0) rfl
  have b1 : 0 ≤ ρ 1 ∧ ρ 1 ≤ 143 := hB 1
  have h0 : Γ (α 0) = 28 ∧ (∀ q ∈ ([([], 0, 144)] : VSP), wkT Γ M (α 0) q.1) ∧ Q597 g (vsv M (α 0) ([], 0, 144)) (ρ 1 + 0) := hP _ (List.mem_of_getElem? (i := 0) rfl)
  try simp only [Int.add_zero] at h0
  have key : (Γ (α 0) = 28 ∧ wlk M (α 0) [] = (α 0) ∧ wkT Γ M (α 0) [] ∧ Γ (α 0) = 28 ∧ (∀ q ∈ ([] : VSP), wkT Γ M (α 0) q.1) ∧ Q632 g (hcl [vi (ρ 1 + 0)] (clp [(0, 144)] (M.2.2.2.2 (α 0)))) (ρ 1 + 0)  (ρ 1 + 0)) ∧ True := by
    try simp only [Int.add_zero]
    obtain ⟨-, -, p0⟩ := h0
    dsimp only [Q597] at p0
    refine ⟨⟨g0, rfl, trivial, g0, pic1 hT g0 (by decide) (by decide), ?_⟩, trivial⟩
    · dsimp only [Q632]
      exact ⟨rfl, fun j hj => by rw [hcl1 (by omega)]; exact p0 j hj⟩
  exact ⟨nB, qB (key.1) (nB)⟩
def t_nfi2597 : KT := ((0, 0, 0, 0), [(2, 0, 28, 0), (1, 1, 0, 0), (1, 2, 0, 0)], [(0, 0), (0, 143), (-1, -1)], [(632, [(2, 0, 28, 0), (1, 1, 0, 0), (2, 0, 28, 0), (1, 1, 0, 0)]), (10, [(2, 0, 28, 0), (1, 1, 0, 0), (1, 2, 0, 0)])], (0, 0, 0), [], [], ([], [(597, [(2, 0, 28, 0), (1, 1, 0, 1)])]), ([], []))
set_option maxRecDepth 100000 in
theorem l_nfi2597 (g : GG) : LOK Yt (PSt g) t_nfi2597 := by
  intro ρ α Γ M as hT hB hA hP
  have g0 : Γ (α 0) = 28 := tyAt hA (i := 0) rfl
  have b1 : 0 ≤ ρ 1 ∧ ρ 1 ≤ 143 := hB 1
  have b2 : -1 ≤ ρ 2 ∧ ρ 2 ≤ -1 := hB 2
  have h0 : Γ (α 0) = 28 ∧ wlk M (α 0) [] = (α 0) ∧ wkT Γ M (α 0) [] ∧ Γ (α 0) = 28 ∧ (∀ q ∈ ([] : VSP), wkT Γ M (α 0) q.1) ∧ Q632 g (hcl [vi (ρ 1 + 0)] (clp [(0, 144)] (M.2.2.2.2 (α 0)))) (ρ 1 + 0)  (ρ 1 + 0) := hP _ (List.mem_of_getElem? (i := 0) rfl)
  have h1 : 0 ≤ (ρ 1 + 0 : Int) ∧ M.2.2.2.2 (α 0) (ρ 1 + 0 : Int).toNat = ρ 2 + 0 := hP _ (List.mem_of_getElem? (i := 1) rfl)
  try simp only [Int.add_zero] at h0 h1
  have key : (Γ (α 0) = 28 ∧ (∀ q ∈ ([([], 0, 144)] : VSP), wkT Γ M (α 0) q.1) ∧ Q597 g (vsv M (α 0) ([], 0, 144)) (ρ 1 + 1)) ∧ True := by
    try simp only [Int.add_zero]
    obtain ⟨-, -, -, -, -, p0⟩ := h0
    dsimp only [Q632] at p0
    have e1 : M.2.2.2.2 (α 0) (ρ 1).toNat = ρ 2 := h1.2
    refine ⟨⟨g0, pic1 hT g0 (by decide) (by decide), ?_⟩, trivial⟩
    · dsimp only [Q597]
      intro j hj
      show clp [(0, 144)] (M.2.2.2.2 (α 0)) j = -1
      by_cases hc : (j : Int) < ρ 1
      · have := p0.2 j hc
        rw [hcl1 (by omega)] at this
        exact this
      · rw [show j = (ρ 1).toNat by omega, cAll (by omega)]
        exact e1.trans (by omega)
  exact ⟨nB, qB (key.1) (nB)⟩
def t_nfi3597 : KT := ((0, 0, 0, 0), [(2, 0, 28, 0), (1, 1, 0, 0), (1, 2, 0, 0)], [(0, 0), (-2147483648, 2147483647), (144, 144)], [(597, [(2, 0, 28, 0), (1, 1, 0, 0)]), (6, [(1, 2, 0, 0), (1, 1, 0, 0)])], (0, 0, 0), [], [], ([], [(597, [(2, 0, 28, 0), (0, 0, 0, 144)])]), ([], []))
set_option maxRecDepth 100000 in
theorem l_nfi3597 (g : GG) : LOK Yt (PSt g) t_nfi3597 := by
  intro ρ α Γ M as hT hB hA hP
  have g0 : Γ (α 0) = 28 := tyAt hA (i := 0) rfl
  have b1 : -2147483648 ≤ ρ 1 ∧ ρ 1 ≤ 2147483647 := hB 1
  have b2 : 144 ≤ ρ 2 ∧ ρ 2 ≤ 144 := hB 2
  have h0 : Γ (α 0) = 28 ∧ (∀ q ∈ ([([], 0, 144)] : VSP), wkT Γ M (α 0) q.1) ∧ Q597 g (vsv M (α 0) ([], 0, 144)) (ρ 1 + 0) := hP _ (List.mem_of_getElem? (i := 0) rfl)
  have h1 : ρ 2 + 0 ≤ ρ 1 + 0 := hP _ (List.mem_of_getElem? (i := 1) rfl)
  try simp only [Int.add_zero] at h0 h1
  have key : (Γ (α 0) = 28 ∧ (∀ q ∈ ([([], 0, 144)] : VSP), wkT Γ M (α 0) q.1) ∧ Q597 g (vsv M (α 0) ([], 0, 144)) (144)) ∧ True := by
    try simp only [Int.add_zero]
    obtain ⟨-, -, p0⟩ := h0
    dsimp only [Q597] at p0
    refine ⟨⟨g0, pic1 hT g0 (by decide) (by decide), ?_⟩, trivial⟩
    · dsimp only [Q597]
      exact fun j hj => p0 j (by omega)
  exact ⟨nB, qB (key.1) (nB)⟩
def t_nfi0598 : KT := ((0, 0, 0, 0), [(2, 0, 13, 0), (1, 1, 0, 0)], [(0, 0), (0, 0)], [], (0, 0, 0), [], [], ([], [(598, [(2, 0, 13, 0), (1, 1, 0, 0)])]), ([], []))
set_option maxRecDepth 100000 in
theorem l_nfi0598 (g : GG) : LOK Yt (PSt g) t_nfi0598 := by
  intro ρ α Γ M as hT hB hA hP
  have g0 : Γ (α 0) = 13 := tyAt hA (i := 0) rfl
  have b1 : 0 ≤ ρ 1 ∧ ρ 1 ≤ 0 := hB 1
  have key : (Γ (α 0) = 13 ∧ (∀ q ∈ ([([], 0, 144)] : VSP), wkT Γ M (α 0) q.1) ∧ Q598 g (vsv M (α 0) ([], 0, 144)) (ρ 1 + 0)) ∧ True := by
    try simp only [Int.add_zero]
    refine ⟨⟨g0, pic1 hT g0 (by decide) (by decide), ?_⟩, trivial⟩
    · dsimp only [Q598]
      exact fun j hj => by omega
  exact ⟨nB, qB (key.1) (nB)⟩
def t_nfi1598 : KT := ((0, 0, 0, 0), [(2, 0, 13, 0), (1, 1, 0, 0)], [(0, 0), (0, 143)], [(598, [(2, 0, 13, 0), (1, 1, 0, 0)])], (0, 0, 0), [], [], ([], [(633, [(2, 0, 13, 0), (1, 1, 0, 0), (2, 0, 13, 0), (1, 1, 0, 0)])]), ([], []))
set_option maxRecDepth 100000 in
theorem l_nfi1598 (g : GG) : LOK Yt (PSt g) t_nfi1598 := by
  intro ρ α Γ M as hT hB hA hP
  have g0 : Γ (α 0) = 13 := tyAt hA (i := 0) rfl
  have b1 : 0 ≤ ρ 1 ∧ ρ 1 ≤ 143 := hB 1
  have h0 : Γ (α 0) = 13 ∧ (∀ q ∈ ([([], 0, 144)] : VSP), wkT Γ M (α 0) q.1) ∧ Q598 g (vsv M (α 0) ([], 0, 144)) (ρ 1 + 0) := hP _ (List.mem_of_getElem? (i := 0) rfl)
  try simp only [Int.add_zero] at h0
  have key : (Γ (α 0) = 13 ∧ wlk M (α 0) [] = (α 0) ∧ wkT Γ M (α 0) [] ∧ Γ (α 0) = 13 ∧ (∀ q ∈ ([] : VSP), wkT Γ M (α 0) q.1) ∧ Q633 g (hcl [vi (ρ 1 + 0)] (clp [(0, 144)] (M.2.2.2.2 (α 0)))) (ρ 1 + 0)  (ρ 1 + 0)) ∧ True := by
    try simp only [Int.add_zero]
    obtain ⟨-, -, p0⟩ := h0
    dsimp only [Q598] at p0
    refine ⟨⟨g0, rfl, trivial, g0, pic1 hT g0 (by decide) (by decide), ?_⟩, trivial⟩
    · dsimp only [Q633]
      exact ⟨rfl, fun j hj => by rw [hcl1 (by omega)]; exact p0 j hj⟩
  exact ⟨nB, qB (key.1) (nB)⟩
def t_nfi2598 : KT := ((0, 0, 0, 0), [(2, 0, 13, 0), (1, 1, 0, 0), (1, 2, 0, 0)], [(0, 0), (0, 143), (-1, -1)], [(633, [(2, 0, 13, 0), (1, 1, 0, 0), (2, 0, 13, 0), (1, 1, 0, 0)]), (10, [(2, 0, 13, 0), (1, 1, 0, 0), (1, 2, 0, 0)])], (0, 0, 0), [], [], ([], [(598, [(2, 0, 13, 0), (1, 1, 0, 1)])]), ([], []))
set_option maxRecDepth 100000 in
theorem l_nfi2598 (g : GG) : LOK Yt (PSt g) t_nfi2598 := by
  intro ρ α Γ M as hT hB hA hP
  have g0 : Γ (α 0) = 13 := tyAt hA (i := 0) rfl
  have b1 : 0 ≤ ρ 1 ∧ ρ 1 ≤ 143 := hB 1
  have b2 : -1 ≤ ρ 2 ∧ ρ 2 ≤ -1 := hB 2
  have h0 : Γ (α 0) = 13 ∧ wlk M (α 0) [] = (α 0) ∧ wkT Γ M (α 0) [] ∧ Γ (α 0) = 13 ∧ (∀ q ∈ ([] : VSP), wkT Γ M (α 0) q.1) ∧ Q633 g (hcl [vi (ρ 1 + 0)] (clp [(0, 144)] (M.2.2.2.2 (α 0)))) (ρ 1 + 0)  (ρ 1 + 0) := hP _ (List.mem_of_getElem? (i := 0) rfl)
  have h1 : 0 ≤ (ρ 1 + 0 : Int) ∧ M.2.2.2.2 (α 0) (ρ 1 + 0 : Int).toNat = ρ 2 + 0 := hP _ (List.mem_of_getElem? (i := 1) rfl)
  try simp only [Int.add_zero] at h0 h1
  have key : (Γ (α 0) = 13 ∧ (∀ q ∈ ([([], 0, 144)] : VSP), wkT Γ M (α 0) q.1) ∧ Q598 g (vsv M (α 0) ([], 0, 144)) (ρ 1 + 1)) ∧ True := by
    try simp only [Int.add_zero]
    obtain ⟨-, -, -, -, -, p0⟩ := h0
    dsimp only [Q633] at p0
    have e1 : M.2.2.2.2 (α 0) (ρ 1).toNat = ρ 2 := h1.2
    refine ⟨⟨g0, pic1 hT g0 (by decide) (by decide), ?_⟩, trivial⟩
    · dsimp only [Q598]
      intro j hj
      show clp [(0, 144)] (M.2.2.2.2 (α 0)) j = -1
      by_cases hc : (j : Int) < ρ 1
      · have := p0.2 j hc
        rw [hcl1 (by omega)] at this
        exact this
      · rw [show j = (ρ 1).toNat by omega, cAll (by omega)]
        exact e1.trans (by omega)
  exact ⟨nB, qB (key.1) (nB)⟩
def t_nfi3598 : KT := ((0, 0, 0, 0), [(2, 0, 13, 0), (1, 1, 0, 0), (1, 2, 0, 0)], [(0, 0), (-2147483648, 2147483647), (144, 144)], [(598, [(2, 0, 13, 0), (1, 1, 0, 0)]), (6, [(1, 2, 0, 0), (1, 1, 0, 0)])], (0, 0, 0), [], [], ([], [(598, [(2, 0, 13, 0), (0, 0, 0, 144)])]), ([], []))
set_option maxRecDepth 100000 in
theorem l_nfi3598 (g : GG) : LOK Yt (PSt g) t_nfi3598 := by
  intro ρ α Γ M as hT hB hA hP
  have g0 : Γ (α 0) = 13 := tyAt hA (i := 0) rfl
  have b1 : -2147483648 ≤ ρ 1 ∧ ρ 1 ≤ 2147483647 := hB 1
  have b2 : 144 ≤ ρ 2 ∧ ρ 2 ≤ 144 := hB 2
  have h0 : Γ (α 0) = 13 ∧ (∀ q ∈ ([([], 0, 144)] : VSP), wkT Γ M (α 0) q.1) ∧ Q598 g (vsv M (α 0) ([], 0, 144)) (ρ 1 + 0) := hP _ (List.mem_of_getElem? (i := 0) rfl)
  have h1 : ρ 2 + 0 ≤ ρ 1 + 0 := hP _ (List.mem_of_getElem? (i := 1) rfl)
  try simp only [Int.add_zero] at h0 h1
  have key : (Γ (α 0) = 13 ∧ (∀ q ∈ ([([], 0, 144)] : VSP), wkT Γ M (α 0) q.1) ∧ Q598 g (vsv M (α 0) ([], 0, 144)) (144)) ∧ True := by
    try simp only [Int.add_zero]
    obtain ⟨-, -, p0⟩ := h0
    dsimp only [Q598] at p0
    refine ⟨⟨g0, pic1 hT g0 (by decide) (by decide), ?_⟩, trivial⟩
    · dsimp only [Q598]
      exact fun j hj => p0 j (by omega)
  exact ⟨nB, qB (key.1) (nB)⟩
def t_nga_0 : KT := ((0, 0, 0, 0), [(2, 0, 26, 0), (2, 1, 38, 0), (2, 2, 28, 0), (1, 3, 0, 0)], [(0, 0), (0, 0), (0, 0), (0, 0)], [(597, [(2, 2, 28, 0), (0, 0, 0, 144)]), (11, [(2, 0, 26, 0), (0, 0, 0, 1), (2, 2, 28, 0)]), (10, [(2, 0, 26, 0), (0, 0, 0, 4), (0, 0, 0, 0)])], (0, 0, 0), [], [], ([], [(480, [(2, 0, 26, 0), (2, 1, 38, 0), (1, 3, 0, 0), (0, 0, 0, 0), (0, 0, 0, -1)])]), ([], []))
set_option maxRecDepth 100000 in
theorem l_nga_0 (g : GG) : LOK Yt (PSt g) t_nga_0 := by
  intro ρ α Γ M as hT hB hA hP
  have g0 : Γ (α 0) = 26 := tyAt hA (i := 0) rfl
  have g1 : Γ (α 1) = 38 := tyAt hA (i := 1) rfl
  have g2 : Γ (α 2) = 28 := tyAt hA (i := 2) rfl
  have b3 : 0 ≤ ρ 3 ∧ ρ 3 ≤ 0 := hB 3
  have h0 : Γ (α 2) = 28 ∧ (∀ q ∈ ([([], 0, 144)] : VSP), wkT Γ M (α 2) q.1) ∧ Q597 g (vsv M (α 2) ([], 0, 144)) (144) := hP _ (List.mem_of_getElem? (i := 0) rfl)
  have h1 : 0 ≤ (1 : Int) ∧ M.2.2.2.1 (α 0) (1 : Int).toNat = some (α 2) := hP _ (List.mem_of_getElem? (i := 1) rfl)
  have h2 : 0 ≤ (4 : Int) ∧ M.2.2.2.2 (α 0) (4 : Int).toNat = 0 := hP _ (List.mem_of_getElem? (i := 2) rfl)
  try simp only [Int.add_zero] at h0 h1 h2
  have key : (Γ (α 0) = 26 ∧ (∀ q ∈ ([([(0, 27)], 0, 288), ([(1, 28)], 0, 144), ([(3, 30)], 0, 144), ([], 4, 5)] : VSP), wkT Γ M (α 0) q.1) ∧ Γ (α 1) = 38 ∧ (∀ q ∈ ([([(0, 1)], 0, 2), ([(2, 10), (6, 13)], 0, 144)] : VSP), wkT Γ M (α 1) q.1) ∧ Q480 g (vsv M (α 0) ([(0, 27)], 0, 288)) (vsv M (α 0) ([(1, 28)], 0, 144)) (vsv M (α 0) ([(3, 30)], 0, 144)) (vsv M (α 0) ([], 4, 5)) (vsv M (α 1) ([(0, 1)], 0, 2)) (vsv M (α 1) ([(2, 10), (6, 13)], 0, 144)) (ρ 3 + 0) (0) ((-1))) ∧ True := by
    try simp only [Int.add_zero]
    have dm1 := wdim hT g1
    have rc1 := rc_bd dm1.1 dm1.2
    obtain ⟨-, -, p0⟩ := h0
    dsimp only [Q597] at p0
    have e1 : M.2.2.2.1 (α 0) 1 = some (α 2) := h1.2
    have e2 : M.2.2.2.2 (α 0) 4 = 0 := h2.2
    have c : (vsv M (α 0) ([], 4, 5)) 4 = 0 := (vs0 (by decide) (by decide)).trans e2
    refine ⟨⟨g0, pic1 hT g0 (by decide) (by decide), g1, pic1 hT g1 (by decide) (by decide), ?_⟩, trivial⟩
    · dsimp only [Q480]
      rw [c, show ρ 3 = 0 by omega]
      exact fn_start fun q hq => by
        have hq2 : (q : Int) < 144 := by omega
        rw [vsv1 e1]
        exact p0 q hq2
  exact ⟨nB, qB (key.1) (nB)⟩
def t_nga_1 : KT := ((0, 0, 0, 0), [(2, 0, 26, 0), (2, 1, 38, 0), (2, 2, 1, 0), (2, 3, 10, 0), (1, 4, 0, 0)], [(0, 0), (0, 0), (0, 0), (0, 0), (0, 143)], [(480, [(2, 0, 26, 0), (2, 1, 38, 0), (1, 4, 0, 0), (0, 0, 0, 0), (0, 0, 0, -1)]), (11, [(2, 1, 38, 0), (0, 0, 0, 0), (2, 2, 1, 0)]), (11, [(2, 1, 38, 0), (0, 0, 0, 2), (2, 3, 10, 0)]), (599, [(2, 1, 38, 0)]), (586, [(2, 3, 10, 0), (1, 4, 0, 0)]), (2, [(2, 2, 1, 0), (1, 4, 0, 0)])], (0, 0, 0), [], [], ([], [(591, [(2, 0, 26, 0), (2, 2, 1, 0), (2, 3, 10, 0), (1, 4, 0, 0), (0, 0, 0, 0), (1, 4, 0, 0)]), (584, [(2, 3, 10, 0), (2, 2, 1, 0), (1, 4, 0, 0)]), (1064, [(2, 2, 1, 0), (0, 0, 0, 2), (0, 0, 0, 9)]), (1065, [(2, 2, 1, 0), (0, 0, 0, 2), (0, 0, 0, 9)])]), ([], []))
set_option maxRecDepth 100000 in
theorem l_nga_1 (g : GG) : LOK Yt (PSt g) t_nga_1 := by
  intro ρ α Γ M as hT hB hA hP
  have g0 : Γ (α 0) = 26 := tyAt hA (i := 0) rfl
  have g1 : Γ (α 1) = 38 := tyAt hA (i := 1) rfl
  have g2 : Γ (α 2) = 1 := tyAt hA (i := 2) rfl
  have g3 : Γ (α 3) = 10 := tyAt hA (i := 3) rfl
  have b4 : 0 ≤ ρ 4 ∧ ρ 4 ≤ 143 := hB 4
  have h0 : Γ (α 0) = 26 ∧ (∀ q ∈ ([([(0, 27)], 0, 288), ([(1, 28)], 0, 144), ([(3, 30)], 0, 144), ([], 4, 5)] : VSP), wkT Γ M (α 0) q.1) ∧ Γ (α 1) = 38 ∧ (∀ q ∈ ([([(0, 1)], 0, 2), ([(2, 10), (6, 13)], 0, 144)] : VSP), wkT Γ M (α 1) q.1) ∧ Q480 g (vsv M (α 0) ([(0, 27)], 0, 288)) (vsv M (α 0) ([(1, 28)], 0, 144)) (vsv M (α 0) ([(3, 30)], 0, 144)) (vsv M (α 0) ([], 4, 5)) (vsv M (α 1) ([(0, 1)], 0, 2)) (vsv M (α 1) ([(2, 10), (6, 13)], 0, 144)) (ρ 4 + 0) (0) ((-1)) := hP _ (List.mem_of_getElem? (i := 0) rfl)
  have h1 : 0 ≤ (0 : Int) ∧ M.2.2.2.1 (α 1) (0 : Int).toNat = some (α 2) := hP _ (List.mem_of_getElem? (i := 1) rfl)
  have h2 : 0 ≤ (2 : Int) ∧ M.2.2.2.1 (α 1) (2 : Int).toNat = some (α 3) := hP _ (List.mem_of_getElem? (i := 2) rfl)
  have h3 : Γ (α 1) = 38 ∧ (∀ q ∈ ([([(0, 1)], 0, 2)] : VSP), wkT Γ M (α 1) q.1) ∧ Q599 g (vsv M (α 1) ([(0, 1)], 0, 2))  := hP _ (List.mem_of_getElem? (i := 3) rfl)
  have h4 : Γ (α 3) = 10 ∧ (∀ q ∈ ([([(6, 13)], 0, 144)] : VSP), wkT Γ M (α 3) q.1) ∧ Q586 g (vsv M (α 3) ([(6, 13)], 0, 144)) (ρ 4 + 0) := hP _ (List.mem_of_getElem? (i := 4) rfl)
  have h5 : Γ (α 2) = 1 ∧ 0 ≤ ρ 4 + 0 ∧ ρ 4 + 0 < M.2.2.2.2 (α 2) 0 * M.2.2.2.2 (α 2) 1 := hP _ (List.mem_of_getElem? (i := 5) rfl)
  try simp only [Int.add_zero] at h0 h1 h2 h3 h4 h5
  have key : (Γ (α 0) = 26 ∧ (∀ q ∈ ([([(0, 27)], 0, 288), ([(1, 28)], 0, 144), ([(3, 30)], 0, 144), ([], 4, 5)] : VSP), wkT Γ M (α 0) q.1) ∧ Γ (α 2) = 1 ∧ (∀ q ∈ ([([], 0, 2)] : VSP), wkT Γ M (α 2) q.1) ∧ Γ (α 3) = 10 ∧ (∀ q ∈ ([([(6, 13)], 0, 144)] : VSP), wkT Γ M (α 3) q.1) ∧ Q591 g (vsv M (α 0) ([(0, 27)], 0, 288)) (vsv M (α 0) ([(1, 28)], 0, 144)) (vsv M (α 0) ([(3, 30)], 0, 144)) (vsv M (α 0) ([], 4, 5)) (vsv M (α 2) ([], 0, 2)) (vsv M (α 3) ([(6, 13)], 0, 144)) (ρ 4 + 0) (0) (ρ 4 + 0)) ∧ (Γ (α 3) = 10 ∧ (∀ q ∈ ([([(6, 13)], 0, 144)] : VSP), wkT Γ M (α 3) q.1) ∧ Γ (α 2) = 1 ∧ (∀ q ∈ ([([], 0, 2)] : VSP), wkT Γ M (α 2) q.1) ∧ Q584 g (vsv M (α 3) ([(6, 13)], 0, 144)) (vsv M (α 2) ([], 0, 2)) (ρ 4 + 0)) ∧ (Γ (α 2) = 1 ∧ 1 ≠ 0 ∧ 2 ≤ M.2.2.2.2 (α 2) 0 ∧ M.2.2.2.2 (α 2) 0 ≤ 9) ∧ (Γ (α 2) = 1 ∧ 1 ≠ 0 ∧ 2 ≤ M.2.2.2.2 (α 2) 1 ∧ M.2.2.2.2 (α 2) 1 ≤ 9) ∧ True := by
    try simp only [Int.add_zero]
    have dm1 := wdim hT g1
    have rc1 := rc_bd dm1.1 dm1.2
    have dm2 := cdim hT g2
    have rc2 := rc_bd dm2.1 dm2.2
    obtain ⟨-, -, -, -, p0⟩ := h0
    dsimp only [Q480] at p0
    have e1 : M.2.2.2.1 (α 1) 0 = some (α 2) := h1.2
    have e2 : M.2.2.2.1 (α 1) 2 = some (α 3) := h2.2
    obtain ⟨-, -, p3⟩ := h3
    dsimp only [Q599] at p3
    obtain ⟨-, -, p4⟩ := h4
    dsimp only [Q586] at p4
    have wc : (vsv M (α 1) ([(0, 1)], 0, 2)) = (vsv M (α 2) ([], 0, 2)) := vsvS e1
    have ws : (vsv M (α 1) ([(2, 10), (6, 13)], 0, 144)) = (vsv M (α 3) ([(6, 13)], 0, 144)) := vsvS e2
    have m0 : (vsv M (α 2) ([], 0, 2)) 0 = M.2.2.2.2 (α 2) 0 := vs0 (by decide) (by decide)
    have m1 : (vsv M (α 2) ([], 0, 2)) 1 = M.2.2.2.2 (α 2) 1 := vs0 (by decide) (by decide)
    rw [wc] at p0 p3
    rw [ws] at p0
    refine ⟨⟨g0, pic1 hT g0 (by decide) (by decide), g2, pic1 hT g2 (by decide) (by decide), g3, pic1 hT g3 (by decide) (by decide), ?_⟩, ⟨g3, pic1 hT g3 (by decide) (by decide), g2, pic1 hT g2 (by decide) (by decide), ?_⟩, ?_, ?_, trivial⟩
    · dsimp only [Q591]
      rw [show ρ 4 = ((ρ 4).toNat : Int) by omega] at p0 ⊢
      exact fn_at p0
    · dsimp only [Q584]
      exact ⟨⟨h5.2.1, by rw [m0, m1]; exact h5.2.2⟩, p4.2⟩
    · exact ⟨g2, by decide, by rw [← m0]; exact dm2.1.1, by rw [← m0]; exact p3.1⟩
    · exact ⟨g2, by decide, by rw [← m1]; exact dm2.2.1, by rw [← m1]; exact p3.2⟩
  exact ⟨nB, qB (key.1) (qB (key.2.1) (qB ((fId_eq g 1 0 (α 2) (2) (9) Γ M (by decide)).mpr (key.2.2.1)) (qB ((fId_eq g 1 1 (α 2) (2) (9) Γ M (by decide)).mpr (key.2.2.2.1)) (nB))))⟩
def t_nga_2 : KT := ((0, 0, 0, 0), [(2, 0, 26, 0), (2, 1, 38, 0), (2, 2, 1, 0), (2, 3, 10, 0), (1, 4, 0, 0)], [(0, 0), (0, 0), (0, 0), (0, 0), (0, 143)], [(591, [(2, 0, 26, 0), (2, 2, 1, 0), (2, 3, 10, 0), (1, 4, 0, 1), (0, 0, 0, 0), (0, 0, 0, -1)]), (11, [(2, 1, 38, 0), (0, 0, 0, 0), (2, 2, 1, 0)]), (11, [(2, 1, 38, 0), (0, 0, 0, 2), (2, 3, 10, 0)])], (0, 0, 0), [], [], ([], [(480, [(2, 0, 26, 0), (2, 1, 38, 0), (1, 4, 0, 1), (0, 0, 0, 0), (0, 0, 0, -1)])]), ([], []))
set_option maxRecDepth 100000 in
theorem l_nga_2 (g : GG) : LOK Yt (PSt g) t_nga_2 := by
  intro ρ α Γ M as hT hB hA hP
  have g0 : Γ (α 0) = 26 := tyAt hA (i := 0) rfl
  have g1 : Γ (α 1) = 38 := tyAt hA (i := 1) rfl
  have g2 : Γ (α 2) = 1 := tyAt hA (i := 2) rfl
  have g3 : Γ (α 3) = 10 := tyAt hA (i := 3) rfl
  have b4 : 0 ≤ ρ 4 ∧ ρ 4 ≤ 143 := hB 4
  have h0 : Γ (α 0) = 26 ∧ (∀ q ∈ ([([(0, 27)], 0, 288), ([(1, 28)], 0, 144), ([(3, 30)], 0, 144), ([], 4, 5)] : VSP), wkT Γ M (α 0) q.1) ∧ Γ (α 2) = 1 ∧ (∀ q ∈ ([([], 0, 2)] : VSP), wkT Γ M (α 2) q.1) ∧ Γ (α 3) = 10 ∧ (∀ q ∈ ([([(6, 13)], 0, 144)] : VSP), wkT Γ M (α 3) q.1) ∧ Q591 g (vsv M (α 0) ([(0, 27)], 0, 288)) (vsv M (α 0) ([(1, 28)], 0, 144)) (vsv M (α 0) ([(3, 30)], 0, 144)) (vsv M (α 0) ([], 4, 5)) (vsv M (α 2) ([], 0, 2)) (vsv M (α 3) ([(6, 13)], 0, 144)) (ρ 4 + 1) (0) ((-1)) := hP _ (List.mem_of_getElem? (i := 0) rfl)
  have h1 : 0 ≤ (0 : Int) ∧ M.2.2.2.1 (α 1) (0 : Int).toNat = some (α 2) := hP _ (List.mem_of_getElem? (i := 1) rfl)
  have h2 : 0 ≤ (2 : Int) ∧ M.2.2.2.1 (α 1) (2 : Int).toNat = some (α 3) := hP _ (List.mem_of_getElem? (i := 2) rfl)
  try simp only [Int.add_zero] at h0 h1 h2
  have key : (Γ (α 0) = 26 ∧ (∀ q ∈ ([([(0, 27)], 0, 288), ([(1, 28)], 0, 144), ([(3, 30)], 0, 144), ([], 4, 5)] : VSP), wkT Γ M (α 0) q.1) ∧ Γ (α 1) = 38 ∧ (∀ q ∈ ([([(0, 1)], 0, 2), ([(2, 10), (6, 13)], 0, 144)] : VSP), wkT Γ M (α 1) q.1) ∧ Q480 g (vsv M (α 0) ([(0, 27)], 0, 288)) (vsv M (α 0) ([(1, 28)], 0, 144)) (vsv M (α 0) ([(3, 30)], 0, 144)) (vsv M (α 0) ([], 4, 5)) (vsv M (α 1) ([(0, 1)], 0, 2)) (vsv M (α 1) ([(2, 10), (6, 13)], 0, 144)) (ρ 4 + 1) (0) ((-1))) ∧ True := by
    try simp only [Int.add_zero]
    have dm1 := wdim hT g1
    have rc1 := rc_bd dm1.1 dm1.2
    have dm2 := cdim hT g2
    have rc2 := rc_bd dm2.1 dm2.2
    obtain ⟨-, -, -, -, -, -, p0⟩ := h0
    dsimp only [Q591] at p0
    have e1 : M.2.2.2.1 (α 1) 0 = some (α 2) := h1.2
    have e2 : M.2.2.2.1 (α 1) 2 = some (α 3) := h2.2
    have wc : (vsv M (α 1) ([(0, 1)], 0, 2)) = (vsv M (α 2) ([], 0, 2)) := vsvS e1
    have ws : (vsv M (α 1) ([(2, 10), (6, 13)], 0, 144)) = (vsv M (α 3) ([(6, 13)], 0, 144)) := vsvS e2
    refine ⟨⟨g0, pic1 hT g0 (by decide) (by decide), g1, pic1 hT g1 (by decide) (by decide), ?_⟩, trivial⟩
    · dsimp only [Q480]
      rw [wc, ws]
      exact p0
  exact ⟨nB, qB (key.1) (nB)⟩
def t_nga_3 : KT := ((0, 0, 0, 0), [(2, 0, 26, 0), (2, 1, 38, 0), (2, 2, 1, 0), (2, 3, 10, 0), (1, 4, 0, 0)], [(0, 0), (0, 0), (0, 0), (0, 0), (0, 143)], [(480, [(2, 0, 26, 0), (2, 1, 38, 0), (1, 4, 0, 0), (0, 0, 0, 0), (0, 0, 0, -1)]), (11, [(2, 1, 38, 0), (0, 0, 0, 0), (2, 2, 1, 0)]), (11, [(2, 1, 38, 0), (0, 0, 0, 2), (2, 3, 10, 0)]), (587, [(2, 3, 10, 0), (1, 4, 0, 0)])], (0, 0, 0), [], [], ([], [(480, [(2, 0, 26, 0), (2, 1, 38, 0), (1, 4, 0, 1), (0, 0, 0, 0), (0, 0, 0, -1)])]), ([], []))
set_option maxRecDepth 100000 in
theorem l_nga_3 (g : GG) : LOK Yt (PSt g) t_nga_3 := by
  intro ρ α Γ M as hT hB hA hP
  have g0 : Γ (α 0) = 26 := tyAt hA (i := 0) rfl
  have g1 : Γ (α 1) = 38 := tyAt hA (i := 1) rfl
  have g2 : Γ (α 2) = 1 := tyAt hA (i := 2) rfl
  have g3 : Γ (α 3) = 10 := tyAt hA (i := 3) rfl
  have b4 : 0 ≤ ρ 4 ∧ ρ 4 ≤ 143 := hB 4
  have h0 : Γ (α 0) = 26 ∧ (∀ q ∈ ([([(0, 27)], 0, 288), ([(1, 28)], 0, 144), ([(3, 30)], 0, 144), ([], 4, 5)] : VSP), wkT Γ M (α 0) q.1) ∧ Γ (α 1) = 38 ∧ (∀ q ∈ ([([(0, 1)], 0, 2), ([(2, 10), (6, 13)], 0, 144)] : VSP), wkT Γ M (α 1) q.1) ∧ Q480 g (vsv M (α 0) ([(0, 27)], 0, 288)) (vsv M (α 0) ([(1, 28)], 0, 144)) (vsv M (α 0) ([(3, 30)], 0, 144)) (vsv M (α 0) ([], 4, 5)) (vsv M (α 1) ([(0, 1)], 0, 2)) (vsv M (α 1) ([(2, 10), (6, 13)], 0, 144)) (ρ 4 + 0) (0) ((-1)) := hP _ (List.mem_of_getElem? (i := 0) rfl)
  have h1 : 0 ≤ (0 : Int) ∧ M.2.2.2.1 (α 1) (0 : Int).toNat = some (α 2) := hP _ (List.mem_of_getElem? (i := 1) rfl)
  have h2 : 0 ≤ (2 : Int) ∧ M.2.2.2.1 (α 1) (2 : Int).toNat = some (α 3) := hP _ (List.mem_of_getElem? (i := 2) rfl)
  have h3 : Γ (α 3) = 10 ∧ (∀ q ∈ ([([(6, 13)], 0, 144)] : VSP), wkT Γ M (α 3) q.1) ∧ Q587 g (vsv M (α 3) ([(6, 13)], 0, 144)) (ρ 4 + 0) := hP _ (List.mem_of_getElem? (i := 3) rfl)
  try simp only [Int.add_zero] at h0 h1 h2 h3
  have key : (Γ (α 0) = 26 ∧ (∀ q ∈ ([([(0, 27)], 0, 288), ([(1, 28)], 0, 144), ([(3, 30)], 0, 144), ([], 4, 5)] : VSP), wkT Γ M (α 0) q.1) ∧ Γ (α 1) = 38 ∧ (∀ q ∈ ([([(0, 1)], 0, 2), ([(2, 10), (6, 13)], 0, 144)] : VSP), wkT Γ M (α 1) q.1) ∧ Q480 g (vsv M (α 0) ([(0, 27)], 0, 288)) (vsv M (α 0) ([(1, 28)], 0, 144)) (vsv M (α 0) ([(3, 30)], 0, 144)) (vsv M (α 0) ([], 4, 5)) (vsv M (α 1) ([(0, 1)], 0, 2)) (vsv M (α 1) ([(2, 10), (6, 13)], 0, 144)) (ρ 4 + 1) (0) ((-1))) ∧ True := by
    try simp only [Int.add_zero]
    have dm1 := wdim hT g1
    have rc1 := rc_bd dm1.1 dm1.2
    have dm2 := cdim hT g2
    have rc2 := rc_bd dm2.1 dm2.2
    obtain ⟨-, -, -, -, p0⟩ := h0
    dsimp only [Q480] at p0
    have e1 : M.2.2.2.1 (α 1) 0 = some (α 2) := h1.2
    have e2 : M.2.2.2.1 (α 1) 2 = some (α 3) := h2.2
    obtain ⟨-, -, p3⟩ := h3
    dsimp only [Q587] at p3
    have wc : (vsv M (α 1) ([(0, 1)], 0, 2)) = (vsv M (α 2) ([], 0, 2)) := vsvS e1
    have ws : (vsv M (α 1) ([(2, 10), (6, 13)], 0, 144)) = (vsv M (α 3) ([(6, 13)], 0, 144)) := vsvS e2
    refine ⟨⟨g0, pic1 hT g0 (by decide) (by decide), g1, pic1 hT g1 (by decide) (by decide), ?_⟩, trivial⟩
    · dsimp only [Q480]
      rw [show ρ 4 = ((ρ 4).toNat : Int) by omega] at p0
      have q := fn_skip p0 (by rw [ws]; exact p3.2)
      rw [show ((ρ 4).toNat : Int) + 1 = ρ 4 + 1 by omega] at q
      exact q
  exact ⟨nB, qB (key.1) (nB)⟩
def t_nga_4 : KT := ((0, 0, 0, 0), [(2, 0, 26, 0), (2, 1, 38, 0), (2, 2, 1, 0), (1, 3, 0, 0), (1, 4, 0, 0)], [(0, 0), (0, 0), (0, 0), (-2147483648, 2147483647), (-2147483648, 2147483647)], [(480, [(2, 0, 26, 0), (2, 1, 38, 0), (1, 3, 0, 0), (0, 0, 0, 0), (0, 0, 0, -1)]), (11, [(2, 1, 38, 0), (0, 0, 0, 0), (2, 2, 1, 0)]), (5, [(2, 2, 1, 0), (1, 4, 0, 0)]), (6, [(1, 4, 0, 0), (1, 3, 0, 0)])], (0, 0, 0), [], [], ([], [(480, [(2, 0, 26, 0), (2, 1, 38, 0), (0, 0, 0, 144), (0, 0, 0, 0), (0, 0, 0, -1)])]), ([], []))
set_option maxRecDepth 100000 in
theorem l_nga_4 (g : GG) : LOK Yt (PSt g) t_nga_4 := by
  intro ρ α Γ M as hT hB hA hP
  have g0 : Γ (α 0) = 26 := tyAt hA (i := 0) rfl
  have g1 : Γ (α 1) = 38 := tyAt hA (i := 1) rfl
  have g2 : Γ (α 2) = 1 := tyAt hA (i := 2) rfl
  have b3 : -2147483648 ≤ ρ 3 ∧ ρ 3 ≤ 2147483647 := hB 3
  have b4 : -2147483648 ≤ ρ 4 ∧ ρ 4 ≤ 2147483647 := hB 4
  have h0 : Γ (α 0) = 26 ∧ (∀ q ∈ ([([(0, 27)], 0, 288), ([(1, 28)], 0, 144), ([(3, 30)], 0, 144), ([], 4, 5)] : VSP), wkT Γ M (α 0) q.1) ∧ Γ (α 1) = 38 ∧ (∀ q ∈ ([([(0, 1)], 0, 2), ([(2, 10), (6, 13)], 0, 144)] : VSP), wkT Γ M (α 1) q.1) ∧ Q480 g (vsv M (α 0) ([(0, 27)], 0, 288)) (vsv M (α 0) ([(1, 28)], 0, 144)) (vsv M (α 0) ([(3, 30)], 0, 144)) (vsv M (α 0) ([], 4, 5)) (vsv M (α 1) ([(0, 1)], 0, 2)) (vsv M (α 1) ([(2, 10), (6, 13)], 0, 144)) (ρ 3 + 0) (0) ((-1)) := hP _ (List.mem_of_getElem? (i := 0) rfl)
  have h1 : 0 ≤ (0 : Int) ∧ M.2.2.2.1 (α 1) (0 : Int).toNat = some (α 2) := hP _ (List.mem_of_getElem? (i := 1) rfl)
  have h2 : Γ (α 2) = 1 ∧ ρ 4 + 0 = M.2.2.2.2 (α 2) 0 * M.2.2.2.2 (α 2) 1 := hP _ (List.mem_of_getElem? (i := 2) rfl)
  have h3 : ρ 4 + 0 ≤ ρ 3 + 0 := hP _ (List.mem_of_getElem? (i := 3) rfl)
  try simp only [Int.add_zero] at h0 h1 h2 h3
  have key : (Γ (α 0) = 26 ∧ (∀ q ∈ ([([(0, 27)], 0, 288), ([(1, 28)], 0, 144), ([(3, 30)], 0, 144), ([], 4, 5)] : VSP), wkT Γ M (α 0) q.1) ∧ Γ (α 1) = 38 ∧ (∀ q ∈ ([([(0, 1)], 0, 2), ([(2, 10), (6, 13)], 0, 144)] : VSP), wkT Γ M (α 1) q.1) ∧ Q480 g (vsv M (α 0) ([(0, 27)], 0, 288)) (vsv M (α 0) ([(1, 28)], 0, 144)) (vsv M (α 0) ([(3, 30)], 0, 144)) (vsv M (α 0) ([], 4, 5)) (vsv M (α 1) ([(0, 1)], 0, 2)) (vsv M (α 1) ([(2, 10), (6, 13)], 0, 144)) (144) (0) ((-1))) ∧ True := by
    try simp only [Int.add_zero]
    have dm1 := wdim hT g1
    have rc1 := rc_bd dm1.1 dm1.2
    have dm2 := cdim hT g2
    have rc2 := rc_bd dm2.1 dm2.2
    obtain ⟨-, -, -, -, p0⟩ := h0
    dsimp only [Q480] at p0
    have e1 : M.2.2.2.1 (α 1) 0 = some (α 2) := h1.2
    have wc : (vsv M (α 1) ([(0, 1)], 0, 2)) = (vsv M (α 2) ([], 0, 2)) := vsvS e1
    have m0 : (vsv M (α 2) ([], 0, 2)) 0 = M.2.2.2.2 (α 2) 0 := vs0 (by decide) (by decide)
    have m1 : (vsv M (α 2) ([], 0, 2)) 1 = M.2.2.2.2 (α 2) 1 := vs0 (by decide) (by decide)
    refine ⟨⟨g0, pic1 hT g0 (by decide) (by decide), g1, pic1 hT g1 (by decide) (by decide), ?_⟩, trivial⟩
    · dsimp only [Q480]
      have h2 := h2.2
      rw [← m0, ← m1, ← wc] at h2
      exact fn_all p0 (by omega) (by omega)
  exact ⟨nB, qB (key.1) (nB)⟩
def t_nba_0 : KT := ((0, 0, 0, 0), [(2, 0, 26, 0), (2, 1, 38, 0), (1, 2, 0, 0)], [(0, 0), (0, 0), (0, 0)], [], (0, 0, 0), [], [], ([], [(482, [(2, 1, 38, 0), (2, 0, 26, 0), (1, 2, 0, 0)])]), ([], []))
set_option maxRecDepth 100000 in
theorem l_nba_0 (g : GG) : LOK Yt (PSt g) t_nba_0 := by
  intro ρ α Γ M as hT hB hA hP
  have g0 : Γ (α 0) = 26 := tyAt hA (i := 0) rfl
  have g1 : Γ (α 1) = 38 := tyAt hA (i := 1) rfl
  have b2 : 0 ≤ ρ 2 ∧ ρ 2 ≤ 0 := hB 2
  have key : (Γ (α 1) = 38 ∧ (∀ q ∈ ([([(0, 1)], 0, 2), ([(1, 6), (4, 9)], 0, 288), ([(0, 1), (5, 5)], 0, 288)] : VSP), wkT Γ M (α 1) q.1) ∧ Γ (α 0) = 26 ∧ (∀ q ∈ ([([(0, 27)], 0, 288)] : VSP), wkT Γ M (α 0) q.1) ∧ Q482 g (vsv M (α 1) ([(0, 1)], 0, 2)) (vsv M (α 1) ([(1, 6), (4, 9)], 0, 288)) (vsv M (α 1) ([(0, 1), (5, 5)], 0, 288)) (vsv M (α 0) ([(0, 27)], 0, 288)) (ρ 2 + 0)) ∧ True := by
    try simp only [Int.add_zero]
    have dm1 := wdim hT g1
    have rc1 := rc_bd dm1.1 dm1.2
    refine ⟨⟨g1, pic1 hT g1 (by decide) (by decide), g0, pic1 hT g0 (by decide) (by decide), ?_⟩, trivial⟩
    · dsimp only [Q482]
      exact fun e he => by omega
  exact ⟨nB, qB (key.1) (nB)⟩
def t_nba_1 : KT := ((0, 0, 0, 0), [(2, 0, 38, 0), (2, 1, 1, 0), (1, 2, 0, 0)], [(0, 0), (0, 0), (0, 287)], [(483, [(2, 1, 1, 0), (1, 2, 0, 0)]), (11, [(2, 0, 38, 0), (0, 0, 0, 0), (2, 1, 1, 0)])], (0, 0, 0), [], [], ([], [(486, [(2, 0, 38, 0), (1, 2, 0, 0), (0, 0, 0, 1)])]), ([], []))
set_option maxRecDepth 100000 in
theorem l_nba_1 (g : GG) : LOK Yt (PSt g) t_nba_1 := by
  intro ρ α Γ M as hT hB hA hP
  have g0 : Γ (α 0) = 38 := tyAt hA (i := 0) rfl
  have g1 : Γ (α 1) = 1 := tyAt hA (i := 1) rfl
  have b2 : 0 ≤ ρ 2 ∧ ρ 2 ≤ 287 := hB 2
  have h0 : Γ (α 1) = 1 ∧ (∀ q ∈ ([([], 0, 2)] : VSP), wkT Γ M (α 1) q.1) ∧ Q483 g (vsv M (α 1) ([], 0, 2)) (ρ 2 + 0) := hP _ (List.mem_of_getElem? (i := 0) rfl)
  have h1 : 0 ≤ (0 : Int) ∧ M.2.2.2.1 (α 0) (0 : Int).toNat = some (α 1) := hP _ (List.mem_of_getElem? (i := 1) rfl)
  try simp only [Int.add_zero] at h0 h1
  have key : (Γ (α 0) = 38 ∧ (∀ q ∈ ([([(0, 1)], 0, 2), ([(1, 6), (4, 9)], 0, 288), ([(0, 1), (5, 5)], 0, 288)] : VSP), wkT Γ M (α 0) q.1) ∧ Q486 g (vsv M (α 0) ([(0, 1)], 0, 2)) (vsv M (α 0) ([(1, 6), (4, 9)], 0, 288)) (vsv M (α 0) ([(0, 1), (5, 5)], 0, 288)) (ρ 2 + 0) (1)) ∧ True := by
    try simp only [Int.add_zero]
    have dm0 := wdim hT g0
    have rc0 := rc_bd dm0.1 dm0.2
    have dm1 := cdim hT g1
    have rc1 := rc_bd dm1.1 dm1.2
    obtain ⟨-, -, p0⟩ := h0
    dsimp only [Q483] at p0
    have e1 : M.2.2.2.1 (α 0) 0 = some (α 1) := h1.2
    have wc : (vsv M (α 0) ([(0, 1)], 0, 2)) = (vsv M (α 1) ([], 0, 2)) := vsvS e1
    refine ⟨⟨g0, pic1 hT g0 (by decide) (by decide), ?_⟩, trivial⟩
    · dsimp only [Q486]
      exact ⟨b2.1, ⟨fun q => absurd q (by decide), fun q => absurd (by rw [wc] at q; exact q.1) p0⟩⟩
  exact ⟨nB, qB (key.1) (nB)⟩
def t_nba_2 : KT := ((0, 0, 0, 0), [(2, 0, 38, 0), (1, 1, 0, 0)], [(0, 0), (0, 287)], [(484, [(2, 0, 38, 0), (1, 1, 0, 0)])], (0, 0, 0), [], [], ([], [(486, [(2, 0, 38, 0), (1, 1, 0, 0), (0, 0, 0, 1)])]), ([], []))
set_option maxRecDepth 100000 in
theorem l_nba_2 (g : GG) : LOK Yt (PSt g) t_nba_2 := by
  intro ρ α Γ M as hT hB hA hP
  have g0 : Γ (α 0) = 38 := tyAt hA (i := 0) rfl
  have b1 : 0 ≤ ρ 1 ∧ ρ 1 ≤ 287 := hB 1
  have h0 : Γ (α 0) = 38 ∧ (∀ q ∈ ([([(1, 6), (4, 9)], 0, 288), ([(0, 1), (5, 5)], 0, 288)] : VSP), wkT Γ M (α 0) q.1) ∧ Q484 g (vsv M (α 0) ([(1, 6), (4, 9)], 0, 288)) (vsv M (α 0) ([(0, 1), (5, 5)], 0, 288)) (ρ 1 + 0) := hP _ (List.mem_of_getElem? (i := 0) rfl)
  try simp only [Int.add_zero] at h0
  have key : (Γ (α 0) = 38 ∧ (∀ q ∈ ([([(0, 1)], 0, 2), ([(1, 6), (4, 9)], 0, 288), ([(0, 1), (5, 5)], 0, 288)] : VSP), wkT Γ M (α 0) q.1) ∧ Q486 g (vsv M (α 0) ([(0, 1)], 0, 2)) (vsv M (α 0) ([(1, 6), (4, 9)], 0, 288)) (vsv M (α 0) ([(0, 1), (5, 5)], 0, 288)) (ρ 1 + 0) (1)) ∧ True := by
    try simp only [Int.add_zero]
    have dm0 := wdim hT g0
    have rc0 := rc_bd dm0.1 dm0.2
    obtain ⟨-, -, p0⟩ := h0
    dsimp only [Q484] at p0
    refine ⟨⟨g0, pic1 hT g0 (by decide) (by decide), ?_⟩, trivial⟩
    · dsimp only [Q486]
      exact ⟨b1.1, ⟨fun q => absurd q (by decide), fun q => absurd q.2 p0.2⟩⟩
  exact ⟨nB, qB (key.1) (nB)⟩
def t_nba_3 : KT := ((0, 0, 0, 0), [(2, 0, 38, 0), (2, 1, 1, 0), (1, 2, 0, 0)], [(0, 0), (0, 0), (0, 287)], [(485, [(2, 0, 38, 0), (1, 2, 0, 0)]), (3, [(2, 1, 1, 0), (1, 2, 0, 0)]), (11, [(2, 0, 38, 0), (0, 0, 0, 0), (2, 1, 1, 0)])], (0, 0, 0), [], [], ([], [(486, [(2, 0, 38, 0), (1, 2, 0, 0), (0, 0, 0, 0)])]), ([], []))
set_option maxRecDepth 100000 in
theorem l_nba_3 (g : GG) : LOK Yt (PSt g) t_nba_3 := by
  intro ρ α Γ M as hT hB hA hP
  have g0 : Γ (α 0) = 38 := tyAt hA (i := 0) rfl
  have g1 : Γ (α 1) = 1 := tyAt hA (i := 1) rfl
  have b2 : 0 ≤ ρ 2 ∧ ρ 2 ≤ 287 := hB 2
  have h0 : Γ (α 0) = 38 ∧ (∀ q ∈ ([([(1, 6), (4, 9)], 0, 288), ([(0, 1), (5, 5)], 0, 288)] : VSP), wkT Γ M (α 0) q.1) ∧ Q485 g (vsv M (α 0) ([(1, 6), (4, 9)], 0, 288)) (vsv M (α 0) ([(0, 1), (5, 5)], 0, 288)) (ρ 2 + 0) := hP _ (List.mem_of_getElem? (i := 0) rfl)
  have h1 : Γ (α 1) = 1 ∧ edP (M.2.2.2.2 (α 1) 0) (M.2.2.2.2 (α 1) 1) (ρ 2 + 0) := hP _ (List.mem_of_getElem? (i := 1) rfl)
  have h2 : 0 ≤ (0 : Int) ∧ M.2.2.2.1 (α 0) (0 : Int).toNat = some (α 1) := hP _ (List.mem_of_getElem? (i := 2) rfl)
  try simp only [Int.add_zero] at h0 h1 h2
  have key : (Γ (α 0) = 38 ∧ (∀ q ∈ ([([(0, 1)], 0, 2), ([(1, 6), (4, 9)], 0, 288), ([(0, 1), (5, 5)], 0, 288)] : VSP), wkT Γ M (α 0) q.1) ∧ Q486 g (vsv M (α 0) ([(0, 1)], 0, 2)) (vsv M (α 0) ([(1, 6), (4, 9)], 0, 288)) (vsv M (α 0) ([(0, 1), (5, 5)], 0, 288)) (ρ 2 + 0) (0)) ∧ True := by
    try simp only [Int.add_zero]
    have dm0 := wdim hT g0
    have rc0 := rc_bd dm0.1 dm0.2
    have dm1 := cdim hT g1
    have rc1 := rc_bd dm1.1 dm1.2
    obtain ⟨-, -, p0⟩ := h0
    dsimp only [Q485] at p0
    have e2 : M.2.2.2.1 (α 0) 0 = some (α 1) := h2.2
    have wc : (vsv M (α 0) ([(0, 1)], 0, 2)) = (vsv M (α 1) ([], 0, 2)) := vsvS e2
    have m0 : (vsv M (α 1) ([], 0, 2)) 0 = M.2.2.2.2 (α 1) 0 := vs0 (by decide) (by decide)
    have m1 : (vsv M (α 1) ([], 0, 2)) 1 = M.2.2.2.2 (α 1) 1 := vs0 (by decide) (by decide)
    refine ⟨⟨g0, pic1 hT g0 (by decide) (by decide), ?_⟩, trivial⟩
    · dsimp only [Q486]
      exact ⟨b2.1, ⟨fun _ => ⟨by rw [wc, m0, m1]; exact h1.2, p0.2⟩, fun _ => rfl⟩⟩
  exact ⟨nB, qB (key.1) (nB)⟩
def t_nba_4 : KT := ((0, 0, 0, 0), [(2, 0, 26, 0), (2, 1, 38, 0), (2, 2, 27, 0), (1, 3, 0, 0)], [(0, 0), (0, 0), (0, 0), (0, 287)], [(482, [(2, 1, 38, 0), (2, 0, 26, 0), (1, 3, 0, 0)]), (11, [(2, 0, 26, 0), (0, 0, 0, 0), (2, 2, 27, 0)])], (0, 0, 0), [], [], ([], [(634, [(2, 2, 27, 0), (1, 3, 0, 0), (2, 0, 26, 0), (2, 1, 38, 0)])]), ([], []))
set_option maxRecDepth 100000 in
theorem l_nba_4 (g : GG) : LOK Yt (PSt g) t_nba_4 := by
  intro ρ α Γ M as hT hB hA hP
  have g0 : Γ (α 0) = 26 := tyAt hA (i := 0) rfl
  have g1 : Γ (α 1) = 38 := tyAt hA (i := 1) rfl
  have g2 : Γ (α 2) = 27 := tyAt hA (i := 2) rfl
  have b3 : 0 ≤ ρ 3 ∧ ρ 3 ≤ 287 := hB 3
  have h0 : Γ (α 1) = 38 ∧ (∀ q ∈ ([([(0, 1)], 0, 2), ([(1, 6), (4, 9)], 0, 288), ([(0, 1), (5, 5)], 0, 288)] : VSP), wkT Γ M (α 1) q.1) ∧ Γ (α 0) = 26 ∧ (∀ q ∈ ([([(0, 27)], 0, 288)] : VSP), wkT Γ M (α 0) q.1) ∧ Q482 g (vsv M (α 1) ([(0, 1)], 0, 2)) (vsv M (α 1) ([(1, 6), (4, 9)], 0, 288)) (vsv M (α 1) ([(0, 1), (5, 5)], 0, 288)) (vsv M (α 0) ([(0, 27)], 0, 288)) (ρ 3 + 0) := hP _ (List.mem_of_getElem? (i := 0) rfl)
  have h1 : 0 ≤ (0 : Int) ∧ M.2.2.2.1 (α 0) (0 : Int).toNat = some (α 2) := hP _ (List.mem_of_getElem? (i := 1) rfl)
  try simp only [Int.add_zero] at h0 h1
  have key : (Γ (α 2) = 27 ∧ wlk M (α 0) [(0, 27)] = (α 2) ∧ wkT Γ M (α 0) [(0, 27)] ∧ Γ (α 0) = 26 ∧ (∀ q ∈ ([] : VSP), wkT Γ M (α 0) q.1) ∧ Γ (α 1) = 38 ∧ (∀ q ∈ ([([(0, 1)], 0, 2), ([(1, 6), (4, 9)], 0, 288), ([(0, 1), (5, 5)], 0, 288)] : VSP), wkT Γ M (α 1) q.1) ∧ Q634 g (hcl [vi (ρ 3 + 0)] (clp [(0, 288)] (M.2.2.2.2 (α 2)))) (ρ 3 + 0) (vsv M (α 1) ([(0, 1)], 0, 2)) (vsv M (α 1) ([(1, 6), (4, 9)], 0, 288)) (vsv M (α 1) ([(0, 1), (5, 5)], 0, 288)) ) ∧ True := by
    try simp only [Int.add_zero]
    have dm1 := wdim hT g1
    have rc1 := rc_bd dm1.1 dm1.2
    obtain ⟨-, -, -, -, p0⟩ := h0
    dsimp only [Q482] at p0
    have e1 : M.2.2.2.1 (α 0) 0 = some (α 2) := h1.2
    refine ⟨⟨g2, (fl_eq e1), wk1 e1 g2, g0, pic1 hT g0 (by decide) (by decide), g1, pic1 hT g1 (by decide) (by decide), ?_⟩, trivial⟩
    · dsimp only [Q634]
      intro e he
      rw [hcl1 (by omega), ← vsv1 (t := 27) e1]
      exact p0 e he
  exact ⟨nB, qB (key.1) (nB)⟩
def t_nba_5 : KT := ((0, 0, 0, 0), [(2, 0, 26, 0), (2, 1, 38, 0), (2, 2, 27, 0), (1, 3, 0, 0), (1, 4, 0, 0)], [(0, 0), (0, 0), (0, 0), (0, 287), (0, 1)], [(634, [(2, 2, 27, 0), (1, 3, 0, 0), (2, 0, 26, 0), (2, 1, 38, 0)]), (11, [(2, 0, 26, 0), (0, 0, 0, 0), (2, 2, 27, 0)]), (10, [(2, 2, 27, 0), (1, 3, 0, 0), (1, 4, 0, 0)]), (486, [(2, 1, 38, 0), (1, 3, 0, 0), (1, 4, 0, 0)])], (0, 0, 0), [], [], ([], [(482, [(2, 1, 38, 0), (2, 0, 26, 0), (1, 3, 0, 1)])]), ([], []))
set_option maxRecDepth 100000 in
theorem l_nba_5 (g : GG) : LOK Yt (PSt g) t_nba_5 := by
  intro ρ α Γ M as hT hB hA hP
  have g0 : Γ (α 0) = 26 := tyAt hA (i := 0) rfl
  have g1 : Γ (α 1) = 38 := tyAt hA (i := 1) rfl
  have g2 : Γ (α 2) = 27 := tyAt hA (i := 2) rfl
  have b3 : 0 ≤ ρ 3 ∧ ρ 3 ≤ 287 := hB 3
  have b4 : 0 ≤ ρ 4 ∧ ρ 4 ≤ 1 := hB 4
  have h0 : Γ (α 2) = 27 ∧ wlk M (α 0) [(0, 27)] = (α 2) ∧ wkT Γ M (α 0) [(0, 27)] ∧ Γ (α 0) = 26 ∧ (∀ q ∈ ([] : VSP), wkT Γ M (α 0) q.1) ∧ Γ (α 1) = 38 ∧ (∀ q ∈ ([([(0, 1)], 0, 2), ([(1, 6), (4, 9)], 0, 288), ([(0, 1), (5, 5)], 0, 288)] : VSP), wkT Γ M (α 1) q.1) ∧ Q634 g (hcl [vi (ρ 3 + 0)] (clp [(0, 288)] (M.2.2.2.2 (α 2)))) (ρ 3 + 0) (vsv M (α 1) ([(0, 1)], 0, 2)) (vsv M (α 1) ([(1, 6), (4, 9)], 0, 288)) (vsv M (α 1) ([(0, 1), (5, 5)], 0, 288))  := hP _ (List.mem_of_getElem? (i := 0) rfl)
  have h1 : 0 ≤ (0 : Int) ∧ M.2.2.2.1 (α 0) (0 : Int).toNat = some (α 2) := hP _ (List.mem_of_getElem? (i := 1) rfl)
  have h2 : 0 ≤ (ρ 3 + 0 : Int) ∧ M.2.2.2.2 (α 2) (ρ 3 + 0 : Int).toNat = ρ 4 + 0 := hP _ (List.mem_of_getElem? (i := 2) rfl)
  have h3 : Γ (α 1) = 38 ∧ (∀ q ∈ ([([(0, 1)], 0, 2), ([(1, 6), (4, 9)], 0, 288), ([(0, 1), (5, 5)], 0, 288)] : VSP), wkT Γ M (α 1) q.1) ∧ Q486 g (vsv M (α 1) ([(0, 1)], 0, 2)) (vsv M (α 1) ([(1, 6), (4, 9)], 0, 288)) (vsv M (α 1) ([(0, 1), (5, 5)], 0, 288)) (ρ 3 + 0) (ρ 4 + 0) := hP _ (List.mem_of_getElem? (i := 3) rfl)
  try simp only [Int.add_zero] at h0 h1 h2 h3
  have key : (Γ (α 1) = 38 ∧ (∀ q ∈ ([([(0, 1)], 0, 2), ([(1, 6), (4, 9)], 0, 288), ([(0, 1), (5, 5)], 0, 288)] : VSP), wkT Γ M (α 1) q.1) ∧ Γ (α 0) = 26 ∧ (∀ q ∈ ([([(0, 27)], 0, 288)] : VSP), wkT Γ M (α 0) q.1) ∧ Q482 g (vsv M (α 1) ([(0, 1)], 0, 2)) (vsv M (α 1) ([(1, 6), (4, 9)], 0, 288)) (vsv M (α 1) ([(0, 1), (5, 5)], 0, 288)) (vsv M (α 0) ([(0, 27)], 0, 288)) (ρ 3 + 1)) ∧ True := by
    try simp only [Int.add_zero]
    have dm1 := wdim hT g1
    have rc1 := rc_bd dm1.1 dm1.2
    obtain ⟨-, -, -, -, -, -, -, p0⟩ := h0
    dsimp only [Q634] at p0
    have e1 : M.2.2.2.1 (α 0) 0 = some (α 2) := h1.2
    have e2 : M.2.2.2.2 (α 2) (ρ 3).toNat = ρ 4 := h2.2
    obtain ⟨-, -, p3⟩ := h3
    dsimp only [Q486] at p3
    refine ⟨⟨g1, pic1 hT g1 (by decide) (by decide), g0, pic1 hT g0 (by decide) (by decide), ?_⟩, trivial⟩
    · dsimp only [Q482]
      intro e he
      by_cases h : (e : Int) < ρ 3
      · have := p0 e h
        rw [hcl1 (by omega), ← vsv1 (t := 27) e1] at this
        exact this
      · have ee : e = (ρ 3).toNat := by omega
        have hb : (vsv M (α 0) ([(0, 27)], 0, 288)) e = ρ 4 := by rw [ee]; exact (vs1 e1 (Nat.zero_le _) (by omega)).trans e2
        rw [hb, show (e : Int) = ρ 3 by omega, ee]
        exact p3.2
  exact ⟨nB, qB (key.1) (nB)⟩
def t_nba_6 : KT := ((0, 0, 0, 0), [(2, 0, 26, 0), (2, 1, 38, 0), (2, 2, 1, 0), (1, 3, 0, 0), (1, 4, 0, 0), (1, 5, 0, 0)], [(0, 0), (0, 0), (0, 0), (-2147483648, 2147483647), (-2147483648, 2147483647), (-2147483648, 2147483647)], [(482, [(2, 1, 38, 0), (2, 0, 26, 0), (1, 3, 0, 0)]), (11, [(2, 1, 38, 0), (0, 0, 0, 0), (2, 2, 1, 0)]), (5, [(2, 2, 1, 0), (1, 4, 0, 0)]), (25, [(0, 0, 0, 2), (1, 4, 0, 0), (1, 5, 0, 0)]), (6, [(1, 5, 0, 0), (1, 3, 0, 0)])], (0, 0, 0), [], [], ([], [(481, [(2, 1, 38, 0), (2, 0, 26, 0)])]), ([], []))
set_option maxRecDepth 100000 in
theorem l_nba_6 (g : GG) : LOK Yt (PSt g) t_nba_6 := by
  intro ρ α Γ M as hT hB hA hP
  have g0 : Γ (α 0) = 26 := tyAt hA (i := 0) rfl
  have g1 : Γ (α 1) = 38 := tyAt hA (i := 1) rfl
  have g2 : Γ (α 2) = 1 := tyAt hA (i := 2) rfl
  have b3 : -2147483648 ≤ ρ 3 ∧ ρ 3 ≤ 2147483647 := hB 3
  have b4 : -2147483648 ≤ ρ 4 ∧ ρ 4 ≤ 2147483647 := hB 4
  have b5 : -2147483648 ≤ ρ 5 ∧ ρ 5 ≤ 2147483647 := hB 5
  have h0 : Γ (α 1) = 38 ∧ (∀ q ∈ ([([(0, 1)], 0, 2), ([(1, 6), (4, 9)], 0, 288), ([(0, 1), (5, 5)], 0, 288)] : VSP), wkT Γ M (α 1) q.1) ∧ Γ (α 0) = 26 ∧ (∀ q ∈ ([([(0, 27)], 0, 288)] : VSP), wkT Γ M (α 0) q.1) ∧ Q482 g (vsv M (α 1) ([(0, 1)], 0, 2)) (vsv M (α 1) ([(1, 6), (4, 9)], 0, 288)) (vsv M (α 1) ([(0, 1), (5, 5)], 0, 288)) (vsv M (α 0) ([(0, 27)], 0, 288)) (ρ 3 + 0) := hP _ (List.mem_of_getElem? (i := 0) rfl)
  have h1 : 0 ≤ (0 : Int) ∧ M.2.2.2.1 (α 1) (0 : Int).toNat = some (α 2) := hP _ (List.mem_of_getElem? (i := 1) rfl)
  have h2 : Γ (α 2) = 1 ∧ ρ 4 + 0 = M.2.2.2.2 (α 2) 0 * M.2.2.2.2 (α 2) 1 := hP _ (List.mem_of_getElem? (i := 2) rfl)
  have h3 : ρ 5 + 0 = wI ((2) * (ρ 4 + 0)) := hP _ (List.mem_of_getElem? (i := 3) rfl)
  have h4 : ρ 5 + 0 ≤ ρ 3 + 0 := hP _ (List.mem_of_getElem? (i := 4) rfl)
  try simp only [Int.add_zero] at h0 h1 h2 h3 h4
  have key : (Γ (α 1) = 38 ∧ (∀ q ∈ ([([(0, 1)], 0, 2), ([(1, 6), (4, 9)], 0, 288), ([(0, 1), (5, 5)], 0, 288)] : VSP), wkT Γ M (α 1) q.1) ∧ Γ (α 0) = 26 ∧ (∀ q ∈ ([([(0, 27)], 0, 288)] : VSP), wkT Γ M (α 0) q.1) ∧ Q481 g (vsv M (α 1) ([(0, 1)], 0, 2)) (vsv M (α 1) ([(1, 6), (4, 9)], 0, 288)) (vsv M (α 1) ([(0, 1), (5, 5)], 0, 288)) (vsv M (α 0) ([(0, 27)], 0, 288)) ) ∧ True := by
    try simp only [Int.add_zero]
    have dm1 := wdim hT g1
    have rc1 := rc_bd dm1.1 dm1.2
    have dm2 := cdim hT g2
    have rc2 := rc_bd dm2.1 dm2.2
    obtain ⟨-, -, -, -, p0⟩ := h0
    dsimp only [Q482] at p0
    have e1 : M.2.2.2.1 (α 1) 0 = some (α 2) := h1.2
    have wc : (vsv M (α 1) ([(0, 1)], 0, 2)) = (vsv M (α 2) ([], 0, 2)) := vsvS e1
    have m0 : (vsv M (α 2) ([], 0, 2)) 0 = M.2.2.2.2 (α 2) 0 := vs0 (by decide) (by decide)
    have m1 : (vsv M (α 2) ([], 0, 2)) 1 = M.2.2.2.2 (α 2) 1 := vs0 (by decide) (by decide)
    refine ⟨⟨g1, pic1 hT g1 (by decide) (by decide), g0, pic1 hT g0 (by decide) (by decide), ?_⟩, trivial⟩
    · dsimp only [Q481]
      have h2 := h2.2
      rw [← m0, ← m1, ← wc] at h2
      rw [wI_id (by unfold inI; omega)] at h3
      exact fun e he => p0 e (by omega)
  exact ⟨nB, qB (key.1) (nB)⟩
def t_nhe_0 : KT := ((0, 0, 0, 0), [(2, 0, 1, 0), (1, 1, 0, 0)], [(0, 0), (-2147483648, -1)], [], (0, 0, 0), [], [], ([], [(483, [(2, 0, 1, 0), (1, 1, 0, 0)])]), ([], []))
set_option maxRecDepth 100000 in
theorem l_nhe_0 (g : GG) : LOK Yt (PSt g) t_nhe_0 := by
  intro ρ α Γ M as hT hB hA hP
  have g0 : Γ (α 0) = 1 := tyAt hA (i := 0) rfl
  have b1 : -2147483648 ≤ ρ 1 ∧ ρ 1 ≤ -1 := hB 1
  have key : (Γ (α 0) = 1 ∧ (∀ q ∈ ([([], 0, 2)] : VSP), wkT Γ M (α 0) q.1) ∧ Q483 g (vsv M (α 0) ([], 0, 2)) (ρ 1 + 0)) ∧ True := by
    try simp only [Int.add_zero]
    have dm0 := cdim hT g0
    have rc0 := rc_bd dm0.1 dm0.2
    refine ⟨⟨g0, pic1 hT g0 (by decide) (by decide), ?_⟩, trivial⟩
    · dsimp only [Q483]
      exact fun q => by have := q.1; omega
  exact ⟨nB, qB (key.1) (nB)⟩
def t_nhe_1 : KT := ((0, 0, 0, 0), [(2, 0, 1, 0), (1, 1, 0, 0), (1, 2, 0, 0), (1, 3, 0, 0)], [(0, 0), (-2147483648, 2147483647), (-2147483648, 2147483647), (-2147483648, 2147483647)], [(5, [(2, 0, 1, 0), (1, 2, 0, 0)]), (25, [(0, 0, 0, 2), (1, 2, 0, 0), (1, 3, 0, 0)]), (6, [(1, 3, 0, 0), (1, 1, 0, 0)])], (0, 0, 0), [], [], ([], [(483, [(2, 0, 1, 0), (1, 1, 0, 0)])]), ([], []))
set_option maxRecDepth 100000 in
theorem l_nhe_1 (g : GG) : LOK Yt (PSt g) t_nhe_1 := by
  intro ρ α Γ M as hT hB hA hP
  have g0 : Γ (α 0) = 1 := tyAt hA (i := 0) rfl
  have b1 : -2147483648 ≤ ρ 1 ∧ ρ 1 ≤ 2147483647 := hB 1
  have b2 : -2147483648 ≤ ρ 2 ∧ ρ 2 ≤ 2147483647 := hB 2
  have b3 : -2147483648 ≤ ρ 3 ∧ ρ 3 ≤ 2147483647 := hB 3
  have h0 : Γ (α 0) = 1 ∧ ρ 2 + 0 = M.2.2.2.2 (α 0) 0 * M.2.2.2.2 (α 0) 1 := hP _ (List.mem_of_getElem? (i := 0) rfl)
  have h1 : ρ 3 + 0 = wI ((2) * (ρ 2 + 0)) := hP _ (List.mem_of_getElem? (i := 1) rfl)
  have h2 : ρ 3 + 0 ≤ ρ 1 + 0 := hP _ (List.mem_of_getElem? (i := 2) rfl)
  try simp only [Int.add_zero] at h0 h1 h2
  have key : (Γ (α 0) = 1 ∧ (∀ q ∈ ([([], 0, 2)] : VSP), wkT Γ M (α 0) q.1) ∧ Q483 g (vsv M (α 0) ([], 0, 2)) (ρ 1 + 0)) ∧ True := by
    try simp only [Int.add_zero]
    have dm0 := cdim hT g0
    have rc0 := rc_bd dm0.1 dm0.2
    have m0 : (vsv M (α 0) ([], 0, 2)) 0 = M.2.2.2.2 (α 0) 0 := vs0 (by decide) (by decide)
    have m1 : (vsv M (α 0) ([], 0, 2)) 1 = M.2.2.2.2 (α 0) 1 := vs0 (by decide) (by decide)
    refine ⟨⟨g0, pic1 hT g0 (by decide) (by decide), ?_⟩, trivial⟩
    · dsimp only [Q483]
      have h0 := h0.2
      rw [← m0, ← m1] at h0
      rw [wI_id (by unfold inI; omega)] at h1
      exact fun q => by have := q.2.1; omega
  exact ⟨nB, qB (key.1) (nB)⟩
def t_nhe_2 : KT := ((0, 0, 0, 0), [(2, 0, 1, 0), (1, 1, 0, 0), (1, 2, 0, 0), (1, 3, 0, 0), (1, 4, 0, 0), (1, 5, 0, 0)], [(0, 0), (0, 287), (-2147483648, 2147483647), (0, 0), (-2147483648, 2147483647), (-2147483648, 2147483647)], [(26, [(1, 1, 0, 0), (0, 0, 0, 2), (1, 2, 0, 0)]), (27, [(1, 1, 0, 0), (0, 0, 0, 2), (1, 3, 0, 0)]), (72, [(2, 0, 1, 0), (1, 2, 0, 0), (1, 4, 0, 0)]), (6, [(1, 5, 0, -1), (1, 4, 0, 0)]), (10, [(2, 0, 1, 0), (0, 0, 0, 1), (1, 5, 0, 0)])], (0, 0, 0), [], [], ([], [(483, [(2, 0, 1, 0), (1, 1, 0, 0)])]), ([], []))
set_option maxRecDepth 100000 in
theorem l_nhe_2 (g : GG) : LOK Yt (PSt g) t_nhe_2 := by
  intro ρ α Γ M as hT hB hA hP
  have g0 : Γ (α 0) = 1 := tyAt hA (i := 0) rfl
  have b1 : 0 ≤ ρ 1 ∧ ρ 1 ≤ 287 := hB 1
  have b2 : -2147483648 ≤ ρ 2 ∧ ρ 2 ≤ 2147483647 := hB 2
  have b3 : 0 ≤ ρ 3 ∧ ρ 3 ≤ 0 := hB 3
  have b4 : -2147483648 ≤ ρ 4 ∧ ρ 4 ≤ 2147483647 := hB 4
  have b5 : -2147483648 ≤ ρ 5 ∧ ρ 5 ≤ 2147483647 := hB 5
  have h0 : ρ 2 + 0 = wI ((ρ 1 + 0 : Int).tdiv (2)) := hP _ (List.mem_of_getElem? (i := 0) rfl)
  have h1 : ρ 3 + 0 = (ρ 1 + 0 : Int).tmod (2) := hP _ (List.mem_of_getElem? (i := 1) rfl)
  have h2 : Γ (α 0) = 1 ∧ ρ 4 + 0 = (ρ 2 + 0) % M.2.2.2.2 (α 0) 1 := hP _ (List.mem_of_getElem? (i := 2) rfl)
  have h3 : ρ 5 + (-1) ≤ ρ 4 + 0 := hP _ (List.mem_of_getElem? (i := 3) rfl)
  have h4 : 0 ≤ (1 : Int) ∧ M.2.2.2.2 (α 0) (1 : Int).toNat = ρ 5 + 0 := hP _ (List.mem_of_getElem? (i := 4) rfl)
  try simp only [Int.add_zero] at h0 h1 h2 h3 h4
  have key : (Γ (α 0) = 1 ∧ (∀ q ∈ ([([], 0, 2)] : VSP), wkT Γ M (α 0) q.1) ∧ Q483 g (vsv M (α 0) ([], 0, 2)) (ρ 1 + 0)) ∧ True := by
    try simp only [Int.add_zero]
    have dm0 := cdim hT g0
    have rc0 := rc_bd dm0.1 dm0.2
    have e4 : M.2.2.2.2 (α 0) 1 = ρ 5 := h4.2
    obtain ⟨d1, d2, d3, -⟩ := dm (p := ρ 1) b1.1 (show (0 : Int) < 2 by decide)
    rw [d1] at h0
    rw [wI_id (by unfold inI; omega)] at h0
    rw [d2] at h1
    have m0 : (vsv M (α 0) ([], 0, 2)) 0 = M.2.2.2.2 (α 0) 0 := vs0 (by decide) (by decide)
    have m1 : (vsv M (α 0) ([], 0, 2)) 1 = M.2.2.2.2 (α 0) 1 := vs0 (by decide) (by decide)
    refine ⟨⟨g0, pic1 hT g0 (by decide) (by decide), ?_⟩, trivial⟩
    · dsimp only [Q483]
      have h2 := h2.2
      rw [← m1, h0] at h2
      have : (vsv M (α 0) ([], 0, 2)) 1 = ρ 5 := m1.trans e4
      exact fun q => by have := q.2.2.1 (by omega); omega
  exact ⟨nB, qB (key.1) (nB)⟩
def t_nhe_3 : KT := ((0, 0, 0, 0), [(2, 0, 1, 0), (1, 1, 0, 0), (1, 2, 0, 0), (1, 3, 0, 0), (1, 4, 0, 0), (1, 5, 0, 0)], [(0, 0), (0, 287), (-2147483648, 2147483647), (1, 1), (-2147483648, 2147483647), (-2147483648, 2147483647)], [(26, [(1, 1, 0, 0), (0, 0, 0, 2), (1, 2, 0, 0)]), (27, [(1, 1, 0, 0), (0, 0, 0, 2), (1, 3, 0, 0)]), (71, [(2, 0, 1, 0), (1, 2, 0, 0), (1, 4, 0, 0)]), (6, [(1, 5, 0, -1), (1, 4, 0, 0)]), (10, [(2, 0, 1, 0), (0, 0, 0, 0), (1, 5, 0, 0)])], (0, 0, 0), [], [], ([], [(483, [(2, 0, 1, 0), (1, 1, 0, 0)])]), ([], []))
set_option maxRecDepth 100000 in
theorem l_nhe_3 (g : GG) : LOK Yt (PSt g) t_nhe_3 := by
  intro ρ α Γ M as hT hB hA hP
  have g0 : Γ (α 0) = 1 := tyAt hA (i := 0) rfl
  have b1 : 0 ≤ ρ 1 ∧ ρ 1 ≤ 287 := hB 1
  have b2 : -2147483648 ≤ ρ 2 ∧ ρ 2 ≤ 2147483647 := hB 2
  have b3 : 1 ≤ ρ 3 ∧ ρ 3 ≤ 1 := hB 3
  have b4 : -2147483648 ≤ ρ 4 ∧ ρ 4 ≤ 2147483647 := hB 4
  have b5 : -2147483648 ≤ ρ 5 ∧ ρ 5 ≤ 2147483647 := hB 5
  have h0 : ρ 2 + 0 = wI ((ρ 1 + 0 : Int).tdiv (2)) := hP _ (List.mem_of_getElem? (i := 0) rfl)
  have h1 : ρ 3 + 0 = (ρ 1 + 0 : Int).tmod (2) := hP _ (List.mem_of_getElem? (i := 1) rfl)
  have h2 : Γ (α 0) = 1 ∧ ρ 4 + 0 = (ρ 2 + 0) / M.2.2.2.2 (α 0) 1 := hP _ (List.mem_of_getElem? (i := 2) rfl)
  have h3 : ρ 5 + (-1) ≤ ρ 4 + 0 := hP _ (List.mem_of_getElem? (i := 3) rfl)
  have h4 : 0 ≤ (0 : Int) ∧ M.2.2.2.2 (α 0) (0 : Int).toNat = ρ 5 + 0 := hP _ (List.mem_of_getElem? (i := 4) rfl)
  try simp only [Int.add_zero] at h0 h1 h2 h3 h4
  have key : (Γ (α 0) = 1 ∧ (∀ q ∈ ([([], 0, 2)] : VSP), wkT Γ M (α 0) q.1) ∧ Q483 g (vsv M (α 0) ([], 0, 2)) (ρ 1 + 0)) ∧ True := by
    try simp only [Int.add_zero]
    have dm0 := cdim hT g0
    have rc0 := rc_bd dm0.1 dm0.2
    have e4 : M.2.2.2.2 (α 0) 0 = ρ 5 := h4.2
    obtain ⟨d1, d2, d3, -⟩ := dm (p := ρ 1) b1.1 (show (0 : Int) < 2 by decide)
    rw [d1] at h0
    rw [wI_id (by unfold inI; omega)] at h0
    rw [d2] at h1
    have m0 : (vsv M (α 0) ([], 0, 2)) 0 = M.2.2.2.2 (α 0) 0 := vs0 (by decide) (by decide)
    have m1 : (vsv M (α 0) ([], 0, 2)) 1 = M.2.2.2.2 (α 0) 1 := vs0 (by decide) (by decide)
    refine ⟨⟨g0, pic1 hT g0 (by decide) (by decide), ?_⟩, trivial⟩
    · dsimp only [Q483]
      have h2 := h2.2
      rw [← m1, h0] at h2
      have : (vsv M (α 0) ([], 0, 2)) 0 = ρ 5 := m0.trans e4
      exact fun q => by have := q.2.2.2 (by omega); omega
  exact ⟨nB, qB (key.1) (nB)⟩
def t_nic_b : KT := ((0, 0, 0, 0), [(2, 0, 38, 0), (2, 1, 1, 0), (2, 2, 5, 0), (1, 3, 0, 0), (1, 4, 0, 0)], [(0, 0), (0, 0), (0, 0), (0, 287), (0, 1)], [(11, [(2, 0, 38, 0), (0, 0, 0, 0), (2, 1, 1, 0)]), (11, [(2, 1, 1, 0), (0, 0, 0, 5), (2, 2, 5, 0)]), (10, [(2, 2, 5, 0), (1, 3, 0, 0), (1, 4, 0, 0)])], (0, 0, 0), [], [], ([], [(493, [(2, 0, 38, 0), (1, 3, 0, 0), (1, 4, 0, 0)])]), ([], []))
set_option maxRecDepth 100000 in
theorem l_nic_b (g : GG) : LOK Yt (PSt g) t_nic_b := by
  intro ρ α Γ M as hT hB hA hP
  have g0 : Γ (α 0) = 38 := tyAt hA (i := 0) rfl
  have g1 : Γ (α 1) = 1 := tyAt hA (i := 1) rfl
  have g2 : Γ (α 2) = 5 := tyAt hA (i := 2) rfl
  have b3 : 0 ≤ ρ 3 ∧ ρ 3 ≤ 287 := hB 3
  have b4 : 0 ≤ ρ 4 ∧ ρ 4 ≤ 1 := hB 4
  have h0 : 0 ≤ (0 : Int) ∧ M.2.2.2.1 (α 0) (0 : Int).toNat = some (α 1) := hP _ (List.mem_of_getElem? (i := 0) rfl)
  have h1 : 0 ≤ (5 : Int) ∧ M.2.2.2.1 (α 1) (5 : Int).toNat = some (α 2) := hP _ (List.mem_of_getElem? (i := 1) rfl)
  have h2 : 0 ≤ (ρ 3 + 0 : Int) ∧ M.2.2.2.2 (α 2) (ρ 3 + 0 : Int).toNat = ρ 4 + 0 := hP _ (List.mem_of_getElem? (i := 2) rfl)
  try simp only [Int.add_zero] at h0 h1 h2
  have key : (Γ (α 0) = 38 ∧ (∀ q ∈ ([([(0, 1), (5, 5)], 0, 288)] : VSP), wkT Γ M (α 0) q.1) ∧ Q493 g (vsv M (α 0) ([(0, 1), (5, 5)], 0, 288)) (ρ 3 + 0) (ρ 4 + 0)) ∧ True := by
    try simp only [Int.add_zero]
    have dm0 := wdim hT g0
    have rc0 := rc_bd dm0.1 dm0.2
    have dm1 := cdim hT g1
    have rc1 := rc_bd dm1.1 dm1.2
    have e0 : M.2.2.2.1 (α 0) 0 = some (α 1) := h0.2
    have e1 : M.2.2.2.1 (α 1) 5 = some (α 2) := h1.2
    have e2 : M.2.2.2.2 (α 2) (ρ 3).toNat = ρ 4 := h2.2
    have wb : (vsv M (α 0) ([(0, 1), (5, 5)], 0, 288)) = clp [(0, 288)] (M.2.2.2.2 (α 2)) := (vsvS e0).trans (vsv1 e1)
    refine ⟨⟨g0, pic1 hT g0 (by decide) (by decide), ?_⟩, trivial⟩
    · dsimp only [Q493]
      exact ⟨b3.1, by rw [wb, cAll (by omega)]; exact e2⟩
  exact ⟨nB, qB (key.1) (nB)⟩
def t_nic_o : KT := ((0, 0, 0, 0), [(2, 0, 38, 0), (2, 1, 6, 0), (2, 2, 9, 0), (1, 3, 0, 0), (1, 4, 0, 0)], [(0, 0), (0, 0), (0, 0), (0, 287), (-2147483648, 2147483647)], [(11, [(2, 0, 38, 0), (0, 0, 0, 1), (2, 1, 6, 0)]), (11, [(2, 1, 6, 0), (0, 0, 0, 4), (2, 2, 9, 0)]), (10, [(2, 2, 9, 0), (1, 3, 0, 0), (1, 4, 0, 0)])], (0, 0, 0), [], [], ([], [(494, [(2, 0, 38, 0), (1, 3, 0, 0), (1, 4, 0, 0)])]), ([], []))
set_option maxRecDepth 100000 in
theorem l_nic_o (g : GG) : LOK Yt (PSt g) t_nic_o := by
  intro ρ α Γ M as hT hB hA hP
  have g0 : Γ (α 0) = 38 := tyAt hA (i := 0) rfl
  have g1 : Γ (α 1) = 6 := tyAt hA (i := 1) rfl
  have g2 : Γ (α 2) = 9 := tyAt hA (i := 2) rfl
  have b3 : 0 ≤ ρ 3 ∧ ρ 3 ≤ 287 := hB 3
  have b4 : -2147483648 ≤ ρ 4 ∧ ρ 4 ≤ 2147483647 := hB 4
  have h0 : 0 ≤ (1 : Int) ∧ M.2.2.2.1 (α 0) (1 : Int).toNat = some (α 1) := hP _ (List.mem_of_getElem? (i := 0) rfl)
  have h1 : 0 ≤ (4 : Int) ∧ M.2.2.2.1 (α 1) (4 : Int).toNat = some (α 2) := hP _ (List.mem_of_getElem? (i := 1) rfl)
  have h2 : 0 ≤ (ρ 3 + 0 : Int) ∧ M.2.2.2.2 (α 2) (ρ 3 + 0 : Int).toNat = ρ 4 + 0 := hP _ (List.mem_of_getElem? (i := 2) rfl)
  try simp only [Int.add_zero] at h0 h1 h2
  have key : (Γ (α 0) = 38 ∧ (∀ q ∈ ([([(1, 6), (4, 9)], 0, 288)] : VSP), wkT Γ M (α 0) q.1) ∧ Q494 g (vsv M (α 0) ([(1, 6), (4, 9)], 0, 288)) (ρ 3 + 0) (ρ 4 + 0)) ∧ True := by
    try simp only [Int.add_zero]
    have dm0 := wdim hT g0
    have rc0 := rc_bd dm0.1 dm0.2
    have e0 : M.2.2.2.1 (α 0) 1 = some (α 1) := h0.2
    have e1 : M.2.2.2.1 (α 1) 4 = some (α 2) := h1.2
    have e2 : M.2.2.2.2 (α 2) (ρ 3).toNat = ρ 4 := h2.2
    have wo : (vsv M (α 0) ([(1, 6), (4, 9)], 0, 288)) = clp [(0, 288)] (M.2.2.2.2 (α 2)) := (vsvS e0).trans (vsv1 e1)
    refine ⟨⟨g0, pic1 hT g0 (by decide) (by decide), ?_⟩, trivial⟩
    · dsimp only [Q494]
      exact ⟨b3.1, by rw [wo, cAll (by omega)]; exact e2⟩
  exact ⟨nB, qB (key.1) (nB)⟩
def t_nic_1 : KT := ((0, 0, 0, 0), [(2, 0, 38, 0), (1, 1, 0, 0), (1, 2, 0, 0)], [(0, 0), (0, 287), (1, 1)], [(493, [(2, 0, 38, 0), (1, 1, 0, 0), (1, 2, 0, 0)])], (0, 0, 0), [], [], ([], [(484, [(2, 0, 38, 0), (1, 1, 0, 0)])]), ([], []))
set_option maxRecDepth 100000 in
theorem l_nic_1 (g : GG) : LOK Yt (PSt g) t_nic_1 := by
  intro ρ α Γ M as hT hB hA hP
  have g0 : Γ (α 0) = 38 := tyAt hA (i := 0) rfl
  have b1 : 0 ≤ ρ 1 ∧ ρ 1 ≤ 287 := hB 1
  have b2 : 1 ≤ ρ 2 ∧ ρ 2 ≤ 1 := hB 2
  have h0 : Γ (α 0) = 38 ∧ (∀ q ∈ ([([(0, 1), (5, 5)], 0, 288)] : VSP), wkT Γ M (α 0) q.1) ∧ Q493 g (vsv M (α 0) ([(0, 1), (5, 5)], 0, 288)) (ρ 1 + 0) (ρ 2 + 0) := hP _ (List.mem_of_getElem? (i := 0) rfl)
  try simp only [Int.add_zero] at h0
  have key : (Γ (α 0) = 38 ∧ (∀ q ∈ ([([(1, 6), (4, 9)], 0, 288), ([(0, 1), (5, 5)], 0, 288)] : VSP), wkT Γ M (α 0) q.1) ∧ Q484 g (vsv M (α 0) ([(1, 6), (4, 9)], 0, 288)) (vsv M (α 0) ([(0, 1), (5, 5)], 0, 288)) (ρ 1 + 0)) ∧ True := by
    try simp only [Int.add_zero]
    have dm0 := wdim hT g0
    have rc0 := rc_bd dm0.1 dm0.2
    obtain ⟨-, -, p0⟩ := h0
    dsimp only [Q493] at p0
    refine ⟨⟨g0, pic1 hT g0 (by decide) (by decide), ?_⟩, trivial⟩
    · dsimp only [Q484]
      exact ⟨b1.1, fun q => by have := p0.2; omega⟩
  exact ⟨nB, qB (key.1) (nB)⟩
def t_nic_2 : KT := ((0, 0, 0, 0), [(2, 0, 38, 0), (1, 1, 0, 0), (1, 2, 0, 0)], [(0, 0), (0, 287), (1, 2147483647)], [(494, [(2, 0, 38, 0), (1, 1, 0, 0), (1, 2, 0, 0)])], (0, 0, 0), [], [], ([], [(484, [(2, 0, 38, 0), (1, 1, 0, 0)])]), ([], []))
set_option maxRecDepth 100000 in
theorem l_nic_2 (g : GG) : LOK Yt (PSt g) t_nic_2 := by
  intro ρ α Γ M as hT hB hA hP
  have g0 : Γ (α 0) = 38 := tyAt hA (i := 0) rfl
  have b1 : 0 ≤ ρ 1 ∧ ρ 1 ≤ 287 := hB 1
  have b2 : 1 ≤ ρ 2 ∧ ρ 2 ≤ 2147483647 := hB 2
  have h0 : Γ (α 0) = 38 ∧ (∀ q ∈ ([([(1, 6), (4, 9)], 0, 288)] : VSP), wkT Γ M (α 0) q.1) ∧ Q494 g (vsv M (α 0) ([(1, 6), (4, 9)], 0, 288)) (ρ 1 + 0) (ρ 2 + 0) := hP _ (List.mem_of_getElem? (i := 0) rfl)
  try simp only [Int.add_zero] at h0
  have key : (Γ (α 0) = 38 ∧ (∀ q ∈ ([([(1, 6), (4, 9)], 0, 288), ([(0, 1), (5, 5)], 0, 288)] : VSP), wkT Γ M (α 0) q.1) ∧ Q484 g (vsv M (α 0) ([(1, 6), (4, 9)], 0, 288)) (vsv M (α 0) ([(0, 1), (5, 5)], 0, 288)) (ρ 1 + 0)) ∧ True := by
    try simp only [Int.add_zero]
    have dm0 := wdim hT g0
    have rc0 := rc_bd dm0.1 dm0.2
    obtain ⟨-, -, p0⟩ := h0
    dsimp only [Q494] at p0
    refine ⟨⟨g0, pic1 hT g0 (by decide) (by decide), ?_⟩, trivial⟩
    · dsimp only [Q484]
      exact ⟨b1.1, fun q => by have := p0.2; omega⟩
  exact ⟨nB, qB (key.1) (nB)⟩
def t_nic_3 : KT := ((0, 0, 0, 0), [(2, 0, 38, 0), (1, 1, 0, 0), (1, 2, 0, 0), (1, 3, 0, 0)], [(0, 0), (0, 287), (0, 0), (-2147483648, 0)], [(493, [(2, 0, 38, 0), (1, 1, 0, 0), (1, 2, 0, 0)]), (494, [(2, 0, 38, 0), (1, 1, 0, 0), (1, 3, 0, 0)])], (0, 0, 0), [], [], ([], [(485, [(2, 0, 38, 0), (1, 1, 0, 0)])]), ([], []))
set_option maxRecDepth 100000 in
theorem l_nic_3 (g : GG) : LOK Yt (PSt g) t_nic_3 := by
  intro ρ α Γ M as hT hB hA hP
  have g0 : Γ (α 0) = 38 := tyAt hA (i := 0) rfl
  have b1 : 0 ≤ ρ 1 ∧ ρ 1 ≤ 287 := hB 1
  have b2 : 0 ≤ ρ 2 ∧ ρ 2 ≤ 0 := hB 2
  have b3 : -2147483648 ≤ ρ 3 ∧ ρ 3 ≤ 0 := hB 3
  have h0 : Γ (α 0) = 38 ∧ (∀ q ∈ ([([(0, 1), (5, 5)], 0, 288)] : VSP), wkT Γ M (α 0) q.1) ∧ Q493 g (vsv M (α 0) ([(0, 1), (5, 5)], 0, 288)) (ρ 1 + 0) (ρ 2 + 0) := hP _ (List.mem_of_getElem? (i := 0) rfl)
  have h1 : Γ (α 0) = 38 ∧ (∀ q ∈ ([([(1, 6), (4, 9)], 0, 288)] : VSP), wkT Γ M (α 0) q.1) ∧ Q494 g (vsv M (α 0) ([(1, 6), (4, 9)], 0, 288)) (ρ 1 + 0) (ρ 3 + 0) := hP _ (List.mem_of_getElem? (i := 1) rfl)
  try simp only [Int.add_zero] at h0 h1
  have key : (Γ (α 0) = 38 ∧ (∀ q ∈ ([([(1, 6), (4, 9)], 0, 288), ([(0, 1), (5, 5)], 0, 288)] : VSP), wkT Γ M (α 0) q.1) ∧ Q485 g (vsv M (α 0) ([(1, 6), (4, 9)], 0, 288)) (vsv M (α 0) ([(0, 1), (5, 5)], 0, 288)) (ρ 1 + 0)) ∧ True := by
    try simp only [Int.add_zero]
    have dm0 := wdim hT g0
    have rc0 := rc_bd dm0.1 dm0.2
    obtain ⟨-, -, p0⟩ := h0
    dsimp only [Q493] at p0
    obtain ⟨-, -, p1⟩ := h1
    dsimp only [Q494] at p1
    refine ⟨⟨g0, pic1 hT g0 (by decide) (by decide), ?_⟩, trivial⟩
    · dsimp only [Q485]
      exact ⟨b1.1, by have := p0.2; omega, by have := p1.2; omega⟩
  exact ⟨nB, qB (key.1) (nB)⟩
def t_ntl_0 : KT := ((0, 0, 0, 0), [(1, 0, 0, 0), (1, 1, 0, 0)], [(0, 287), (-2147483648, 2147483647)], [(26, [(1, 0, 0, 0), (0, 0, 0, 2), (1, 1, 0, 0)])], (0, 0, 0), [], [], ([], [(726, [(1, 0, 0, 0), (1, 1, 0, 0)])]), ([], []))
set_option maxRecDepth 100000 in
theorem l_ntl_0 (g : GG) : LOK Yt (PSt g) t_ntl_0 := by
  intro ρ α Γ M as hT hB hA hP
  have b0 : 0 ≤ ρ 0 ∧ ρ 0 ≤ 287 := hB 0
  have b1 : -2147483648 ≤ ρ 1 ∧ ρ 1 ≤ 2147483647 := hB 1
  have h0 : ρ 1 + 0 = wI ((ρ 0 + 0 : Int).tdiv (2)) := hP _ (List.mem_of_getElem? (i := 0) rfl)
  try simp only [Int.add_zero] at h0
  have key : ((ρ 1 + 0 : Int) = (ρ 0 + 0 : Int) / 2) ∧ True := by
    try simp only [Int.add_zero]
    refine ⟨?_, trivial⟩
    · obtain ⟨d1, d2, d3, -⟩ := dm (p := ρ 0) b0.1 (show (0 : Int) < 2 by decide)
      rw [d1, wI_id (by unfold inI; omega)] at h0
      exact h0
  exact ⟨nB, qB (key.1) (nB)⟩
def t_nti_0 : KT := ((0, 0, 0, 0), [(2, 0, 1, 0), (1, 1, 0, 0), (1, 2, 0, 0), (1, 3, 0, 0)], [(0, 0), (0, 287), (-2147483648, 2147483647), (0, 0)], [(26, [(1, 1, 0, 0), (0, 0, 0, 2), (1, 2, 0, 0)]), (27, [(1, 1, 0, 0), (0, 0, 0, 2), (1, 3, 0, 0)])], (0, 0, 0), [], [], ([], [(491, [(2, 0, 1, 0), (1, 1, 0, 0), (1, 2, 0, 1)])]), ([], []))
set_option maxRecDepth 100000 in
theorem l_nti_0 (g : GG) : LOK Yt (PSt g) t_nti_0 := by
  intro ρ α Γ M as hT hB hA hP
  have g0 : Γ (α 0) = 1 := tyAt hA (i := 0) rfl
  have b1 : 0 ≤ ρ 1 ∧ ρ 1 ≤ 287 := hB 1
  have b2 : -2147483648 ≤ ρ 2 ∧ ρ 2 ≤ 2147483647 := hB 2
  have b3 : 0 ≤ ρ 3 ∧ ρ 3 ≤ 0 := hB 3
  have h0 : ρ 2 + 0 = wI ((ρ 1 + 0 : Int).tdiv (2)) := hP _ (List.mem_of_getElem? (i := 0) rfl)
  have h1 : ρ 3 + 0 = (ρ 1 + 0 : Int).tmod (2) := hP _ (List.mem_of_getElem? (i := 1) rfl)
  try simp only [Int.add_zero] at h0 h1
  have key : (Γ (α 0) = 1 ∧ (∀ q ∈ ([([], 0, 2)] : VSP), wkT Γ M (α 0) q.1) ∧ Q491 g (vsv M (α 0) ([], 0, 2)) (ρ 1 + 0) (ρ 2 + 1)) ∧ True := by
    try simp only [Int.add_zero]
    have dm0 := cdim hT g0
    have rc0 := rc_bd dm0.1 dm0.2
    obtain ⟨d1, d2, d3, -⟩ := dm (p := ρ 1) b1.1 (show (0 : Int) < 2 by decide)
    rw [d1, wI_id (by unfold inI; omega)] at h0
    rw [d2] at h1
    refine ⟨⟨g0, pic1 hT g0 (by decide) (by decide), ?_⟩, trivial⟩
    · dsimp only [Q491]
      show _ = tipI _ _
      unfold tipI
      rw [if_pos (by omega), h0]
  exact ⟨nB, qB (key.1) (nB)⟩
def t_nti_1 : KT := ((0, 0, 0, 0), [(2, 0, 1, 0), (1, 1, 0, 0), (1, 2, 0, 0), (1, 3, 0, 0), (1, 4, 0, 0), (1, 5, 0, 0)], [(0, 0), (0, 287), (-2147483648, 2147483647), (1, 1), (-2147483648, 2147483647), (-2147483648, 2147483647)], [(26, [(1, 1, 0, 0), (0, 0, 0, 2), (1, 2, 0, 0)]), (27, [(1, 1, 0, 0), (0, 0, 0, 2), (1, 3, 0, 0)]), (10, [(2, 0, 1, 0), (0, 0, 0, 1), (1, 4, 0, 0)]), (23, [(1, 2, 0, 0), (1, 4, 0, 0), (1, 5, 0, 0)])], (0, 0, 0), [], [], ([], [(491, [(2, 0, 1, 0), (1, 1, 0, 0), (1, 5, 0, 0)])]), ([], []))
set_option maxRecDepth 100000 in
theorem l_nti_1 (g : GG) : LOK Yt (PSt g) t_nti_1 := by
  intro ρ α Γ M as hT hB hA hP
  have g0 : Γ (α 0) = 1 := tyAt hA (i := 0) rfl
  have b1 : 0 ≤ ρ 1 ∧ ρ 1 ≤ 287 := hB 1
  have b2 : -2147483648 ≤ ρ 2 ∧ ρ 2 ≤ 2147483647 := hB 2
  have b3 : 1 ≤ ρ 3 ∧ ρ 3 ≤ 1 := hB 3
  have b4 : -2147483648 ≤ ρ 4 ∧ ρ 4 ≤ 2147483647 := hB 4
  have b5 : -2147483648 ≤ ρ 5 ∧ ρ 5 ≤ 2147483647 := hB 5
  have h0 : ρ 2 + 0 = wI ((ρ 1 + 0 : Int).tdiv (2)) := hP _ (List.mem_of_getElem? (i := 0) rfl)
  have h1 : ρ 3 + 0 = (ρ 1 + 0 : Int).tmod (2) := hP _ (List.mem_of_getElem? (i := 1) rfl)
  have h2 : 0 ≤ (1 : Int) ∧ M.2.2.2.2 (α 0) (1 : Int).toNat = ρ 4 + 0 := hP _ (List.mem_of_getElem? (i := 2) rfl)
  have h3 : ρ 5 + 0 = wI ((ρ 2 + 0) + (ρ 4 + 0)) := hP _ (List.mem_of_getElem? (i := 3) rfl)
  try simp only [Int.add_zero] at h0 h1 h2 h3
  have key : (Γ (α 0) = 1 ∧ (∀ q ∈ ([([], 0, 2)] : VSP), wkT Γ M (α 0) q.1) ∧ Q491 g (vsv M (α 0) ([], 0, 2)) (ρ 1 + 0) (ρ 5 + 0)) ∧ True := by
    try simp only [Int.add_zero]
    have dm0 := cdim hT g0
    have rc0 := rc_bd dm0.1 dm0.2
    have e2 : M.2.2.2.2 (α 0) 1 = ρ 4 := h2.2
    obtain ⟨d1, d2, d3, -⟩ := dm (p := ρ 1) b1.1 (show (0 : Int) < 2 by decide)
    rw [d1, wI_id (by unfold inI; omega)] at h0
    rw [d2] at h1
    have m0 : (vsv M (α 0) ([], 0, 2)) 0 = M.2.2.2.2 (α 0) 0 := vs0 (by decide) (by decide)
    have m1 : (vsv M (α 0) ([], 0, 2)) 1 = M.2.2.2.2 (α 0) 1 := vs0 (by decide) (by decide)
    refine ⟨⟨g0, pic1 hT g0 (by decide) (by decide), ?_⟩, trivial⟩
    · dsimp only [Q491]
      show _ = tipI _ _
      unfold tipI
      have c1 : (vsv M (α 0) ([], 0, 2)) 1 = ρ 4 := m1.trans e2
      rw [if_neg (by omega), h3, c1, wI_id (by unfold inI; omega), h0]
  exact ⟨nB, qB (key.1) (nB)⟩
def t_ndf_1 : KT := ((0, 0, 0, 0), [(2, 0, 38, 0), (2, 1, 1, 0), (2, 2, 10, 0), (2, 3, 11, 0), (1, 4, 0, 0), (1, 5, 0, 0), (1, 6, 0, 0), (1, 7, 0, 0), (1, 8, 0, 0), (1, 9, 0, 0), (1, 10, 0, 0), (1, 11, 0, 0)], [(0, 0), (0, 0), (0, 0), (0, 0), (0, 287), (0, 143), (0, 143), (-2147483648, 2147483647), (-2147483648, 2147483647), (-9223372036854775808, 9223372036854775807), (-127, 127), (-1, 1)], [(11, [(2, 0, 38, 0), (0, 0, 0, 0), (2, 1, 1, 0)]), (11, [(2, 0, 38, 0), (0, 0, 0, 2), (2, 2, 10, 0)]), (11, [(2, 2, 10, 0), (0, 0, 0, 4), (2, 3, 11, 0)]), (726, [(1, 4, 0, 0), (1, 5, 0, 0)]), (491, [(2, 1, 1, 0), (1, 4, 0, 0), (1, 6, 0, 0)]), (586, [(2, 2, 10, 0), (1, 5, 0, 0)]), (586, [(2, 2, 10, 0), (1, 6, 0, 0)]), (10, [(2, 3, 11, 0), (1, 5, 0, 0), (1, 7, 0, 0)]), (10, [(2, 3, 11, 0), (1, 6, 0, 0), (1, 8, 0, 0)]), (501, [(2, 1, 1, 0), (1, 5, 0, 0), (1, 6, 0, 0), (1, 10, 0, 0)]), (711, [(1, 8, 0, 0), (1, 7, 0, 0), (1, 9, 0, 0)]), (715, [(1, 9, 0, 0), (1, 10, 0, 0), (1, 11, 0, 0)]), (99, [(1, 11, 0, 0), (0, 0, 0, 0), (0, 0, 0, 0)])], (0, 0, 0), [], [], ([], [(490, [(2, 0, 38, 0), (1, 4, 0, 0)])]), ([], []))
set_option maxRecDepth 100000 in
theorem l_ndf_1 (g : GG) : LOK Yt (PSt g) t_ndf_1 := by
  intro ρ α Γ M as hT hB hA hP
  have g0 : Γ (α 0) = 38 := tyAt hA (i := 0) rfl
  have g1 : Γ (α 1) = 1 := tyAt hA (i := 1) rfl
  have g2 : Γ (α 2) = 10 := tyAt hA (i := 2) rfl
  have g3 : Γ (α 3) = 11 := tyAt hA (i := 3) rfl
  have b4 : 0 ≤ ρ 4 ∧ ρ 4 ≤ 287 := hB 4
  have b5 : 0 ≤ ρ 5 ∧ ρ 5 ≤ 143 := hB 5
  have b6 : 0 ≤ ρ 6 ∧ ρ 6 ≤ 143 := hB 6
  have b7 : -2147483648 ≤ ρ 7 ∧ ρ 7 ≤ 2147483647 := hB 7
  have b8 : -2147483648 ≤ ρ 8 ∧ ρ 8 ≤ 2147483647 := hB 8
  have b9 : -9223372036854775808 ≤ ρ 9 ∧ ρ 9 ≤ 9223372036854775807 := hB 9
  have b10 : -127 ≤ ρ 10 ∧ ρ 10 ≤ 127 := hB 10
  have b11 : -1 ≤ ρ 11 ∧ ρ 11 ≤ 1 := hB 11
  have h0 : 0 ≤ (0 : Int) ∧ M.2.2.2.1 (α 0) (0 : Int).toNat = some (α 1) := hP _ (List.mem_of_getElem? (i := 0) rfl)
  have h1 : 0 ≤ (2 : Int) ∧ M.2.2.2.1 (α 0) (2 : Int).toNat = some (α 2) := hP _ (List.mem_of_getElem? (i := 1) rfl)
  have h2 : 0 ≤ (4 : Int) ∧ M.2.2.2.1 (α 2) (4 : Int).toNat = some (α 3) := hP _ (List.mem_of_getElem? (i := 2) rfl)
  have h3 : (ρ 5 + 0 : Int) = (ρ 4 + 0 : Int) / 2 := hP _ (List.mem_of_getElem? (i := 3) rfl)
  have h4 : Γ (α 1) = 1 ∧ (∀ q ∈ ([([], 0, 2)] : VSP), wkT Γ M (α 1) q.1) ∧ Q491 g (vsv M (α 1) ([], 0, 2)) (ρ 4 + 0) (ρ 6 + 0) := hP _ (List.mem_of_getElem? (i := 4) rfl)
  have h5 : Γ (α 2) = 10 ∧ (∀ q ∈ ([([(6, 13)], 0, 144)] : VSP), wkT Γ M (α 2) q.1) ∧ Q586 g (vsv M (α 2) ([(6, 13)], 0, 144)) (ρ 5 + 0) := hP _ (List.mem_of_getElem? (i := 5) rfl)
  have h6 : Γ (α 2) = 10 ∧ (∀ q ∈ ([([(6, 13)], 0, 144)] : VSP), wkT Γ M (α 2) q.1) ∧ Q586 g (vsv M (α 2) ([(6, 13)], 0, 144)) (ρ 6 + 0) := hP _ (List.mem_of_getElem? (i := 6) rfl)
  have h7 : 0 ≤ (ρ 5 + 0 : Int) ∧ M.2.2.2.2 (α 3) (ρ 5 + 0 : Int).toNat = ρ 7 + 0 := hP _ (List.mem_of_getElem? (i := 7) rfl)
  have h8 : 0 ≤ (ρ 6 + 0 : Int) ∧ M.2.2.2.2 (α 3) (ρ 6 + 0 : Int).toNat = ρ 8 + 0 := hP _ (List.mem_of_getElem? (i := 8) rfl)
  have h9 : Γ (α 1) = 1 ∧ (∀ q ∈ ([([(2, 2)], 0, 144)] : VSP), wkT Γ M (α 1) q.1) ∧ Q501 g (vsv M (α 1) ([(2, 2)], 0, 144)) (ρ 5 + 0) (ρ 6 + 0) (ρ 10 + 0) := hP _ (List.mem_of_getElem? (i := 9) rfl)
  have h10 : (ρ 9 + 0 : Int) = wL ((ρ 8 + 0 : Int) - (ρ 7 + 0 : Int)) := hP _ (List.mem_of_getElem? (i := 10) rfl)
  have h11 : (ρ 11 + 0 : Int) = lCm (ρ 9 + 0 : Int) (ρ 10 + 0 : Int) := hP _ (List.mem_of_getElem? (i := 11) rfl)
  have h12 : (ρ 11 + 0 : Int) ≠ 0 := hP _ (List.mem_of_getElem? (i := 12) rfl)
  try simp only [Int.add_zero] at h0 h1 h2 h3 h4 h5 h6 h7 h8 h9 h10 h11 h12
  have key : (Γ (α 0) = 38 ∧ (∀ q ∈ ([([(0, 1)], 0, 2), ([(0, 1), (2, 2)], 0, 144), ([(2, 10), (4, 11)], 0, 144), ([(2, 10), (6, 13)], 0, 144)] : VSP), wkT Γ M (α 0) q.1) ∧ Q490 g (vsv M (α 0) ([(0, 1)], 0, 2)) (vsv M (α 0) ([(0, 1), (2, 2)], 0, 144)) (vsv M (α 0) ([(2, 10), (4, 11)], 0, 144)) (vsv M (α 0) ([(2, 10), (6, 13)], 0, 144)) (ρ 4 + 0)) ∧ True := by
    try simp only [Int.add_zero]
    have dm0 := wdim hT g0
    have rc0 := rc_bd dm0.1 dm0.2
    have dm1 := cdim hT g1
    have rc1 := rc_bd dm1.1 dm1.2
    have e0 : M.2.2.2.1 (α 0) 0 = some (α 1) := h0.2
    have e1 : M.2.2.2.1 (α 0) 2 = some (α 2) := h1.2
    have e2 : M.2.2.2.1 (α 2) 4 = some (α 3) := h2.2
    obtain ⟨-, -, p4⟩ := h4
    dsimp only [Q491] at p4
    obtain ⟨-, -, p5⟩ := h5
    dsimp only [Q586] at p5
    obtain ⟨-, -, p6⟩ := h6
    dsimp only [Q586] at p6
    have e7 : M.2.2.2.2 (α 3) (ρ 5).toNat = ρ 7 := h7.2
    have e8 : M.2.2.2.2 (α 3) (ρ 6).toNat = ρ 8 := h8.2
    obtain ⟨-, -, p9⟩ := h9
    dsimp only [Q501] at p9
    have wc : (vsv M (α 0) ([(0, 1)], 0, 2)) = (vsv M (α 1) ([], 0, 2)) := vsvS e0
    have wp : (vsv M (α 0) ([(0, 1), (2, 2)], 0, 144)) = (vsv M (α 1) ([(2, 2)], 0, 144)) := vsvS e0
    have wS : (vsv M (α 0) ([(2, 10), (6, 13)], 0, 144)) = (vsv M (α 2) ([(6, 13)], 0, 144)) := vsvS e1
    have wH : (vsv M (α 0) ([(2, 10), (4, 11)], 0, 144)) = clp [(0, 144)] (M.2.2.2.2 (α 3)) := (vsvS e1).trans (vsv1 e2)
    refine ⟨⟨g0, pic1 hT g0 (by decide) (by decide), ?_⟩, trivial⟩
    · dsimp only [Q490]
      rw [wc, wp, wS, wH, ← p4, ← h3]
      refine ⟨b4.1, ⟨p5.2, p6.2⟩, ?_⟩
      rw [cAll (by omega), cAll (by omega), e7, e8]
      intro q
      have z : ρ 10 = ρ 8 - ρ 7 := p9.trans q.symm
      rw [wL_id (by unfold inL; omega)] at h10
      unfold lCm at h11
      rw [if_neg (by omega), if_pos (by omega)] at h11
      exact h12 h11
  exact ⟨nB, qB (key.1) (nB)⟩
def t_nij_1 : KT := ((0, 0, 0, 0), [(2, 0, 38, 0), (1, 1, 0, 0)], [(0, 0), (0, 287)], [(489, [(2, 0, 38, 0)]), (485, [(2, 0, 38, 0), (1, 1, 0, 0)]), (490, [(2, 0, 38, 0), (1, 1, 0, 0)]), (73, [(2, 0, 38, 0), (1, 1, 0, 0)])], (0, 0, 0), [], [], ([(1, 1, 0)], []), ([], []))
set_option maxRecDepth 100000 in
theorem l_nij_1 (g : GG) : LOK Yt (PSt g) t_nij_1 := by
  intro ρ α Γ M as hT hB hA hP
  have g0 : Γ (α 0) = 38 := tyAt hA (i := 0) rfl
  have b1 : 0 ≤ ρ 1 ∧ ρ 1 ≤ 287 := hB 1
  have h0 : Γ (α 0) = 38 ∧ (∀ q ∈ ([([(0, 1)], 0, 2), ([(0, 1), (2, 2)], 0, 144), ([(1, 6), (4, 9)], 0, 288), ([(0, 1), (5, 5)], 0, 288), ([(2, 10), (4, 11)], 0, 144), ([(2, 10), (6, 13)], 0, 144)] : VSP), wkT Γ M (α 0) q.1) ∧ Q489 g (vsv M (α 0) ([(0, 1)], 0, 2)) (vsv M (α 0) ([(0, 1), (2, 2)], 0, 144)) (vsv M (α 0) ([(1, 6), (4, 9)], 0, 288)) (vsv M (α 0) ([(0, 1), (5, 5)], 0, 288)) (vsv M (α 0) ([(2, 10), (4, 11)], 0, 144)) (vsv M (α 0) ([(2, 10), (6, 13)], 0, 144))  := hP _ (List.mem_of_getElem? (i := 0) rfl)
  have h1 : Γ (α 0) = 38 ∧ (∀ q ∈ ([([(1, 6), (4, 9)], 0, 288), ([(0, 1), (5, 5)], 0, 288)] : VSP), wkT Γ M (α 0) q.1) ∧ Q485 g (vsv M (α 0) ([(1, 6), (4, 9)], 0, 288)) (vsv M (α 0) ([(0, 1), (5, 5)], 0, 288)) (ρ 1 + 0) := hP _ (List.mem_of_getElem? (i := 1) rfl)
  have h2 : Γ (α 0) = 38 ∧ (∀ q ∈ ([([(0, 1)], 0, 2), ([(0, 1), (2, 2)], 0, 144), ([(2, 10), (4, 11)], 0, 144), ([(2, 10), (6, 13)], 0, 144)] : VSP), wkT Γ M (α 0) q.1) ∧ Q490 g (vsv M (α 0) ([(0, 1)], 0, 2)) (vsv M (α 0) ([(0, 1), (2, 2)], 0, 144)) (vsv M (α 0) ([(2, 10), (4, 11)], 0, 144)) (vsv M (α 0) ([(2, 10), (6, 13)], 0, 144)) (ρ 1 + 0) := hP _ (List.mem_of_getElem? (i := 2) rfl)
  have h3 : Γ (α 0) = 38 ∧ ∃ b, M.2.2.2.1 (α 0) 0 = some b ∧ Γ b = 1 ∧ edP (M.2.2.2.2 b 0) (M.2.2.2.2 b 1) (ρ 1 + 0) := hP _ (List.mem_of_getElem? (i := 3) rfl)
  try simp only [Int.add_zero] at h0 h1 h2 h3
  have key : (1 ≤ ρ 1 ∧ ρ 1 ≤ 0) ∧ True := by
    try simp only [Int.add_zero]
    have dm0 := wdim hT g0
    have rc0 := rc_bd dm0.1 dm0.2
    obtain ⟨-, -, p0⟩ := h0
    dsimp only [Q489] at p0
    obtain ⟨-, -, p1⟩ := h1
    dsimp only [Q485] at p1
    obtain ⟨-, -, p2⟩ := h2
    dsimp only [Q490] at p2
    refine ⟨?_, trivial⟩
    · exfalso
      obtain ⟨-, b, q1, q2, q3⟩ := h3
      have e0 : (vsv M (α 0) ([(0, 1)], 0, 2)) 0 = M.2.2.2.2 b 0 := (congrFun (vsvS q1) 0).trans (vs0 (by decide) (by decide))
      have e1 : (vsv M (α 0) ([(0, 1)], 0, 2)) 1 = M.2.2.2.2 b 1 := (congrFun (vsvS q1) 1).trans (vs0 (by decide) (by decide))
      rw [← e0, ← e1] at q3
      have c : ((ρ 1).toNat : Int) = ρ 1 := by omega
      have := p0 (ρ 1).toNat (by rw [c]; exact q3) p1.2
      rw [c] at this
      exact p2.2.2 (this p2.2.1.1 p2.2.1.2)
  exact ⟨qB (key.1) (nB), nB⟩
def t_nnhw : KT := ((0, 0, 0, 0), [(2, 0, 38, 0), (2, 1, 1, 0)], [(0, 0), (0, 0)], [(495, [(2, 0, 38, 0)]), (11, [(2, 0, 38, 0), (0, 0, 0, 0), (2, 1, 1, 0)])], (0, 0, 0), [], [], ([], [(500, [(2, 1, 1, 0)])]), ([], []))
set_option maxRecDepth 100000 in
theorem l_nnhw (g : GG) : LOK Yt (PSt g) t_nnhw := by
  intro ρ α Γ M as hT hB hA hP
  have g0 : Γ (α 0) = 38 := tyAt hA (i := 0) rfl
  have g1 : Γ (α 1) = 1 := tyAt hA (i := 1) rfl
  have h0 : Γ (α 0) = 38 ∧ (∀ q ∈ ([([(0, 1), (4, 4)], 0, 144)] : VSP), wkT Γ M (α 0) q.1) ∧ Q495 g (vsv M (α 0) ([(0, 1), (4, 4)], 0, 144))  := hP _ (List.mem_of_getElem? (i := 0) rfl)
  have h1 : 0 ≤ (0 : Int) ∧ M.2.2.2.1 (α 0) (0 : Int).toNat = some (α 1) := hP _ (List.mem_of_getElem? (i := 1) rfl)
  try simp only [Int.add_zero] at h0 h1
  have key : (Γ (α 1) = 1 ∧ (∀ q ∈ ([([(4, 4)], 0, 144)] : VSP), wkT Γ M (α 1) q.1) ∧ Q500 g (vsv M (α 1) ([(4, 4)], 0, 144)) ) ∧ True := by
    try simp only [Int.add_zero]
    have dm0 := wdim hT g0
    have rc0 := rc_bd dm0.1 dm0.2
    have dm1 := cdim hT g1
    have rc1 := rc_bd dm1.1 dm1.2
    obtain ⟨-, -, p0⟩ := h0
    dsimp only [Q495] at p0
    have e1 : M.2.2.2.1 (α 0) 0 = some (α 1) := h1.2
    refine ⟨⟨g1, pic1 hT g1 (by decide) (by decide), ?_⟩, trivial⟩
    · dsimp only [Q500]
      rw [← (vsvS e1 : (vsv M (α 0) ([(0, 1), (4, 4)], 0, 144)) = (vsv M (α 1) ([(4, 4)], 0, 144)))]
      exact p0
  exact ⟨nB, qB (key.1) (nB)⟩
def t_nbn_0 : KT := ((0, 0, 0, 0), [(2, 0, 10, 0), (2, 1, 1, 0), (1, 2, 0, 0), (1, 3, 0, 0)], [(0, 0), (0, 0), (-1, -1), (0, 0)], [], (0, 0, 0), [], [], ([], [(476, [(2, 0, 10, 0), (2, 1, 1, 0), (1, 2, 0, 0), (1, 3, 0, 0)])]), ([], []))
set_option maxRecDepth 100000 in
theorem l_nbn_0 (g : GG) : LOK Yt (PSt g) t_nbn_0 := by
  intro ρ α Γ M as hT hB hA hP
  have g0 : Γ (α 0) = 10 := tyAt hA (i := 0) rfl
  have g1 : Γ (α 1) = 1 := tyAt hA (i := 1) rfl
  have b2 : -1 ≤ ρ 2 ∧ ρ 2 ≤ -1 := hB 2
  have b3 : 0 ≤ ρ 3 ∧ ρ 3 ≤ 0 := hB 3
  have key : (Γ (α 0) = 10 ∧ (∀ q ∈ ([([(6, 13)], 0, 144)] : VSP), wkT Γ M (α 0) q.1) ∧ Γ (α 1) = 1 ∧ (∀ q ∈ ([([], 0, 2)] : VSP), wkT Γ M (α 1) q.1) ∧ Q476 g (vsv M (α 0) ([(6, 13)], 0, 144)) (vsv M (α 1) ([], 0, 2)) (ρ 2 + 0) (ρ 3 + 0)) ∧ True := by
    try simp only [Int.add_zero]
    have dm1 := cdim hT g1
    have rc1 := rc_bd dm1.1 dm1.2
    refine ⟨⟨g0, pic1 hT g0 (by decide) (by decide), g1, pic1 hT g1 (by decide) (by decide), ?_⟩, trivial⟩
    · dsimp only [Q476]
      exact Or.inl ⟨by omega, fun j hj => by omega⟩
  exact ⟨nB, qB (key.1) (nB)⟩
def t_nbn_1 : KT := ((0, 0, 0, 0), [(2, 0, 10, 0), (2, 1, 1, 0), (1, 2, 0, 0), (1, 3, 0, 0)], [(0, 0), (0, 0), (-2147483648, 2147483647), (0, 143)], [(476, [(2, 0, 10, 0), (2, 1, 1, 0), (1, 2, 0, 0), (1, 3, 0, 0)]), (586, [(2, 0, 10, 0), (1, 3, 0, 0)])], (0, 0, 0), [], [], ([], [(476, [(2, 0, 10, 0), (2, 1, 1, 0), (1, 2, 0, 0), (1, 3, 0, 1)])]), ([], []))
set_option maxRecDepth 100000 in
theorem l_nbn_1 (g : GG) : LOK Yt (PSt g) t_nbn_1 := by
  intro ρ α Γ M as hT hB hA hP
  have g0 : Γ (α 0) = 10 := tyAt hA (i := 0) rfl
  have g1 : Γ (α 1) = 1 := tyAt hA (i := 1) rfl
  have b2 : -2147483648 ≤ ρ 2 ∧ ρ 2 ≤ 2147483647 := hB 2
  have b3 : 0 ≤ ρ 3 ∧ ρ 3 ≤ 143 := hB 3
  have h0 : Γ (α 0) = 10 ∧ (∀ q ∈ ([([(6, 13)], 0, 144)] : VSP), wkT Γ M (α 0) q.1) ∧ Γ (α 1) = 1 ∧ (∀ q ∈ ([([], 0, 2)] : VSP), wkT Γ M (α 1) q.1) ∧ Q476 g (vsv M (α 0) ([(6, 13)], 0, 144)) (vsv M (α 1) ([], 0, 2)) (ρ 2 + 0) (ρ 3 + 0) := hP _ (List.mem_of_getElem? (i := 0) rfl)
  have h1 : Γ (α 0) = 10 ∧ (∀ q ∈ ([([(6, 13)], 0, 144)] : VSP), wkT Γ M (α 0) q.1) ∧ Q586 g (vsv M (α 0) ([(6, 13)], 0, 144)) (ρ 3 + 0) := hP _ (List.mem_of_getElem? (i := 1) rfl)
  try simp only [Int.add_zero] at h0 h1
  have key : (Γ (α 0) = 10 ∧ (∀ q ∈ ([([(6, 13)], 0, 144)] : VSP), wkT Γ M (α 0) q.1) ∧ Γ (α 1) = 1 ∧ (∀ q ∈ ([([], 0, 2)] : VSP), wkT Γ M (α 1) q.1) ∧ Q476 g (vsv M (α 0) ([(6, 13)], 0, 144)) (vsv M (α 1) ([], 0, 2)) (ρ 2 + 0) (ρ 3 + 1)) ∧ True := by
    try simp only [Int.add_zero]
    have dm1 := cdim hT g1
    have rc1 := rc_bd dm1.1 dm1.2
    obtain ⟨-, -, -, -, p0⟩ := h0
    dsimp only [Q476] at p0
    obtain ⟨-, -, p1⟩ := h1
    dsimp only [Q586] at p1
    refine ⟨⟨g0, pic1 hT g0 (by decide) (by decide), g1, pic1 hT g1 (by decide) (by decide), ?_⟩, trivial⟩
    · dsimp only [Q476]
      refine p0.imp (fun q => ⟨q.1, fun j hj => ?_⟩) id
      by_cases h : (j : Int) < ρ 3
      · exact q.2 j h
      · rw [show j = (ρ 3).toNat by omega]
        exact p1.2
  exact ⟨nB, qB (key.1) (nB)⟩
def t_nbn_2 : KT := ((0, 0, 0, 0), [(2, 0, 10, 0), (2, 1, 1, 0), (1, 2, 0, 0), (1, 3, 0, 0)], [(0, 0), (0, 0), (0, 143), (0, 143)], [(476, [(2, 0, 10, 0), (2, 1, 1, 0), (1, 2, 0, 0), (1, 3, 0, 0)])], (0, 0, 0), [], [], ([], [(476, [(2, 0, 10, 0), (2, 1, 1, 0), (1, 2, 0, 0), (1, 3, 0, 1)])]), ([], []))
set_option maxRecDepth 100000 in
theorem l_nbn_2 (g : GG) : LOK Yt (PSt g) t_nbn_2 := by
  intro ρ α Γ M as hT hB hA hP
  have g0 : Γ (α 0) = 10 := tyAt hA (i := 0) rfl
  have g1 : Γ (α 1) = 1 := tyAt hA (i := 1) rfl
  have b2 : 0 ≤ ρ 2 ∧ ρ 2 ≤ 143 := hB 2
  have b3 : 0 ≤ ρ 3 ∧ ρ 3 ≤ 143 := hB 3
  have h0 : Γ (α 0) = 10 ∧ (∀ q ∈ ([([(6, 13)], 0, 144)] : VSP), wkT Γ M (α 0) q.1) ∧ Γ (α 1) = 1 ∧ (∀ q ∈ ([([], 0, 2)] : VSP), wkT Γ M (α 1) q.1) ∧ Q476 g (vsv M (α 0) ([(6, 13)], 0, 144)) (vsv M (α 1) ([], 0, 2)) (ρ 2 + 0) (ρ 3 + 0) := hP _ (List.mem_of_getElem? (i := 0) rfl)
  try simp only [Int.add_zero] at h0
  have key : (Γ (α 0) = 10 ∧ (∀ q ∈ ([([(6, 13)], 0, 144)] : VSP), wkT Γ M (α 0) q.1) ∧ Γ (α 1) = 1 ∧ (∀ q ∈ ([([], 0, 2)] : VSP), wkT Γ M (α 1) q.1) ∧ Q476 g (vsv M (α 0) ([(6, 13)], 0, 144)) (vsv M (α 1) ([], 0, 2)) (ρ 2 + 0) (ρ 3 + 1)) ∧ True := by
    try simp only [Int.add_zero]
    have dm1 := cdim hT g1
    have rc1 := rc_bd dm1.1 dm1.2
    obtain ⟨-, -, -, -, p0⟩ := h0
    dsimp only [Q476] at p0
    refine ⟨⟨g0, pic1 hT g0 (by decide) (by decide), g1, pic1 hT g1 (by decide) (by decide), ?_⟩, trivial⟩
    · dsimp only [Q476]
      refine p0.imp (fun q => absurd q.1 (by omega)) id
  exact ⟨nB, qB (key.1) (nB)⟩
def t_nbn_3 : KT := ((0, 0, 0, 0), [(2, 0, 10, 0), (2, 1, 1, 0), (1, 2, 0, 0)], [(0, 0), (0, 0), (0, 143)], [(587, [(2, 0, 10, 0), (1, 2, 0, 0)]), (2, [(2, 1, 1, 0), (1, 2, 0, 0)])], (0, 0, 0), [], [], ([], [(476, [(2, 0, 10, 0), (2, 1, 1, 0), (1, 2, 0, 0), (1, 2, 0, 1)])]), ([], []))
set_option maxRecDepth 100000 in
theorem l_nbn_3 (g : GG) : LOK Yt (PSt g) t_nbn_3 := by
  intro ρ α Γ M as hT hB hA hP
  have g0 : Γ (α 0) = 10 := tyAt hA (i := 0) rfl
  have g1 : Γ (α 1) = 1 := tyAt hA (i := 1) rfl
  have b2 : 0 ≤ ρ 2 ∧ ρ 2 ≤ 143 := hB 2
  have h0 : Γ (α 0) = 10 ∧ (∀ q ∈ ([([(6, 13)], 0, 144)] : VSP), wkT Γ M (α 0) q.1) ∧ Q587 g (vsv M (α 0) ([(6, 13)], 0, 144)) (ρ 2 + 0) := hP _ (List.mem_of_getElem? (i := 0) rfl)
  have h1 : Γ (α 1) = 1 ∧ 0 ≤ ρ 2 + 0 ∧ ρ 2 + 0 < M.2.2.2.2 (α 1) 0 * M.2.2.2.2 (α 1) 1 := hP _ (List.mem_of_getElem? (i := 1) rfl)
  try simp only [Int.add_zero] at h0 h1
  have key : (Γ (α 0) = 10 ∧ (∀ q ∈ ([([(6, 13)], 0, 144)] : VSP), wkT Γ M (α 0) q.1) ∧ Γ (α 1) = 1 ∧ (∀ q ∈ ([([], 0, 2)] : VSP), wkT Γ M (α 1) q.1) ∧ Q476 g (vsv M (α 0) ([(6, 13)], 0, 144)) (vsv M (α 1) ([], 0, 2)) (ρ 2 + 0) (ρ 2 + 1)) ∧ True := by
    try simp only [Int.add_zero]
    have dm1 := cdim hT g1
    have rc1 := rc_bd dm1.1 dm1.2
    obtain ⟨-, -, p0⟩ := h0
    dsimp only [Q587] at p0
    have m0 : (vsv M (α 1) ([], 0, 2)) 0 = M.2.2.2.2 (α 1) 0 := vs0 (by decide) (by decide)
    have m1 : (vsv M (α 1) ([], 0, 2)) 1 = M.2.2.2.2 (α 1) 1 := vs0 (by decide) (by decide)
    refine ⟨⟨g0, pic1 hT g0 (by decide) (by decide), g1, pic1 hT g1 (by decide) (by decide), ?_⟩, trivial⟩
    · dsimp only [Q476]
      exact Or.inr ⟨⟨b2.1, by rw [m0, m1]; exact h1.2.2⟩, p0.2⟩
  exact ⟨nB, qB (key.1) (nB)⟩
def t_nbn_4 : KT := ((0, 0, 0, 0), [(2, 0, 10, 0), (2, 1, 1, 0), (1, 2, 0, 0), (1, 3, 0, 0), (1, 4, 0, 0)], [(0, 0), (0, 0), (-2147483648, 2147483647), (-2147483648, 2147483647), (-2147483648, 2147483647)], [(476, [(2, 0, 10, 0), (2, 1, 1, 0), (1, 2, 0, 0), (1, 3, 0, 0)]), (5, [(2, 1, 1, 0), (1, 4, 0, 0)]), (6, [(1, 4, 0, 0), (1, 3, 0, 0)])], (0, 0, 0), [], [], ([], [(477, [(2, 0, 10, 0), (2, 1, 1, 0), (1, 2, 0, 0)])]), ([], []))
set_option maxRecDepth 100000 in
theorem l_nbn_4 (g : GG) : LOK Yt (PSt g) t_nbn_4 := by
  intro ρ α Γ M as hT hB hA hP
  have g0 : Γ (α 0) = 10 := tyAt hA (i := 0) rfl
  have g1 : Γ (α 1) = 1 := tyAt hA (i := 1) rfl
  have b2 : -2147483648 ≤ ρ 2 ∧ ρ 2 ≤ 2147483647 := hB 2
  have b3 : -2147483648 ≤ ρ 3 ∧ ρ 3 ≤ 2147483647 := hB 3
  have b4 : -2147483648 ≤ ρ 4 ∧ ρ 4 ≤ 2147483647 := hB 4
  have h0 : Γ (α 0) = 10 ∧ (∀ q ∈ ([([(6, 13)], 0, 144)] : VSP), wkT Γ M (α 0) q.1) ∧ Γ (α 1) = 1 ∧ (∀ q ∈ ([([], 0, 2)] : VSP), wkT Γ M (α 1) q.1) ∧ Q476 g (vsv M (α 0) ([(6, 13)], 0, 144)) (vsv M (α 1) ([], 0, 2)) (ρ 2 + 0) (ρ 3 + 0) := hP _ (List.mem_of_getElem? (i := 0) rfl)
  have h1 : Γ (α 1) = 1 ∧ ρ 4 + 0 = M.2.2.2.2 (α 1) 0 * M.2.2.2.2 (α 1) 1 := hP _ (List.mem_of_getElem? (i := 1) rfl)
  have h2 : ρ 4 + 0 ≤ ρ 3 + 0 := hP _ (List.mem_of_getElem? (i := 2) rfl)
  try simp only [Int.add_zero] at h0 h1 h2
  have key : (Γ (α 0) = 10 ∧ (∀ q ∈ ([([(6, 13)], 0, 144)] : VSP), wkT Γ M (α 0) q.1) ∧ Γ (α 1) = 1 ∧ (∀ q ∈ ([([], 0, 2)] : VSP), wkT Γ M (α 1) q.1) ∧ Q477 g (vsv M (α 0) ([(6, 13)], 0, 144)) (vsv M (α 1) ([], 0, 2)) (ρ 2 + 0)) ∧ True := by
    try simp only [Int.add_zero]
    have dm1 := cdim hT g1
    have rc1 := rc_bd dm1.1 dm1.2
    obtain ⟨-, -, -, -, p0⟩ := h0
    dsimp only [Q476] at p0
    have m0 : (vsv M (α 1) ([], 0, 2)) 0 = M.2.2.2.2 (α 1) 0 := vs0 (by decide) (by decide)
    have m1 : (vsv M (α 1) ([], 0, 2)) 1 = M.2.2.2.2 (α 1) 1 := vs0 (by decide) (by decide)
    refine ⟨⟨g0, pic1 hT g0 (by decide) (by decide), g1, pic1 hT g1 (by decide) (by decide), ?_⟩, trivial⟩
    · dsimp only [Q477]
      have h1 := h1.2
      rw [← m0, ← m1] at h1
      exact p0.imp (fun q => ⟨q.1, fun j hj => q.2 j (by omega)⟩) id
  exact ⟨nB, qB (key.1) (nB)⟩
def t_nfw_1 : KT := ((0, 0, 0, 0), [(2, 0, 10, 0), (2, 1, 1, 0), (1, 2, 0, 0), (1, 3, 0, 0), (2, 4, 11, 0), (1, 5, 0, 0), (1, 6, 0, 0), (1, 7, 0, 0)], [(0, 0), (0, 0), (0, 143), (0, 143), (0, 0), (-2147483648, 2147483647), (-127, 127), (-2147483648, 2147483647)], [(460, [(2, 0, 10, 0), (2, 1, 1, 0)]), (461, [(2, 0, 10, 0), (2, 1, 1, 0), (1, 2, 0, 0), (1, 3, 0, 0)]), (11, [(2, 0, 10, 0), (0, 0, 0, 4), (2, 4, 11, 0)]), (10, [(2, 4, 11, 0), (1, 2, 0, 0), (1, 5, 0, 0)]), (501, [(2, 1, 1, 0), (1, 2, 0, 0), (1, 3, 0, 0), (1, 6, 0, 0)]), (23, [(1, 5, 0, 0), (1, 6, 0, 0), (1, 7, 0, 0)])], (0, 0, 0), [], [], ([], [(623, [(2, 4, 11, 0), (1, 3, 0, 0), (2, 0, 10, 0), (2, 1, 1, 0), (1, 2, 0, 0), (1, 7, 0, 0)])]), ([], []))
set_option maxRecDepth 100000 in
theorem l_nfw_1 (g : GG) : LOK Yt (PSt g) t_nfw_1 := by
  intro ρ α Γ M as hT hB hA hP
  have g0 : Γ (α 0) = 10 := tyAt hA (i := 0) rfl
  have g1 : Γ (α 1) = 1 := tyAt hA (i := 1) rfl
  have b2 : 0 ≤ ρ 2 ∧ ρ 2 ≤ 143 := hB 2
  have b3 : 0 ≤ ρ 3 ∧ ρ 3 ≤ 143 := hB 3
  have g4 : Γ (α 4) = 11 := tyAt hA (i := 4) rfl
  have b5 : -2147483648 ≤ ρ 5 ∧ ρ 5 ≤ 2147483647 := hB 5
  have b6 : -127 ≤ ρ 6 ∧ ρ 6 ≤ 127 := hB 6
  have b7 : -2147483648 ≤ ρ 7 ∧ ρ 7 ≤ 2147483647 := hB 7
  have h0 : Γ (α 0) = 10 ∧ (∀ q ∈ ([([], 2, 3), ([], 3, 4), ([(4, 11)], 0, 144), ([(5, 12)], 0, 144), ([(6, 13)], 0, 144), ([(7, 14)], 0, 144), ([(8, 15)], 0, 144)] : VSP), wkT Γ M (α 0) q.1) ∧ Γ (α 1) = 1 ∧ (∀ q ∈ ([([], 0, 2), ([(2, 2)], 0, 144)] : VSP), wkT Γ M (α 1) q.1) ∧ Q460 g (vsv M (α 0) ([], 2, 3)) (vsv M (α 0) ([], 3, 4)) (vsv M (α 0) ([(4, 11)], 0, 144)) (vsv M (α 0) ([(5, 12)], 0, 144)) (vsv M (α 0) ([(6, 13)], 0, 144)) (vsv M (α 0) ([(7, 14)], 0, 144)) (vsv M (α 0) ([(8, 15)], 0, 144)) (vsv M (α 1) ([], 0, 2)) (vsv M (α 1) ([(2, 2)], 0, 144))  := hP _ (List.mem_of_getElem? (i := 0) rfl)
  have h1 : Γ (α 0) = 10 ∧ (∀ q ∈ ([([(6, 13)], 0, 144)] : VSP), wkT Γ M (α 0) q.1) ∧ Γ (α 1) = 1 ∧ (∀ q ∈ ([([], 0, 2)] : VSP), wkT Γ M (α 1) q.1) ∧ Q461 g (vsv M (α 0) ([(6, 13)], 0, 144)) (vsv M (α 1) ([], 0, 2)) (ρ 2 + 0) (ρ 3 + 0) := hP _ (List.mem_of_getElem? (i := 1) rfl)
  have h2 : 0 ≤ (4 : Int) ∧ M.2.2.2.1 (α 0) (4 : Int).toNat = some (α 4) := hP _ (List.mem_of_getElem? (i := 2) rfl)
  have h3 : 0 ≤ (ρ 2 + 0 : Int) ∧ M.2.2.2.2 (α 4) (ρ 2 + 0 : Int).toNat = ρ 5 + 0 := hP _ (List.mem_of_getElem? (i := 3) rfl)
  have h4 : Γ (α 1) = 1 ∧ (∀ q ∈ ([([(2, 2)], 0, 144)] : VSP), wkT Γ M (α 1) q.1) ∧ Q501 g (vsv M (α 1) ([(2, 2)], 0, 144)) (ρ 2 + 0) (ρ 3 + 0) (ρ 6 + 0) := hP _ (List.mem_of_getElem? (i := 4) rfl)
  have h5 : ρ 7 + 0 = wI ((ρ 5 + 0) + (ρ 6 + 0)) := hP _ (List.mem_of_getElem? (i := 5) rfl)
  try simp only [Int.add_zero] at h0 h1 h2 h3 h4 h5
  have key : (Γ (α 4) = 11 ∧ wlk M (α 0) [(4, 11)] = (α 4) ∧ wkT Γ M (α 0) [(4, 11)] ∧ Γ (α 0) = 10 ∧ (∀ q ∈ ([([], 2, 3), ([], 3, 4), ([(5, 12)], 0, 144), ([(6, 13)], 0, 144), ([(7, 14)], 0, 144), ([(8, 15)], 0, 144)] : VSP), wkT Γ M (α 0) q.1) ∧ Γ (α 1) = 1 ∧ (∀ q ∈ ([([], 0, 2), ([(2, 2)], 0, 144)] : VSP), wkT Γ M (α 1) q.1) ∧ Q623 g (hcl [vi (ρ 3 + 0)] (clp [(0, 144)] (M.2.2.2.2 (α 4)))) (ρ 3 + 0) (vsv M (α 0) ([], 2, 3)) (vsv M (α 0) ([], 3, 4)) (vsv M (α 0) ([(5, 12)], 0, 144)) (vsv M (α 0) ([(6, 13)], 0, 144)) (vsv M (α 0) ([(7, 14)], 0, 144)) (vsv M (α 0) ([(8, 15)], 0, 144)) (vsv M (α 1) ([], 0, 2)) (vsv M (α 1) ([(2, 2)], 0, 144)) (ρ 2 + 0) (ρ 7 + 0)) ∧ True := by
    try simp only [Int.add_zero]
    have dm1 := cdim hT g1
    have rc1 := rc_bd dm1.1 dm1.2
    obtain ⟨-, -, -, -, p0⟩ := h0
    dsimp only [Q460] at p0
    obtain ⟨-, -, -, -, p1⟩ := h1
    dsimp only [Q461] at p1
    have e2 : M.2.2.2.1 (α 0) 4 = some (α 4) := h2.2
    have e3 : M.2.2.2.2 (α 4) (ρ 2).toNat = ρ 5 := h3.2
    obtain ⟨-, -, p4⟩ := h4
    dsimp only [Q501] at p4
    refine ⟨⟨g4, (fl_eq e2), wk1 e2 g4, g0, pic1 hT g0 (by decide) (by decide), g1, pic1 hT g1 (by decide) (by decide), ?_⟩, trivial⟩
    · dsimp only [Q623]
      obtain ⟨⟨v0, q0⟩, ⟨l1, l2⟩, l3⟩ := p1
      have hq := lk_lt (by omega) l3
      have bd := flI_bd (by omega) p0
      have hb := bd.2.2 (ρ 2).toNat hq.1 l1
      have hv : (vsv M (α 0) ([(4, 11)], 0, 144)) (ρ 2).toNat = ρ 5 := (vs1 e2 (Nat.zero_le _) (by omega)).trans e3
      rw [hv] at hb
      rw [wI_id (by unfold inI; omega)] at h5
      refine ⟨⟨⟨v0, q0⟩, ⟨l1, l2⟩, l3⟩, ?_, ?_⟩
      · rw [hlc (by omega), cAll (by omega), e3, h5]
        show _ = stA _ _ _
        unfold stA
        rw [← p4]
        omega
      · exact flI_c (by omega) (by omega) (fun _ _ => Iff.rfl) (fun _ _ => rfl) (fun p hp hl => ⟨by rw [hlc (fun e => hl (by rw [show p = (ρ 3).toNat by omega]; exact l2)), vsv1 e2], rfl, rfl⟩) (fun p hp => rfl) (fun i hi => rfl) p0
  exact ⟨nB, qB (key.1) (nB)⟩
def t_nfw_2 : KT := ((0, 0, 0, 0), [(2, 0, 10, 0), (2, 1, 1, 0), (1, 2, 0, 0), (1, 3, 0, 0), (2, 4, 11, 0), (1, 5, 0, 0)], [(0, 0), (0, 0), (0, 143), (0, 143), (0, 0), (-2147483648, 2147483647)], [(623, [(2, 4, 11, 0), (1, 3, 0, 0), (2, 0, 10, 0), (2, 1, 1, 0), (1, 2, 0, 0), (1, 5, 0, 0)]), (11, [(2, 0, 10, 0), (0, 0, 0, 4), (2, 4, 11, 0)]), (10, [(2, 4, 11, 0), (1, 3, 0, 0), (1, 5, 0, 0)])], (0, 0, 0), [], [], ([], [(466, [(2, 0, 10, 0), (2, 1, 1, 0), (1, 2, 0, 0), (1, 3, 0, 0)])]), ([], []))
set_option maxRecDepth 100000 in
theorem l_nfw_2 (g : GG) : LOK Yt (PSt g) t_nfw_2 := by
  intro ρ α Γ M as hT hB hA hP
  have g0 : Γ (α 0) = 10 := tyAt hA (i := 0) rfl
  have g1 : Γ (α 1) = 1 := tyAt hA (i := 1) rfl
  have b2 : 0 ≤ ρ 2 ∧ ρ 2 ≤ 143 := hB 2
  have b3 : 0 ≤ ρ 3 ∧ ρ 3 ≤ 143 := hB 3
  have g4 : Γ (α 4) = 11 := tyAt hA (i := 4) rfl
  have b5 : -2147483648 ≤ ρ 5 ∧ ρ 5 ≤ 2147483647 := hB 5
  have h0 : Γ (α 4) = 11 ∧ wlk M (α 0) [(4, 11)] = (α 4) ∧ wkT Γ M (α 0) [(4, 11)] ∧ Γ (α 0) = 10 ∧ (∀ q ∈ ([([], 2, 3), ([], 3, 4), ([(5, 12)], 0, 144), ([(6, 13)], 0, 144), ([(7, 14)], 0, 144), ([(8, 15)], 0, 144)] : VSP), wkT Γ M (α 0) q.1) ∧ Γ (α 1) = 1 ∧ (∀ q ∈ ([([], 0, 2), ([(2, 2)], 0, 144)] : VSP), wkT Γ M (α 1) q.1) ∧ Q623 g (hcl [vi (ρ 3 + 0)] (clp [(0, 144)] (M.2.2.2.2 (α 4)))) (ρ 3 + 0) (vsv M (α 0) ([], 2, 3)) (vsv M (α 0) ([], 3, 4)) (vsv M (α 0) ([(5, 12)], 0, 144)) (vsv M (α 0) ([(6, 13)], 0, 144)) (vsv M (α 0) ([(7, 14)], 0, 144)) (vsv M (α 0) ([(8, 15)], 0, 144)) (vsv M (α 1) ([], 0, 2)) (vsv M (α 1) ([(2, 2)], 0, 144)) (ρ 2 + 0) (ρ 5 + 0) := hP _ (List.mem_of_getElem? (i := 0) rfl)
  have h1 : 0 ≤ (4 : Int) ∧ M.2.2.2.1 (α 0) (4 : Int).toNat = some (α 4) := hP _ (List.mem_of_getElem? (i := 1) rfl)
  have h2 : 0 ≤ (ρ 3 + 0 : Int) ∧ M.2.2.2.2 (α 4) (ρ 3 + 0 : Int).toNat = ρ 5 + 0 := hP _ (List.mem_of_getElem? (i := 2) rfl)
  try simp only [Int.add_zero] at h0 h1 h2
  have key : (Γ (α 0) = 10 ∧ (∀ q ∈ ([([], 2, 3), ([], 3, 4), ([(4, 11)], 0, 144), ([(5, 12)], 0, 144), ([(6, 13)], 0, 144), ([(7, 14)], 0, 144), ([(8, 15)], 0, 144)] : VSP), wkT Γ M (α 0) q.1) ∧ Γ (α 1) = 1 ∧ (∀ q ∈ ([([], 0, 2), ([(2, 2)], 0, 144)] : VSP), wkT Γ M (α 1) q.1) ∧ Q466 g (vsv M (α 0) ([], 2, 3)) (vsv M (α 0) ([], 3, 4)) (vsv M (α 0) ([(4, 11)], 0, 144)) (vsv M (α 0) ([(5, 12)], 0, 144)) (vsv M (α 0) ([(6, 13)], 0, 144)) (vsv M (α 0) ([(7, 14)], 0, 144)) (vsv M (α 0) ([(8, 15)], 0, 144)) (vsv M (α 1) ([], 0, 2)) (vsv M (α 1) ([(2, 2)], 0, 144)) (ρ 2 + 0) (ρ 3 + 0)) ∧ True := by
    try simp only [Int.add_zero]
    have dm1 := cdim hT g1
    have rc1 := rc_bd dm1.1 dm1.2
    obtain ⟨-, -, -, -, -, -, -, p0⟩ := h0
    dsimp only [Q623] at p0
    have e1 : M.2.2.2.1 (α 0) 4 = some (α 4) := h1.2
    have e2 : M.2.2.2.2 (α 4) (ρ 3).toNat = ρ 5 := h2.2
    refine ⟨⟨g0, pic1 hT g0 (by decide) (by decide), g1, pic1 hT g1 (by decide) (by decide), ?_⟩, trivial⟩
    · dsimp only [Q466]
      obtain ⟨⟨q0, ⟨l1, l2⟩, l3⟩, hw, f⟩ := p0
      have hq := lk_lt (by omega) l3
      rw [hlc (by omega), cAll (by omega)] at hw
      refine ⟨⟨q0, ⟨l1, l2⟩, l3⟩, ?_, flI_c (by omega) (by omega) (fun _ _ => Iff.rfl) (fun _ _ => rfl) (fun p hp hl => ⟨by rw [hlc (fun e => hl (by rw [show p = (ρ 3).toNat by omega]; exact l2)), vsv1 e1], rfl, rfl⟩) (fun p hp => rfl) (fun i hi => rfl) f⟩
      rw [vsv1 e1, cAll (by omega), cAll (by omega), e2]
      exact hw
  exact ⟨nB, qB (key.1) (nB)⟩
def t_nfw_3 : KT := ((0, 0, 0, 0), [(2, 0, 10, 0), (2, 1, 1, 0), (1, 2, 0, 0), (1, 3, 0, 0), (2, 4, 12, 0)], [(0, 0), (0, 0), (0, 143), (0, 143), (0, 0)], [(466, [(2, 0, 10, 0), (2, 1, 1, 0), (1, 2, 0, 0), (1, 3, 0, 0)]), (11, [(2, 0, 10, 0), (0, 0, 0, 5), (2, 4, 12, 0)])], (0, 0, 0), [], [], ([], [(624, [(2, 4, 12, 0), (1, 3, 0, 0), (2, 0, 10, 0), (2, 1, 1, 0), (1, 2, 0, 0)])]), ([], []))
set_option maxRecDepth 100000 in
theorem l_nfw_3 (g : GG) : LOK Yt (PSt g) t_nfw_3 := by
  intro ρ α Γ M as hT hB hA hP
  have g0 : Γ (α 0) = 10 := tyAt hA (i := 0) rfl
  have g1 : Γ (α 1) = 1 := tyAt hA (i := 1) rfl
  have b2 : 0 ≤ ρ 2 ∧ ρ 2 ≤ 143 := hB 2
  have b3 : 0 ≤ ρ 3 ∧ ρ 3 ≤ 143 := hB 3
  have g4 : Γ (α 4) = 12 := tyAt hA (i := 4) rfl
  have h0 : Γ (α 0) = 10 ∧ (∀ q ∈ ([([], 2, 3), ([], 3, 4), ([(4, 11)], 0, 144), ([(5, 12)], 0, 144), ([(6, 13)], 0, 144), ([(7, 14)], 0, 144), ([(8, 15)], 0, 144)] : VSP), wkT Γ M (α 0) q.1) ∧ Γ (α 1) = 1 ∧ (∀ q ∈ ([([], 0, 2), ([(2, 2)], 0, 144)] : VSP), wkT Γ M (α 1) q.1) ∧ Q466 g (vsv M (α 0) ([], 2, 3)) (vsv M (α 0) ([], 3, 4)) (vsv M (α 0) ([(4, 11)], 0, 144)) (vsv M (α 0) ([(5, 12)], 0, 144)) (vsv M (α 0) ([(6, 13)], 0, 144)) (vsv M (α 0) ([(7, 14)], 0, 144)) (vsv M (α 0) ([(8, 15)], 0, 144)) (vsv M (α 1) ([], 0, 2)) (vsv M (α 1) ([(2, 2)], 0, 144)) (ρ 2 + 0) (ρ 3 + 0) := hP _ (List.mem_of_getElem? (i := 0) rfl)
  have h1 : 0 ≤ (5 : Int) ∧ M.2.2.2.1 (α 0) (5 : Int).toNat = some (α 4) := hP _ (List.mem_of_getElem? (i := 1) rfl)
  try simp only [Int.add_zero] at h0 h1
  have key : (Γ (α 4) = 12 ∧ wlk M (α 0) [(5, 12)] = (α 4) ∧ wkT Γ M (α 0) [(5, 12)] ∧ Γ (α 0) = 10 ∧ (∀ q ∈ ([([], 2, 3), ([], 3, 4), ([(4, 11)], 0, 144), ([(6, 13)], 0, 144), ([(7, 14)], 0, 144), ([(8, 15)], 0, 144)] : VSP), wkT Γ M (α 0) q.1) ∧ Γ (α 1) = 1 ∧ (∀ q ∈ ([([], 0, 2), ([(2, 2)], 0, 144)] : VSP), wkT Γ M (α 1) q.1) ∧ Q624 g (hcl [vi (ρ 3 + 0)] (clp [(0, 144)] (M.2.2.2.2 (α 4)))) (ρ 3 + 0) (vsv M (α 0) ([], 2, 3)) (vsv M (α 0) ([], 3, 4)) (vsv M (α 0) ([(4, 11)], 0, 144)) (vsv M (α 0) ([(6, 13)], 0, 144)) (vsv M (α 0) ([(7, 14)], 0, 144)) (vsv M (α 0) ([(8, 15)], 0, 144)) (vsv M (α 1) ([], 0, 2)) (vsv M (α 1) ([(2, 2)], 0, 144)) (ρ 2 + 0)) ∧ True := by
    try simp only [Int.add_zero]
    have dm1 := cdim hT g1
    have rc1 := rc_bd dm1.1 dm1.2
    obtain ⟨-, -, -, -, p0⟩ := h0
    dsimp only [Q466] at p0
    have e1 : M.2.2.2.1 (α 0) 5 = some (α 4) := h1.2
    refine ⟨⟨g4, (fl_eq e1), wk1 e1 g4, g0, pic1 hT g0 (by decide) (by decide), g1, pic1 hT g1 (by decide) (by decide), ?_⟩, trivial⟩
    · dsimp only [Q624]
      obtain ⟨⟨q0, ⟨l1, l2⟩, l3⟩, hw, f⟩ := p0
      exact ⟨⟨q0, ⟨l1, l2⟩, l3⟩, hw, flI_c (by omega) (by omega) (fun _ _ => Iff.rfl) (fun _ _ => rfl) (fun p hp hl => ⟨rfl, by rw [hlc (fun e => hl (by rw [show p = (ρ 3).toNat by omega]; exact l2)), vsv1 e1], rfl⟩) (fun p hp => rfl) (fun i hi => rfl) f⟩
  exact ⟨nB, qB (key.1) (nB)⟩
def t_nfw_4 : KT := ((0, 0, 0, 0), [(2, 0, 10, 0), (2, 1, 1, 0), (1, 2, 0, 0), (1, 3, 0, 0), (2, 4, 12, 0)], [(0, 0), (0, 0), (0, 143), (0, 143), (0, 0)], [(624, [(2, 4, 12, 0), (1, 3, 0, 0), (2, 0, 10, 0), (2, 1, 1, 0), (1, 2, 0, 0)]), (11, [(2, 0, 10, 0), (0, 0, 0, 5), (2, 4, 12, 0)]), (10, [(2, 4, 12, 0), (1, 3, 0, 0), (1, 2, 0, 0)])], (0, 0, 0), [], [], ([], [(467, [(2, 0, 10, 0), (2, 1, 1, 0), (1, 2, 0, 0), (1, 3, 0, 0)])]), ([], []))
set_option maxRecDepth 100000 in
theorem l_nfw_4 (g : GG) : LOK Yt (PSt g) t_nfw_4 := by
  intro ρ α Γ M as hT hB hA hP
  have g0 : Γ (α 0) = 10 := tyAt hA (i := 0) rfl
  have g1 : Γ (α 1) = 1 := tyAt hA (i := 1) rfl
  have b2 : 0 ≤ ρ 2 ∧ ρ 2 ≤ 143 := hB 2
  have b3 : 0 ≤ ρ 3 ∧ ρ 3 ≤ 143 := hB 3
  have g4 : Γ (α 4) = 12 := tyAt hA (i := 4) rfl
  have h0 : Γ (α 4) = 12 ∧ wlk M (α 0) [(5, 12)] = (α 4) ∧ wkT Γ M (α 0) [(5, 12)] ∧ Γ (α 0) = 10 ∧ (∀ q ∈ ([([], 2, 3), ([], 3, 4), ([(4, 11)], 0, 144), ([(6, 13)], 0, 144), ([(7, 14)], 0, 144), ([(8, 15)], 0, 144)] : VSP), wkT Γ M (α 0) q.1) ∧ Γ (α 1) = 1 ∧ (∀ q ∈ ([([], 0, 2), ([(2, 2)], 0, 144)] : VSP), wkT Γ M (α 1) q.1) ∧ Q624 g (hcl [vi (ρ 3 + 0)] (clp [(0, 144)] (M.2.2.2.2 (α 4)))) (ρ 3 + 0) (vsv M (α 0) ([], 2, 3)) (vsv M (α 0) ([], 3, 4)) (vsv M (α 0) ([(4, 11)], 0, 144)) (vsv M (α 0) ([(6, 13)], 0, 144)) (vsv M (α 0) ([(7, 14)], 0, 144)) (vsv M (α 0) ([(8, 15)], 0, 144)) (vsv M (α 1) ([], 0, 2)) (vsv M (α 1) ([(2, 2)], 0, 144)) (ρ 2 + 0) := hP _ (List.mem_of_getElem? (i := 0) rfl)
  have h1 : 0 ≤ (5 : Int) ∧ M.2.2.2.1 (α 0) (5 : Int).toNat = some (α 4) := hP _ (List.mem_of_getElem? (i := 1) rfl)
  have h2 : 0 ≤ (ρ 3 + 0 : Int) ∧ M.2.2.2.2 (α 4) (ρ 3 + 0 : Int).toNat = ρ 2 + 0 := hP _ (List.mem_of_getElem? (i := 2) rfl)
  try simp only [Int.add_zero] at h0 h1 h2
  have key : (Γ (α 0) = 10 ∧ (∀ q ∈ ([([], 2, 3), ([], 3, 4), ([(4, 11)], 0, 144), ([(5, 12)], 0, 144), ([(6, 13)], 0, 144), ([(7, 14)], 0, 144), ([(8, 15)], 0, 144)] : VSP), wkT Γ M (α 0) q.1) ∧ Γ (α 1) = 1 ∧ (∀ q ∈ ([([], 0, 2), ([(2, 2)], 0, 144)] : VSP), wkT Γ M (α 1) q.1) ∧ Q467 g (vsv M (α 0) ([], 2, 3)) (vsv M (α 0) ([], 3, 4)) (vsv M (α 0) ([(4, 11)], 0, 144)) (vsv M (α 0) ([(5, 12)], 0, 144)) (vsv M (α 0) ([(6, 13)], 0, 144)) (vsv M (α 0) ([(7, 14)], 0, 144)) (vsv M (α 0) ([(8, 15)], 0, 144)) (vsv M (α 1) ([], 0, 2)) (vsv M (α 1) ([(2, 2)], 0, 144)) (ρ 2 + 0) (ρ 3 + 0)) ∧ True := by
    try simp only [Int.add_zero]
    have dm1 := cdim hT g1
    have rc1 := rc_bd dm1.1 dm1.2
    obtain ⟨-, -, -, -, -, -, -, p0⟩ := h0
    dsimp only [Q624] at p0
    have e1 : M.2.2.2.1 (α 0) 5 = some (α 4) := h1.2
    have e2 : M.2.2.2.2 (α 4) (ρ 3).toNat = ρ 2 := h2.2
    refine ⟨⟨g0, pic1 hT g0 (by decide) (by decide), g1, pic1 hT g1 (by decide) (by decide), ?_⟩, trivial⟩
    · dsimp only [Q467]
      obtain ⟨⟨q0, ⟨l1, l2⟩, l3⟩, hw, f⟩ := p0
      refine ⟨⟨q0, ⟨l1, l2⟩, l3⟩, ⟨?_, hw⟩, flI_c (by omega) (by omega) (fun _ _ => Iff.rfl) (fun _ _ => rfl) (fun p hp hl => ⟨rfl, by rw [hlc (fun e => hl (by rw [show p = (ρ 3).toNat by omega]; exact l2)), vsv1 e1], rfl⟩) (fun p hp => rfl) (fun i hi => rfl) f⟩
      rw [vsv1 e1, cAll (by omega)]
      exact e2
  exact ⟨nB, qB (key.1) (nB)⟩
def t_nfw_5 : KT := ((0, 0, 0, 0), [(2, 0, 10, 0), (2, 1, 1, 0), (1, 2, 0, 0), (1, 3, 0, 0), (2, 4, 13, 0), (1, 5, 0, 0)], [(0, 0), (0, 0), (0, 143), (0, 143), (0, 0), (-2147483648, 2147483647)], [(467, [(2, 0, 10, 0), (2, 1, 1, 0), (1, 2, 0, 0), (1, 3, 0, 0)]), (11, [(2, 0, 10, 0), (0, 0, 0, 6), (2, 4, 13, 0)]), (10, [(2, 4, 13, 0), (1, 2, 0, 0), (1, 5, 0, 0)]), (463, [(2, 0, 10, 0), (2, 1, 1, 0)])], (0, 0, 0), [], [], ([], [(625, [(2, 4, 13, 0), (1, 3, 0, 0), (2, 0, 10, 0), (2, 1, 1, 0), (1, 2, 0, 0), (1, 5, 0, 0)]), (626, [(2, 4, 13, 0), (1, 3, 0, 0), (2, 0, 10, 0), (2, 1, 1, 0)])]), ([], []))
set_option maxRecDepth 100000 in
theorem l_nfw_5 (g : GG) : LOK Yt (PSt g) t_nfw_5 := by
  intro ρ α Γ M as hT hB hA hP
  have g0 : Γ (α 0) = 10 := tyAt hA (i := 0) rfl
  have g1 : Γ (α 1) = 1 := tyAt hA (i := 1) rfl
  have b2 : 0 ≤ ρ 2 ∧ ρ 2 ≤ 143 := hB 2
  have b3 : 0 ≤ ρ 3 ∧ ρ 3 ≤ 143 := hB 3
  have g4 : Γ (α 4) = 13 := tyAt hA (i := 4) rfl
  have b5 : -2147483648 ≤ ρ 5 ∧ ρ 5 ≤ 2147483647 := hB 5
  have h0 : Γ (α 0) = 10 ∧ (∀ q ∈ ([([], 2, 3), ([], 3, 4), ([(4, 11)], 0, 144), ([(5, 12)], 0, 144), ([(6, 13)], 0, 144), ([(7, 14)], 0, 144), ([(8, 15)], 0, 144)] : VSP), wkT Γ M (α 0) q.1) ∧ Γ (α 1) = 1 ∧ (∀ q ∈ ([([], 0, 2), ([(2, 2)], 0, 144)] : VSP), wkT Γ M (α 1) q.1) ∧ Q467 g (vsv M (α 0) ([], 2, 3)) (vsv M (α 0) ([], 3, 4)) (vsv M (α 0) ([(4, 11)], 0, 144)) (vsv M (α 0) ([(5, 12)], 0, 144)) (vsv M (α 0) ([(6, 13)], 0, 144)) (vsv M (α 0) ([(7, 14)], 0, 144)) (vsv M (α 0) ([(8, 15)], 0, 144)) (vsv M (α 1) ([], 0, 2)) (vsv M (α 1) ([(2, 2)], 0, 144)) (ρ 2 + 0) (ρ 3 + 0) := hP _ (List.mem_of_getElem? (i := 0) rfl)
  have h1 : 0 ≤ (6 : Int) ∧ M.2.2.2.1 (α 0) (6 : Int).toNat = some (α 4) := hP _ (List.mem_of_getElem? (i := 1) rfl)
  have h2 : 0 ≤ (ρ 2 + 0 : Int) ∧ M.2.2.2.2 (α 4) (ρ 2 + 0 : Int).toNat = ρ 5 + 0 := hP _ (List.mem_of_getElem? (i := 2) rfl)
  have h3 : Γ (α 0) = 10 ∧ (∀ q ∈ ([([(6, 13)], 0, 144)] : VSP), wkT Γ M (α 0) q.1) ∧ Γ (α 1) = 1 ∧ (∀ q ∈ ([([], 0, 2)] : VSP), wkT Γ M (α 1) q.1) ∧ Q463 g (vsv M (α 0) ([(6, 13)], 0, 144)) (vsv M (α 1) ([], 0, 2))  := hP _ (List.mem_of_getElem? (i := 3) rfl)
  try simp only [Int.add_zero] at h0 h1 h2 h3
  have key : (Γ (α 4) = 13 ∧ wlk M (α 0) [(6, 13)] = (α 4) ∧ wkT Γ M (α 0) [(6, 13)] ∧ Γ (α 0) = 10 ∧ (∀ q ∈ ([([], 2, 3), ([], 3, 4), ([(4, 11)], 0, 144), ([(5, 12)], 0, 144), ([(7, 14)], 0, 144), ([(8, 15)], 0, 144)] : VSP), wkT Γ M (α 0) q.1) ∧ Γ (α 1) = 1 ∧ (∀ q ∈ ([([], 0, 2), ([(2, 2)], 0, 144)] : VSP), wkT Γ M (α 1) q.1) ∧ Q625 g (hcl [vi (ρ 3 + 0)] (clp [(0, 144)] (M.2.2.2.2 (α 4)))) (ρ 3 + 0) (vsv M (α 0) ([], 2, 3)) (vsv M (α 0) ([], 3, 4)) (vsv M (α 0) ([(4, 11)], 0, 144)) (vsv M (α 0) ([(5, 12)], 0, 144)) (vsv M (α 0) ([(7, 14)], 0, 144)) (vsv M (α 0) ([(8, 15)], 0, 144)) (vsv M (α 1) ([], 0, 2)) (vsv M (α 1) ([(2, 2)], 0, 144)) (ρ 2 + 0) (ρ 5 + 0)) ∧ (Γ (α 4) = 13 ∧ wlk M (α 0) [(6, 13)] = (α 4) ∧ wkT Γ M (α 0) [(6, 13)] ∧ Γ (α 0) = 10 ∧ (∀ q ∈ ([] : VSP), wkT Γ M (α 0) q.1) ∧ Γ (α 1) = 1 ∧ (∀ q ∈ ([([], 0, 2)] : VSP), wkT Γ M (α 1) q.1) ∧ Q626 g (hcl [vi (ρ 3 + 0)] (clp [(0, 144)] (M.2.2.2.2 (α 4)))) (ρ 3 + 0) (vsv M (α 1) ([], 0, 2)) ) ∧ True := by
    try simp only [Int.add_zero]
    have dm1 := cdim hT g1
    have rc1 := rc_bd dm1.1 dm1.2
    obtain ⟨-, -, -, -, p0⟩ := h0
    dsimp only [Q467] at p0
    have e1 : M.2.2.2.1 (α 0) 6 = some (α 4) := h1.2
    have e2 : M.2.2.2.2 (α 4) (ρ 2).toNat = ρ 5 := h2.2
    obtain ⟨-, -, -, -, p3⟩ := h3
    dsimp only [Q463] at p3
    refine ⟨⟨g4, (fl_eq e1), wk1 e1 g4, g0, pic1 hT g0 (by decide) (by decide), g1, pic1 hT g1 (by decide) (by decide), ?_⟩, ⟨g4, (fl_eq e1), wk1 e1 g4, g0, pic1 hT g0 (by decide) (by decide), g1, pic1 hT g1 (by decide) (by decide), ?_⟩, trivial⟩
    · dsimp only [Q625]
      obtain ⟨⟨⟨v0, q0⟩, ⟨l1, l2⟩, l3⟩, hw, f⟩ := p0
      have hq := lk_lt (by omega) l3
      have sv : (vsv M (α 0) ([(6, 13)], 0, 144)) (ρ 2).toNat = ρ 5 := (vs1 e1 (Nat.zero_le _) (by omega)).trans e2
      refine ⟨⟨⟨v0, q0⟩, ⟨?_, by rw [← sv]; exact l1, by omega⟩, l3⟩, hw, ?_⟩
      · rw [hlc (by omega), cAll (by omega)]
        exact e2
      · rw [hlU b3.1 (by rw [← vsv1 (t := 13) e1]; exact l2), ← vsv1 (t := 13) e1]
        exact f
    · dsimp only [Q626]
      obtain ⟨⟨⟨v0, q0⟩, -⟩, -⟩ := p0
      obtain ⟨s1, s2, s3⟩ := p3
      exact ⟨s1, s2, q0, fun j hj hne => by
        rw [hlc hne, ← vsv1 (t := 13) e1]
        exact s3 j hj⟩
  exact ⟨nB, qB (key.1) (qB (key.2.1) (nB))⟩
def t_nfw_6 : KT := ((0, 0, 0, 0), [(2, 0, 10, 0), (2, 1, 1, 0), (1, 2, 0, 0), (1, 3, 0, 0), (2, 4, 13, 0), (1, 5, 0, 0)], [(0, 0), (0, 0), (0, 143), (0, 143), (0, 0), (-2147483648, 2147483647)], [(625, [(2, 4, 13, 0), (1, 3, 0, 0), (2, 0, 10, 0), (2, 1, 1, 0), (1, 2, 0, 0), (1, 5, 0, 0)]), (626, [(2, 4, 13, 0), (1, 3, 0, 0), (2, 0, 10, 0), (2, 1, 1, 0)]), (11, [(2, 0, 10, 0), (0, 0, 0, 6), (2, 4, 13, 0)]), (10, [(2, 4, 13, 0), (1, 3, 0, 0), (1, 5, 0, 0)])], (0, 0, 0), [], [], ([], [(465, [(2, 0, 10, 0), (2, 1, 1, 0), (1, 3, 0, 0)]), (462, [(2, 0, 10, 0), (2, 1, 1, 0), (1, 3, 0, 0)])]), ([], []))
set_option maxRecDepth 100000 in
theorem l_nfw_6 (g : GG) : LOK Yt (PSt g) t_nfw_6 := by
  intro ρ α Γ M as hT hB hA hP
  have g0 : Γ (α 0) = 10 := tyAt hA (i := 0) rfl
  have g1 : Γ (α 1) = 1 := tyAt hA (i := 1) rfl
  have b2 : 0 ≤ ρ 2 ∧ ρ 2 ≤ 143 := hB 2
  have b3 : 0 ≤ ρ 3 ∧ ρ 3 ≤ 143 := hB 3
  have g4 : Γ (α 4) = 13 := tyAt hA (i := 4) rfl
  have b5 : -2147483648 ≤ ρ 5 ∧ ρ 5 ≤ 2147483647 := hB 5
  have h0 : Γ (α 4) = 13 ∧ wlk M (α 0) [(6, 13)] = (α 4) ∧ wkT Γ M (α 0) [(6, 13)] ∧ Γ (α 0) = 10 ∧ (∀ q ∈ ([([], 2, 3), ([], 3, 4), ([(4, 11)], 0, 144), ([(5, 12)], 0, 144), ([(7, 14)], 0, 144), ([(8, 15)], 0, 144)] : VSP), wkT Γ M (α 0) q.1) ∧ Γ (α 1) = 1 ∧ (∀ q ∈ ([([], 0, 2), ([(2, 2)], 0, 144)] : VSP), wkT Γ M (α 1) q.1) ∧ Q625 g (hcl [vi (ρ 3 + 0)] (clp [(0, 144)] (M.2.2.2.2 (α 4)))) (ρ 3 + 0) (vsv M (α 0) ([], 2, 3)) (vsv M (α 0) ([], 3, 4)) (vsv M (α 0) ([(4, 11)], 0, 144)) (vsv M (α 0) ([(5, 12)], 0, 144)) (vsv M (α 0) ([(7, 14)], 0, 144)) (vsv M (α 0) ([(8, 15)], 0, 144)) (vsv M (α 1) ([], 0, 2)) (vsv M (α 1) ([(2, 2)], 0, 144)) (ρ 2 + 0) (ρ 5 + 0) := hP _ (List.mem_of_getElem? (i := 0) rfl)
  have h1 : Γ (α 4) = 13 ∧ wlk M (α 0) [(6, 13)] = (α 4) ∧ wkT Γ M (α 0) [(6, 13)] ∧ Γ (α 0) = 10 ∧ (∀ q ∈ ([] : VSP), wkT Γ M (α 0) q.1) ∧ Γ (α 1) = 1 ∧ (∀ q ∈ ([([], 0, 2)] : VSP), wkT Γ M (α 1) q.1) ∧ Q626 g (hcl [vi (ρ 3 + 0)] (clp [(0, 144)] (M.2.2.2.2 (α 4)))) (ρ 3 + 0) (vsv M (α 1) ([], 0, 2))  := hP _ (List.mem_of_getElem? (i := 1) rfl)
  have h2 : 0 ≤ (6 : Int) ∧ M.2.2.2.1 (α 0) (6 : Int).toNat = some (α 4) := hP _ (List.mem_of_getElem? (i := 2) rfl)
  have h3 : 0 ≤ (ρ 3 + 0 : Int) ∧ M.2.2.2.2 (α 4) (ρ 3 + 0 : Int).toNat = ρ 5 + 0 := hP _ (List.mem_of_getElem? (i := 3) rfl)
  try simp only [Int.add_zero] at h0 h1 h2 h3
  have key : (Γ (α 0) = 10 ∧ (∀ q ∈ ([([], 2, 3), ([], 3, 4), ([(4, 11)], 0, 144), ([(5, 12)], 0, 144), ([(6, 13)], 0, 144), ([(7, 14)], 0, 144), ([(8, 15)], 0, 144)] : VSP), wkT Γ M (α 0) q.1) ∧ Γ (α 1) = 1 ∧ (∀ q ∈ ([([], 0, 2), ([(2, 2)], 0, 144)] : VSP), wkT Γ M (α 1) q.1) ∧ Q465 g (vsv M (α 0) ([], 2, 3)) (vsv M (α 0) ([], 3, 4)) (vsv M (α 0) ([(4, 11)], 0, 144)) (vsv M (α 0) ([(5, 12)], 0, 144)) (vsv M (α 0) ([(6, 13)], 0, 144)) (vsv M (α 0) ([(7, 14)], 0, 144)) (vsv M (α 0) ([(8, 15)], 0, 144)) (vsv M (α 1) ([], 0, 2)) (vsv M (α 1) ([(2, 2)], 0, 144)) (ρ 3 + 0)) ∧ (Γ (α 0) = 10 ∧ (∀ q ∈ ([([(6, 13)], 0, 144)] : VSP), wkT Γ M (α 0) q.1) ∧ Γ (α 1) = 1 ∧ (∀ q ∈ ([([], 0, 2)] : VSP), wkT Γ M (α 1) q.1) ∧ Q462 g (vsv M (α 0) ([(6, 13)], 0, 144)) (vsv M (α 1) ([], 0, 2)) (ρ 3 + 0)) ∧ True := by
    try simp only [Int.add_zero]
    have dm1 := cdim hT g1
    have rc1 := rc_bd dm1.1 dm1.2
    obtain ⟨-, -, -, -, -, -, -, p0⟩ := h0
    dsimp only [Q625] at p0
    obtain ⟨-, -, -, -, -, -, -, p1⟩ := h1
    dsimp only [Q626] at p1
    have e2 : M.2.2.2.1 (α 0) 6 = some (α 4) := h2.2
    have e3 : M.2.2.2.2 (α 4) (ρ 3).toNat = ρ 5 := h3.2
    obtain ⟨⟨⟨v0, q0⟩, ⟨l1, l2, l4⟩, l3⟩, ⟨w1, w2⟩, f⟩ := p0
    have hq := lk_lt (by omega) l3
    have c : ((ρ 3).toNat : Int) = ρ 3 := by omega
    have s3 : (vsv M (α 0) ([(6, 13)], 0, 144)) (ρ 3).toNat = ρ 5 := (vs1 e2 (Nat.zero_le _) (by omega)).trans e3
    have s2 : (vsv M (α 0) ([(6, 13)], 0, 144)) (ρ 2).toNat = ρ 5 := by
      rw [hlc (by omega), cAll (by omega)] at l1
      exact (vs1 e2 (Nat.zero_le _) (by omega)).trans l1
    refine ⟨⟨g0, pic1 hT g0 (by decide) (by decide), g1, pic1 hT g1 (by decide) (by decide), ?_⟩, ⟨g0, pic1 hT g0 (by decide) (by decide), g1, pic1 hT g1 (by decide) (by decide), ?_⟩, trivial⟩
    · dsimp only [Q465]
      refine ⟨q0, ⟨by omega, by rw [s3]; exact l2⟩, Or.inl ⟨?_, (ρ 2).toNat, by rw [w1]; omega, l3, by rw [s2, s3], w2⟩⟩
      rw [c, ← hlX, vsv1 e2]
      exact f
    · dsimp only [Q462]
      obtain ⟨r1, r2, -, r3⟩ := p1
      refine ⟨r1, r2, ⟨q0, by rw [s3]; exact l2⟩, fun j hj hne => ?_⟩
      have := r3 j hj hne
      rw [hlc hne, ← vsv1 (t := 13) e2] at this
      exact this
  exact ⟨nB, qB (key.1) (qB (key.2.1) (nB))⟩
def t_nop_0 : KT := ((0, 0, 0, 0), [(2, 0, 1, 0), (2, 1, 2, 0), (1, 2, 0, 0), (1, 3, 0, 0)], [(0, 0), (0, 0), (0, 143), (-2147483648, 2147483647)], [(11, [(2, 0, 1, 0), (0, 0, 0, 2), (2, 1, 2, 0)]), (10, [(2, 1, 2, 0), (1, 2, 0, 0), (1, 3, 0, 0)])], (0, 0, 0), [], [], ([], [(492, [(2, 0, 1, 0), (1, 2, 0, 0), (1, 3, 0, 0)])]), ([], []))
set_option maxRecDepth 100000 in
theorem l_nop_0 (g : GG) : LOK Yt (PSt g) t_nop_0 := by
  intro ρ α Γ M as hT hB hA hP
  have g0 : Γ (α 0) = 1 := tyAt hA (i := 0) rfl
  have g1 : Γ (α 1) = 2 := tyAt hA (i := 1) rfl
  have b2 : 0 ≤ ρ 2 ∧ ρ 2 ≤ 143 := hB 2
  have b3 : -2147483648 ≤ ρ 3 ∧ ρ 3 ≤ 2147483647 := hB 3
  have h0 : 0 ≤ (2 : Int) ∧ M.2.2.2.1 (α 0) (2 : Int).toNat = some (α 1) := hP _ (List.mem_of_getElem? (i := 0) rfl)
  have h1 : 0 ≤ (ρ 2 + 0 : Int) ∧ M.2.2.2.2 (α 1) (ρ 2 + 0 : Int).toNat = ρ 3 + 0 := hP _ (List.mem_of_getElem? (i := 1) rfl)
  try simp only [Int.add_zero] at h0 h1
  have key : (Γ (α 0) = 1 ∧ (∀ q ∈ ([([(2, 2)], 0, 144)] : VSP), wkT Γ M (α 0) q.1) ∧ Q492 g (vsv M (α 0) ([(2, 2)], 0, 144)) (ρ 2 + 0) (ρ 3 + 0)) ∧ True := by
    try simp only [Int.add_zero]
    have dm0 := cdim hT g0
    have rc0 := rc_bd dm0.1 dm0.2
    have e0 : M.2.2.2.1 (α 0) 2 = some (α 1) := h0.2
    have e1 : M.2.2.2.2 (α 1) (ρ 2).toNat = ρ 3 := h1.2
    refine ⟨⟨g0, pic1 hT g0 (by decide) (by decide), ?_⟩, trivial⟩
    · dsimp only [Q492]
      exact ⟨⟨b2.1, by omega⟩, (vs1 e0 (Nat.zero_le _) (by omega)).trans e1⟩
  exact ⟨nB, qB (key.1) (nB)⟩
def t_nop_1 : KT := ((0, 0, 0, 0), [(2, 0, 10, 0), (2, 1, 1, 0), (1, 2, 0, 0), (2, 3, 11, 0)], [(0, 0), (0, 0), (0, 143), (0, 0)], [(460, [(2, 0, 10, 0), (2, 1, 1, 0)]), (468, [(2, 0, 10, 0), (2, 1, 1, 0)]), (469, [(2, 0, 10, 0), (2, 1, 1, 0), (1, 2, 0, 0)]), (11, [(2, 0, 10, 0), (0, 0, 0, 4), (2, 3, 11, 0)])], (0, 0, 0), [], [], ([], [(627, [(2, 3, 11, 0), (1, 2, 0, 0), (2, 0, 10, 0), (2, 1, 1, 0)])]), ([], []))
set_option maxRecDepth 100000 in
theorem l_nop_1 (g : GG) : LOK Yt (PSt g) t_nop_1 := by
  intro ρ α Γ M as hT hB hA hP
  have g0 : Γ (α 0) = 10 := tyAt hA (i := 0) rfl
  have g1 : Γ (α 1) = 1 := tyAt hA (i := 1) rfl
  have b2 : 0 ≤ ρ 2 ∧ ρ 2 ≤ 143 := hB 2
  have g3 : Γ (α 3) = 11 := tyAt hA (i := 3) rfl
  have h0 : Γ (α 0) = 10 ∧ (∀ q ∈ ([([], 2, 3), ([], 3, 4), ([(4, 11)], 0, 144), ([(5, 12)], 0, 144), ([(6, 13)], 0, 144), ([(7, 14)], 0, 144), ([(8, 15)], 0, 144)] : VSP), wkT Γ M (α 0) q.1) ∧ Γ (α 1) = 1 ∧ (∀ q ∈ ([([], 0, 2), ([(2, 2)], 0, 144)] : VSP), wkT Γ M (α 1) q.1) ∧ Q460 g (vsv M (α 0) ([], 2, 3)) (vsv M (α 0) ([], 3, 4)) (vsv M (α 0) ([(4, 11)], 0, 144)) (vsv M (α 0) ([(5, 12)], 0, 144)) (vsv M (α 0) ([(6, 13)], 0, 144)) (vsv M (α 0) ([(7, 14)], 0, 144)) (vsv M (α 0) ([(8, 15)], 0, 144)) (vsv M (α 1) ([], 0, 2)) (vsv M (α 1) ([(2, 2)], 0, 144))  := hP _ (List.mem_of_getElem? (i := 0) rfl)
  have h1 : Γ (α 0) = 10 ∧ (∀ q ∈ ([([(6, 13)], 0, 144)] : VSP), wkT Γ M (α 0) q.1) ∧ Γ (α 1) = 1 ∧ (∀ q ∈ ([([], 0, 2)] : VSP), wkT Γ M (α 1) q.1) ∧ Q468 g (vsv M (α 0) ([(6, 13)], 0, 144)) (vsv M (α 1) ([], 0, 2))  := hP _ (List.mem_of_getElem? (i := 1) rfl)
  have h2 : Γ (α 0) = 10 ∧ (∀ q ∈ ([([(6, 13)], 0, 144)] : VSP), wkT Γ M (α 0) q.1) ∧ Γ (α 1) = 1 ∧ (∀ q ∈ ([([], 0, 2)] : VSP), wkT Γ M (α 1) q.1) ∧ Q469 g (vsv M (α 0) ([(6, 13)], 0, 144)) (vsv M (α 1) ([], 0, 2)) (ρ 2 + 0) := hP _ (List.mem_of_getElem? (i := 2) rfl)
  have h3 : 0 ≤ (4 : Int) ∧ M.2.2.2.1 (α 0) (4 : Int).toNat = some (α 3) := hP _ (List.mem_of_getElem? (i := 3) rfl)
  try simp only [Int.add_zero] at h0 h1 h2 h3
  have key : (Γ (α 3) = 11 ∧ wlk M (α 0) [(4, 11)] = (α 3) ∧ wkT Γ M (α 0) [(4, 11)] ∧ Γ (α 0) = 10 ∧ (∀ q ∈ ([([], 2, 3), ([], 3, 4), ([(5, 12)], 0, 144), ([(6, 13)], 0, 144), ([(7, 14)], 0, 144), ([(8, 15)], 0, 144)] : VSP), wkT Γ M (α 0) q.1) ∧ Γ (α 1) = 1 ∧ (∀ q ∈ ([([], 0, 2), ([(2, 2)], 0, 144)] : VSP), wkT Γ M (α 1) q.1) ∧ Q627 g (hcl [vi (ρ 2 + 0)] (clp [(0, 144)] (M.2.2.2.2 (α 3)))) (ρ 2 + 0) (vsv M (α 0) ([], 2, 3)) (vsv M (α 0) ([], 3, 4)) (vsv M (α 0) ([(5, 12)], 0, 144)) (vsv M (α 0) ([(6, 13)], 0, 144)) (vsv M (α 0) ([(7, 14)], 0, 144)) (vsv M (α 0) ([(8, 15)], 0, 144)) (vsv M (α 1) ([], 0, 2)) (vsv M (α 1) ([(2, 2)], 0, 144)) ) ∧ True := by
    try simp only [Int.add_zero]
    have dm1 := cdim hT g1
    have rc1 := rc_bd dm1.1 dm1.2
    obtain ⟨-, -, -, -, p0⟩ := h0
    dsimp only [Q460] at p0
    obtain ⟨-, -, -, -, p1⟩ := h1
    dsimp only [Q468] at p1
    obtain ⟨-, -, -, -, p2⟩ := h2
    dsimp only [Q469] at p2
    have e3 : M.2.2.2.1 (α 0) 4 = some (α 3) := h3.2
    refine ⟨⟨g3, (fl_eq e3), wk1 e3 g3, g0, pic1 hT g0 (by decide) (by decide), g1, pic1 hT g1 (by decide) (by decide), ?_⟩, trivial⟩
    · dsimp only [Q627]
      refine ⟨⟨p2.1, p1⟩, p2.2, flI_c (by omega) (by omega) (fun _ _ => Iff.rfl) (fun _ _ => rfl) (fun p hp hl => ⟨by rw [hlc (fun e => hl (by rw [show p = (ρ 2).toNat by omega]; exact p2.2)), vsv1 e3], rfl, rfl⟩) (fun p hp => rfl) (fun i hi => rfl) p0⟩
  exact ⟨nB, qB (key.1) (nB)⟩
def t_nop_2 : KT := ((0, 0, 0, 0), [(2, 0, 10, 0), (2, 1, 1, 0), (1, 2, 0, 0), (2, 3, 11, 0), (1, 4, 0, 0)], [(0, 0), (0, 0), (0, 143), (0, 0), (-2147483648, 2147483647)], [(627, [(2, 3, 11, 0), (1, 2, 0, 0), (2, 0, 10, 0), (2, 1, 1, 0)]), (11, [(2, 0, 10, 0), (0, 0, 0, 4), (2, 3, 11, 0)]), (10, [(2, 3, 11, 0), (1, 2, 0, 0), (1, 4, 0, 0)]), (492, [(2, 1, 1, 0), (1, 2, 0, 0), (1, 4, 0, 0)])], (0, 0, 0), [], [], ([], [(470, [(2, 0, 10, 0), (2, 1, 1, 0), (1, 2, 0, 0)])]), ([], []))
set_option maxRecDepth 100000 in
theorem l_nop_2 (g : GG) : LOK Yt (PSt g) t_nop_2 := by
  intro ρ α Γ M as hT hB hA hP
  have g0 : Γ (α 0) = 10 := tyAt hA (i := 0) rfl
  have g1 : Γ (α 1) = 1 := tyAt hA (i := 1) rfl
  have b2 : 0 ≤ ρ 2 ∧ ρ 2 ≤ 143 := hB 2
  have g3 : Γ (α 3) = 11 := tyAt hA (i := 3) rfl
  have b4 : -2147483648 ≤ ρ 4 ∧ ρ 4 ≤ 2147483647 := hB 4
  have h0 : Γ (α 3) = 11 ∧ wlk M (α 0) [(4, 11)] = (α 3) ∧ wkT Γ M (α 0) [(4, 11)] ∧ Γ (α 0) = 10 ∧ (∀ q ∈ ([([], 2, 3), ([], 3, 4), ([(5, 12)], 0, 144), ([(6, 13)], 0, 144), ([(7, 14)], 0, 144), ([(8, 15)], 0, 144)] : VSP), wkT Γ M (α 0) q.1) ∧ Γ (α 1) = 1 ∧ (∀ q ∈ ([([], 0, 2), ([(2, 2)], 0, 144)] : VSP), wkT Γ M (α 1) q.1) ∧ Q627 g (hcl [vi (ρ 2 + 0)] (clp [(0, 144)] (M.2.2.2.2 (α 3)))) (ρ 2 + 0) (vsv M (α 0) ([], 2, 3)) (vsv M (α 0) ([], 3, 4)) (vsv M (α 0) ([(5, 12)], 0, 144)) (vsv M (α 0) ([(6, 13)], 0, 144)) (vsv M (α 0) ([(7, 14)], 0, 144)) (vsv M (α 0) ([(8, 15)], 0, 144)) (vsv M (α 1) ([], 0, 2)) (vsv M (α 1) ([(2, 2)], 0, 144))  := hP _ (List.mem_of_getElem? (i := 0) rfl)
  have h1 : 0 ≤ (4 : Int) ∧ M.2.2.2.1 (α 0) (4 : Int).toNat = some (α 3) := hP _ (List.mem_of_getElem? (i := 1) rfl)
  have h2 : 0 ≤ (ρ 2 + 0 : Int) ∧ M.2.2.2.2 (α 3) (ρ 2 + 0 : Int).toNat = ρ 4 + 0 := hP _ (List.mem_of_getElem? (i := 2) rfl)
  have h3 : Γ (α 1) = 1 ∧ (∀ q ∈ ([([(2, 2)], 0, 144)] : VSP), wkT Γ M (α 1) q.1) ∧ Q492 g (vsv M (α 1) ([(2, 2)], 0, 144)) (ρ 2 + 0) (ρ 4 + 0) := hP _ (List.mem_of_getElem? (i := 3) rfl)
  try simp only [Int.add_zero] at h0 h1 h2 h3
  have key : (Γ (α 0) = 10 ∧ (∀ q ∈ ([([], 2, 3), ([], 3, 4), ([(4, 11)], 0, 144), ([(5, 12)], 0, 144), ([(6, 13)], 0, 144), ([(7, 14)], 0, 144), ([(8, 15)], 0, 144)] : VSP), wkT Γ M (α 0) q.1) ∧ Γ (α 1) = 1 ∧ (∀ q ∈ ([([], 0, 2), ([(2, 2)], 0, 144)] : VSP), wkT Γ M (α 1) q.1) ∧ Q470 g (vsv M (α 0) ([], 2, 3)) (vsv M (α 0) ([], 3, 4)) (vsv M (α 0) ([(4, 11)], 0, 144)) (vsv M (α 0) ([(5, 12)], 0, 144)) (vsv M (α 0) ([(6, 13)], 0, 144)) (vsv M (α 0) ([(7, 14)], 0, 144)) (vsv M (α 0) ([(8, 15)], 0, 144)) (vsv M (α 1) ([], 0, 2)) (vsv M (α 1) ([(2, 2)], 0, 144)) (ρ 2 + 0)) ∧ True := by
    try simp only [Int.add_zero]
    have dm1 := cdim hT g1
    have rc1 := rc_bd dm1.1 dm1.2
    obtain ⟨-, -, -, -, -, -, -, p0⟩ := h0
    dsimp only [Q627] at p0
    have e1 : M.2.2.2.1 (α 0) 4 = some (α 3) := h1.2
    have e2 : M.2.2.2.2 (α 3) (ρ 2).toNat = ρ 4 := h2.2
    obtain ⟨-, -, p3⟩ := h3
    dsimp only [Q492] at p3
    refine ⟨⟨g0, pic1 hT g0 (by decide) (by decide), g1, pic1 hT g1 (by decide) (by decide), ?_⟩, trivial⟩
    · dsimp only [Q470]
      obtain ⟨a, l2, f⟩ := p0
      refine ⟨a, ⟨l2, ?_⟩, flI_c (by omega) (by omega) (fun _ _ => Iff.rfl) (fun _ _ => rfl) (fun p hp hl => ⟨by rw [hlc (fun e => hl (by rw [show p = (ρ 2).toNat by omega]; exact l2)), vsv1 e1], rfl, rfl⟩) (fun p hp => rfl) (fun i hi => rfl) f⟩
      rw [p3.2, vsv1 e1, cAll (by omega)]
      exact e2
  exact ⟨nB, qB (key.1) (nB)⟩
def t_nop_3 : KT := ((0, 0, 0, 0), [(2, 0, 10, 0), (2, 1, 1, 0), (1, 2, 0, 0), (2, 3, 12, 0)], [(0, 0), (0, 0), (0, 143), (0, 0)], [(470, [(2, 0, 10, 0), (2, 1, 1, 0), (1, 2, 0, 0)]), (11, [(2, 0, 10, 0), (0, 0, 0, 5), (2, 3, 12, 0)])], (0, 0, 0), [], [], ([], [(628, [(2, 3, 12, 0), (1, 2, 0, 0), (2, 0, 10, 0), (2, 1, 1, 0)])]), ([], []))
set_option maxRecDepth 100000 in
theorem l_nop_3 (g : GG) : LOK Yt (PSt g) t_nop_3 := by
  intro ρ α Γ M as hT hB hA hP
  have g0 : Γ (α 0) = 10 := tyAt hA (i := 0) rfl
  have g1 : Γ (α 1) = 1 := tyAt hA (i := 1) rfl
  have b2 : 0 ≤ ρ 2 ∧ ρ 2 ≤ 143 := hB 2
  have g3 : Γ (α 3) = 12 := tyAt hA (i := 3) rfl
  have h0 : Γ (α 0) = 10 ∧ (∀ q ∈ ([([], 2, 3), ([], 3, 4), ([(4, 11)], 0, 144), ([(5, 12)], 0, 144), ([(6, 13)], 0, 144), ([(7, 14)], 0, 144), ([(8, 15)], 0, 144)] : VSP), wkT Γ M (α 0) q.1) ∧ Γ (α 1) = 1 ∧ (∀ q ∈ ([([], 0, 2), ([(2, 2)], 0, 144)] : VSP), wkT Γ M (α 1) q.1) ∧ Q470 g (vsv M (α 0) ([], 2, 3)) (vsv M (α 0) ([], 3, 4)) (vsv M (α 0) ([(4, 11)], 0, 144)) (vsv M (α 0) ([(5, 12)], 0, 144)) (vsv M (α 0) ([(6, 13)], 0, 144)) (vsv M (α 0) ([(7, 14)], 0, 144)) (vsv M (α 0) ([(8, 15)], 0, 144)) (vsv M (α 1) ([], 0, 2)) (vsv M (α 1) ([(2, 2)], 0, 144)) (ρ 2 + 0) := hP _ (List.mem_of_getElem? (i := 0) rfl)
  have h1 : 0 ≤ (5 : Int) ∧ M.2.2.2.1 (α 0) (5 : Int).toNat = some (α 3) := hP _ (List.mem_of_getElem? (i := 1) rfl)
  try simp only [Int.add_zero] at h0 h1
  have key : (Γ (α 3) = 12 ∧ wlk M (α 0) [(5, 12)] = (α 3) ∧ wkT Γ M (α 0) [(5, 12)] ∧ Γ (α 0) = 10 ∧ (∀ q ∈ ([([], 2, 3), ([], 3, 4), ([(4, 11)], 0, 144), ([(6, 13)], 0, 144), ([(7, 14)], 0, 144), ([(8, 15)], 0, 144)] : VSP), wkT Γ M (α 0) q.1) ∧ Γ (α 1) = 1 ∧ (∀ q ∈ ([([], 0, 2), ([(2, 2)], 0, 144)] : VSP), wkT Γ M (α 1) q.1) ∧ Q628 g (hcl [vi (ρ 2 + 0)] (clp [(0, 144)] (M.2.2.2.2 (α 3)))) (ρ 2 + 0) (vsv M (α 0) ([], 2, 3)) (vsv M (α 0) ([], 3, 4)) (vsv M (α 0) ([(4, 11)], 0, 144)) (vsv M (α 0) ([(6, 13)], 0, 144)) (vsv M (α 0) ([(7, 14)], 0, 144)) (vsv M (α 0) ([(8, 15)], 0, 144)) (vsv M (α 1) ([], 0, 2)) (vsv M (α 1) ([(2, 2)], 0, 144)) ) ∧ True := by
    try simp only [Int.add_zero]
    have dm1 := cdim hT g1
    have rc1 := rc_bd dm1.1 dm1.2
    obtain ⟨-, -, -, -, p0⟩ := h0
    dsimp only [Q470] at p0
    have e1 : M.2.2.2.1 (α 0) 5 = some (α 3) := h1.2
    refine ⟨⟨g3, (fl_eq e1), wk1 e1 g3, g0, pic1 hT g0 (by decide) (by decide), g1, pic1 hT g1 (by decide) (by decide), ?_⟩, trivial⟩
    · dsimp only [Q628]
      obtain ⟨a, ⟨l2, h⟩, f⟩ := p0
      exact ⟨a, ⟨l2, h⟩, flI_c (by omega) (by omega) (fun _ _ => Iff.rfl) (fun _ _ => rfl) (fun p hp hl => ⟨rfl, by rw [hlc (fun e => hl (by rw [show p = (ρ 2).toNat by omega]; exact l2)), vsv1 e1], rfl⟩) (fun p hp => rfl) (fun i hi => rfl) f⟩
  exact ⟨nB, qB (key.1) (nB)⟩
def t_nop_4 : KT := ((0, 0, 0, 0), [(2, 0, 10, 0), (2, 1, 1, 0), (1, 2, 0, 0), (2, 3, 12, 0)], [(0, 0), (0, 0), (0, 143), (0, 0)], [(628, [(2, 3, 12, 0), (1, 2, 0, 0), (2, 0, 10, 0), (2, 1, 1, 0)]), (11, [(2, 0, 10, 0), (0, 0, 0, 5), (2, 3, 12, 0)]), (10, [(2, 3, 12, 0), (1, 2, 0, 0), (0, 0, 0, -1)])], (0, 0, 0), [], [], ([], [(471, [(2, 0, 10, 0), (2, 1, 1, 0), (1, 2, 0, 0)])]), ([], []))
set_option maxRecDepth 100000 in
theorem l_nop_4 (g : GG) : LOK Yt (PSt g) t_nop_4 := by
  intro ρ α Γ M as hT hB hA hP
  have g0 : Γ (α 0) = 10 := tyAt hA (i := 0) rfl
  have g1 : Γ (α 1) = 1 := tyAt hA (i := 1) rfl
  have b2 : 0 ≤ ρ 2 ∧ ρ 2 ≤ 143 := hB 2
  have g3 : Γ (α 3) = 12 := tyAt hA (i := 3) rfl
  have h0 : Γ (α 3) = 12 ∧ wlk M (α 0) [(5, 12)] = (α 3) ∧ wkT Γ M (α 0) [(5, 12)] ∧ Γ (α 0) = 10 ∧ (∀ q ∈ ([([], 2, 3), ([], 3, 4), ([(4, 11)], 0, 144), ([(6, 13)], 0, 144), ([(7, 14)], 0, 144), ([(8, 15)], 0, 144)] : VSP), wkT Γ M (α 0) q.1) ∧ Γ (α 1) = 1 ∧ (∀ q ∈ ([([], 0, 2), ([(2, 2)], 0, 144)] : VSP), wkT Γ M (α 1) q.1) ∧ Q628 g (hcl [vi (ρ 2 + 0)] (clp [(0, 144)] (M.2.2.2.2 (α 3)))) (ρ 2 + 0) (vsv M (α 0) ([], 2, 3)) (vsv M (α 0) ([], 3, 4)) (vsv M (α 0) ([(4, 11)], 0, 144)) (vsv M (α 0) ([(6, 13)], 0, 144)) (vsv M (α 0) ([(7, 14)], 0, 144)) (vsv M (α 0) ([(8, 15)], 0, 144)) (vsv M (α 1) ([], 0, 2)) (vsv M (α 1) ([(2, 2)], 0, 144))  := hP _ (List.mem_of_getElem? (i := 0) rfl)
  have h1 : 0 ≤ (5 : Int) ∧ M.2.2.2.1 (α 0) (5 : Int).toNat = some (α 3) := hP _ (List.mem_of_getElem? (i := 1) rfl)
  have h2 : 0 ≤ (ρ 2 + 0 : Int) ∧ M.2.2.2.2 (α 3) (ρ 2 + 0 : Int).toNat = (-1) := hP _ (List.mem_of_getElem? (i := 2) rfl)
  try simp only [Int.add_zero] at h0 h1 h2
  have key : (Γ (α 0) = 10 ∧ (∀ q ∈ ([([], 2, 3), ([], 3, 4), ([(4, 11)], 0, 144), ([(5, 12)], 0, 144), ([(6, 13)], 0, 144), ([(7, 14)], 0, 144), ([(8, 15)], 0, 144)] : VSP), wkT Γ M (α 0) q.1) ∧ Γ (α 1) = 1 ∧ (∀ q ∈ ([([], 0, 2), ([(2, 2)], 0, 144)] : VSP), wkT Γ M (α 1) q.1) ∧ Q471 g (vsv M (α 0) ([], 2, 3)) (vsv M (α 0) ([], 3, 4)) (vsv M (α 0) ([(4, 11)], 0, 144)) (vsv M (α 0) ([(5, 12)], 0, 144)) (vsv M (α 0) ([(6, 13)], 0, 144)) (vsv M (α 0) ([(7, 14)], 0, 144)) (vsv M (α 0) ([(8, 15)], 0, 144)) (vsv M (α 1) ([], 0, 2)) (vsv M (α 1) ([(2, 2)], 0, 144)) (ρ 2 + 0)) ∧ True := by
    try simp only [Int.add_zero]
    have dm1 := cdim hT g1
    have rc1 := rc_bd dm1.1 dm1.2
    obtain ⟨-, -, -, -, -, -, -, p0⟩ := h0
    dsimp only [Q628] at p0
    have e1 : M.2.2.2.1 (α 0) 5 = some (α 3) := h1.2
    have e2 : M.2.2.2.2 (α 3) (ρ 2).toNat = (-1) := h2.2
    refine ⟨⟨g0, pic1 hT g0 (by decide) (by decide), g1, pic1 hT g1 (by decide) (by decide), ?_⟩, trivial⟩
    · dsimp only [Q471]
      obtain ⟨a, ⟨l2, h⟩, f⟩ := p0
      refine ⟨a, ⟨l2, h, ?_⟩, flI_c (by omega) (by omega) (fun _ _ => Iff.rfl) (fun _ _ => rfl) (fun p hp hl => ⟨rfl, by rw [hlc (fun e => hl (by rw [show p = (ρ 2).toNat by omega]; exact l2)), vsv1 e1], rfl⟩) (fun p hp => rfl) (fun i hi => rfl) f⟩
      rw [vsv1 e1, cAll (by omega)]
      exact e2
  exact ⟨nB, qB (key.1) (nB)⟩
def t_nop_5 : KT := ((0, 0, 0, 0), [(2, 0, 10, 0), (2, 1, 1, 0), (1, 2, 0, 0), (2, 3, 13, 0)], [(0, 0), (0, 0), (0, 143), (0, 0)], [(471, [(2, 0, 10, 0), (2, 1, 1, 0), (1, 2, 0, 0)]), (11, [(2, 0, 10, 0), (0, 0, 0, 6), (2, 3, 13, 0)]), (463, [(2, 0, 10, 0), (2, 1, 1, 0)])], (0, 0, 0), [], [], ([], [(629, [(2, 3, 13, 0), (1, 2, 0, 0), (2, 0, 10, 0), (2, 1, 1, 0)]), (626, [(2, 3, 13, 0), (1, 2, 0, 0), (2, 0, 10, 0), (2, 1, 1, 0)])]), ([], []))
set_option maxRecDepth 100000 in
theorem l_nop_5 (g : GG) : LOK Yt (PSt g) t_nop_5 := by
  intro ρ α Γ M as hT hB hA hP
  have g0 : Γ (α 0) = 10 := tyAt hA (i := 0) rfl
  have g1 : Γ (α 1) = 1 := tyAt hA (i := 1) rfl
  have b2 : 0 ≤ ρ 2 ∧ ρ 2 ≤ 143 := hB 2
  have g3 : Γ (α 3) = 13 := tyAt hA (i := 3) rfl
  have h0 : Γ (α 0) = 10 ∧ (∀ q ∈ ([([], 2, 3), ([], 3, 4), ([(4, 11)], 0, 144), ([(5, 12)], 0, 144), ([(6, 13)], 0, 144), ([(7, 14)], 0, 144), ([(8, 15)], 0, 144)] : VSP), wkT Γ M (α 0) q.1) ∧ Γ (α 1) = 1 ∧ (∀ q ∈ ([([], 0, 2), ([(2, 2)], 0, 144)] : VSP), wkT Γ M (α 1) q.1) ∧ Q471 g (vsv M (α 0) ([], 2, 3)) (vsv M (α 0) ([], 3, 4)) (vsv M (α 0) ([(4, 11)], 0, 144)) (vsv M (α 0) ([(5, 12)], 0, 144)) (vsv M (α 0) ([(6, 13)], 0, 144)) (vsv M (α 0) ([(7, 14)], 0, 144)) (vsv M (α 0) ([(8, 15)], 0, 144)) (vsv M (α 1) ([], 0, 2)) (vsv M (α 1) ([(2, 2)], 0, 144)) (ρ 2 + 0) := hP _ (List.mem_of_getElem? (i := 0) rfl)
  have h1 : 0 ≤ (6 : Int) ∧ M.2.2.2.1 (α 0) (6 : Int).toNat = some (α 3) := hP _ (List.mem_of_getElem? (i := 1) rfl)
  have h2 : Γ (α 0) = 10 ∧ (∀ q ∈ ([([(6, 13)], 0, 144)] : VSP), wkT Γ M (α 0) q.1) ∧ Γ (α 1) = 1 ∧ (∀ q ∈ ([([], 0, 2)] : VSP), wkT Γ M (α 1) q.1) ∧ Q463 g (vsv M (α 0) ([(6, 13)], 0, 144)) (vsv M (α 1) ([], 0, 2))  := hP _ (List.mem_of_getElem? (i := 2) rfl)
  try simp only [Int.add_zero] at h0 h1 h2
  have key : (Γ (α 3) = 13 ∧ wlk M (α 0) [(6, 13)] = (α 3) ∧ wkT Γ M (α 0) [(6, 13)] ∧ Γ (α 0) = 10 ∧ (∀ q ∈ ([([], 2, 3), ([], 3, 4), ([(4, 11)], 0, 144), ([(5, 12)], 0, 144), ([(7, 14)], 0, 144), ([(8, 15)], 0, 144)] : VSP), wkT Γ M (α 0) q.1) ∧ Γ (α 1) = 1 ∧ (∀ q ∈ ([([], 0, 2), ([(2, 2)], 0, 144)] : VSP), wkT Γ M (α 1) q.1) ∧ Q629 g (hcl [vi (ρ 2 + 0)] (clp [(0, 144)] (M.2.2.2.2 (α 3)))) (ρ 2 + 0) (vsv M (α 0) ([], 2, 3)) (vsv M (α 0) ([], 3, 4)) (vsv M (α 0) ([(4, 11)], 0, 144)) (vsv M (α 0) ([(5, 12)], 0, 144)) (vsv M (α 0) ([(7, 14)], 0, 144)) (vsv M (α 0) ([(8, 15)], 0, 144)) (vsv M (α 1) ([], 0, 2)) (vsv M (α 1) ([(2, 2)], 0, 144)) ) ∧ (Γ (α 3) = 13 ∧ wlk M (α 0) [(6, 13)] = (α 3) ∧ wkT Γ M (α 0) [(6, 13)] ∧ Γ (α 0) = 10 ∧ (∀ q ∈ ([] : VSP), wkT Γ M (α 0) q.1) ∧ Γ (α 1) = 1 ∧ (∀ q ∈ ([([], 0, 2)] : VSP), wkT Γ M (α 1) q.1) ∧ Q626 g (hcl [vi (ρ 2 + 0)] (clp [(0, 144)] (M.2.2.2.2 (α 3)))) (ρ 2 + 0) (vsv M (α 1) ([], 0, 2)) ) ∧ True := by
    try simp only [Int.add_zero]
    have dm1 := cdim hT g1
    have rc1 := rc_bd dm1.1 dm1.2
    obtain ⟨-, -, -, -, p0⟩ := h0
    dsimp only [Q471] at p0
    have e1 : M.2.2.2.1 (α 0) 6 = some (α 3) := h1.2
    obtain ⟨-, -, -, -, p2⟩ := h2
    dsimp only [Q463] at p2
    refine ⟨⟨g3, (fl_eq e1), wk1 e1 g3, g0, pic1 hT g0 (by decide) (by decide), g1, pic1 hT g1 (by decide) (by decide), ?_⟩, ⟨g3, (fl_eq e1), wk1 e1 g3, g0, pic1 hT g0 (by decide) (by decide), g1, pic1 hT g1 (by decide) (by decide), ?_⟩, trivial⟩
    · dsimp only [Q629]
      obtain ⟨⟨q0, ne⟩, ⟨l2, h⟩, f⟩ := p0
      rw [hlU b2.1 (by rw [← vsv1 (t := 13) e1]; exact l2), ← vsv1 (t := 13) e1]
      exact ⟨⟨q0, ne⟩, h, f⟩
    · dsimp only [Q626]
      obtain ⟨⟨q0, -⟩, -⟩ := p0
      obtain ⟨s1, s2, s3⟩ := p2
      exact ⟨s1, s2, q0, fun j hj hne => by
        rw [hlc hne, ← vsv1 (t := 13) e1]
        exact s3 j hj⟩
  exact ⟨nB, qB (key.1) (qB (key.2.1) (nB))⟩
def t_nop_6 : KT := ((0, 0, 0, 0), [(2, 0, 10, 0), (2, 1, 1, 0), (1, 2, 0, 0), (2, 3, 13, 0), (1, 4, 0, 0)], [(0, 0), (0, 0), (0, 143), (0, 0), (0, 143)], [(629, [(2, 3, 13, 0), (1, 2, 0, 0), (2, 0, 10, 0), (2, 1, 1, 0)]), (626, [(2, 3, 13, 0), (1, 2, 0, 0), (2, 0, 10, 0), (2, 1, 1, 0)]), (11, [(2, 0, 10, 0), (0, 0, 0, 6), (2, 3, 13, 0)]), (10, [(2, 3, 13, 0), (1, 2, 0, 0), (1, 4, 0, 0)]), (10, [(2, 0, 10, 0), (0, 0, 0, 3), (1, 4, 0, 0)])], (0, 0, 0), [], [], ([], [(472, [(2, 0, 10, 0), (2, 1, 1, 0), (1, 2, 0, 0), (1, 4, 0, 0)]), (462, [(2, 0, 10, 0), (2, 1, 1, 0), (1, 2, 0, 0)])]), ([], []))
set_option maxRecDepth 100000 in
theorem l_nop_6 (g : GG) : LOK Yt (PSt g) t_nop_6 := by
  intro ρ α Γ M as hT hB hA hP
  have g0 : Γ (α 0) = 10 := tyAt hA (i := 0) rfl
  have g1 : Γ (α 1) = 1 := tyAt hA (i := 1) rfl
  have b2 : 0 ≤ ρ 2 ∧ ρ 2 ≤ 143 := hB 2
  have g3 : Γ (α 3) = 13 := tyAt hA (i := 3) rfl
  have b4 : 0 ≤ ρ 4 ∧ ρ 4 ≤ 143 := hB 4
  have h0 : Γ (α 3) = 13 ∧ wlk M (α 0) [(6, 13)] = (α 3) ∧ wkT Γ M (α 0) [(6, 13)] ∧ Γ (α 0) = 10 ∧ (∀ q ∈ ([([], 2, 3), ([], 3, 4), ([(4, 11)], 0, 144), ([(5, 12)], 0, 144), ([(7, 14)], 0, 144), ([(8, 15)], 0, 144)] : VSP), wkT Γ M (α 0) q.1) ∧ Γ (α 1) = 1 ∧ (∀ q ∈ ([([], 0, 2), ([(2, 2)], 0, 144)] : VSP), wkT Γ M (α 1) q.1) ∧ Q629 g (hcl [vi (ρ 2 + 0)] (clp [(0, 144)] (M.2.2.2.2 (α 3)))) (ρ 2 + 0) (vsv M (α 0) ([], 2, 3)) (vsv M (α 0) ([], 3, 4)) (vsv M (α 0) ([(4, 11)], 0, 144)) (vsv M (α 0) ([(5, 12)], 0, 144)) (vsv M (α 0) ([(7, 14)], 0, 144)) (vsv M (α 0) ([(8, 15)], 0, 144)) (vsv M (α 1) ([], 0, 2)) (vsv M (α 1) ([(2, 2)], 0, 144))  := hP _ (List.mem_of_getElem? (i := 0) rfl)
  have h1 : Γ (α 3) = 13 ∧ wlk M (α 0) [(6, 13)] = (α 3) ∧ wkT Γ M (α 0) [(6, 13)] ∧ Γ (α 0) = 10 ∧ (∀ q ∈ ([] : VSP), wkT Γ M (α 0) q.1) ∧ Γ (α 1) = 1 ∧ (∀ q ∈ ([([], 0, 2)] : VSP), wkT Γ M (α 1) q.1) ∧ Q626 g (hcl [vi (ρ 2 + 0)] (clp [(0, 144)] (M.2.2.2.2 (α 3)))) (ρ 2 + 0) (vsv M (α 1) ([], 0, 2))  := hP _ (List.mem_of_getElem? (i := 1) rfl)
  have h2 : 0 ≤ (6 : Int) ∧ M.2.2.2.1 (α 0) (6 : Int).toNat = some (α 3) := hP _ (List.mem_of_getElem? (i := 2) rfl)
  have h3 : 0 ≤ (ρ 2 + 0 : Int) ∧ M.2.2.2.2 (α 3) (ρ 2 + 0 : Int).toNat = ρ 4 + 0 := hP _ (List.mem_of_getElem? (i := 3) rfl)
  have h4 : 0 ≤ (3 : Int) ∧ M.2.2.2.2 (α 0) (3 : Int).toNat = ρ 4 + 0 := hP _ (List.mem_of_getElem? (i := 4) rfl)
  try simp only [Int.add_zero] at h0 h1 h2 h3 h4
  have key : (Γ (α 0) = 10 ∧ (∀ q ∈ ([([], 2, 3), ([], 3, 4), ([(4, 11)], 0, 144), ([(5, 12)], 0, 144), ([(6, 13)], 0, 144), ([(7, 14)], 0, 144), ([(8, 15)], 0, 144)] : VSP), wkT Γ M (α 0) q.1) ∧ Γ (α 1) = 1 ∧ (∀ q ∈ ([([], 0, 2), ([(2, 2)], 0, 144)] : VSP), wkT Γ M (α 1) q.1) ∧ Q472 g (vsv M (α 0) ([], 2, 3)) (vsv M (α 0) ([], 3, 4)) (vsv M (α 0) ([(4, 11)], 0, 144)) (vsv M (α 0) ([(5, 12)], 0, 144)) (vsv M (α 0) ([(6, 13)], 0, 144)) (vsv M (α 0) ([(7, 14)], 0, 144)) (vsv M (α 0) ([(8, 15)], 0, 144)) (vsv M (α 1) ([], 0, 2)) (vsv M (α 1) ([(2, 2)], 0, 144)) (ρ 2 + 0) (ρ 4 + 0)) ∧ (Γ (α 0) = 10 ∧ (∀ q ∈ ([([(6, 13)], 0, 144)] : VSP), wkT Γ M (α 0) q.1) ∧ Γ (α 1) = 1 ∧ (∀ q ∈ ([([], 0, 2)] : VSP), wkT Γ M (α 1) q.1) ∧ Q462 g (vsv M (α 0) ([(6, 13)], 0, 144)) (vsv M (α 1) ([], 0, 2)) (ρ 2 + 0)) ∧ True := by
    try simp only [Int.add_zero]
    have dm1 := cdim hT g1
    have rc1 := rc_bd dm1.1 dm1.2
    obtain ⟨-, -, -, -, -, -, -, p0⟩ := h0
    dsimp only [Q629] at p0
    obtain ⟨-, -, -, -, -, -, -, p1⟩ := h1
    dsimp only [Q626] at p1
    have e2 : M.2.2.2.1 (α 0) 6 = some (α 3) := h2.2
    have e3 : M.2.2.2.2 (α 3) (ρ 2).toNat = ρ 4 := h3.2
    have e4 : M.2.2.2.2 (α 0) 3 = ρ 4 := h4.2
    have s3 : (vsv M (α 0) ([(6, 13)], 0, 144)) (ρ 2).toNat = ρ 4 := (vs1 e2 (Nat.zero_le _) (by omega)).trans e3
    have l3 : (vsv M (α 0) ([], 3, 4)) 3 = ρ 4 := (vs0 (by decide) (by decide)).trans e4
    refine ⟨⟨g0, pic1 hT g0 (by decide) (by decide), g1, pic1 hT g1 (by decide) (by decide), ?_⟩, ⟨g0, pic1 hT g0 (by decide) (by decide), g1, pic1 hT g1 (by decide) (by decide), ?_⟩, trivial⟩
    · dsimp only [Q472]
      obtain ⟨⟨q0, ne⟩, ⟨h1, h2⟩, f⟩ := p0
      rw [hlX, ← vsv1 (t := 13) e2] at ne f
      rw [l3] at f
      exact ⟨⟨q0, ne⟩, ⟨s3, l3, b4.1, h1, h2⟩, f⟩
    · dsimp only [Q462]
      obtain ⟨⟨q0, -⟩, -⟩ := p0
      obtain ⟨r1, r2, -, r3⟩ := p1
      refine ⟨r1, r2, ⟨q0, by rw [s3]; omega⟩, fun j hj hne => ?_⟩
      have := r3 j hj hne
      rw [hlc hne, ← vsv1 (t := 13) e2] at this
      exact this
  exact ⟨nB, qB (key.1) (qB (key.2.1) (nB))⟩
def t_nop_7 : KT := ((0, 0, 0, 0), [(2, 0, 10, 0), (2, 1, 1, 0), (1, 2, 0, 0), (2, 3, 15, 0), (1, 4, 0, 0)], [(0, 0), (0, 0), (0, 143), (0, 0), (0, 143)], [(472, [(2, 0, 10, 0), (2, 1, 1, 0), (1, 2, 0, 0), (1, 4, 0, 0)]), (11, [(2, 0, 10, 0), (0, 0, 0, 8), (2, 3, 15, 0)])], (0, 0, 0), [], [], ([], [(630, [(2, 3, 15, 0), (1, 4, 0, 0), (2, 0, 10, 0), (2, 1, 1, 0), (1, 2, 0, 0)])]), ([], []))
set_option maxRecDepth 100000 in
theorem l_nop_7 (g : GG) : LOK Yt (PSt g) t_nop_7 := by
  intro ρ α Γ M as hT hB hA hP
  have g0 : Γ (α 0) = 10 := tyAt hA (i := 0) rfl
  have g1 : Γ (α 1) = 1 := tyAt hA (i := 1) rfl
  have b2 : 0 ≤ ρ 2 ∧ ρ 2 ≤ 143 := hB 2
  have g3 : Γ (α 3) = 15 := tyAt hA (i := 3) rfl
  have b4 : 0 ≤ ρ 4 ∧ ρ 4 ≤ 143 := hB 4
  have h0 : Γ (α 0) = 10 ∧ (∀ q ∈ ([([], 2, 3), ([], 3, 4), ([(4, 11)], 0, 144), ([(5, 12)], 0, 144), ([(6, 13)], 0, 144), ([(7, 14)], 0, 144), ([(8, 15)], 0, 144)] : VSP), wkT Γ M (α 0) q.1) ∧ Γ (α 1) = 1 ∧ (∀ q ∈ ([([], 0, 2), ([(2, 2)], 0, 144)] : VSP), wkT Γ M (α 1) q.1) ∧ Q472 g (vsv M (α 0) ([], 2, 3)) (vsv M (α 0) ([], 3, 4)) (vsv M (α 0) ([(4, 11)], 0, 144)) (vsv M (α 0) ([(5, 12)], 0, 144)) (vsv M (α 0) ([(6, 13)], 0, 144)) (vsv M (α 0) ([(7, 14)], 0, 144)) (vsv M (α 0) ([(8, 15)], 0, 144)) (vsv M (α 1) ([], 0, 2)) (vsv M (α 1) ([(2, 2)], 0, 144)) (ρ 2 + 0) (ρ 4 + 0) := hP _ (List.mem_of_getElem? (i := 0) rfl)
  have h1 : 0 ≤ (8 : Int) ∧ M.2.2.2.1 (α 0) (8 : Int).toNat = some (α 3) := hP _ (List.mem_of_getElem? (i := 1) rfl)
  try simp only [Int.add_zero] at h0 h1
  have key : (Γ (α 3) = 15 ∧ wlk M (α 0) [(8, 15)] = (α 3) ∧ wkT Γ M (α 0) [(8, 15)] ∧ Γ (α 0) = 10 ∧ (∀ q ∈ ([([], 2, 3), ([], 3, 4), ([(4, 11)], 0, 144), ([(5, 12)], 0, 144), ([(6, 13)], 0, 144), ([(7, 14)], 0, 144)] : VSP), wkT Γ M (α 0) q.1) ∧ Γ (α 1) = 1 ∧ (∀ q ∈ ([([], 0, 2), ([(2, 2)], 0, 144)] : VSP), wkT Γ M (α 1) q.1) ∧ Q630 g (hcl [vi (ρ 4 + 0)] (clp [(0, 144)] (M.2.2.2.2 (α 3)))) (ρ 4 + 0) (vsv M (α 0) ([], 2, 3)) (vsv M (α 0) ([], 3, 4)) (vsv M (α 0) ([(4, 11)], 0, 144)) (vsv M (α 0) ([(5, 12)], 0, 144)) (vsv M (α 0) ([(6, 13)], 0, 144)) (vsv M (α 0) ([(7, 14)], 0, 144)) (vsv M (α 1) ([], 0, 2)) (vsv M (α 1) ([(2, 2)], 0, 144)) (ρ 2 + 0)) ∧ True := by
    try simp only [Int.add_zero]
    have dm1 := cdim hT g1
    have rc1 := rc_bd dm1.1 dm1.2
    obtain ⟨-, -, -, -, p0⟩ := h0
    dsimp only [Q472] at p0
    have e1 : M.2.2.2.1 (α 0) 8 = some (α 3) := h1.2
    refine ⟨⟨g3, (fl_eq e1), wk1 e1 g3, g0, pic1 hT g0 (by decide) (by decide), g1, pic1 hT g1 (by decide) (by decide), ?_⟩, trivial⟩
    · dsimp only [Q630]
      obtain ⟨a, h, f⟩ := p0
      exact ⟨a, h, flI_c (by omega) (by omega) (fun _ _ => Iff.rfl) (fun _ _ => rfl) (fun p hp hl => ⟨rfl, rfl, rfl⟩) (fun p hp => rfl) (fun i hi => by rw [hlc (by omega), vsv1 e1]) f⟩
  exact ⟨nB, qB (key.1) (nB)⟩
def t_nop_8 : KT := ((0, 0, 0, 0), [(2, 0, 10, 0), (2, 1, 1, 0), (1, 2, 0, 0), (2, 3, 15, 0), (1, 4, 0, 0)], [(0, 0), (0, 0), (0, 143), (0, 0), (0, 143)], [(630, [(2, 3, 15, 0), (1, 4, 0, 0), (2, 0, 10, 0), (2, 1, 1, 0), (1, 2, 0, 0)]), (11, [(2, 0, 10, 0), (0, 0, 0, 8), (2, 3, 15, 0)]), (10, [(2, 3, 15, 0), (1, 4, 0, 0), (1, 2, 0, 0)])], (0, 0, 0), [], [], ([], [(473, [(2, 0, 10, 0), (2, 1, 1, 0), (1, 2, 0, 0), (1, 4, 0, 0)])]), ([], []))
set_option maxRecDepth 100000 in
theorem l_nop_8 (g : GG) : LOK Yt (PSt g) t_nop_8 := by
  intro ρ α Γ M as hT hB hA hP
  have g0 : Γ (α 0) = 10 := tyAt hA (i := 0) rfl
  have g1 : Γ (α 1) = 1 := tyAt hA (i := 1) rfl
  have b2 : 0 ≤ ρ 2 ∧ ρ 2 ≤ 143 := hB 2
  have g3 : Γ (α 3) = 15 := tyAt hA (i := 3) rfl
  have b4 : 0 ≤ ρ 4 ∧ ρ 4 ≤ 143 := hB 4
  have h0 : Γ (α 3) = 15 ∧ wlk M (α 0) [(8, 15)] = (α 3) ∧ wkT Γ M (α 0) [(8, 15)] ∧ Γ (α 0) = 10 ∧ (∀ q ∈ ([([], 2, 3), ([], 3, 4), ([(4, 11)], 0, 144), ([(5, 12)], 0, 144), ([(6, 13)], 0, 144), ([(7, 14)], 0, 144)] : VSP), wkT Γ M (α 0) q.1) ∧ Γ (α 1) = 1 ∧ (∀ q ∈ ([([], 0, 2), ([(2, 2)], 0, 144)] : VSP), wkT Γ M (α 1) q.1) ∧ Q630 g (hcl [vi (ρ 4 + 0)] (clp [(0, 144)] (M.2.2.2.2 (α 3)))) (ρ 4 + 0) (vsv M (α 0) ([], 2, 3)) (vsv M (α 0) ([], 3, 4)) (vsv M (α 0) ([(4, 11)], 0, 144)) (vsv M (α 0) ([(5, 12)], 0, 144)) (vsv M (α 0) ([(6, 13)], 0, 144)) (vsv M (α 0) ([(7, 14)], 0, 144)) (vsv M (α 1) ([], 0, 2)) (vsv M (α 1) ([(2, 2)], 0, 144)) (ρ 2 + 0) := hP _ (List.mem_of_getElem? (i := 0) rfl)
  have h1 : 0 ≤ (8 : Int) ∧ M.2.2.2.1 (α 0) (8 : Int).toNat = some (α 3) := hP _ (List.mem_of_getElem? (i := 1) rfl)
  have h2 : 0 ≤ (ρ 4 + 0 : Int) ∧ M.2.2.2.2 (α 3) (ρ 4 + 0 : Int).toNat = ρ 2 + 0 := hP _ (List.mem_of_getElem? (i := 2) rfl)
  try simp only [Int.add_zero] at h0 h1 h2
  have key : (Γ (α 0) = 10 ∧ (∀ q ∈ ([([], 2, 3), ([(4, 11)], 0, 144), ([(5, 12)], 0, 144), ([(6, 13)], 0, 144), ([(7, 14)], 0, 144), ([(8, 15)], 0, 144)] : VSP), wkT Γ M (α 0) q.1) ∧ Γ (α 1) = 1 ∧ (∀ q ∈ ([([], 0, 2), ([(2, 2)], 0, 144)] : VSP), wkT Γ M (α 1) q.1) ∧ Q473 g (vsv M (α 0) ([], 2, 3)) (vsv M (α 0) ([(4, 11)], 0, 144)) (vsv M (α 0) ([(5, 12)], 0, 144)) (vsv M (α 0) ([(6, 13)], 0, 144)) (vsv M (α 0) ([(7, 14)], 0, 144)) (vsv M (α 0) ([(8, 15)], 0, 144)) (vsv M (α 1) ([], 0, 2)) (vsv M (α 1) ([(2, 2)], 0, 144)) (ρ 2 + 0) (ρ 4 + 0)) ∧ True := by
    try simp only [Int.add_zero]
    have dm1 := cdim hT g1
    have rc1 := rc_bd dm1.1 dm1.2
    obtain ⟨-, -, -, -, -, -, -, p0⟩ := h0
    dsimp only [Q630] at p0
    have e1 : M.2.2.2.1 (α 0) 8 = some (α 3) := h1.2
    have e2 : M.2.2.2.2 (α 3) (ρ 4).toNat = ρ 2 := h2.2
    refine ⟨⟨g0, pic1 hT g0 (by decide) (by decide), g1, pic1 hT g1 (by decide) (by decide), ?_⟩, trivial⟩
    · dsimp only [Q473]
      obtain ⟨⟨q0, ne⟩, ⟨s1, s2, s3, s4, s5⟩, f⟩ := p0
      have c : ((ρ 2).toNat : Int) = ρ 2 := by omega
      refine ⟨q0, ⟨by omega, by rw [s1]; omega⟩, Or.inr ⟨?_, ⟨by rw [s1]; omega, s5, ?_, s4⟩, by rw [c]; exact ne⟩⟩
      · rw [c, show ρ 4 + 1 - 1 = ρ 4 by omega]
        exact flI_c (by omega) (by omega) (fun _ _ => Iff.rfl) (fun _ _ => rfl) (fun p hp hl => ⟨rfl, rfl, rfl⟩) (fun p hp => rfl) (fun i hi => by rw [hlc (by omega), vsv1 e1]) f
      · rw [show ρ 4 + 1 - 1 = ρ 4 by omega, vsv1 e1, cAll (by omega), e2, c]
  exact ⟨nB, qB (key.1) (nB)⟩
def t_nop_9 : KT := ((0, 0, 0, 0), [(2, 0, 10, 0), (2, 1, 1, 0), (1, 2, 0, 0), (1, 3, 0, 0)], [(0, 0), (0, 0), (0, 143), (0, 143)], [(473, [(2, 0, 10, 0), (2, 1, 1, 0), (1, 2, 0, 0), (1, 3, 0, 0)]), (10, [(2, 0, 10, 0), (0, 0, 0, 3), (1, 3, 0, 1)])], (0, 0, 0), [], [], ([], [(465, [(2, 0, 10, 0), (2, 1, 1, 0), (1, 2, 0, 0)])]), ([], []))
set_option maxRecDepth 100000 in
theorem l_nop_9 (g : GG) : LOK Yt (PSt g) t_nop_9 := by
  intro ρ α Γ M as hT hB hA hP
  have g0 : Γ (α 0) = 10 := tyAt hA (i := 0) rfl
  have g1 : Γ (α 1) = 1 := tyAt hA (i := 1) rfl
  have b2 : 0 ≤ ρ 2 ∧ ρ 2 ≤ 143 := hB 2
  have b3 : 0 ≤ ρ 3 ∧ ρ 3 ≤ 143 := hB 3
  have h0 : Γ (α 0) = 10 ∧ (∀ q ∈ ([([], 2, 3), ([(4, 11)], 0, 144), ([(5, 12)], 0, 144), ([(6, 13)], 0, 144), ([(7, 14)], 0, 144), ([(8, 15)], 0, 144)] : VSP), wkT Γ M (α 0) q.1) ∧ Γ (α 1) = 1 ∧ (∀ q ∈ ([([], 0, 2), ([(2, 2)], 0, 144)] : VSP), wkT Γ M (α 1) q.1) ∧ Q473 g (vsv M (α 0) ([], 2, 3)) (vsv M (α 0) ([(4, 11)], 0, 144)) (vsv M (α 0) ([(5, 12)], 0, 144)) (vsv M (α 0) ([(6, 13)], 0, 144)) (vsv M (α 0) ([(7, 14)], 0, 144)) (vsv M (α 0) ([(8, 15)], 0, 144)) (vsv M (α 1) ([], 0, 2)) (vsv M (α 1) ([(2, 2)], 0, 144)) (ρ 2 + 0) (ρ 3 + 0) := hP _ (List.mem_of_getElem? (i := 0) rfl)
  have h1 : 0 ≤ (3 : Int) ∧ M.2.2.2.2 (α 0) (3 : Int).toNat = ρ 3 + 1 := hP _ (List.mem_of_getElem? (i := 1) rfl)
  try simp only [Int.add_zero] at h0 h1
  have key : (Γ (α 0) = 10 ∧ (∀ q ∈ ([([], 2, 3), ([], 3, 4), ([(4, 11)], 0, 144), ([(5, 12)], 0, 144), ([(6, 13)], 0, 144), ([(7, 14)], 0, 144), ([(8, 15)], 0, 144)] : VSP), wkT Γ M (α 0) q.1) ∧ Γ (α 1) = 1 ∧ (∀ q ∈ ([([], 0, 2), ([(2, 2)], 0, 144)] : VSP), wkT Γ M (α 1) q.1) ∧ Q465 g (vsv M (α 0) ([], 2, 3)) (vsv M (α 0) ([], 3, 4)) (vsv M (α 0) ([(4, 11)], 0, 144)) (vsv M (α 0) ([(5, 12)], 0, 144)) (vsv M (α 0) ([(6, 13)], 0, 144)) (vsv M (α 0) ([(7, 14)], 0, 144)) (vsv M (α 0) ([(8, 15)], 0, 144)) (vsv M (α 1) ([], 0, 2)) (vsv M (α 1) ([(2, 2)], 0, 144)) (ρ 2 + 0)) ∧ True := by
    try simp only [Int.add_zero]
    have dm1 := cdim hT g1
    have rc1 := rc_bd dm1.1 dm1.2
    obtain ⟨-, -, -, -, p0⟩ := h0
    dsimp only [Q473] at p0
    have e1 : M.2.2.2.2 (α 0) 3 = ρ 3 + 1 := h1.2
    refine ⟨⟨g0, pic1 hT g0 (by decide) (by decide), g1, pic1 hT g1 (by decide) (by decide), ?_⟩, trivial⟩
    · dsimp only [Q465]
      rw [(vs0 (by decide) (by decide) : (vsv M (α 0) ([], 3, 4)) 3 = _).trans e1]
      exact p0
  exact ⟨nB, qB (key.1) (nB)⟩
def t_nav_0 : KT := ((0, 0, 0, 0), [(2, 0, 10, 0), (2, 1, 1, 0), (2, 2, 26, 0)], [(0, 0), (0, 0), (0, 0)], [(591, [(2, 2, 26, 0), (2, 1, 1, 0), (2, 0, 10, 0), (0, 0, 0, 144), (0, 0, 0, 0), (0, 0, 0, -1)]), (463, [(2, 0, 10, 0), (2, 1, 1, 0)]), (464, [(2, 2, 26, 0)]), (594, [(2, 0, 10, 0), (2, 1, 1, 0), (2, 2, 26, 0)])], (0, 0, 0), [], [], ([], [(451, [(2, 2, 26, 0), (0, 0, 0, 144), (0, 0, 0, 0), (0, 0, 0, -1)]), (722, []), (460, [(2, 0, 10, 0), (2, 1, 1, 0)])]), ([], []))
set_option maxRecDepth 100000 in
theorem l_nav_0 (g : GG) : LOK Yt (PSt g) t_nav_0 := by
  intro ρ α Γ M as hT hB hA hP
  have g0 : Γ (α 0) = 10 := tyAt hA (i := 0) rfl
  have g1 : Γ (α 1) = 1 := tyAt hA (i := 1) rfl
  have g2 : Γ (α 2) = 26 := tyAt hA (i := 2) rfl
  have h0 : Γ (α 2) = 26 ∧ (∀ q ∈ ([([(0, 27)], 0, 288), ([(1, 28)], 0, 144), ([(3, 30)], 0, 144), ([], 4, 5)] : VSP), wkT Γ M (α 2) q.1) ∧ Γ (α 1) = 1 ∧ (∀ q ∈ ([([], 0, 2)] : VSP), wkT Γ M (α 1) q.1) ∧ Γ (α 0) = 10 ∧ (∀ q ∈ ([([(6, 13)], 0, 144)] : VSP), wkT Γ M (α 0) q.1) ∧ Q591 g (vsv M (α 2) ([(0, 27)], 0, 288)) (vsv M (α 2) ([(1, 28)], 0, 144)) (vsv M (α 2) ([(3, 30)], 0, 144)) (vsv M (α 2) ([], 4, 5)) (vsv M (α 1) ([], 0, 2)) (vsv M (α 0) ([(6, 13)], 0, 144)) (144) (0) ((-1)) := hP _ (List.mem_of_getElem? (i := 0) rfl)
  have h1 : Γ (α 0) = 10 ∧ (∀ q ∈ ([([(6, 13)], 0, 144)] : VSP), wkT Γ M (α 0) q.1) ∧ Γ (α 1) = 1 ∧ (∀ q ∈ ([([], 0, 2)] : VSP), wkT Γ M (α 1) q.1) ∧ Q463 g (vsv M (α 0) ([(6, 13)], 0, 144)) (vsv M (α 1) ([], 0, 2))  := hP _ (List.mem_of_getElem? (i := 1) rfl)
  have h2 : Γ (α 2) = 26 ∧ (∀ q ∈ ([([(0, 27)], 0, 288)] : VSP), wkT Γ M (α 2) q.1) ∧ Q464 g (vsv M (α 2) ([(0, 27)], 0, 288))  := hP _ (List.mem_of_getElem? (i := 2) rfl)
  have h3 : Γ (α 0) = 10 ∧ (∀ q ∈ ([([], 2, 3), ([], 3, 4), ([(4, 11)], 0, 144), ([(5, 12)], 0, 144), ([(6, 13)], 0, 144), ([(7, 14)], 0, 144), ([(8, 15)], 0, 144)] : VSP), wkT Γ M (α 0) q.1) ∧ Γ (α 1) = 1 ∧ (∀ q ∈ ([([], 0, 2), ([(2, 2)], 0, 144)] : VSP), wkT Γ M (α 1) q.1) ∧ Γ (α 2) = 26 ∧ (∀ q ∈ ([([(0, 27)], 0, 288)] : VSP), wkT Γ M (α 2) q.1) ∧ Q594 g (vsv M (α 0) ([], 2, 3)) (vsv M (α 0) ([], 3, 4)) (vsv M (α 0) ([(4, 11)], 0, 144)) (vsv M (α 0) ([(5, 12)], 0, 144)) (vsv M (α 0) ([(6, 13)], 0, 144)) (vsv M (α 0) ([(7, 14)], 0, 144)) (vsv M (α 0) ([(8, 15)], 0, 144)) (vsv M (α 1) ([], 0, 2)) (vsv M (α 1) ([(2, 2)], 0, 144)) (vsv M (α 2) ([(0, 27)], 0, 288))  := hP _ (List.mem_of_getElem? (i := 3) rfl)
  try simp only [Int.add_zero] at h0 h1 h2 h3
  have key : (Γ (α 2) = 26 ∧ (∀ q ∈ ([([(1, 28)], 0, 144), ([(3, 30)], 0, 144), ([], 4, 5)] : VSP), wkT Γ M (α 2) q.1) ∧ Q451 g (vsv M (α 2) ([(1, 28)], 0, 144)) (vsv M (α 2) ([(3, 30)], 0, 144)) (vsv M (α 2) ([], 4, 5)) (144) (0) ((-1))) ∧ (((2 ≤ zR g ∧ zR g ≤ 9) ∧ 2 ≤ zC g ∧ zC g ≤ 9)) ∧ (Γ (α 0) = 10 ∧ (∀ q ∈ ([([], 2, 3), ([], 3, 4), ([(4, 11)], 0, 144), ([(5, 12)], 0, 144), ([(6, 13)], 0, 144), ([(7, 14)], 0, 144), ([(8, 15)], 0, 144)] : VSP), wkT Γ M (α 0) q.1) ∧ Γ (α 1) = 1 ∧ (∀ q ∈ ([([], 0, 2), ([(2, 2)], 0, 144)] : VSP), wkT Γ M (α 1) q.1) ∧ Q460 g (vsv M (α 0) ([], 2, 3)) (vsv M (α 0) ([], 3, 4)) (vsv M (α 0) ([(4, 11)], 0, 144)) (vsv M (α 0) ([(5, 12)], 0, 144)) (vsv M (α 0) ([(6, 13)], 0, 144)) (vsv M (α 0) ([(7, 14)], 0, 144)) (vsv M (α 0) ([(8, 15)], 0, 144)) (vsv M (α 1) ([], 0, 2)) (vsv M (α 1) ([(2, 2)], 0, 144)) ) ∧ True := by
    try simp only [Int.add_zero]
    have dm1 := cdim hT g1
    have rc1 := rc_bd dm1.1 dm1.2
    obtain ⟨-, -, -, -, -, -, p0⟩ := h0
    dsimp only [Q591] at p0
    obtain ⟨-, -, -, -, p1⟩ := h1
    dsimp only [Q463] at p1
    obtain ⟨-, -, p2⟩ := h2
    dsimp only [Q464] at p2
    obtain ⟨-, -, -, -, -, -, p3⟩ := h3
    dsimp only [Q594] at p3
    obtain ⟨⟨s1, s2⟩, ⟨⟨z1, z2⟩, z3, z4⟩, hS⟩ := p1
    have hB := p2
    have rc81 : 4 ≤ zR g * zC g ∧ zR g * zC g ≤ 81 := ⟨(rc_bd ⟨z1, by omega⟩ ⟨z3, by omega⟩).1, Int.le_trans (Int.mul_le_mul z2 z4 (by omega) (by decide)) (by decide)⟩
    refine ⟨⟨g2, pic1 hT g2 (by decide) (by decide), ?_⟩, ?_, ⟨g0, pic1 hT g0 (by decide) (by decide), g1, pic1 hT g1 (by decide) (by decide), ?_⟩, trivial⟩
    · dsimp only [Q451]
      rw [← s1, ← s2]
      exact fn_c (by omega) (by omega) (fun j hj => (hS j hj).symm) (fun _ _ => rfl) (fun _ _ => rfl) (fun e he => by have := hB e (by have := he.2.1; omega); show ((vsv M (α 2) ([(0, 27)], 0, 288)) e = 0) ↔ (zB g e = 0); rw [this]) (Or.inl (Int.le_refl _)) (by decide) p0
    · exact ⟨⟨z1, z2⟩, z3, z4⟩
    · dsimp only [Q460]
      exact flI_c (by omega) (by omega) (fun e he => by have := hB e (by have := he.2.1; omega); show ((vsv M (α 2) ([(0, 27)], 0, 288)) e = 0) ↔ (zB g e = 0); rw [this]) (fun _ _ => rfl) (fun _ _ _ => ⟨rfl, rfl, rfl⟩) (fun _ _ => rfl) (fun _ _ => rfl) p3
  exact ⟨nB, qB (key.1) (qB (key.2.1) (qB (key.2.2.1) (nB)))⟩
def t_nav_1 : KT := ((0, 0, 0, 0), [(2, 0, 10, 0), (2, 1, 1, 0), (2, 2, 26, 0), (1, 3, 0, 0), (2, 4, 28, 0), (1, 5, 0, 0)], [(0, 0), (0, 0), (0, 0), (0, 143), (0, 0), (-2147483648, 2147483647)], [(592, [(2, 2, 26, 0), (1, 3, 0, 0)]), (463, [(2, 0, 10, 0), (2, 1, 1, 0)]), (11, [(2, 2, 26, 0), (0, 0, 0, 1), (2, 4, 28, 0)]), (10, [(2, 4, 28, 0), (1, 3, 0, 0), (1, 5, 0, 0)])], (0, 0, 0), [], [], ([(5, 0, 143)], [(461, [(2, 0, 10, 0), (2, 1, 1, 0), (1, 5, 0, 0), (1, 3, 0, 0)])]), ([], []))
set_option maxRecDepth 100000 in
theorem l_nav_1 (g : GG) : LOK Yt (PSt g) t_nav_1 := by
  intro ρ α Γ M as hT hB hA hP
  have g0 : Γ (α 0) = 10 := tyAt hA (i := 0) rfl
  have g1 : Γ (α 1) = 1 := tyAt hA (i := 1) rfl
  have g2 : Γ (α 2) = 26 := tyAt hA (i := 2) rfl
  have b3 : 0 ≤ ρ 3 ∧ ρ 3 ≤ 143 := hB 3
  have g4 : Γ (α 4) = 28 := tyAt hA (i := 4) rfl
  have b5 : -2147483648 ≤ ρ 5 ∧ ρ 5 ≤ 2147483647 := hB 5
  have h0 : Γ (α 2) = 26 ∧ (∀ q ∈ ([([(1, 28)], 0, 144), ([(3, 30)], 0, 144), ([], 4, 5)] : VSP), wkT Γ M (α 2) q.1) ∧ Q592 g (vsv M (α 2) ([(1, 28)], 0, 144)) (vsv M (α 2) ([(3, 30)], 0, 144)) (vsv M (α 2) ([], 4, 5)) (ρ 3 + 0) := hP _ (List.mem_of_getElem? (i := 0) rfl)
  have h1 : Γ (α 0) = 10 ∧ (∀ q ∈ ([([(6, 13)], 0, 144)] : VSP), wkT Γ M (α 0) q.1) ∧ Γ (α 1) = 1 ∧ (∀ q ∈ ([([], 0, 2)] : VSP), wkT Γ M (α 1) q.1) ∧ Q463 g (vsv M (α 0) ([(6, 13)], 0, 144)) (vsv M (α 1) ([], 0, 2))  := hP _ (List.mem_of_getElem? (i := 1) rfl)
  have h2 : 0 ≤ (1 : Int) ∧ M.2.2.2.1 (α 2) (1 : Int).toNat = some (α 4) := hP _ (List.mem_of_getElem? (i := 2) rfl)
  have h3 : 0 ≤ (ρ 3 + 0 : Int) ∧ M.2.2.2.2 (α 4) (ρ 3 + 0 : Int).toNat = ρ 5 + 0 := hP _ (List.mem_of_getElem? (i := 3) rfl)
  try simp only [Int.add_zero] at h0 h1 h2 h3
  have key : (0 ≤ ρ 5 ∧ ρ 5 ≤ 143) ∧ (Γ (α 0) = 10 ∧ (∀ q ∈ ([([(6, 13)], 0, 144)] : VSP), wkT Γ M (α 0) q.1) ∧ Γ (α 1) = 1 ∧ (∀ q ∈ ([([], 0, 2)] : VSP), wkT Γ M (α 1) q.1) ∧ Q461 g (vsv M (α 0) ([(6, 13)], 0, 144)) (vsv M (α 1) ([], 0, 2)) (ρ 5 + 0) (ρ 3 + 0)) ∧ True := by
    try simp only [Int.add_zero]
    have dm1 := cdim hT g1
    have rc1 := rc_bd dm1.1 dm1.2
    obtain ⟨-, -, p0⟩ := h0
    dsimp only [Q592] at p0
    obtain ⟨-, -, -, -, p1⟩ := h1
    dsimp only [Q463] at p1
    have e2 : M.2.2.2.1 (α 2) 1 = some (α 4) := h2.2
    have e3 : M.2.2.2.2 (α 4) (ρ 3).toNat = ρ 5 := h3.2
    obtain ⟨⟨s1, s2⟩, ⟨⟨z1, z2⟩, z3, z4⟩, hS⟩ := p1
    have rc81 : 4 ≤ zR g * zC g ∧ zR g * zC g ≤ 81 := ⟨(rc_bd ⟨z1, by omega⟩ ⟨z3, by omega⟩).1, Int.le_trans (Int.mul_le_mul z2 z4 (by omega) (by decide)) (by decide)⟩
    
    have vv : (vsv M (α 2) ([(1, 28)], 0, 144)) (ρ 3).toNat = ρ 5 := (vs1 e2 (Nat.zero_le _) (by omega)).trans e3
    obtain ⟨⟨⟨q1, q2⟩, q3⟩, ⟨p, x1, x2, x3⟩, -⟩ := p0.resolve_left (fun q => absurd q.1 (by omega))
    rw [vv] at x1
    have hq := lk_lt (by omega) x3
    refine ⟨?_, ⟨g0, pic1 hT g0 (by decide) (by decide), g1, pic1 hT g1 (by decide) (by decide), ?_⟩, trivial⟩
    · omega
    · dsimp only [Q461]
      refine ⟨⟨by omega, q1, by rw [s1, s2]; exact q2⟩, ⟨?_, ?_⟩, ?_⟩
      · rw [hS _ (by omega), show (ρ 5).toNat = p by omega]
        exact x2
      · rw [hS _ (by omega)]
        exact q3
      · rw [s1, s2, show (ρ 5).toNat = p by omega]
        exact x3
  exact ⟨qB (key.1) (nB), qB (key.2.1) (nB)⟩
def t_nav_k1 : KT := ((0, 0, 0, 0), [(2, 0, 10, 0), (2, 1, 1, 0), (1, 2, 0, 0)], [(0, 0), (0, 0), (-1, -1)], [(477, [(2, 0, 10, 0), (2, 1, 1, 0), (1, 2, 0, 0)]), (460, [(2, 0, 10, 0), (2, 1, 1, 0)]), (595, [(2, 0, 10, 0), (2, 1, 1, 0)])], (0, 0, 0), [], [], ([(2, 1, 0)], []), ([], []))
set_option maxRecDepth 100000 in
theorem l_nav_k1 (g : GG) : LOK Yt (PSt g) t_nav_k1 := by
  intro ρ α Γ M as hT hB hA hP
  have g0 : Γ (α 0) = 10 := tyAt hA (i := 0) rfl
  have g1 : Γ (α 1) = 1 := tyAt hA (i := 1) rfl
  have b2 : -1 ≤ ρ 2 ∧ ρ 2 ≤ -1 := hB 2
  have h0 : Γ (α 0) = 10 ∧ (∀ q ∈ ([([(6, 13)], 0, 144)] : VSP), wkT Γ M (α 0) q.1) ∧ Γ (α 1) = 1 ∧ (∀ q ∈ ([([], 0, 2)] : VSP), wkT Γ M (α 1) q.1) ∧ Q477 g (vsv M (α 0) ([(6, 13)], 0, 144)) (vsv M (α 1) ([], 0, 2)) (ρ 2 + 0) := hP _ (List.mem_of_getElem? (i := 0) rfl)
  have h1 : Γ (α 0) = 10 ∧ (∀ q ∈ ([([], 2, 3), ([], 3, 4), ([(4, 11)], 0, 144), ([(5, 12)], 0, 144), ([(6, 13)], 0, 144), ([(7, 14)], 0, 144), ([(8, 15)], 0, 144)] : VSP), wkT Γ M (α 0) q.1) ∧ Γ (α 1) = 1 ∧ (∀ q ∈ ([([], 0, 2), ([(2, 2)], 0, 144)] : VSP), wkT Γ M (α 1) q.1) ∧ Q460 g (vsv M (α 0) ([], 2, 3)) (vsv M (α 0) ([], 3, 4)) (vsv M (α 0) ([(4, 11)], 0, 144)) (vsv M (α 0) ([(5, 12)], 0, 144)) (vsv M (α 0) ([(6, 13)], 0, 144)) (vsv M (α 0) ([(7, 14)], 0, 144)) (vsv M (α 0) ([(8, 15)], 0, 144)) (vsv M (α 1) ([], 0, 2)) (vsv M (α 1) ([(2, 2)], 0, 144))  := hP _ (List.mem_of_getElem? (i := 1) rfl)
  have h2 : Γ (α 0) = 10 ∧ (∀ q ∈ ([([], 1, 2), ([], 2, 3)] : VSP), wkT Γ M (α 0) q.1) ∧ Γ (α 1) = 1 ∧ (∀ q ∈ ([([], 0, 2)] : VSP), wkT Γ M (α 1) q.1) ∧ Q595 g (vsv M (α 0) ([], 1, 2)) (vsv M (α 0) ([], 2, 3)) (vsv M (α 1) ([], 0, 2))  := hP _ (List.mem_of_getElem? (i := 2) rfl)
  try simp only [Int.add_zero] at h0 h1 h2
  have key : (1 ≤ ρ 2 ∧ ρ 2 ≤ 0) ∧ True := by
    try simp only [Int.add_zero]
    have dm1 := cdim hT g1
    have rc1 := rc_bd dm1.1 dm1.2
    obtain ⟨-, -, -, -, p0⟩ := h0
    dsimp only [Q477] at p0
    obtain ⟨-, -, -, -, p1⟩ := h1
    dsimp only [Q460] at p1
    obtain ⟨-, -, -, -, p2⟩ := h2
    dsimp only [Q595] at p2
    refine ⟨?_, trivial⟩
    · exfalso
      have q := p0.resolve_right (fun q => absurd q.1.1 (by omega))
      have := flI_all (by omega) p1 q.2
      have := p2.2
      omega
  exact ⟨qB (key.1) (nB), nB⟩
def t_nav_k2 : KT := ((0, 0, 0, 0), [(2, 0, 10, 0), (2, 1, 1, 0), (1, 2, 0, 0)], [(0, 0), (0, 0), (144, 144)], [(460, [(2, 0, 10, 0), (2, 1, 1, 0)]), (10, [(2, 0, 10, 0), (0, 0, 0, 3), (1, 2, 0, 0)]), (595, [(2, 0, 10, 0), (2, 1, 1, 0)])], (0, 0, 0), [], [], ([(2, 1, 0)], []), ([], []))
set_option maxRecDepth 100000 in
theorem l_nav_k2 (g : GG) : LOK Yt (PSt g) t_nav_k2 := by
  intro ρ α Γ M as hT hB hA hP
  have g0 : Γ (α 0) = 10 := tyAt hA (i := 0) rfl
  have g1 : Γ (α 1) = 1 := tyAt hA (i := 1) rfl
  have b2 : 144 ≤ ρ 2 ∧ ρ 2 ≤ 144 := hB 2
  have h0 : Γ (α 0) = 10 ∧ (∀ q ∈ ([([], 2, 3), ([], 3, 4), ([(4, 11)], 0, 144), ([(5, 12)], 0, 144), ([(6, 13)], 0, 144), ([(7, 14)], 0, 144), ([(8, 15)], 0, 144)] : VSP), wkT Γ M (α 0) q.1) ∧ Γ (α 1) = 1 ∧ (∀ q ∈ ([([], 0, 2), ([(2, 2)], 0, 144)] : VSP), wkT Γ M (α 1) q.1) ∧ Q460 g (vsv M (α 0) ([], 2, 3)) (vsv M (α 0) ([], 3, 4)) (vsv M (α 0) ([(4, 11)], 0, 144)) (vsv M (α 0) ([(5, 12)], 0, 144)) (vsv M (α 0) ([(6, 13)], 0, 144)) (vsv M (α 0) ([(7, 14)], 0, 144)) (vsv M (α 0) ([(8, 15)], 0, 144)) (vsv M (α 1) ([], 0, 2)) (vsv M (α 1) ([(2, 2)], 0, 144))  := hP _ (List.mem_of_getElem? (i := 0) rfl)
  have h1 : 0 ≤ (3 : Int) ∧ M.2.2.2.2 (α 0) (3 : Int).toNat = ρ 2 + 0 := hP _ (List.mem_of_getElem? (i := 1) rfl)
  have h2 : Γ (α 0) = 10 ∧ (∀ q ∈ ([([], 1, 2), ([], 2, 3)] : VSP), wkT Γ M (α 0) q.1) ∧ Γ (α 1) = 1 ∧ (∀ q ∈ ([([], 0, 2)] : VSP), wkT Γ M (α 1) q.1) ∧ Q595 g (vsv M (α 0) ([], 1, 2)) (vsv M (α 0) ([], 2, 3)) (vsv M (α 1) ([], 0, 2))  := hP _ (List.mem_of_getElem? (i := 2) rfl)
  try simp only [Int.add_zero] at h0 h1 h2
  have key : (1 ≤ ρ 2 ∧ ρ 2 ≤ 0) ∧ True := by
    try simp only [Int.add_zero]
    have dm1 := cdim hT g1
    have rc1 := rc_bd dm1.1 dm1.2
    obtain ⟨-, -, -, -, p0⟩ := h0
    dsimp only [Q460] at p0
    have e1 : M.2.2.2.2 (α 0) 3 = ρ 2 := h1.2
    obtain ⟨-, -, -, -, p2⟩ := h2
    dsimp only [Q595] at p2
    refine ⟨?_, trivial⟩
    · exfalso
      have bd := flI_bd (by omega) p0
      have : (vsv M (α 0) ([], 3, 4)) 3 = ρ 2 := (vs0 (by decide) (by decide)).trans e1
      have := p2.2
      omega
  exact ⟨qB (key.1) (nB), nB⟩
def t_nav_2 : KT := ((0, 0, 0, 0), [(2, 0, 10, 0), (2, 1, 1, 0), (2, 2, 26, 0), (1, 3, 0, 0)], [(0, 0), (0, 0), (0, 0), (-1, -1)], [(592, [(2, 2, 26, 0), (1, 3, 0, 0)]), (463, [(2, 0, 10, 0), (2, 1, 1, 0)])], (0, 0, 0), [], [], ([], [(468, [(2, 0, 10, 0), (2, 1, 1, 0)])]), ([], []))
set_option maxRecDepth 100000 in
theorem l_nav_2 (g : GG) : LOK Yt (PSt g) t_nav_2 := by
  intro ρ α Γ M as hT hB hA hP
  have g0 : Γ (α 0) = 10 := tyAt hA (i := 0) rfl
  have g1 : Γ (α 1) = 1 := tyAt hA (i := 1) rfl
  have g2 : Γ (α 2) = 26 := tyAt hA (i := 2) rfl
  have b3 : -1 ≤ ρ 3 ∧ ρ 3 ≤ -1 := hB 3
  have h0 : Γ (α 2) = 26 ∧ (∀ q ∈ ([([(1, 28)], 0, 144), ([(3, 30)], 0, 144), ([], 4, 5)] : VSP), wkT Γ M (α 2) q.1) ∧ Q592 g (vsv M (α 2) ([(1, 28)], 0, 144)) (vsv M (α 2) ([(3, 30)], 0, 144)) (vsv M (α 2) ([], 4, 5)) (ρ 3 + 0) := hP _ (List.mem_of_getElem? (i := 0) rfl)
  have h1 : Γ (α 0) = 10 ∧ (∀ q ∈ ([([(6, 13)], 0, 144)] : VSP), wkT Γ M (α 0) q.1) ∧ Γ (α 1) = 1 ∧ (∀ q ∈ ([([], 0, 2)] : VSP), wkT Γ M (α 1) q.1) ∧ Q463 g (vsv M (α 0) ([(6, 13)], 0, 144)) (vsv M (α 1) ([], 0, 2))  := hP _ (List.mem_of_getElem? (i := 1) rfl)
  try simp only [Int.add_zero] at h0 h1
  have key : (Γ (α 0) = 10 ∧ (∀ q ∈ ([([(6, 13)], 0, 144)] : VSP), wkT Γ M (α 0) q.1) ∧ Γ (α 1) = 1 ∧ (∀ q ∈ ([([], 0, 2)] : VSP), wkT Γ M (α 1) q.1) ∧ Q468 g (vsv M (α 0) ([(6, 13)], 0, 144)) (vsv M (α 1) ([], 0, 2)) ) ∧ True := by
    try simp only [Int.add_zero]
    have dm1 := cdim hT g1
    have rc1 := rc_bd dm1.1 dm1.2
    obtain ⟨-, -, p0⟩ := h0
    dsimp only [Q592] at p0
    obtain ⟨-, -, -, -, p1⟩ := h1
    dsimp only [Q463] at p1
    obtain ⟨⟨s1, s2⟩, ⟨⟨z1, z2⟩, z3, z4⟩, hS⟩ := p1
    have rc81 : 4 ≤ zR g * zC g ∧ zR g * zC g ≤ 81 := ⟨(rc_bd ⟨z1, by omega⟩ ⟨z3, by omega⟩).1, Int.le_trans (Int.mul_le_mul z2 z4 (by omega) (by decide)) (by decide)⟩
    refine ⟨⟨g0, pic1 hT g0 (by decide) (by decide), g1, pic1 hT g1 (by decide) (by decide), ?_⟩, trivial⟩
    · dsimp only [Q468]
      obtain ⟨-, q1, q2⟩ := p0.resolve_right (fun q => absurd q.1.1.1 (by omega))
      have nn := (fn_none q2 (by omega) (by omega) q1).1
      intro a b hab ha hb
      have hq := lk_lt (by omega) hab
      rw [hS a (by omega)] at ha
      rw [hS b (by omega)] at hb
      rw [s1, s2] at hab
      exact nn a b hab ha hb
  exact ⟨nB, qB (key.1) (nB)⟩
def t_nav_3 : KT := ((0, 0, 0, 0), [(2, 0, 10, 0), (2, 1, 1, 0), (1, 2, 0, 0)], [(0, 0), (0, 0), (0, 143)], [(477, [(2, 0, 10, 0), (2, 1, 1, 0), (1, 2, 0, 0)])], (0, 0, 0), [], [], ([], [(469, [(2, 0, 10, 0), (2, 1, 1, 0), (1, 2, 0, 0)])]), ([], []))
set_option maxRecDepth 100000 in
theorem l_nav_3 (g : GG) : LOK Yt (PSt g) t_nav_3 := by
  intro ρ α Γ M as hT hB hA hP
  have g0 : Γ (α 0) = 10 := tyAt hA (i := 0) rfl
  have g1 : Γ (α 1) = 1 := tyAt hA (i := 1) rfl
  have b2 : 0 ≤ ρ 2 ∧ ρ 2 ≤ 143 := hB 2
  have h0 : Γ (α 0) = 10 ∧ (∀ q ∈ ([([(6, 13)], 0, 144)] : VSP), wkT Γ M (α 0) q.1) ∧ Γ (α 1) = 1 ∧ (∀ q ∈ ([([], 0, 2)] : VSP), wkT Γ M (α 1) q.1) ∧ Q477 g (vsv M (α 0) ([(6, 13)], 0, 144)) (vsv M (α 1) ([], 0, 2)) (ρ 2 + 0) := hP _ (List.mem_of_getElem? (i := 0) rfl)
  try simp only [Int.add_zero] at h0
  have key : (Γ (α 0) = 10 ∧ (∀ q ∈ ([([(6, 13)], 0, 144)] : VSP), wkT Γ M (α 0) q.1) ∧ Γ (α 1) = 1 ∧ (∀ q ∈ ([([], 0, 2)] : VSP), wkT Γ M (α 1) q.1) ∧ Q469 g (vsv M (α 0) ([(6, 13)], 0, 144)) (vsv M (α 1) ([], 0, 2)) (ρ 2 + 0)) ∧ True := by
    try simp only [Int.add_zero]
    have dm1 := cdim hT g1
    have rc1 := rc_bd dm1.1 dm1.2
    obtain ⟨-, -, -, -, p0⟩ := h0
    dsimp only [Q477] at p0
    refine ⟨⟨g0, pic1 hT g0 (by decide) (by decide), g1, pic1 hT g1 (by decide) (by decide), ?_⟩, trivial⟩
    · dsimp only [Q469]
      exact p0.resolve_left (fun q => absurd q.1 (by omega))
  exact ⟨nB, qB (key.1) (nB)⟩
def t_nav_4a : KT := ((0, 0, 0, 0), [(2, 0, 26, 0), (1, 1, 0, 0)], [(0, 0), (0, 143)], [(592, [(2, 0, 26, 0), (1, 1, 0, 0)])], (0, 0, 0), [], [], ([], [(478, [(2, 0, 26, 0), (1, 1, 0, 0)])]), ([], []))
set_option maxRecDepth 100000 in
theorem l_nav_4a (g : GG) : LOK Yt (PSt g) t_nav_4a := by
  intro ρ α Γ M as hT hB hA hP
  have g0 : Γ (α 0) = 26 := tyAt hA (i := 0) rfl
  have b1 : 0 ≤ ρ 1 ∧ ρ 1 ≤ 143 := hB 1
  have h0 : Γ (α 0) = 26 ∧ (∀ q ∈ ([([(1, 28)], 0, 144), ([(3, 30)], 0, 144), ([], 4, 5)] : VSP), wkT Γ M (α 0) q.1) ∧ Q592 g (vsv M (α 0) ([(1, 28)], 0, 144)) (vsv M (α 0) ([(3, 30)], 0, 144)) (vsv M (α 0) ([], 4, 5)) (ρ 1 + 0) := hP _ (List.mem_of_getElem? (i := 0) rfl)
  try simp only [Int.add_zero] at h0
  have key : (Γ (α 0) = 26 ∧ (∀ q ∈ ([([(1, 28)], 0, 144), ([(3, 30)], 0, 144), ([], 4, 5)] : VSP), wkT Γ M (α 0) q.1) ∧ Q478 g (vsv M (α 0) ([(1, 28)], 0, 144)) (vsv M (α 0) ([(3, 30)], 0, 144)) (vsv M (α 0) ([], 4, 5)) (ρ 1 + 0)) ∧ True := by
    try simp only [Int.add_zero]
    obtain ⟨-, -, p0⟩ := h0
    dsimp only [Q592] at p0
    refine ⟨⟨g0, pic1 hT g0 (by decide) (by decide), ?_⟩, trivial⟩
    · dsimp only [Q478]
      exact (p0.resolve_left (fun q => absurd q.1 (by omega))).2.2
  exact ⟨nB, qB (key.1) (nB)⟩
def t_nav_4b : KT := ((0, 0, 0, 0), [(2, 0, 26, 0), (1, 1, 0, 0), (1, 2, 0, 0)], [(0, 0), (-1, -1), (0, 143)], [(592, [(2, 0, 26, 0), (1, 1, 0, 0)]), (722, [])], (0, 0, 0), [], [], ([], [(478, [(2, 0, 26, 0), (1, 2, 0, 0)])]), ([], []))
set_option maxRecDepth 100000 in
theorem l_nav_4b (g : GG) : LOK Yt (PSt g) t_nav_4b := by
  intro ρ α Γ M as hT hB hA hP
  have g0 : Γ (α 0) = 26 := tyAt hA (i := 0) rfl
  have b1 : -1 ≤ ρ 1 ∧ ρ 1 ≤ -1 := hB 1
  have b2 : 0 ≤ ρ 2 ∧ ρ 2 ≤ 143 := hB 2
  have h0 : Γ (α 0) = 26 ∧ (∀ q ∈ ([([(1, 28)], 0, 144), ([(3, 30)], 0, 144), ([], 4, 5)] : VSP), wkT Γ M (α 0) q.1) ∧ Q592 g (vsv M (α 0) ([(1, 28)], 0, 144)) (vsv M (α 0) ([(3, 30)], 0, 144)) (vsv M (α 0) ([], 4, 5)) (ρ 1 + 0) := hP _ (List.mem_of_getElem? (i := 0) rfl)
  have h1 : ((2 ≤ zR g ∧ zR g ≤ 9) ∧ 2 ≤ zC g ∧ zC g ≤ 9) := hP _ (List.mem_of_getElem? (i := 1) rfl)
  try simp only [Int.add_zero] at h0 h1
  have key : (Γ (α 0) = 26 ∧ (∀ q ∈ ([([(1, 28)], 0, 144), ([(3, 30)], 0, 144), ([], 4, 5)] : VSP), wkT Γ M (α 0) q.1) ∧ Q478 g (vsv M (α 0) ([(1, 28)], 0, 144)) (vsv M (α 0) ([(3, 30)], 0, 144)) (vsv M (α 0) ([], 4, 5)) (ρ 2 + 0)) ∧ True := by
    try simp only [Int.add_zero]
    obtain ⟨-, -, p0⟩ := h0
    dsimp only [Q592] at p0
    obtain ⟨⟨z1, z2⟩, z3, z4⟩ := h1
    have rc81 : 4 ≤ zR g * zC g ∧ zR g * zC g ≤ 81 := ⟨(rc_bd ⟨z1, by omega⟩ ⟨z3, by omega⟩).1, Int.le_trans (Int.mul_le_mul z2 z4 (by omega) (by decide)) (by decide)⟩
    refine ⟨⟨g0, pic1 hT g0 (by decide) (by decide), ?_⟩, trivial⟩
    · dsimp only [Q478]
      obtain ⟨-, q1, q2⟩ := p0.resolve_right (fun q => absurd q.1.1.1 (by omega))
      exact (fn_none q2 (by omega) (by omega) q1).2 _
  exact ⟨nB, qB (key.1) (nB)⟩
def t_nav_5 : KT := ((0, 0, 0, 0), [(2, 0, 10, 0), (2, 1, 1, 0), (1, 2, 0, 0), (1, 3, 0, 0)], [(0, 0), (0, 0), (0, 143), (-2147483648, 2147483646)], [(465, [(2, 0, 10, 0), (2, 1, 1, 0), (1, 2, 0, 0)]), (10, [(2, 0, 10, 0), (0, 0, 0, 2), (1, 3, 0, 0)]), (595, [(2, 0, 10, 0), (2, 1, 1, 0)])], (0, 0, 0), [], [], ([], [(479, [(2, 0, 10, 0), (2, 1, 1, 0), (1, 2, 0, 0), (1, 3, 0, 0)]), (725, [(2, 0, 10, 0), (2, 1, 1, 0), (1, 3, 0, 0)])]), ([], []))
set_option maxRecDepth 100000 in
theorem l_nav_5 (g : GG) : LOK Yt (PSt g) t_nav_5 := by
  intro ρ α Γ M as hT hB hA hP
  have g0 : Γ (α 0) = 10 := tyAt hA (i := 0) rfl
  have g1 : Γ (α 1) = 1 := tyAt hA (i := 1) rfl
  have b2 : 0 ≤ ρ 2 ∧ ρ 2 ≤ 143 := hB 2
  have b3 : -2147483648 ≤ ρ 3 ∧ ρ 3 ≤ 2147483646 := hB 3
  have h0 : Γ (α 0) = 10 ∧ (∀ q ∈ ([([], 2, 3), ([], 3, 4), ([(4, 11)], 0, 144), ([(5, 12)], 0, 144), ([(6, 13)], 0, 144), ([(7, 14)], 0, 144), ([(8, 15)], 0, 144)] : VSP), wkT Γ M (α 0) q.1) ∧ Γ (α 1) = 1 ∧ (∀ q ∈ ([([], 0, 2), ([(2, 2)], 0, 144)] : VSP), wkT Γ M (α 1) q.1) ∧ Q465 g (vsv M (α 0) ([], 2, 3)) (vsv M (α 0) ([], 3, 4)) (vsv M (α 0) ([(4, 11)], 0, 144)) (vsv M (α 0) ([(5, 12)], 0, 144)) (vsv M (α 0) ([(6, 13)], 0, 144)) (vsv M (α 0) ([(7, 14)], 0, 144)) (vsv M (α 0) ([(8, 15)], 0, 144)) (vsv M (α 1) ([], 0, 2)) (vsv M (α 1) ([(2, 2)], 0, 144)) (ρ 2 + 0) := hP _ (List.mem_of_getElem? (i := 0) rfl)
  have h1 : 0 ≤ (2 : Int) ∧ M.2.2.2.2 (α 0) (2 : Int).toNat = ρ 3 + 0 := hP _ (List.mem_of_getElem? (i := 1) rfl)
  have h2 : Γ (α 0) = 10 ∧ (∀ q ∈ ([([], 1, 2), ([], 2, 3)] : VSP), wkT Γ M (α 0) q.1) ∧ Γ (α 1) = 1 ∧ (∀ q ∈ ([([], 0, 2)] : VSP), wkT Γ M (α 1) q.1) ∧ Q595 g (vsv M (α 0) ([], 1, 2)) (vsv M (α 0) ([], 2, 3)) (vsv M (α 1) ([], 0, 2))  := hP _ (List.mem_of_getElem? (i := 2) rfl)
  try simp only [Int.add_zero] at h0 h1 h2
  have key : (Γ (α 0) = 10 ∧ (∀ q ∈ ([([], 3, 4), ([(4, 11)], 0, 144), ([(5, 12)], 0, 144), ([(6, 13)], 0, 144), ([(7, 14)], 0, 144), ([(8, 15)], 0, 144)] : VSP), wkT Γ M (α 0) q.1) ∧ Γ (α 1) = 1 ∧ (∀ q ∈ ([([], 0, 2), ([(2, 2)], 0, 144)] : VSP), wkT Γ M (α 1) q.1) ∧ Q479 g (vsv M (α 0) ([], 3, 4)) (vsv M (α 0) ([(4, 11)], 0, 144)) (vsv M (α 0) ([(5, 12)], 0, 144)) (vsv M (α 0) ([(6, 13)], 0, 144)) (vsv M (α 0) ([(7, 14)], 0, 144)) (vsv M (α 0) ([(8, 15)], 0, 144)) (vsv M (α 1) ([], 0, 2)) (vsv M (α 1) ([(2, 2)], 0, 144)) (ρ 2 + 0) (ρ 3 + 0)) ∧ (Γ (α 0) = 10 ∧ (∀ q ∈ ([([], 1, 2)] : VSP), wkT Γ M (α 0) q.1) ∧ Γ (α 1) = 1 ∧ (∀ q ∈ ([([], 0, 2)] : VSP), wkT Γ M (α 1) q.1) ∧ Q725 g (vsv M (α 0) ([], 1, 2)) (vsv M (α 1) ([], 0, 2)) (ρ 3 + 0)) ∧ True := by
    try simp only [Int.add_zero]
    have dm1 := cdim hT g1
    have rc1 := rc_bd dm1.1 dm1.2
    obtain ⟨-, -, -, -, p0⟩ := h0
    dsimp only [Q465] at p0
    have e1 : M.2.2.2.2 (α 0) 2 = ρ 3 := h1.2
    obtain ⟨-, -, -, -, p2⟩ := h2
    dsimp only [Q595] at p2
    have l2 : (vsv M (α 0) ([], 2, 3)) 2 = ρ 3 := (vs0 (by decide) (by decide)).trans e1
    refine ⟨⟨g0, pic1 hT g0 (by decide) (by decide), g1, pic1 hT g1 (by decide) (by decide), ?_⟩, ⟨g0, pic1 hT g0 (by decide) (by decide), g1, pic1 hT g1 (by decide) (by decide), ?_⟩, trivial⟩
    · dsimp only [Q479]
      rw [l2] at p0
      exact p0
    · dsimp only [Q725]
      rw [l2] at p2
      exact p2
  exact ⟨nB, qB (key.1) (qB (key.2.1) (nB))⟩
def t_nav_5m : KT := ((0, 0, 0, 0), [(2, 0, 10, 0), (1, 1, 0, 0), (1, 2, 0, 0), (1, 3, 0, 0)], [(0, 0), (-2147483648, 2147483647), (-2147483648, 2147483647), (-2147483648, 2147483647)], [(10, [(2, 0, 10, 0), (0, 0, 0, 2), (1, 1, 0, 0)]), (453, [(2, 0, 10, 0), (1, 2, 0, 0), (1, 3, 0, 0)])], (0, 0, 0), [], [], ([], [(724, [(1, 1, 0, 0), (1, 2, 0, 0), (1, 3, 0, 0)])]), ([], []))
set_option maxRecDepth 100000 in
theorem l_nav_5m (g : GG) : LOK Yt (PSt g) t_nav_5m := by
  intro ρ α Γ M as hT hB hA hP
  have g0 : Γ (α 0) = 10 := tyAt hA (i := 0) rfl
  have b1 : -2147483648 ≤ ρ 1 ∧ ρ 1 ≤ 2147483647 := hB 1
  have b2 : -2147483648 ≤ ρ 2 ∧ ρ 2 ≤ 2147483647 := hB 2
  have b3 : -2147483648 ≤ ρ 3 ∧ ρ 3 ≤ 2147483647 := hB 3
  have h0 : 0 ≤ (2 : Int) ∧ M.2.2.2.2 (α 0) (2 : Int).toNat = ρ 1 + 0 := hP _ (List.mem_of_getElem? (i := 0) rfl)
  have h1 : Γ (α 0) = 10 ∧ (∀ q ∈ ([([], 2, 3)] : VSP), wkT Γ M (α 0) q.1) ∧ Q453 g (vsv M (α 0) ([], 2, 3)) (ρ 2 + 0) (ρ 3 + 0) := hP _ (List.mem_of_getElem? (i := 1) rfl)
  try simp only [Int.add_zero] at h0 h1
  have key : ((ρ 1 + 0 : Int) = (ρ 2 + 0 : Int) + (ρ 3 + 0 : Int)) ∧ True := by
    try simp only [Int.add_zero]
    have e0 : M.2.2.2.2 (α 0) 2 = ρ 1 := h0.2
    obtain ⟨-, -, p1⟩ := h1
    dsimp only [Q453] at p1
    have l2 : (vsv M (α 0) ([], 2, 3)) 2 = ρ 1 := (vs0 (by decide) (by decide)).trans e0
    refine ⟨?_, trivial⟩
    · exact l2.symm.trans p1
  exact ⟨nB, qB (key.1) (nB)⟩
def t_nav_6 : KT := ((0, 0, 0, 0), [(2, 0, 10, 0), (1, 1, 0, 0), (1, 2, 0, 0), (1, 3, 0, 0)], [(0, 0), (-2147483648, 2147483647), (-2147483648, 2147483647), (-2147483648, 2147483647)], [(724, [(1, 1, 0, 0), (1, 2, 0, 0), (1, 3, 0, 0)]), (10, [(2, 0, 10, 0), (0, 0, 0, 2), (1, 1, 0, 1)])], (0, 0, 0), [], [], ([], [(453, [(2, 0, 10, 0), (1, 2, 0, 0), (1, 3, 0, 1)])]), ([], []))
set_option maxRecDepth 100000 in
theorem l_nav_6 (g : GG) : LOK Yt (PSt g) t_nav_6 := by
  intro ρ α Γ M as hT hB hA hP
  have g0 : Γ (α 0) = 10 := tyAt hA (i := 0) rfl
  have b1 : -2147483648 ≤ ρ 1 ∧ ρ 1 ≤ 2147483647 := hB 1
  have b2 : -2147483648 ≤ ρ 2 ∧ ρ 2 ≤ 2147483647 := hB 2
  have b3 : -2147483648 ≤ ρ 3 ∧ ρ 3 ≤ 2147483647 := hB 3
  have h0 : (ρ 1 + 0 : Int) = (ρ 2 + 0 : Int) + (ρ 3 + 0 : Int) := hP _ (List.mem_of_getElem? (i := 0) rfl)
  have h1 : 0 ≤ (2 : Int) ∧ M.2.2.2.2 (α 0) (2 : Int).toNat = ρ 1 + 1 := hP _ (List.mem_of_getElem? (i := 1) rfl)
  try simp only [Int.add_zero] at h0 h1
  have key : (Γ (α 0) = 10 ∧ (∀ q ∈ ([([], 2, 3)] : VSP), wkT Γ M (α 0) q.1) ∧ Q453 g (vsv M (α 0) ([], 2, 3)) (ρ 2 + 0) (ρ 3 + 1)) ∧ True := by
    try simp only [Int.add_zero]
    have e1 : M.2.2.2.2 (α 0) 2 = ρ 1 + 1 := h1.2
    refine ⟨⟨g0, pic1 hT g0 (by decide) (by decide), ?_⟩, trivial⟩
    · dsimp only [Q453]
      have h0 : ρ 1 = ρ 2 + ρ 3 := h0
      rw [(vs0 (by decide) (by decide)).trans e1]
      omega
  exact ⟨nB, qB (key.1) (nB)⟩
def t_nav_7 : KT := ((0, 0, 0, 0), [(2, 0, 10, 0), (2, 1, 1, 0), (1, 2, 0, 0), (1, 3, 0, 0), (2, 4, 14, 0)], [(0, 0), (0, 0), (0, 143), (-2147483648, 2147483647), (0, 0)], [(479, [(2, 0, 10, 0), (2, 1, 1, 0), (1, 2, 0, 0), (1, 3, 0, 0)]), (10, [(2, 0, 10, 0), (0, 0, 0, 2), (1, 3, 0, 1)]), (11, [(2, 0, 10, 0), (0, 0, 0, 7), (2, 4, 14, 0)])], (0, 0, 0), [], [], ([], [(631, [(2, 4, 14, 0), (1, 2, 0, 0), (2, 0, 10, 0), (2, 1, 1, 0)])]), ([], []))
set_option maxRecDepth 100000 in
theorem l_nav_7 (g : GG) : LOK Yt (PSt g) t_nav_7 := by
  intro ρ α Γ M as hT hB hA hP
  have g0 : Γ (α 0) = 10 := tyAt hA (i := 0) rfl
  have g1 : Γ (α 1) = 1 := tyAt hA (i := 1) rfl
  have b2 : 0 ≤ ρ 2 ∧ ρ 2 ≤ 143 := hB 2
  have b3 : -2147483648 ≤ ρ 3 ∧ ρ 3 ≤ 2147483647 := hB 3
  have g4 : Γ (α 4) = 14 := tyAt hA (i := 4) rfl
  have h0 : Γ (α 0) = 10 ∧ (∀ q ∈ ([([], 3, 4), ([(4, 11)], 0, 144), ([(5, 12)], 0, 144), ([(6, 13)], 0, 144), ([(7, 14)], 0, 144), ([(8, 15)], 0, 144)] : VSP), wkT Γ M (α 0) q.1) ∧ Γ (α 1) = 1 ∧ (∀ q ∈ ([([], 0, 2), ([(2, 2)], 0, 144)] : VSP), wkT Γ M (α 1) q.1) ∧ Q479 g (vsv M (α 0) ([], 3, 4)) (vsv M (α 0) ([(4, 11)], 0, 144)) (vsv M (α 0) ([(5, 12)], 0, 144)) (vsv M (α 0) ([(6, 13)], 0, 144)) (vsv M (α 0) ([(7, 14)], 0, 144)) (vsv M (α 0) ([(8, 15)], 0, 144)) (vsv M (α 1) ([], 0, 2)) (vsv M (α 1) ([(2, 2)], 0, 144)) (ρ 2 + 0) (ρ 3 + 0) := hP _ (List.mem_of_getElem? (i := 0) rfl)
  have h1 : 0 ≤ (2 : Int) ∧ M.2.2.2.2 (α 0) (2 : Int).toNat = ρ 3 + 1 := hP _ (List.mem_of_getElem? (i := 1) rfl)
  have h2 : 0 ≤ (7 : Int) ∧ M.2.2.2.1 (α 0) (7 : Int).toNat = some (α 4) := hP _ (List.mem_of_getElem? (i := 2) rfl)
  try simp only [Int.add_zero] at h0 h1 h2
  have key : (Γ (α 4) = 14 ∧ wlk M (α 0) [(7, 14)] = (α 4) ∧ wkT Γ M (α 0) [(7, 14)] ∧ Γ (α 0) = 10 ∧ (∀ q ∈ ([([], 2, 3), ([], 3, 4), ([(4, 11)], 0, 144), ([(5, 12)], 0, 144), ([(6, 13)], 0, 144), ([(8, 15)], 0, 144)] : VSP), wkT Γ M (α 0) q.1) ∧ Γ (α 1) = 1 ∧ (∀ q ∈ ([([], 0, 2), ([(2, 2)], 0, 144)] : VSP), wkT Γ M (α 1) q.1) ∧ Q631 g (hcl [vi (ρ 2 + 0)] (clp [(0, 144)] (M.2.2.2.2 (α 4)))) (ρ 2 + 0) (vsv M (α 0) ([], 2, 3)) (vsv M (α 0) ([], 3, 4)) (vsv M (α 0) ([(4, 11)], 0, 144)) (vsv M (α 0) ([(5, 12)], 0, 144)) (vsv M (α 0) ([(6, 13)], 0, 144)) (vsv M (α 0) ([(8, 15)], 0, 144)) (vsv M (α 1) ([], 0, 2)) (vsv M (α 1) ([(2, 2)], 0, 144)) ) ∧ True := by
    try simp only [Int.add_zero]
    have dm1 := cdim hT g1
    have rc1 := rc_bd dm1.1 dm1.2
    obtain ⟨-, -, -, -, p0⟩ := h0
    dsimp only [Q479] at p0
    have e1 : M.2.2.2.2 (α 0) 2 = ρ 3 + 1 := h1.2
    have e2 : M.2.2.2.1 (α 0) 7 = some (α 4) := h2.2
    refine ⟨⟨g4, (fl_eq e2), wk1 e2 g4, g0, pic1 hT g0 (by decide) (by decide), g1, pic1 hT g1 (by decide) (by decide), ?_⟩, trivial⟩
    · dsimp only [Q631]
      have c : ((ρ 2).toNat : Int) = ρ 2 := by omega
      have l2 : (vsv M (α 0) ([], 2, 3)) 2 = ρ 3 + 1 := (vs0 (by decide) (by decide)).trans e1
      obtain ⟨q0, ⟨r1, r2⟩, f⟩ := p0
      refine ⟨q0, ⟨r1, r2⟩, ?_⟩
      rw [l2, show ρ 3 + 1 - 1 = ρ 3 by omega]
      have g : ∀ p : Nat, p < 144 → upZ (vsv M (α 0) ([(6, 13)], 0, 144)) ((ρ 2).toNat : Int) (-1) p ≠ -1 → (hcl [vi (ρ 2)] (clp [(0, 144)] (M.2.2.2.2 (α 4)))) p = (vsv M (α 0) ([(7, 14)], 0, 144)) p := fun p hp hl => by
        rw [hlc (fun e => hl (upZ_at (by omega))), vsv1 e2]
      refine f.imp (fun q => ⟨flI_c (by omega) (by omega) (fun _ _ => Iff.rfl) (fun _ _ => rfl) (fun p hp hl => ⟨rfl, rfl, g p hp hl⟩) (fun _ _ => rfl) (fun _ _ => rfl) q.1, q.2⟩) (fun q => ⟨flI_c (by omega) (by omega) (fun _ _ => Iff.rfl) (fun _ _ => rfl) (fun p hp hl => ⟨rfl, rfl, g p hp hl⟩) (fun _ _ => rfl) (fun _ _ => rfl) q.1, q.2⟩)
  exact ⟨nB, qB (key.1) (nB)⟩
def t_nav_8 : KT := ((0, 0, 0, 0), [(2, 0, 10, 0), (2, 1, 1, 0), (1, 2, 0, 0), (1, 3, 0, 0), (2, 4, 14, 0)], [(0, 0), (0, 0), (0, 143), (-2147483648, 2147483647), (0, 0)], [(631, [(2, 4, 14, 0), (1, 2, 0, 0), (2, 0, 10, 0), (2, 1, 1, 0)]), (10, [(2, 0, 10, 0), (0, 0, 0, 2), (1, 3, 0, 1)]), (11, [(2, 0, 10, 0), (0, 0, 0, 7), (2, 4, 14, 0)]), (10, [(2, 4, 14, 0), (1, 2, 0, 0), (1, 3, 0, 1)])], (0, 0, 0), [], [], ([], [(460, [(2, 0, 10, 0), (2, 1, 1, 0)])]), ([], []))
set_option maxRecDepth 100000 in
theorem l_nav_8 (g : GG) : LOK Yt (PSt g) t_nav_8 := by
  intro ρ α Γ M as hT hB hA hP
  have g0 : Γ (α 0) = 10 := tyAt hA (i := 0) rfl
  have g1 : Γ (α 1) = 1 := tyAt hA (i := 1) rfl
  have b2 : 0 ≤ ρ 2 ∧ ρ 2 ≤ 143 := hB 2
  have b3 : -2147483648 ≤ ρ 3 ∧ ρ 3 ≤ 2147483647 := hB 3
  have g4 : Γ (α 4) = 14 := tyAt hA (i := 4) rfl
  have h0 : Γ (α 4) = 14 ∧ wlk M (α 0) [(7, 14)] = (α 4) ∧ wkT Γ M (α 0) [(7, 14)] ∧ Γ (α 0) = 10 ∧ (∀ q ∈ ([([], 2, 3), ([], 3, 4), ([(4, 11)], 0, 144), ([(5, 12)], 0, 144), ([(6, 13)], 0, 144), ([(8, 15)], 0, 144)] : VSP), wkT Γ M (α 0) q.1) ∧ Γ (α 1) = 1 ∧ (∀ q ∈ ([([], 0, 2), ([(2, 2)], 0, 144)] : VSP), wkT Γ M (α 1) q.1) ∧ Q631 g (hcl [vi (ρ 2 + 0)] (clp [(0, 144)] (M.2.2.2.2 (α 4)))) (ρ 2 + 0) (vsv M (α 0) ([], 2, 3)) (vsv M (α 0) ([], 3, 4)) (vsv M (α 0) ([(4, 11)], 0, 144)) (vsv M (α 0) ([(5, 12)], 0, 144)) (vsv M (α 0) ([(6, 13)], 0, 144)) (vsv M (α 0) ([(8, 15)], 0, 144)) (vsv M (α 1) ([], 0, 2)) (vsv M (α 1) ([(2, 2)], 0, 144))  := hP _ (List.mem_of_getElem? (i := 0) rfl)
  have h1 : 0 ≤ (2 : Int) ∧ M.2.2.2.2 (α 0) (2 : Int).toNat = ρ 3 + 1 := hP _ (List.mem_of_getElem? (i := 1) rfl)
  have h2 : 0 ≤ (7 : Int) ∧ M.2.2.2.1 (α 0) (7 : Int).toNat = some (α 4) := hP _ (List.mem_of_getElem? (i := 2) rfl)
  have h3 : 0 ≤ (ρ 2 + 0 : Int) ∧ M.2.2.2.2 (α 4) (ρ 2 + 0 : Int).toNat = ρ 3 + 1 := hP _ (List.mem_of_getElem? (i := 3) rfl)
  try simp only [Int.add_zero] at h0 h1 h2 h3
  have key : (Γ (α 0) = 10 ∧ (∀ q ∈ ([([], 2, 3), ([], 3, 4), ([(4, 11)], 0, 144), ([(5, 12)], 0, 144), ([(6, 13)], 0, 144), ([(7, 14)], 0, 144), ([(8, 15)], 0, 144)] : VSP), wkT Γ M (α 0) q.1) ∧ Γ (α 1) = 1 ∧ (∀ q ∈ ([([], 0, 2), ([(2, 2)], 0, 144)] : VSP), wkT Γ M (α 1) q.1) ∧ Q460 g (vsv M (α 0) ([], 2, 3)) (vsv M (α 0) ([], 3, 4)) (vsv M (α 0) ([(4, 11)], 0, 144)) (vsv M (α 0) ([(5, 12)], 0, 144)) (vsv M (α 0) ([(6, 13)], 0, 144)) (vsv M (α 0) ([(7, 14)], 0, 144)) (vsv M (α 0) ([(8, 15)], 0, 144)) (vsv M (α 1) ([], 0, 2)) (vsv M (α 1) ([(2, 2)], 0, 144)) ) ∧ True := by
    try simp only [Int.add_zero]
    have dm1 := cdim hT g1
    have rc1 := rc_bd dm1.1 dm1.2
    obtain ⟨-, -, -, -, -, -, -, p0⟩ := h0
    dsimp only [Q631] at p0
    have e1 : M.2.2.2.2 (α 0) 2 = ρ 3 + 1 := h1.2
    have e2 : M.2.2.2.1 (α 0) 7 = some (α 4) := h2.2
    have e3 : M.2.2.2.2 (α 4) (ρ 2).toNat = ρ 3 + 1 := h3.2
    refine ⟨⟨g0, pic1 hT g0 (by decide) (by decide), g1, pic1 hT g1 (by decide) (by decide), ?_⟩, trivial⟩
    · dsimp only [Q460]
      have l2 : (vsv M (α 0) ([], 2, 3)) 2 = ρ 3 + 1 := (vs0 (by decide) (by decide)).trans e1
      have vv : (vsv M (α 0) ([(7, 14)], 0, 144)) (ρ 2).toNat = ρ 3 + 1 := (vs1 e2 (Nat.zero_le _) (by omega)).trans e3
      obtain ⟨q0, ⟨r1, r2⟩, f⟩ := p0
      rw [l2] at f ⊢
      have gv : ∀ p : Nat, p < 144 → upZ (vsv M (α 0) ([(6, 13)], 0, 144)) ((ρ 2).toNat : Int) (-1) p ≠ -1 → (vsv M (α 0) ([(7, 14)], 0, 144)) p = (hcl [vi (ρ 2)] (clp [(0, 144)] (M.2.2.2.2 (α 4)))) p := fun p hp hl => by
        rw [hlc (fun e => hl (upZ_at (by omega))), vsv1 e2]
      have x : flX _ _ (vsv M (α 1) ([(2, 2)], 0, 144)) (fun e => zB g e = 0) (ρ 3 + 1 - 1) _ (vsv M (α 0) ([(4, 11)], 0, 144)) (vsv M (α 0) ([(5, 12)], 0, 144)) (vsv M (α 0) ([(6, 13)], 0, 144)) (vsv M (α 0) ([(7, 14)], 0, 144)) (vsv M (α 0) ([(8, 15)], 0, 144)) (ρ 2).toNat := ⟨⟨r1, r2⟩, f.imp (fun q => ⟨flI_c (by omega) (by omega) (fun _ _ => Iff.rfl) (fun _ _ => rfl) (fun p hp hl => ⟨rfl, rfl, gv p hp hl⟩) (fun _ _ => rfl) (fun _ _ => rfl) q.1, q.2⟩) (fun q => ⟨flI_c (by omega) (by omega) (fun _ _ => Iff.rfl) (fun _ _ => rfl) (fun p hp hl => ⟨rfl, rfl, gv p hp hl⟩) (fun _ _ => rfl) (fun _ _ => rfl) q.1, q.2⟩)⟩
      have y := flI_next (by omega) (cph hT g1 (by omega)) (by rw [vv]; omega) x
      rw [show ρ 3 + 1 - 1 + 1 = ρ 3 + 1 by omega] at y
      exact y
  exact ⟨nB, qB (key.1) (nB)⟩
def t_nav_9a : KT := ((0, 0, 0, 0), [(2, 0, 10, 0), (2, 1, 1, 0), (1, 2, 0, 0), (1, 3, 0, 0), (1, 4, 0, 0)], [(0, 0), (0, 0), (-2147483648, 2147483647), (-2147483648, 2147483647), (1, 1)], [(725, [(2, 0, 10, 0), (2, 1, 1, 0), (1, 2, 0, 0)]), (10, [(2, 0, 10, 0), (0, 0, 0, 2), (1, 2, 0, 1)]), (10, [(2, 0, 10, 0), (0, 0, 0, 0), (1, 4, 0, 0)]), (10, [(2, 0, 10, 0), (0, 0, 0, 1), (1, 3, 0, 0)]), (21, [(1, 2, 0, 1), (1, 3, 0, 0)])], (0, 0, 0), [], [], ([], [(596, [(2, 0, 10, 0), (2, 1, 1, 0)])]), ([], []))
set_option maxRecDepth 100000 in
theorem l_nav_9a (g : GG) : LOK Yt (PSt g) t_nav_9a := by
  intro ρ α Γ M as hT hB hA hP
  have g0 : Γ (α 0) = 10 := tyAt hA (i := 0) rfl
  have g1 : Γ (α 1) = 1 := tyAt hA (i := 1) rfl
  have b2 : -2147483648 ≤ ρ 2 ∧ ρ 2 ≤ 2147483647 := hB 2
  have b3 : -2147483648 ≤ ρ 3 ∧ ρ 3 ≤ 2147483647 := hB 3
  have b4 : 1 ≤ ρ 4 ∧ ρ 4 ≤ 1 := hB 4
  have h0 : Γ (α 0) = 10 ∧ (∀ q ∈ ([([], 1, 2)] : VSP), wkT Γ M (α 0) q.1) ∧ Γ (α 1) = 1 ∧ (∀ q ∈ ([([], 0, 2)] : VSP), wkT Γ M (α 1) q.1) ∧ Q725 g (vsv M (α 0) ([], 1, 2)) (vsv M (α 1) ([], 0, 2)) (ρ 2 + 0) := hP _ (List.mem_of_getElem? (i := 0) rfl)
  have h1 : 0 ≤ (2 : Int) ∧ M.2.2.2.2 (α 0) (2 : Int).toNat = ρ 2 + 1 := hP _ (List.mem_of_getElem? (i := 1) rfl)
  have h2 : 0 ≤ (0 : Int) ∧ M.2.2.2.2 (α 0) (0 : Int).toNat = ρ 4 + 0 := hP _ (List.mem_of_getElem? (i := 2) rfl)
  have h3 : 0 ≤ (1 : Int) ∧ M.2.2.2.2 (α 0) (1 : Int).toNat = ρ 3 + 0 := hP _ (List.mem_of_getElem? (i := 3) rfl)
  have h4 : ρ 2 + 1 < ρ 3 + 0 := hP _ (List.mem_of_getElem? (i := 4) rfl)
  try simp only [Int.add_zero] at h0 h1 h2 h3 h4
  have key : (Γ (α 0) = 10 ∧ (∀ q ∈ ([([], 0, 1), ([], 1, 2), ([], 2, 3)] : VSP), wkT Γ M (α 0) q.1) ∧ Γ (α 1) = 1 ∧ (∀ q ∈ ([([], 0, 2)] : VSP), wkT Γ M (α 1) q.1) ∧ Q596 g (vsv M (α 0) ([], 0, 1)) (vsv M (α 0) ([], 1, 2)) (vsv M (α 0) ([], 2, 3)) (vsv M (α 1) ([], 0, 2)) ) ∧ True := by
    try simp only [Int.add_zero]
    have dm1 := cdim hT g1
    have rc1 := rc_bd dm1.1 dm1.2
    obtain ⟨-, -, -, -, p0⟩ := h0
    dsimp only [Q725] at p0
    have e1 : M.2.2.2.2 (α 0) 2 = ρ 2 + 1 := h1.2
    have e2 : M.2.2.2.2 (α 0) 0 = ρ 4 := h2.2
    have e3 : M.2.2.2.2 (α 0) 1 = ρ 3 := h3.2
    refine ⟨⟨g0, pic1 hT g0 (by decide) (by decide), g1, pic1 hT g1 (by decide) (by decide), ?_⟩, trivial⟩
    · dsimp only [Q596]
      have l0 : (vsv M (α 0) ([], 0, 1)) 0 = ρ 4 := (vs0 (by decide) (by decide)).trans e2
      have l1 : (vsv M (α 0) ([], 1, 2)) 1 = ρ 3 := (vs0 (by decide) (by decide)).trans e3
      have l2 : (vsv M (α 0) ([], 2, 3)) 2 = ρ 2 + 1 := (vs0 (by decide) (by decide)).trans e1
      obtain ⟨a1, a2⟩ := p0
      rw [l0, l1, l2]
      rw [l1] at a1
      exact ⟨a1, Or.inr ⟨by omega, by omega⟩⟩
  exact ⟨nB, qB (key.1) (nB)⟩
def t_nav_9b : KT := ((0, 0, 0, 0), [(2, 0, 10, 0), (2, 1, 1, 0), (1, 2, 0, 0), (1, 3, 0, 0), (1, 4, 0, 0)], [(0, 0), (0, 0), (-2147483648, 2147483647), (-2147483648, 2147483647), (0, 0)], [(725, [(2, 0, 10, 0), (2, 1, 1, 0), (1, 2, 0, 0)]), (10, [(2, 0, 10, 0), (0, 0, 0, 2), (1, 2, 0, 1)]), (10, [(2, 0, 10, 0), (0, 0, 0, 0), (1, 4, 0, 0)]), (10, [(2, 0, 10, 0), (0, 0, 0, 1), (1, 3, 0, 0)]), (6, [(1, 3, 0, 0), (1, 2, 0, 1)])], (0, 0, 0), [], [], ([], [(596, [(2, 0, 10, 0), (2, 1, 1, 0)])]), ([], []))
set_option maxRecDepth 100000 in
theorem l_nav_9b (g : GG) : LOK Yt (PSt g) t_nav_9b := by
  intro ρ α Γ M as hT hB hA hP
  have g0 : Γ (α 0) = 10 := tyAt hA (i := 0) rfl
  have g1 : Γ (α 1) = 1 := tyAt hA (i := 1) rfl
  have b2 : -2147483648 ≤ ρ 2 ∧ ρ 2 ≤ 2147483647 := hB 2
  have b3 : -2147483648 ≤ ρ 3 ∧ ρ 3 ≤ 2147483647 := hB 3
  have b4 : 0 ≤ ρ 4 ∧ ρ 4 ≤ 0 := hB 4
  have h0 : Γ (α 0) = 10 ∧ (∀ q ∈ ([([], 1, 2)] : VSP), wkT Γ M (α 0) q.1) ∧ Γ (α 1) = 1 ∧ (∀ q ∈ ([([], 0, 2)] : VSP), wkT Γ M (α 1) q.1) ∧ Q725 g (vsv M (α 0) ([], 1, 2)) (vsv M (α 1) ([], 0, 2)) (ρ 2 + 0) := hP _ (List.mem_of_getElem? (i := 0) rfl)
  have h1 : 0 ≤ (2 : Int) ∧ M.2.2.2.2 (α 0) (2 : Int).toNat = ρ 2 + 1 := hP _ (List.mem_of_getElem? (i := 1) rfl)
  have h2 : 0 ≤ (0 : Int) ∧ M.2.2.2.2 (α 0) (0 : Int).toNat = ρ 4 + 0 := hP _ (List.mem_of_getElem? (i := 2) rfl)
  have h3 : 0 ≤ (1 : Int) ∧ M.2.2.2.2 (α 0) (1 : Int).toNat = ρ 3 + 0 := hP _ (List.mem_of_getElem? (i := 3) rfl)
  have h4 : ρ 3 + 0 ≤ ρ 2 + 1 := hP _ (List.mem_of_getElem? (i := 4) rfl)
  try simp only [Int.add_zero] at h0 h1 h2 h3 h4
  have key : (Γ (α 0) = 10 ∧ (∀ q ∈ ([([], 0, 1), ([], 1, 2), ([], 2, 3)] : VSP), wkT Γ M (α 0) q.1) ∧ Γ (α 1) = 1 ∧ (∀ q ∈ ([([], 0, 2)] : VSP), wkT Γ M (α 1) q.1) ∧ Q596 g (vsv M (α 0) ([], 0, 1)) (vsv M (α 0) ([], 1, 2)) (vsv M (α 0) ([], 2, 3)) (vsv M (α 1) ([], 0, 2)) ) ∧ True := by
    try simp only [Int.add_zero]
    have dm1 := cdim hT g1
    have rc1 := rc_bd dm1.1 dm1.2
    obtain ⟨-, -, -, -, p0⟩ := h0
    dsimp only [Q725] at p0
    have e1 : M.2.2.2.2 (α 0) 2 = ρ 2 + 1 := h1.2
    have e2 : M.2.2.2.2 (α 0) 0 = ρ 4 := h2.2
    have e3 : M.2.2.2.2 (α 0) 1 = ρ 3 := h3.2
    refine ⟨⟨g0, pic1 hT g0 (by decide) (by decide), g1, pic1 hT g1 (by decide) (by decide), ?_⟩, trivial⟩
    · dsimp only [Q596]
      have l0 : (vsv M (α 0) ([], 0, 1)) 0 = ρ 4 := (vs0 (by decide) (by decide)).trans e2
      have l1 : (vsv M (α 0) ([], 1, 2)) 1 = ρ 3 := (vs0 (by decide) (by decide)).trans e3
      have l2 : (vsv M (α 0) ([], 2, 3)) 2 = ρ 2 + 1 := (vs0 (by decide) (by decide)).trans e1
      obtain ⟨a1, a2⟩ := p0
      rw [l0, l1, l2]
      rw [l1] at a1
      exact ⟨a1, Or.inl ⟨by omega, by omega⟩⟩
  exact ⟨nB, qB (key.1) (nB)⟩
def t_nav_10 : KT := ((0, 0, 0, 0), [(2, 0, 10, 0), (2, 1, 1, 0), (2, 2, 26, 0), (1, 3, 0, 0)], [(0, 0), (0, 0), (0, 0), (0, 143)], [(478, [(2, 2, 26, 0), (1, 3, 0, 0)]), (462, [(2, 0, 10, 0), (2, 1, 1, 0), (1, 3, 0, 0)]), (464, [(2, 2, 26, 0)])], (0, 0, 0), [], [], ([], [(591, [(2, 2, 26, 0), (2, 1, 1, 0), (2, 0, 10, 0), (0, 0, 0, 144), (0, 0, 0, 0), (1, 3, 0, 0)]), (584, [(2, 0, 10, 0), (2, 1, 1, 0), (1, 3, 0, 0)])]), ([], []))
set_option maxRecDepth 100000 in
theorem l_nav_10 (g : GG) : LOK Yt (PSt g) t_nav_10 := by
  intro ρ α Γ M as hT hB hA hP
  have g0 : Γ (α 0) = 10 := tyAt hA (i := 0) rfl
  have g1 : Γ (α 1) = 1 := tyAt hA (i := 1) rfl
  have g2 : Γ (α 2) = 26 := tyAt hA (i := 2) rfl
  have b3 : 0 ≤ ρ 3 ∧ ρ 3 ≤ 143 := hB 3
  have h0 : Γ (α 2) = 26 ∧ (∀ q ∈ ([([(1, 28)], 0, 144), ([(3, 30)], 0, 144), ([], 4, 5)] : VSP), wkT Γ M (α 2) q.1) ∧ Q478 g (vsv M (α 2) ([(1, 28)], 0, 144)) (vsv M (α 2) ([(3, 30)], 0, 144)) (vsv M (α 2) ([], 4, 5)) (ρ 3 + 0) := hP _ (List.mem_of_getElem? (i := 0) rfl)
  have h1 : Γ (α 0) = 10 ∧ (∀ q ∈ ([([(6, 13)], 0, 144)] : VSP), wkT Γ M (α 0) q.1) ∧ Γ (α 1) = 1 ∧ (∀ q ∈ ([([], 0, 2)] : VSP), wkT Γ M (α 1) q.1) ∧ Q462 g (vsv M (α 0) ([(6, 13)], 0, 144)) (vsv M (α 1) ([], 0, 2)) (ρ 3 + 0) := hP _ (List.mem_of_getElem? (i := 1) rfl)
  have h2 : Γ (α 2) = 26 ∧ (∀ q ∈ ([([(0, 27)], 0, 288)] : VSP), wkT Γ M (α 2) q.1) ∧ Q464 g (vsv M (α 2) ([(0, 27)], 0, 288))  := hP _ (List.mem_of_getElem? (i := 2) rfl)
  try simp only [Int.add_zero] at h0 h1 h2
  have key : (Γ (α 2) = 26 ∧ (∀ q ∈ ([([(0, 27)], 0, 288), ([(1, 28)], 0, 144), ([(3, 30)], 0, 144), ([], 4, 5)] : VSP), wkT Γ M (α 2) q.1) ∧ Γ (α 1) = 1 ∧ (∀ q ∈ ([([], 0, 2)] : VSP), wkT Γ M (α 1) q.1) ∧ Γ (α 0) = 10 ∧ (∀ q ∈ ([([(6, 13)], 0, 144)] : VSP), wkT Γ M (α 0) q.1) ∧ Q591 g (vsv M (α 2) ([(0, 27)], 0, 288)) (vsv M (α 2) ([(1, 28)], 0, 144)) (vsv M (α 2) ([(3, 30)], 0, 144)) (vsv M (α 2) ([], 4, 5)) (vsv M (α 1) ([], 0, 2)) (vsv M (α 0) ([(6, 13)], 0, 144)) (144) (0) (ρ 3 + 0)) ∧ (Γ (α 0) = 10 ∧ (∀ q ∈ ([([(6, 13)], 0, 144)] : VSP), wkT Γ M (α 0) q.1) ∧ Γ (α 1) = 1 ∧ (∀ q ∈ ([([], 0, 2)] : VSP), wkT Γ M (α 1) q.1) ∧ Q584 g (vsv M (α 0) ([(6, 13)], 0, 144)) (vsv M (α 1) ([], 0, 2)) (ρ 3 + 0)) ∧ True := by
    try simp only [Int.add_zero]
    have dm1 := cdim hT g1
    have rc1 := rc_bd dm1.1 dm1.2
    obtain ⟨-, -, p0⟩ := h0
    dsimp only [Q478] at p0
    obtain ⟨-, -, -, -, p1⟩ := h1
    dsimp only [Q462] at p1
    obtain ⟨-, -, p2⟩ := h2
    dsimp only [Q464] at p2
    obtain ⟨⟨r1, r2⟩, ⟨⟨z1, z2⟩, z3, z4⟩, ⟨r4, r5⟩, r6⟩ := p1
    have c : ((ρ 3).toNat : Int) = ρ 3 := by omega
    have rc81 : 4 ≤ zR g * zC g ∧ zR g * zC g ≤ 81 := ⟨(rc_bd ⟨z1, by omega⟩ ⟨z3, by omega⟩).1, Int.le_trans (Int.mul_le_mul z2 z4 (by omega) (by decide)) (by decide)⟩
    refine ⟨⟨g2, pic1 hT g2 (by decide) (by decide), g1, pic1 hT g1 (by decide) (by decide), g0, pic1 hT g0 (by decide) (by decide), ?_⟩, ⟨g0, pic1 hT g0 (by decide) (by decide), g1, pic1 hT g1 (by decide) (by decide), ?_⟩, trivial⟩
    · dsimp only [Q591]
      rw [← c] at p0 ⊢
      have q := fn_after (S2 := (vsv M (α 0) ([(6, 13)], 0, 144))) (b := 144) (by omega) (by omega) p0 (fun p hp hne => r6 p hp (by omega)) r5
      rw [r1, r2]
      exact fn_c (by omega) (by omega) (fun _ _ => rfl) (fun _ _ => rfl) (fun _ _ => rfl) (fun e he => by have := p2 e (by have := he.2.1; omega); show (zB g e = 0) ↔ ((vsv M (α 2) ([(0, 27)], 0, 288)) e = 0); rw [this]) (Or.inl (Int.le_refl _)) (by decide) q
    · dsimp only [Q584]
      exact ⟨r4, r5⟩
  exact ⟨nB, qB (key.1) (qB (key.2.1) (nB))⟩
def t_nav_11 : KT := ((0, 0, 0, 0), [(2, 0, 10, 0), (2, 1, 1, 0), (2, 2, 26, 0), (1, 3, 0, 0)], [(0, 0), (0, 0), (0, 0), (0, 143)], [(460, [(2, 0, 10, 0), (2, 1, 1, 0)]), (464, [(2, 2, 26, 0)]), (462, [(2, 0, 10, 0), (2, 1, 1, 0), (1, 3, 0, 0)])], (0, 0, 0), [], [], ([], [(594, [(2, 0, 10, 0), (2, 1, 1, 0), (2, 2, 26, 0)])]), ([], []))
set_option maxRecDepth 100000 in
theorem l_nav_11 (g : GG) : LOK Yt (PSt g) t_nav_11 := by
  intro ρ α Γ M as hT hB hA hP
  have g0 : Γ (α 0) = 10 := tyAt hA (i := 0) rfl
  have g1 : Γ (α 1) = 1 := tyAt hA (i := 1) rfl
  have g2 : Γ (α 2) = 26 := tyAt hA (i := 2) rfl
  have b3 : 0 ≤ ρ 3 ∧ ρ 3 ≤ 143 := hB 3
  have h0 : Γ (α 0) = 10 ∧ (∀ q ∈ ([([], 2, 3), ([], 3, 4), ([(4, 11)], 0, 144), ([(5, 12)], 0, 144), ([(6, 13)], 0, 144), ([(7, 14)], 0, 144), ([(8, 15)], 0, 144)] : VSP), wkT Γ M (α 0) q.1) ∧ Γ (α 1) = 1 ∧ (∀ q ∈ ([([], 0, 2), ([(2, 2)], 0, 144)] : VSP), wkT Γ M (α 1) q.1) ∧ Q460 g (vsv M (α 0) ([], 2, 3)) (vsv M (α 0) ([], 3, 4)) (vsv M (α 0) ([(4, 11)], 0, 144)) (vsv M (α 0) ([(5, 12)], 0, 144)) (vsv M (α 0) ([(6, 13)], 0, 144)) (vsv M (α 0) ([(7, 14)], 0, 144)) (vsv M (α 0) ([(8, 15)], 0, 144)) (vsv M (α 1) ([], 0, 2)) (vsv M (α 1) ([(2, 2)], 0, 144))  := hP _ (List.mem_of_getElem? (i := 0) rfl)
  have h1 : Γ (α 2) = 26 ∧ (∀ q ∈ ([([(0, 27)], 0, 288)] : VSP), wkT Γ M (α 2) q.1) ∧ Q464 g (vsv M (α 2) ([(0, 27)], 0, 288))  := hP _ (List.mem_of_getElem? (i := 1) rfl)
  have h2 : Γ (α 0) = 10 ∧ (∀ q ∈ ([([(6, 13)], 0, 144)] : VSP), wkT Γ M (α 0) q.1) ∧ Γ (α 1) = 1 ∧ (∀ q ∈ ([([], 0, 2)] : VSP), wkT Γ M (α 1) q.1) ∧ Q462 g (vsv M (α 0) ([(6, 13)], 0, 144)) (vsv M (α 1) ([], 0, 2)) (ρ 3 + 0) := hP _ (List.mem_of_getElem? (i := 2) rfl)
  try simp only [Int.add_zero] at h0 h1 h2
  have key : (Γ (α 0) = 10 ∧ (∀ q ∈ ([([], 2, 3), ([], 3, 4), ([(4, 11)], 0, 144), ([(5, 12)], 0, 144), ([(6, 13)], 0, 144), ([(7, 14)], 0, 144), ([(8, 15)], 0, 144)] : VSP), wkT Γ M (α 0) q.1) ∧ Γ (α 1) = 1 ∧ (∀ q ∈ ([([], 0, 2), ([(2, 2)], 0, 144)] : VSP), wkT Γ M (α 1) q.1) ∧ Γ (α 2) = 26 ∧ (∀ q ∈ ([([(0, 27)], 0, 288)] : VSP), wkT Γ M (α 2) q.1) ∧ Q594 g (vsv M (α 0) ([], 2, 3)) (vsv M (α 0) ([], 3, 4)) (vsv M (α 0) ([(4, 11)], 0, 144)) (vsv M (α 0) ([(5, 12)], 0, 144)) (vsv M (α 0) ([(6, 13)], 0, 144)) (vsv M (α 0) ([(7, 14)], 0, 144)) (vsv M (α 0) ([(8, 15)], 0, 144)) (vsv M (α 1) ([], 0, 2)) (vsv M (α 1) ([(2, 2)], 0, 144)) (vsv M (α 2) ([(0, 27)], 0, 288)) ) ∧ True := by
    try simp only [Int.add_zero]
    have dm1 := cdim hT g1
    have rc1 := rc_bd dm1.1 dm1.2
    obtain ⟨-, -, -, -, p0⟩ := h0
    dsimp only [Q460] at p0
    obtain ⟨-, -, p1⟩ := h1
    dsimp only [Q464] at p1
    obtain ⟨-, -, -, -, p2⟩ := h2
    dsimp only [Q462] at p2
    refine ⟨⟨g0, pic1 hT g0 (by decide) (by decide), g1, pic1 hT g1 (by decide) (by decide), g2, pic1 hT g2 (by decide) (by decide), ?_⟩, trivial⟩
    · dsimp only [Q594]
      exact flI_c (by omega) (by omega) (fun e he => by have := p1 e (by have := he.2.1; omega); show (zB g e = 0) ↔ ((vsv M (α 2) ([(0, 27)], 0, 288)) e = 0); rw [this]) (fun _ _ => rfl) (fun _ _ _ => ⟨rfl, rfl, rfl⟩) (fun _ _ => rfl) (fun _ _ => rfl) p0
  exact ⟨nB, qB (key.1) (nB)⟩
def t_nav_5b : KT := ((0, 0, 0, 0), [(2, 0, 10, 0), (2, 1, 1, 0), (1, 2, 0, 0), (1, 3, 0, 0)], [(0, 0), (0, 0), (0, 143), (-2147483648, 2147483647)], [(465, [(2, 0, 10, 0), (2, 1, 1, 0), (1, 2, 0, 0)]), (10, [(2, 0, 10, 0), (0, 0, 0, 2), (1, 3, 0, 0)]), (595, [(2, 0, 10, 0), (2, 1, 1, 0)])], (0, 0, 0), [], [], ([(3, 0, 143)], []), ([], []))
set_option maxRecDepth 100000 in
theorem l_nav_5b (g : GG) : LOK Yt (PSt g) t_nav_5b := by
  intro ρ α Γ M as hT hB hA hP
  have g0 : Γ (α 0) = 10 := tyAt hA (i := 0) rfl
  have g1 : Γ (α 1) = 1 := tyAt hA (i := 1) rfl
  have b2 : 0 ≤ ρ 2 ∧ ρ 2 ≤ 143 := hB 2
  have b3 : -2147483648 ≤ ρ 3 ∧ ρ 3 ≤ 2147483647 := hB 3
  have h0 : Γ (α 0) = 10 ∧ (∀ q ∈ ([([], 2, 3), ([], 3, 4), ([(4, 11)], 0, 144), ([(5, 12)], 0, 144), ([(6, 13)], 0, 144), ([(7, 14)], 0, 144), ([(8, 15)], 0, 144)] : VSP), wkT Γ M (α 0) q.1) ∧ Γ (α 1) = 1 ∧ (∀ q ∈ ([([], 0, 2), ([(2, 2)], 0, 144)] : VSP), wkT Γ M (α 1) q.1) ∧ Q465 g (vsv M (α 0) ([], 2, 3)) (vsv M (α 0) ([], 3, 4)) (vsv M (α 0) ([(4, 11)], 0, 144)) (vsv M (α 0) ([(5, 12)], 0, 144)) (vsv M (α 0) ([(6, 13)], 0, 144)) (vsv M (α 0) ([(7, 14)], 0, 144)) (vsv M (α 0) ([(8, 15)], 0, 144)) (vsv M (α 1) ([], 0, 2)) (vsv M (α 1) ([(2, 2)], 0, 144)) (ρ 2 + 0) := hP _ (List.mem_of_getElem? (i := 0) rfl)
  have h1 : 0 ≤ (2 : Int) ∧ M.2.2.2.2 (α 0) (2 : Int).toNat = ρ 3 + 0 := hP _ (List.mem_of_getElem? (i := 1) rfl)
  have h2 : Γ (α 0) = 10 ∧ (∀ q ∈ ([([], 1, 2), ([], 2, 3)] : VSP), wkT Γ M (α 0) q.1) ∧ Γ (α 1) = 1 ∧ (∀ q ∈ ([([], 0, 2)] : VSP), wkT Γ M (α 1) q.1) ∧ Q595 g (vsv M (α 0) ([], 1, 2)) (vsv M (α 0) ([], 2, 3)) (vsv M (α 1) ([], 0, 2))  := hP _ (List.mem_of_getElem? (i := 2) rfl)
  try simp only [Int.add_zero] at h0 h1 h2
  have key : (0 ≤ ρ 3 ∧ ρ 3 ≤ 143) ∧ True := by
    try simp only [Int.add_zero]
    have dm1 := cdim hT g1
    have rc1 := rc_bd dm1.1 dm1.2
    obtain ⟨-, -, -, -, p0⟩ := h0
    dsimp only [Q465] at p0
    have e1 : M.2.2.2.2 (α 0) 2 = ρ 3 := h1.2
    obtain ⟨-, -, -, -, p2⟩ := h2
    dsimp only [Q595] at p2
    have l2 : (vsv M (α 0) ([], 2, 3)) 2 = ρ 3 := (vs0 (by decide) (by decide)).trans e1
    refine ⟨?_, trivial⟩
    · rw [l2] at p0 p2
      have := p2.2
      rcases p0.2.2 with q | q <;> have := q.1.1.1.1 <;> omega
  exact ⟨qB (key.1) (nB), nB⟩
def t_nuNH : KT := ((0, 0, 0, 0), [(2, 0, 54, 0), (2, 1, 38, 0)], [(0, 0), (0, 0)], [(733, [(2, 0, 54, 0)]), (11, [(2, 0, 54, 0), (0, 0, 0, 0), (2, 1, 38, 0)])], (0, 0, 0), [], [], ([], [(495, [(2, 1, 38, 0)])]), ([], []))
set_option maxRecDepth 100000 in
theorem l_nuNH (g : GG) : LOK Yt (PSt g) t_nuNH := by
  intro ρ α Γ M as hT hB hA hP
  have g0 : Γ (α 0) = 54 := tyAt hA (i := 0) rfl
  have g1 : Γ (α 1) = 38 := tyAt hA (i := 1) rfl
  have h0 : Γ (α 0) = 54 ∧ (∀ q ∈ ([([(0, 38), (0, 1), (4, 4)], 0, 144)] : VSP), wkT Γ M (α 0) q.1) ∧ Q733 g (vsv M (α 0) ([(0, 38), (0, 1), (4, 4)], 0, 144))  := hP _ (List.mem_of_getElem? (i := 0) rfl)
  have h1 : 0 ≤ (0 : Int) ∧ M.2.2.2.1 (α 0) (0 : Int).toNat = some (α 1) := hP _ (List.mem_of_getElem? (i := 1) rfl)
  try simp only [Int.add_zero] at h0 h1
  have key : (Γ (α 1) = 38 ∧ (∀ q ∈ ([([(0, 1), (4, 4)], 0, 144)] : VSP), wkT Γ M (α 1) q.1) ∧ Q495 g (vsv M (α 1) ([(0, 1), (4, 4)], 0, 144)) ) ∧ True := by
    try simp only [Int.add_zero]
    have dm0 := fdim hT g0
    have rc0 := rc_bd dm0.1 dm0.2
    have dm1 := wdim hT g1
    have rc1 := rc_bd dm1.1 dm1.2
    obtain ⟨-, -, p0⟩ := h0
    dsimp only [Q733] at p0
    have e1 : M.2.2.2.1 (α 0) 0 = some (α 1) := h1.2
    have s_hd : (vsv M (α 0) ([(0, 38), (0, 1), (4, 4)], 0, 144)) = (vsv M (α 1) ([(0, 1), (4, 4)], 0, 144)) := vsvS e1
    refine ⟨⟨g1, pic1 hT g1 (by decide) (by decide), ?_⟩, trivial⟩
    · dsimp only [Q495]
      rw [s_hd] at p0
      exact p0
  exact ⟨nB, qB (key.1) (nB)⟩
def t_nuD9 : KT := ((0, 0, 0, 0), [(2, 0, 54, 0), (2, 1, 38, 0)], [(0, 0), (0, 0)], [(734, [(2, 0, 54, 0)]), (11, [(2, 0, 54, 0), (0, 0, 0, 0), (2, 1, 38, 0)])], (0, 0, 0), [], [], ([], [(599, [(2, 1, 38, 0)])]), ([], []))
set_option maxRecDepth 100000 in
theorem l_nuD9 (g : GG) : LOK Yt (PSt g) t_nuD9 := by
  intro ρ α Γ M as hT hB hA hP
  have g0 : Γ (α 0) = 54 := tyAt hA (i := 0) rfl
  have g1 : Γ (α 1) = 38 := tyAt hA (i := 1) rfl
  have h0 : Γ (α 0) = 54 ∧ (∀ q ∈ ([([(0, 38), (0, 1)], 0, 2)] : VSP), wkT Γ M (α 0) q.1) ∧ Q734 g (vsv M (α 0) ([(0, 38), (0, 1)], 0, 2))  := hP _ (List.mem_of_getElem? (i := 0) rfl)
  have h1 : 0 ≤ (0 : Int) ∧ M.2.2.2.1 (α 0) (0 : Int).toNat = some (α 1) := hP _ (List.mem_of_getElem? (i := 1) rfl)
  try simp only [Int.add_zero] at h0 h1
  have key : (Γ (α 1) = 38 ∧ (∀ q ∈ ([([(0, 1)], 0, 2)] : VSP), wkT Γ M (α 1) q.1) ∧ Q599 g (vsv M (α 1) ([(0, 1)], 0, 2)) ) ∧ True := by
    try simp only [Int.add_zero]
    have dm0 := fdim hT g0
    have rc0 := rc_bd dm0.1 dm0.2
    have dm1 := wdim hT g1
    have rc1 := rc_bd dm1.1 dm1.2
    obtain ⟨-, -, p0⟩ := h0
    dsimp only [Q734] at p0
    have e1 : M.2.2.2.1 (α 0) 0 = some (α 1) := h1.2
    have s_ch : (vsv M (α 0) ([(0, 38), (0, 1)], 0, 2)) = (vsv M (α 1) ([(0, 1)], 0, 2)) := vsvS e1
    refine ⟨⟨g1, pic1 hT g1 (by decide) (by decide), ?_⟩, trivial⟩
    · dsimp only [Q599]
      rw [s_ch] at p0
      exact p0
  exact ⟨nB, qB (key.1) (nB)⟩
def t_npBAR : KT := ((0, 0, 0, 0), [(2, 0, 54, 0), (2, 1, 38, 0), (2, 2, 26, 0)], [(0, 0), (0, 0), (0, 0)], [(481, [(2, 1, 38, 0), (2, 2, 26, 0)]), (11, [(2, 0, 54, 0), (0, 0, 0, 0), (2, 1, 38, 0)]), (11, [(2, 0, 54, 0), (0, 0, 0, 6), (2, 2, 26, 0)])], (0, 0, 0), [], [], ([], [(737, [(2, 0, 54, 0)])]), ([], []))
set_option maxRecDepth 100000 in
theorem l_npBAR (g : GG) : LOK Yt (PSt g) t_npBAR := by
  intro ρ α Γ M as hT hB hA hP
  have g0 : Γ (α 0) = 54 := tyAt hA (i := 0) rfl
  have g1 : Γ (α 1) = 38 := tyAt hA (i := 1) rfl
  have g2 : Γ (α 2) = 26 := tyAt hA (i := 2) rfl
  have h0 : Γ (α 1) = 38 ∧ (∀ q ∈ ([([(0, 1)], 0, 2), ([(1, 6), (4, 9)], 0, 288), ([(0, 1), (5, 5)], 0, 288)] : VSP), wkT Γ M (α 1) q.1) ∧ Γ (α 2) = 26 ∧ (∀ q ∈ ([([(0, 27)], 0, 288)] : VSP), wkT Γ M (α 2) q.1) ∧ Q481 g (vsv M (α 1) ([(0, 1)], 0, 2)) (vsv M (α 1) ([(1, 6), (4, 9)], 0, 288)) (vsv M (α 1) ([(0, 1), (5, 5)], 0, 288)) (vsv M (α 2) ([(0, 27)], 0, 288))  := hP _ (List.mem_of_getElem? (i := 0) rfl)
  have h1 : 0 ≤ (0 : Int) ∧ M.2.2.2.1 (α 0) (0 : Int).toNat = some (α 1) := hP _ (List.mem_of_getElem? (i := 1) rfl)
  have h2 : 0 ≤ (6 : Int) ∧ M.2.2.2.1 (α 0) (6 : Int).toNat = some (α 2) := hP _ (List.mem_of_getElem? (i := 2) rfl)
  try simp only [Int.add_zero] at h0 h1 h2
  have key : (Γ (α 0) = 54 ∧ (∀ q ∈ ([([(0, 38), (0, 1)], 0, 2), ([(0, 38), (1, 6), (4, 9)], 0, 288), ([(0, 38), (0, 1), (5, 5)], 0, 288), ([(6, 26), (0, 27)], 0, 288)] : VSP), wkT Γ M (α 0) q.1) ∧ Q737 g (vsv M (α 0) ([(0, 38), (0, 1)], 0, 2)) (vsv M (α 0) ([(0, 38), (1, 6), (4, 9)], 0, 288)) (vsv M (α 0) ([(0, 38), (0, 1), (5, 5)], 0, 288)) (vsv M (α 0) ([(6, 26), (0, 27)], 0, 288)) ) ∧ True := by
    try simp only [Int.add_zero]
    have dm0 := fdim hT g0
    have rc0 := rc_bd dm0.1 dm0.2
    have dm1 := wdim hT g1
    have rc1 := rc_bd dm1.1 dm1.2
    obtain ⟨-, -, -, -, p0⟩ := h0
    dsimp only [Q481] at p0
    have e1 : M.2.2.2.1 (α 0) 0 = some (α 1) := h1.2
    have e2 : M.2.2.2.1 (α 0) 6 = some (α 2) := h2.2
    have d_ch : (vsv M (α 0) ([(0, 38), (0, 1)], 0, 2)) = (vsv M (α 1) ([(0, 1)], 0, 2)) := vsvS e1
    have d_ov : (vsv M (α 0) ([(0, 38), (1, 6), (4, 9)], 0, 288)) = (vsv M (α 1) ([(1, 6), (4, 9)], 0, 288)) := vsvS e1
    have d_bh : (vsv M (α 0) ([(0, 38), (0, 1), (5, 5)], 0, 288)) = (vsv M (α 1) ([(0, 1), (5, 5)], 0, 288)) := vsvS e1
    have d_br : (vsv M (α 0) ([(6, 26), (0, 27)], 0, 288)) = (vsv M (α 2) ([(0, 27)], 0, 288)) := vsvS e2
    refine ⟨⟨g0, pic1 hT g0 (by decide) (by decide), ?_⟩, trivial⟩
    · dsimp only [Q737]
      rw [d_ch, d_ov, d_bh, d_br]
      exact p0
  exact ⟨nB, qB (key.1) (nB)⟩
def t_npFN : KT := ((0, 0, 0, 0), [(2, 0, 54, 0), (2, 1, 38, 0), (2, 2, 26, 0), (1, 3, 0, 0), (1, 4, 0, 0), (1, 5, 0, 0)], [(0, 0), (0, 0), (0, 0), (-2147483648, 2147483647), (-2147483648, 2147483647), (-2147483648, 2147483647)], [(480, [(2, 2, 26, 0), (2, 1, 38, 0), (1, 3, 0, 0), (1, 4, 0, 0), (1, 5, 0, 0)]), (11, [(2, 0, 54, 0), (0, 0, 0, 0), (2, 1, 38, 0)]), (11, [(2, 0, 54, 0), (0, 0, 0, 6), (2, 2, 26, 0)])], (0, 0, 0), [], [], ([], [(736, [(2, 0, 54, 0), (1, 3, 0, 0), (1, 4, 0, 0), (1, 5, 0, 0)])]), ([], []))
set_option maxRecDepth 100000 in
theorem l_npFN (g : GG) : LOK Yt (PSt g) t_npFN := by
  intro ρ α Γ M as hT hB hA hP
  have g0 : Γ (α 0) = 54 := tyAt hA (i := 0) rfl
  have g1 : Γ (α 1) = 38 := tyAt hA (i := 1) rfl
  have g2 : Γ (α 2) = 26 := tyAt hA (i := 2) rfl
  have b3 : -2147483648 ≤ ρ 3 ∧ ρ 3 ≤ 2147483647 := hB 3
  have b4 : -2147483648 ≤ ρ 4 ∧ ρ 4 ≤ 2147483647 := hB 4
  have b5 : -2147483648 ≤ ρ 5 ∧ ρ 5 ≤ 2147483647 := hB 5
  have h0 : Γ (α 2) = 26 ∧ (∀ q ∈ ([([(0, 27)], 0, 288), ([(1, 28)], 0, 144), ([(3, 30)], 0, 144), ([], 4, 5)] : VSP), wkT Γ M (α 2) q.1) ∧ Γ (α 1) = 38 ∧ (∀ q ∈ ([([(0, 1)], 0, 2), ([(2, 10), (6, 13)], 0, 144)] : VSP), wkT Γ M (α 1) q.1) ∧ Q480 g (vsv M (α 2) ([(0, 27)], 0, 288)) (vsv M (α 2) ([(1, 28)], 0, 144)) (vsv M (α 2) ([(3, 30)], 0, 144)) (vsv M (α 2) ([], 4, 5)) (vsv M (α 1) ([(0, 1)], 0, 2)) (vsv M (α 1) ([(2, 10), (6, 13)], 0, 144)) (ρ 3 + 0) (ρ 4 + 0) (ρ 5 + 0) := hP _ (List.mem_of_getElem? (i := 0) rfl)
  have h1 : 0 ≤ (0 : Int) ∧ M.2.2.2.1 (α 0) (0 : Int).toNat = some (α 1) := hP _ (List.mem_of_getElem? (i := 1) rfl)
  have h2 : 0 ≤ (6 : Int) ∧ M.2.2.2.1 (α 0) (6 : Int).toNat = some (α 2) := hP _ (List.mem_of_getElem? (i := 2) rfl)
  try simp only [Int.add_zero] at h0 h1 h2
  have key : (Γ (α 0) = 54 ∧ (∀ q ∈ ([([(6, 26), (0, 27)], 0, 288), ([(6, 26), (1, 28)], 0, 144), ([(6, 26), (3, 30)], 0, 144), ([(6, 26)], 4, 5), ([(0, 38), (0, 1)], 0, 2), ([(0, 38), (2, 10), (6, 13)], 0, 144)] : VSP), wkT Γ M (α 0) q.1) ∧ Q736 g (vsv M (α 0) ([(6, 26), (0, 27)], 0, 288)) (vsv M (α 0) ([(6, 26), (1, 28)], 0, 144)) (vsv M (α 0) ([(6, 26), (3, 30)], 0, 144)) (vsv M (α 0) ([(6, 26)], 4, 5)) (vsv M (α 0) ([(0, 38), (0, 1)], 0, 2)) (vsv M (α 0) ([(0, 38), (2, 10), (6, 13)], 0, 144)) (ρ 3 + 0) (ρ 4 + 0) (ρ 5 + 0)) ∧ True := by
    try simp only [Int.add_zero]
    have dm0 := fdim hT g0
    have rc0 := rc_bd dm0.1 dm0.2
    have dm1 := wdim hT g1
    have rc1 := rc_bd dm1.1 dm1.2
    obtain ⟨-, -, -, -, p0⟩ := h0
    dsimp only [Q480] at p0
    have e1 : M.2.2.2.1 (α 0) 0 = some (α 1) := h1.2
    have e2 : M.2.2.2.1 (α 0) 6 = some (α 2) := h2.2
    have d_br : (vsv M (α 0) ([(6, 26), (0, 27)], 0, 288)) = (vsv M (α 2) ([(0, 27)], 0, 288)) := vsvS e2
    have d_via : (vsv M (α 0) ([(6, 26), (1, 28)], 0, 144)) = (vsv M (α 2) ([(1, 28)], 0, 144)) := vsvS e2
    have d_wa : (vsv M (α 0) ([(6, 26), (3, 30)], 0, 144)) = (vsv M (α 2) ([(3, 30)], 0, 144)) := vsvS e2
    have d_fr : (vsv M (α 0) ([(6, 26)], 4, 5)) = (vsv M (α 2) ([], 4, 5)) := vsvS e2
    have d_ch : (vsv M (α 0) ([(0, 38), (0, 1)], 0, 2)) = (vsv M (α 1) ([(0, 1)], 0, 2)) := vsvS e1
    have d_S : (vsv M (α 0) ([(0, 38), (2, 10), (6, 13)], 0, 144)) = (vsv M (α 1) ([(2, 10), (6, 13)], 0, 144)) := vsvS e1
    refine ⟨⟨g0, pic1 hT g0 (by decide) (by decide), ?_⟩, trivial⟩
    · dsimp only [Q736]
      rw [d_br, d_via, d_wa, d_fr, d_ch, d_S]
      exact p0
  exact ⟨nB, qB (key.1) (nB)⟩
def t_nuFN : KT := ((0, 0, 0, 0), [(2, 0, 54, 0), (2, 1, 38, 0), (2, 2, 1, 0), (2, 3, 10, 0), (2, 4, 26, 0), (1, 5, 0, 0), (1, 6, 0, 0), (1, 7, 0, 0)], [(0, 0), (0, 0), (0, 0), (0, 0), (0, 0), (-2147483648, 2147483647), (-2147483648, 2147483647), (-2147483648, 2147483647)], [(736, [(2, 0, 54, 0), (1, 5, 0, 0), (1, 6, 0, 0), (1, 7, 0, 0)]), (11, [(2, 0, 54, 0), (0, 0, 0, 0), (2, 1, 38, 0)]), (11, [(2, 1, 38, 0), (0, 0, 0, 0), (2, 2, 1, 0)]), (11, [(2, 1, 38, 0), (0, 0, 0, 2), (2, 3, 10, 0)]), (11, [(2, 0, 54, 0), (0, 0, 0, 6), (2, 4, 26, 0)])], (0, 0, 0), [], [], ([], [(591, [(2, 4, 26, 0), (2, 2, 1, 0), (2, 3, 10, 0), (1, 5, 0, 0), (1, 6, 0, 0), (1, 7, 0, 0)])]), ([], []))
set_option maxRecDepth 100000 in
theorem l_nuFN (g : GG) : LOK Yt (PSt g) t_nuFN := by
  intro ρ α Γ M as hT hB hA hP
  have g0 : Γ (α 0) = 54 := tyAt hA (i := 0) rfl
  have g1 : Γ (α 1) = 38 := tyAt hA (i := 1) rfl
  have g2 : Γ (α 2) = 1 := tyAt hA (i := 2) rfl
  have g3 : Γ (α 3) = 10 := tyAt hA (i := 3) rfl
  have g4 : Γ (α 4) = 26 := tyAt hA (i := 4) rfl
  have b5 : -2147483648 ≤ ρ 5 ∧ ρ 5 ≤ 2147483647 := hB 5
  have b6 : -2147483648 ≤ ρ 6 ∧ ρ 6 ≤ 2147483647 := hB 6
  have b7 : -2147483648 ≤ ρ 7 ∧ ρ 7 ≤ 2147483647 := hB 7
  have h0 : Γ (α 0) = 54 ∧ (∀ q ∈ ([([(6, 26), (0, 27)], 0, 288), ([(6, 26), (1, 28)], 0, 144), ([(6, 26), (3, 30)], 0, 144), ([(6, 26)], 4, 5), ([(0, 38), (0, 1)], 0, 2), ([(0, 38), (2, 10), (6, 13)], 0, 144)] : VSP), wkT Γ M (α 0) q.1) ∧ Q736 g (vsv M (α 0) ([(6, 26), (0, 27)], 0, 288)) (vsv M (α 0) ([(6, 26), (1, 28)], 0, 144)) (vsv M (α 0) ([(6, 26), (3, 30)], 0, 144)) (vsv M (α 0) ([(6, 26)], 4, 5)) (vsv M (α 0) ([(0, 38), (0, 1)], 0, 2)) (vsv M (α 0) ([(0, 38), (2, 10), (6, 13)], 0, 144)) (ρ 5 + 0) (ρ 6 + 0) (ρ 7 + 0) := hP _ (List.mem_of_getElem? (i := 0) rfl)
  have h1 : 0 ≤ (0 : Int) ∧ M.2.2.2.1 (α 0) (0 : Int).toNat = some (α 1) := hP _ (List.mem_of_getElem? (i := 1) rfl)
  have h2 : 0 ≤ (0 : Int) ∧ M.2.2.2.1 (α 1) (0 : Int).toNat = some (α 2) := hP _ (List.mem_of_getElem? (i := 2) rfl)
  have h3 : 0 ≤ (2 : Int) ∧ M.2.2.2.1 (α 1) (2 : Int).toNat = some (α 3) := hP _ (List.mem_of_getElem? (i := 3) rfl)
  have h4 : 0 ≤ (6 : Int) ∧ M.2.2.2.1 (α 0) (6 : Int).toNat = some (α 4) := hP _ (List.mem_of_getElem? (i := 4) rfl)
  try simp only [Int.add_zero] at h0 h1 h2 h3 h4
  have key : (Γ (α 4) = 26 ∧ (∀ q ∈ ([([(0, 27)], 0, 288), ([(1, 28)], 0, 144), ([(3, 30)], 0, 144), ([], 4, 5)] : VSP), wkT Γ M (α 4) q.1) ∧ Γ (α 2) = 1 ∧ (∀ q ∈ ([([], 0, 2)] : VSP), wkT Γ M (α 2) q.1) ∧ Γ (α 3) = 10 ∧ (∀ q ∈ ([([(6, 13)], 0, 144)] : VSP), wkT Γ M (α 3) q.1) ∧ Q591 g (vsv M (α 4) ([(0, 27)], 0, 288)) (vsv M (α 4) ([(1, 28)], 0, 144)) (vsv M (α 4) ([(3, 30)], 0, 144)) (vsv M (α 4) ([], 4, 5)) (vsv M (α 2) ([], 0, 2)) (vsv M (α 3) ([(6, 13)], 0, 144)) (ρ 5 + 0) (ρ 6 + 0) (ρ 7 + 0)) ∧ True := by
    try simp only [Int.add_zero]
    have dm0 := fdim hT g0
    have rc0 := rc_bd dm0.1 dm0.2
    have dm1 := wdim hT g1
    have rc1 := rc_bd dm1.1 dm1.2
    have dm2 := cdim hT g2
    have rc2 := rc_bd dm2.1 dm2.2
    obtain ⟨-, -, p0⟩ := h0
    dsimp only [Q736] at p0
    have e1 : M.2.2.2.1 (α 0) 0 = some (α 1) := h1.2
    have e2 : M.2.2.2.1 (α 1) 0 = some (α 2) := h2.2
    have e3 : M.2.2.2.1 (α 1) 2 = some (α 3) := h3.2
    have e4 : M.2.2.2.1 (α 0) 6 = some (α 4) := h4.2
    have s_br : (vsv M (α 0) ([(6, 26), (0, 27)], 0, 288)) = (vsv M (α 4) ([(0, 27)], 0, 288)) := vsvS e4
    have s_via : (vsv M (α 0) ([(6, 26), (1, 28)], 0, 144)) = (vsv M (α 4) ([(1, 28)], 0, 144)) := vsvS e4
    have s_wa : (vsv M (α 0) ([(6, 26), (3, 30)], 0, 144)) = (vsv M (α 4) ([(3, 30)], 0, 144)) := vsvS e4
    have s_fr : (vsv M (α 0) ([(6, 26)], 4, 5)) = (vsv M (α 4) ([], 4, 5)) := vsvS e4
    have s_ch : (vsv M (α 0) ([(0, 38), (0, 1)], 0, 2)) = (vsv M (α 2) ([], 0, 2)) := (vsvS e1).trans (vsvS e2)
    have s_S : (vsv M (α 0) ([(0, 38), (2, 10), (6, 13)], 0, 144)) = (vsv M (α 3) ([(6, 13)], 0, 144)) := (vsvS e1).trans (vsvS e3)
    refine ⟨⟨g4, pic1 hT g4 (by decide) (by decide), g2, pic1 hT g2 (by decide) (by decide), g3, pic1 hT g3 (by decide) (by decide), ?_⟩, trivial⟩
    · dsimp only [Q591]
      rw [s_br, s_via, s_wa, s_fr, s_ch, s_S] at p0
      exact p0
  exact ⟨nB, qB (key.1) (nB)⟩
def t_npFN5 : KT := ((0, 0, 0, 0), [(2, 0, 54, 0), (2, 1, 38, 0), (2, 2, 1, 0), (2, 3, 10, 0), (2, 4, 26, 0), (1, 5, 0, 0), (1, 6, 0, 0), (1, 7, 0, 0)], [(0, 0), (0, 0), (0, 0), (0, 0), (0, 0), (-2147483648, 2147483647), (-2147483648, 2147483647), (-2147483648, 2147483647)], [(591, [(2, 4, 26, 0), (2, 2, 1, 0), (2, 3, 10, 0), (1, 5, 0, 0), (1, 6, 0, 0), (1, 7, 0, 0)]), (11, [(2, 0, 54, 0), (0, 0, 0, 0), (2, 1, 38, 0)]), (11, [(2, 1, 38, 0), (0, 0, 0, 0), (2, 2, 1, 0)]), (11, [(2, 1, 38, 0), (0, 0, 0, 2), (2, 3, 10, 0)]), (11, [(2, 0, 54, 0), (0, 0, 0, 6), (2, 4, 26, 0)])], (0, 0, 0), [], [], ([], [(736, [(2, 0, 54, 0), (1, 5, 0, 0), (1, 6, 0, 0), (1, 7, 0, 0)])]), ([], []))
set_option maxRecDepth 100000 in
theorem l_npFN5 (g : GG) : LOK Yt (PSt g) t_npFN5 := by
  intro ρ α Γ M as hT hB hA hP
  have g0 : Γ (α 0) = 54 := tyAt hA (i := 0) rfl
  have g1 : Γ (α 1) = 38 := tyAt hA (i := 1) rfl
  have g2 : Γ (α 2) = 1 := tyAt hA (i := 2) rfl
  have g3 : Γ (α 3) = 10 := tyAt hA (i := 3) rfl
  have g4 : Γ (α 4) = 26 := tyAt hA (i := 4) rfl
  have b5 : -2147483648 ≤ ρ 5 ∧ ρ 5 ≤ 2147483647 := hB 5
  have b6 : -2147483648 ≤ ρ 6 ∧ ρ 6 ≤ 2147483647 := hB 6
  have b7 : -2147483648 ≤ ρ 7 ∧ ρ 7 ≤ 2147483647 := hB 7
  have h0 : Γ (α 4) = 26 ∧ (∀ q ∈ ([([(0, 27)], 0, 288), ([(1, 28)], 0, 144), ([(3, 30)], 0, 144), ([], 4, 5)] : VSP), wkT Γ M (α 4) q.1) ∧ Γ (α 2) = 1 ∧ (∀ q ∈ ([([], 0, 2)] : VSP), wkT Γ M (α 2) q.1) ∧ Γ (α 3) = 10 ∧ (∀ q ∈ ([([(6, 13)], 0, 144)] : VSP), wkT Γ M (α 3) q.1) ∧ Q591 g (vsv M (α 4) ([(0, 27)], 0, 288)) (vsv M (α 4) ([(1, 28)], 0, 144)) (vsv M (α 4) ([(3, 30)], 0, 144)) (vsv M (α 4) ([], 4, 5)) (vsv M (α 2) ([], 0, 2)) (vsv M (α 3) ([(6, 13)], 0, 144)) (ρ 5 + 0) (ρ 6 + 0) (ρ 7 + 0) := hP _ (List.mem_of_getElem? (i := 0) rfl)
  have h1 : 0 ≤ (0 : Int) ∧ M.2.2.2.1 (α 0) (0 : Int).toNat = some (α 1) := hP _ (List.mem_of_getElem? (i := 1) rfl)
  have h2 : 0 ≤ (0 : Int) ∧ M.2.2.2.1 (α 1) (0 : Int).toNat = some (α 2) := hP _ (List.mem_of_getElem? (i := 2) rfl)
  have h3 : 0 ≤ (2 : Int) ∧ M.2.2.2.1 (α 1) (2 : Int).toNat = some (α 3) := hP _ (List.mem_of_getElem? (i := 3) rfl)
  have h4 : 0 ≤ (6 : Int) ∧ M.2.2.2.1 (α 0) (6 : Int).toNat = some (α 4) := hP _ (List.mem_of_getElem? (i := 4) rfl)
  try simp only [Int.add_zero] at h0 h1 h2 h3 h4
  have key : (Γ (α 0) = 54 ∧ (∀ q ∈ ([([(6, 26), (0, 27)], 0, 288), ([(6, 26), (1, 28)], 0, 144), ([(6, 26), (3, 30)], 0, 144), ([(6, 26)], 4, 5), ([(0, 38), (0, 1)], 0, 2), ([(0, 38), (2, 10), (6, 13)], 0, 144)] : VSP), wkT Γ M (α 0) q.1) ∧ Q736 g (vsv M (α 0) ([(6, 26), (0, 27)], 0, 288)) (vsv M (α 0) ([(6, 26), (1, 28)], 0, 144)) (vsv M (α 0) ([(6, 26), (3, 30)], 0, 144)) (vsv M (α 0) ([(6, 26)], 4, 5)) (vsv M (α 0) ([(0, 38), (0, 1)], 0, 2)) (vsv M (α 0) ([(0, 38), (2, 10), (6, 13)], 0, 144)) (ρ 5 + 0) (ρ 6 + 0) (ρ 7 + 0)) ∧ True := by
    try simp only [Int.add_zero]
    have dm0 := fdim hT g0
    have rc0 := rc_bd dm0.1 dm0.2
    have dm1 := wdim hT g1
    have rc1 := rc_bd dm1.1 dm1.2
    have dm2 := cdim hT g2
    have rc2 := rc_bd dm2.1 dm2.2
    obtain ⟨-, -, -, -, -, -, p0⟩ := h0
    dsimp only [Q591] at p0
    have e1 : M.2.2.2.1 (α 0) 0 = some (α 1) := h1.2
    have e2 : M.2.2.2.1 (α 1) 0 = some (α 2) := h2.2
    have e3 : M.2.2.2.1 (α 1) 2 = some (α 3) := h3.2
    have e4 : M.2.2.2.1 (α 0) 6 = some (α 4) := h4.2
    have d_br : (vsv M (α 0) ([(6, 26), (0, 27)], 0, 288)) = (vsv M (α 4) ([(0, 27)], 0, 288)) := vsvS e4
    have d_via : (vsv M (α 0) ([(6, 26), (1, 28)], 0, 144)) = (vsv M (α 4) ([(1, 28)], 0, 144)) := vsvS e4
    have d_wa : (vsv M (α 0) ([(6, 26), (3, 30)], 0, 144)) = (vsv M (α 4) ([(3, 30)], 0, 144)) := vsvS e4
    have d_fr : (vsv M (α 0) ([(6, 26)], 4, 5)) = (vsv M (α 4) ([], 4, 5)) := vsvS e4
    have d_ch : (vsv M (α 0) ([(0, 38), (0, 1)], 0, 2)) = (vsv M (α 2) ([], 0, 2)) := (vsvS e1).trans (vsvS e2)
    have d_S : (vsv M (α 0) ([(0, 38), (2, 10), (6, 13)], 0, 144)) = (vsv M (α 3) ([(6, 13)], 0, 144)) := (vsvS e1).trans (vsvS e3)
    refine ⟨⟨g0, pic1 hT g0 (by decide) (by decide), ?_⟩, trivial⟩
    · dsimp only [Q736]
      rw [d_br, d_via, d_wa, d_fr, d_ch, d_S]
      exact p0
  exact ⟨nB, qB (key.1) (nB)⟩
def t_nuNHc : KT := ((0, 0, 0, 0), [(2, 0, 54, 0), (2, 1, 38, 0), (2, 2, 1, 0)], [(0, 0), (0, 0), (0, 0)], [(733, [(2, 0, 54, 0)]), (11, [(2, 0, 54, 0), (0, 0, 0, 0), (2, 1, 38, 0)]), (11, [(2, 1, 38, 0), (0, 0, 0, 0), (2, 2, 1, 0)])], (0, 0, 0), [], [], ([], [(500, [(2, 2, 1, 0)])]), ([], []))
set_option maxRecDepth 100000 in
theorem l_nuNHc (g : GG) : LOK Yt (PSt g) t_nuNHc := by
  intro ρ α Γ M as hT hB hA hP
  have g0 : Γ (α 0) = 54 := tyAt hA (i := 0) rfl
  have g1 : Γ (α 1) = 38 := tyAt hA (i := 1) rfl
  have g2 : Γ (α 2) = 1 := tyAt hA (i := 2) rfl
  have h0 : Γ (α 0) = 54 ∧ (∀ q ∈ ([([(0, 38), (0, 1), (4, 4)], 0, 144)] : VSP), wkT Γ M (α 0) q.1) ∧ Q733 g (vsv M (α 0) ([(0, 38), (0, 1), (4, 4)], 0, 144))  := hP _ (List.mem_of_getElem? (i := 0) rfl)
  have h1 : 0 ≤ (0 : Int) ∧ M.2.2.2.1 (α 0) (0 : Int).toNat = some (α 1) := hP _ (List.mem_of_getElem? (i := 1) rfl)
  have h2 : 0 ≤ (0 : Int) ∧ M.2.2.2.1 (α 1) (0 : Int).toNat = some (α 2) := hP _ (List.mem_of_getElem? (i := 2) rfl)
  try simp only [Int.add_zero] at h0 h1 h2
  have key : (Γ (α 2) = 1 ∧ (∀ q ∈ ([([(4, 4)], 0, 144)] : VSP), wkT Γ M (α 2) q.1) ∧ Q500 g (vsv M (α 2) ([(4, 4)], 0, 144)) ) ∧ True := by
    try simp only [Int.add_zero]
    have dm0 := fdim hT g0
    have rc0 := rc_bd dm0.1 dm0.2
    have dm1 := wdim hT g1
    have rc1 := rc_bd dm1.1 dm1.2
    have dm2 := cdim hT g2
    have rc2 := rc_bd dm2.1 dm2.2
    obtain ⟨-, -, p0⟩ := h0
    dsimp only [Q733] at p0
    have e1 : M.2.2.2.1 (α 0) 0 = some (α 1) := h1.2
    have e2 : M.2.2.2.1 (α 1) 0 = some (α 2) := h2.2
    have s_hd : (vsv M (α 0) ([(0, 38), (0, 1), (4, 4)], 0, 144)) = (vsv M (α 2) ([(4, 4)], 0, 144)) := (vsvS e1).trans (vsvS e2)
    refine ⟨⟨g2, pic1 hT g2 (by decide) (by decide), ?_⟩, trivial⟩
    · dsimp only [Q500]
      rw [s_hd] at p0
      exact p0
  exact ⟨nB, qB (key.1) (nB)⟩
def t_npFL : KT := ((0, 0, 0, 0), [(2, 0, 54, 0), (2, 1, 38, 0), (2, 2, 1, 0), (2, 3, 10, 0)], [(0, 0), (0, 0), (0, 0), (0, 0)], [(596, [(2, 3, 10, 0), (2, 2, 1, 0)]), (11, [(2, 0, 54, 0), (0, 0, 0, 0), (2, 1, 38, 0)]), (11, [(2, 1, 38, 0), (0, 0, 0, 0), (2, 2, 1, 0)]), (11, [(2, 1, 38, 0), (0, 0, 0, 2), (2, 3, 10, 0)])], (0, 0, 0), [], [], ([], [(735, [(2, 0, 54, 0)])]), ([], []))
set_option maxRecDepth 100000 in
theorem l_npFL (g : GG) : LOK Yt (PSt g) t_npFL := by
  intro ρ α Γ M as hT hB hA hP
  have g0 : Γ (α 0) = 54 := tyAt hA (i := 0) rfl
  have g1 : Γ (α 1) = 38 := tyAt hA (i := 1) rfl
  have g2 : Γ (α 2) = 1 := tyAt hA (i := 2) rfl
  have g3 : Γ (α 3) = 10 := tyAt hA (i := 3) rfl
  have h0 : Γ (α 3) = 10 ∧ (∀ q ∈ ([([], 0, 1), ([], 1, 2), ([], 2, 3)] : VSP), wkT Γ M (α 3) q.1) ∧ Γ (α 2) = 1 ∧ (∀ q ∈ ([([], 0, 2)] : VSP), wkT Γ M (α 2) q.1) ∧ Q596 g (vsv M (α 3) ([], 0, 1)) (vsv M (α 3) ([], 1, 2)) (vsv M (α 3) ([], 2, 3)) (vsv M (α 2) ([], 0, 2))  := hP _ (List.mem_of_getElem? (i := 0) rfl)
  have h1 : 0 ≤ (0 : Int) ∧ M.2.2.2.1 (α 0) (0 : Int).toNat = some (α 1) := hP _ (List.mem_of_getElem? (i := 1) rfl)
  have h2 : 0 ≤ (0 : Int) ∧ M.2.2.2.1 (α 1) (0 : Int).toNat = some (α 2) := hP _ (List.mem_of_getElem? (i := 2) rfl)
  have h3 : 0 ≤ (2 : Int) ∧ M.2.2.2.1 (α 1) (2 : Int).toNat = some (α 3) := hP _ (List.mem_of_getElem? (i := 3) rfl)
  try simp only [Int.add_zero] at h0 h1 h2 h3
  have key : (Γ (α 0) = 54 ∧ (∀ q ∈ ([([(0, 38), (2, 10)], 0, 1), ([(0, 38), (2, 10)], 1, 2), ([(0, 38), (2, 10)], 2, 3), ([(0, 38), (0, 1)], 0, 2)] : VSP), wkT Γ M (α 0) q.1) ∧ Q735 g (vsv M (α 0) ([(0, 38), (2, 10)], 0, 1)) (vsv M (α 0) ([(0, 38), (2, 10)], 1, 2)) (vsv M (α 0) ([(0, 38), (2, 10)], 2, 3)) (vsv M (α 0) ([(0, 38), (0, 1)], 0, 2)) ) ∧ True := by
    try simp only [Int.add_zero]
    have dm0 := fdim hT g0
    have rc0 := rc_bd dm0.1 dm0.2
    have dm1 := wdim hT g1
    have rc1 := rc_bd dm1.1 dm1.2
    have dm2 := cdim hT g2
    have rc2 := rc_bd dm2.1 dm2.2
    obtain ⟨-, -, -, -, p0⟩ := h0
    dsimp only [Q596] at p0
    have e1 : M.2.2.2.1 (α 0) 0 = some (α 1) := h1.2
    have e2 : M.2.2.2.1 (α 1) 0 = some (α 2) := h2.2
    have e3 : M.2.2.2.1 (α 1) 2 = some (α 3) := h3.2
    have d_l0 : (vsv M (α 0) ([(0, 38), (2, 10)], 0, 1)) = (vsv M (α 3) ([], 0, 1)) := (vsvS e1).trans (vsvS e3)
    have d_l1 : (vsv M (α 0) ([(0, 38), (2, 10)], 1, 2)) = (vsv M (α 3) ([], 1, 2)) := (vsvS e1).trans (vsvS e3)
    have d_l2 : (vsv M (α 0) ([(0, 38), (2, 10)], 2, 3)) = (vsv M (α 3) ([], 2, 3)) := (vsvS e1).trans (vsvS e3)
    have d_ch : (vsv M (α 0) ([(0, 38), (0, 1)], 0, 2)) = (vsv M (α 2) ([], 0, 2)) := (vsvS e1).trans (vsvS e2)
    refine ⟨⟨g0, pic1 hT g0 (by decide) (by decide), ?_⟩, trivial⟩
    · dsimp only [Q735]
      rw [d_l0, d_l1, d_l2, d_ch]
      exact p0
  exact ⟨nB, qB (key.1) (nB)⟩
def t_nuLC : KT := ((0, 0, 0, 0), [(2, 0, 54, 0), (2, 1, 38, 0), (2, 2, 1, 0), (2, 3, 10, 0), (1, 4, 0, 0), (1, 5, 0, 0)], [(0, 0), (0, 0), (0, 0), (0, 0), (-2147483648, 2147483647), (-2147483648, 2147483647)], [(743, [(2, 0, 54, 0), (1, 4, 0, 0), (1, 5, 0, 0)]), (11, [(2, 0, 54, 0), (0, 0, 0, 0), (2, 1, 38, 0)]), (11, [(2, 1, 38, 0), (0, 0, 0, 0), (2, 2, 1, 0)]), (11, [(2, 1, 38, 0), (0, 0, 0, 2), (2, 3, 10, 0)])], (0, 0, 0), [], [], ([], [(453, [(2, 3, 10, 0), (1, 4, 0, 0), (1, 5, 0, 0)])]), ([], []))
set_option maxRecDepth 100000 in
theorem l_nuLC (g : GG) : LOK Yt (PSt g) t_nuLC := by
  intro ρ α Γ M as hT hB hA hP
  have g0 : Γ (α 0) = 54 := tyAt hA (i := 0) rfl
  have g1 : Γ (α 1) = 38 := tyAt hA (i := 1) rfl
  have g2 : Γ (α 2) = 1 := tyAt hA (i := 2) rfl
  have g3 : Γ (α 3) = 10 := tyAt hA (i := 3) rfl
  have b4 : -2147483648 ≤ ρ 4 ∧ ρ 4 ≤ 2147483647 := hB 4
  have b5 : -2147483648 ≤ ρ 5 ∧ ρ 5 ≤ 2147483647 := hB 5
  have h0 : Γ (α 0) = 54 ∧ (∀ q ∈ ([([(0, 38), (2, 10)], 2, 3)] : VSP), wkT Γ M (α 0) q.1) ∧ Q743 g (vsv M (α 0) ([(0, 38), (2, 10)], 2, 3)) (ρ 4 + 0) (ρ 5 + 0) := hP _ (List.mem_of_getElem? (i := 0) rfl)
  have h1 : 0 ≤ (0 : Int) ∧ M.2.2.2.1 (α 0) (0 : Int).toNat = some (α 1) := hP _ (List.mem_of_getElem? (i := 1) rfl)
  have h2 : 0 ≤ (0 : Int) ∧ M.2.2.2.1 (α 1) (0 : Int).toNat = some (α 2) := hP _ (List.mem_of_getElem? (i := 2) rfl)
  have h3 : 0 ≤ (2 : Int) ∧ M.2.2.2.1 (α 1) (2 : Int).toNat = some (α 3) := hP _ (List.mem_of_getElem? (i := 3) rfl)
  try simp only [Int.add_zero] at h0 h1 h2 h3
  have key : (Γ (α 3) = 10 ∧ (∀ q ∈ ([([], 2, 3)] : VSP), wkT Γ M (α 3) q.1) ∧ Q453 g (vsv M (α 3) ([], 2, 3)) (ρ 4 + 0) (ρ 5 + 0)) ∧ True := by
    try simp only [Int.add_zero]
    have dm0 := fdim hT g0
    have rc0 := rc_bd dm0.1 dm0.2
    have dm1 := wdim hT g1
    have rc1 := rc_bd dm1.1 dm1.2
    have dm2 := cdim hT g2
    have rc2 := rc_bd dm2.1 dm2.2
    obtain ⟨-, -, p0⟩ := h0
    dsimp only [Q743] at p0
    have e1 : M.2.2.2.1 (α 0) 0 = some (α 1) := h1.2
    have e2 : M.2.2.2.1 (α 1) 0 = some (α 2) := h2.2
    have e3 : M.2.2.2.1 (α 1) 2 = some (α 3) := h3.2
    have s_l2 : (vsv M (α 0) ([(0, 38), (2, 10)], 2, 3)) = (vsv M (α 3) ([], 2, 3)) := (vsvS e1).trans (vsvS e3)
    refine ⟨⟨g3, pic1 hT g3 (by decide) (by decide), ?_⟩, trivial⟩
    · dsimp only [Q453]
      rw [s_l2] at p0
      exact p0
  exact ⟨nB, qB (key.1) (nB)⟩
def t_npLC : KT := ((0, 0, 0, 0), [(2, 0, 54, 0), (2, 1, 38, 0), (2, 2, 1, 0), (2, 3, 10, 0), (1, 4, 0, 0), (1, 5, 0, 0)], [(0, 0), (0, 0), (0, 0), (0, 0), (-2147483648, 2147483647), (-2147483648, 2147483647)], [(453, [(2, 3, 10, 0), (1, 4, 0, 0), (1, 5, 0, 0)]), (11, [(2, 0, 54, 0), (0, 0, 0, 0), (2, 1, 38, 0)]), (11, [(2, 1, 38, 0), (0, 0, 0, 0), (2, 2, 1, 0)]), (11, [(2, 1, 38, 0), (0, 0, 0, 2), (2, 3, 10, 0)])], (0, 0, 0), [], [], ([], [(743, [(2, 0, 54, 0), (1, 4, 0, 0), (1, 5, 0, 0)])]), ([], []))
set_option maxRecDepth 100000 in
theorem l_npLC (g : GG) : LOK Yt (PSt g) t_npLC := by
  intro ρ α Γ M as hT hB hA hP
  have g0 : Γ (α 0) = 54 := tyAt hA (i := 0) rfl
  have g1 : Γ (α 1) = 38 := tyAt hA (i := 1) rfl
  have g2 : Γ (α 2) = 1 := tyAt hA (i := 2) rfl
  have g3 : Γ (α 3) = 10 := tyAt hA (i := 3) rfl
  have b4 : -2147483648 ≤ ρ 4 ∧ ρ 4 ≤ 2147483647 := hB 4
  have b5 : -2147483648 ≤ ρ 5 ∧ ρ 5 ≤ 2147483647 := hB 5
  have h0 : Γ (α 3) = 10 ∧ (∀ q ∈ ([([], 2, 3)] : VSP), wkT Γ M (α 3) q.1) ∧ Q453 g (vsv M (α 3) ([], 2, 3)) (ρ 4 + 0) (ρ 5 + 0) := hP _ (List.mem_of_getElem? (i := 0) rfl)
  have h1 : 0 ≤ (0 : Int) ∧ M.2.2.2.1 (α 0) (0 : Int).toNat = some (α 1) := hP _ (List.mem_of_getElem? (i := 1) rfl)
  have h2 : 0 ≤ (0 : Int) ∧ M.2.2.2.1 (α 1) (0 : Int).toNat = some (α 2) := hP _ (List.mem_of_getElem? (i := 2) rfl)
  have h3 : 0 ≤ (2 : Int) ∧ M.2.2.2.1 (α 1) (2 : Int).toNat = some (α 3) := hP _ (List.mem_of_getElem? (i := 3) rfl)
  try simp only [Int.add_zero] at h0 h1 h2 h3
  have key : (Γ (α 0) = 54 ∧ (∀ q ∈ ([([(0, 38), (2, 10)], 2, 3)] : VSP), wkT Γ M (α 0) q.1) ∧ Q743 g (vsv M (α 0) ([(0, 38), (2, 10)], 2, 3)) (ρ 4 + 0) (ρ 5 + 0)) ∧ True := by
    try simp only [Int.add_zero]
    have dm0 := fdim hT g0
    have rc0 := rc_bd dm0.1 dm0.2
    have dm1 := wdim hT g1
    have rc1 := rc_bd dm1.1 dm1.2
    have dm2 := cdim hT g2
    have rc2 := rc_bd dm2.1 dm2.2
    obtain ⟨-, -, p0⟩ := h0
    dsimp only [Q453] at p0
    have e1 : M.2.2.2.1 (α 0) 0 = some (α 1) := h1.2
    have e2 : M.2.2.2.1 (α 1) 0 = some (α 2) := h2.2
    have e3 : M.2.2.2.1 (α 1) 2 = some (α 3) := h3.2
    have d_l2 : (vsv M (α 0) ([(0, 38), (2, 10)], 2, 3)) = (vsv M (α 3) ([], 2, 3)) := (vsvS e1).trans (vsvS e3)
    refine ⟨⟨g0, pic1 hT g0 (by decide) (by decide), ?_⟩, trivial⟩
    · dsimp only [Q743]
      rw [d_l2]
      exact p0
  exact ⟨nB, qB (key.1) (nB)⟩
def t_nuD9c : KT := ((0, 0, 0, 0), [(2, 0, 54, 0), (2, 1, 38, 0), (2, 2, 1, 0)], [(0, 0), (0, 0), (0, 0)], [(734, [(2, 0, 54, 0)]), (11, [(2, 0, 54, 0), (0, 0, 0, 0), (2, 1, 38, 0)]), (11, [(2, 1, 38, 0), (0, 0, 0, 0), (2, 2, 1, 0)])], (0, 0, 0), [], [], ([], [(1064, [(2, 2, 1, 0), (0, 0, 0, 2), (0, 0, 0, 9)]), (1065, [(2, 2, 1, 0), (0, 0, 0, 2), (0, 0, 0, 9)])]), ([], []))
set_option maxRecDepth 100000 in
theorem l_nuD9c (g : GG) : LOK Yt (PSt g) t_nuD9c := by
  intro ρ α Γ M as hT hB hA hP
  have g0 : Γ (α 0) = 54 := tyAt hA (i := 0) rfl
  have g1 : Γ (α 1) = 38 := tyAt hA (i := 1) rfl
  have g2 : Γ (α 2) = 1 := tyAt hA (i := 2) rfl
  have h0 : Γ (α 0) = 54 ∧ (∀ q ∈ ([([(0, 38), (0, 1)], 0, 2)] : VSP), wkT Γ M (α 0) q.1) ∧ Q734 g (vsv M (α 0) ([(0, 38), (0, 1)], 0, 2))  := hP _ (List.mem_of_getElem? (i := 0) rfl)
  have h1 : 0 ≤ (0 : Int) ∧ M.2.2.2.1 (α 0) (0 : Int).toNat = some (α 1) := hP _ (List.mem_of_getElem? (i := 1) rfl)
  have h2 : 0 ≤ (0 : Int) ∧ M.2.2.2.1 (α 1) (0 : Int).toNat = some (α 2) := hP _ (List.mem_of_getElem? (i := 2) rfl)
  try simp only [Int.add_zero] at h0 h1 h2
  have key : (Γ (α 2) = 1 ∧ 1 ≠ 0 ∧ 2 ≤ M.2.2.2.2 (α 2) 0 ∧ M.2.2.2.2 (α 2) 0 ≤ 9) ∧ (Γ (α 2) = 1 ∧ 1 ≠ 0 ∧ 2 ≤ M.2.2.2.2 (α 2) 1 ∧ M.2.2.2.2 (α 2) 1 ≤ 9) ∧ True := by
    try simp only [Int.add_zero]
    have dm0 := fdim hT g0
    have rc0 := rc_bd dm0.1 dm0.2
    have dm1 := wdim hT g1
    have rc1 := rc_bd dm1.1 dm1.2
    have dm2 := cdim hT g2
    have rc2 := rc_bd dm2.1 dm2.2
    obtain ⟨-, -, p0⟩ := h0
    dsimp only [Q734] at p0
    have e1 : M.2.2.2.1 (α 0) 0 = some (α 1) := h1.2
    have e2 : M.2.2.2.1 (α 1) 0 = some (α 2) := h2.2
    rw [((vsvS e1).trans (vsvS e2) : (vsv M (α 0) ([(0, 38), (0, 1)], 0, 2)) = (vsv M (α 2) ([], 0, 2)))] at p0
    have m0 : (vsv M (α 2) ([], 0, 2)) 0 = M.2.2.2.2 (α 2) 0 := vs0 (by decide) (by decide)
    have m1 : (vsv M (α 2) ([], 0, 2)) 1 = M.2.2.2.2 (α 2) 1 := vs0 (by decide) (by decide)
    refine ⟨?_, ?_, trivial⟩
    · exact ⟨g2, by decide, by rw [← m0]; exact dm2.1.1, by rw [← m0]; exact p0.1⟩
    · exact ⟨g2, by decide, by rw [← m1]; exact dm2.2.1, by rw [← m1]; exact p0.2⟩
  exact ⟨nB, qB ((fId_eq g 1 0 (α 2) (2) (9) Γ M (by decide)).mpr (key.1)) (qB ((fId_eq g 1 1 (α 2) (2) (9) Γ M (by decide)).mpr (key.2.1)) (nB))⟩
def t_nuFLO : KT := ((0, 0, 0, 0), [(2, 0, 54, 0), (2, 1, 38, 0), (2, 2, 1, 0), (2, 3, 10, 0), (1, 4, 0, 0)], [(0, 0), (0, 0), (0, 0), (0, 0), (1, 1)], [(735, [(2, 0, 54, 0)]), (11, [(2, 0, 54, 0), (0, 0, 0, 0), (2, 1, 38, 0)]), (11, [(2, 1, 38, 0), (0, 0, 0, 0), (2, 2, 1, 0)]), (11, [(2, 1, 38, 0), (0, 0, 0, 2), (2, 3, 10, 0)]), (10, [(2, 3, 10, 0), (0, 0, 0, 0), (1, 4, 0, 0)])], (0, 0, 0), [], [], ([], [(595, [(2, 3, 10, 0), (2, 2, 1, 0)])]), ([], []))
set_option maxRecDepth 100000 in
theorem l_nuFLO (g : GG) : LOK Yt (PSt g) t_nuFLO := by
  intro ρ α Γ M as hT hB hA hP
  have g0 : Γ (α 0) = 54 := tyAt hA (i := 0) rfl
  have g1 : Γ (α 1) = 38 := tyAt hA (i := 1) rfl
  have g2 : Γ (α 2) = 1 := tyAt hA (i := 2) rfl
  have g3 : Γ (α 3) = 10 := tyAt hA (i := 3) rfl
  have b4 : 1 ≤ ρ 4 ∧ ρ 4 ≤ 1 := hB 4
  have h0 : Γ (α 0) = 54 ∧ (∀ q ∈ ([([(0, 38), (2, 10)], 0, 1), ([(0, 38), (2, 10)], 1, 2), ([(0, 38), (2, 10)], 2, 3), ([(0, 38), (0, 1)], 0, 2)] : VSP), wkT Γ M (α 0) q.1) ∧ Q735 g (vsv M (α 0) ([(0, 38), (2, 10)], 0, 1)) (vsv M (α 0) ([(0, 38), (2, 10)], 1, 2)) (vsv M (α 0) ([(0, 38), (2, 10)], 2, 3)) (vsv M (α 0) ([(0, 38), (0, 1)], 0, 2))  := hP _ (List.mem_of_getElem? (i := 0) rfl)
  have h1 : 0 ≤ (0 : Int) ∧ M.2.2.2.1 (α 0) (0 : Int).toNat = some (α 1) := hP _ (List.mem_of_getElem? (i := 1) rfl)
  have h2 : 0 ≤ (0 : Int) ∧ M.2.2.2.1 (α 1) (0 : Int).toNat = some (α 2) := hP _ (List.mem_of_getElem? (i := 2) rfl)
  have h3 : 0 ≤ (2 : Int) ∧ M.2.2.2.1 (α 1) (2 : Int).toNat = some (α 3) := hP _ (List.mem_of_getElem? (i := 3) rfl)
  have h4 : 0 ≤ (0 : Int) ∧ M.2.2.2.2 (α 3) (0 : Int).toNat = ρ 4 + 0 := hP _ (List.mem_of_getElem? (i := 4) rfl)
  try simp only [Int.add_zero] at h0 h1 h2 h3 h4
  have key : (Γ (α 3) = 10 ∧ (∀ q ∈ ([([], 1, 2), ([], 2, 3)] : VSP), wkT Γ M (α 3) q.1) ∧ Γ (α 2) = 1 ∧ (∀ q ∈ ([([], 0, 2)] : VSP), wkT Γ M (α 2) q.1) ∧ Q595 g (vsv M (α 3) ([], 1, 2)) (vsv M (α 3) ([], 2, 3)) (vsv M (α 2) ([], 0, 2)) ) ∧ True := by
    try simp only [Int.add_zero]
    have dm0 := fdim hT g0
    have rc0 := rc_bd dm0.1 dm0.2
    have dm1 := wdim hT g1
    have rc1 := rc_bd dm1.1 dm1.2
    have dm2 := cdim hT g2
    have rc2 := rc_bd dm2.1 dm2.2
    obtain ⟨-, -, p0⟩ := h0
    dsimp only [Q735] at p0
    have e1 : M.2.2.2.1 (α 0) 0 = some (α 1) := h1.2
    have e2 : M.2.2.2.1 (α 1) 0 = some (α 2) := h2.2
    have e3 : M.2.2.2.1 (α 1) 2 = some (α 3) := h3.2
    have e4 : M.2.2.2.2 (α 3) 0 = ρ 4 := h4.2
    have wc : (vsv M (α 0) ([(0, 38), (0, 1)], 0, 2)) = (vsv M (α 2) ([], 0, 2)) := (vsvS e1).trans (vsvS e2)
    have w0 : (vsv M (α 0) ([(0, 38), (2, 10)], 0, 1)) = (vsv M (α 3) ([], 0, 1)) := (vsvS e1).trans (vsvS e3)
    have w1 : (vsv M (α 0) ([(0, 38), (2, 10)], 1, 2)) = (vsv M (α 3) ([], 1, 2)) := (vsvS e1).trans (vsvS e3)
    have w2 : (vsv M (α 0) ([(0, 38), (2, 10)], 2, 3)) = (vsv M (α 3) ([], 2, 3)) := (vsvS e1).trans (vsvS e3)
    refine ⟨⟨g3, pic1 hT g3 (by decide) (by decide), g2, pic1 hT g2 (by decide) (by decide), ?_⟩, trivial⟩
    · dsimp only [Q595]
      rw [wc, w0, w1, w2] at p0
      have : (vsv M (α 3) ([], 0, 1)) 0 = ρ 4 := (vs0 (by decide) (by decide)).trans e4
      refine ⟨p0.1, ?_⟩
      rcases p0.2 with q | q <;> omega
  exact ⟨nB, qB (key.1) (nB)⟩
def t_nuLI : KT := ((0, 0, 0, 0), [(2, 0, 54, 0), (2, 1, 38, 0), (2, 2, 1, 0), (2, 3, 10, 0), (2, 4, 26, 0)], [(0, 0), (0, 0), (0, 0), (0, 0), (0, 0)], [(732, [(2, 0, 54, 0)]), (737, [(2, 0, 54, 0)]), (11, [(2, 0, 54, 0), (0, 0, 0, 0), (2, 1, 38, 0)]), (11, [(2, 1, 38, 0), (0, 0, 0, 0), (2, 2, 1, 0)]), (11, [(2, 1, 38, 0), (0, 0, 0, 2), (2, 3, 10, 0)]), (11, [(2, 0, 54, 0), (0, 0, 0, 6), (2, 4, 26, 0)])], (0, 0, 0), [], [], ([], [(594, [(2, 3, 10, 0), (2, 2, 1, 0), (2, 4, 26, 0)])]), ([], []))
set_option maxRecDepth 100000 in
theorem l_nuLI (g : GG) : LOK Yt (PSt g) t_nuLI := by
  intro ρ α Γ M as hT hB hA hP
  have g0 : Γ (α 0) = 54 := tyAt hA (i := 0) rfl
  have g1 : Γ (α 1) = 38 := tyAt hA (i := 1) rfl
  have g2 : Γ (α 2) = 1 := tyAt hA (i := 2) rfl
  have g3 : Γ (α 3) = 10 := tyAt hA (i := 3) rfl
  have g4 : Γ (α 4) = 26 := tyAt hA (i := 4) rfl
  have h0 : Γ (α 0) = 54 ∧ (∀ q ∈ ([([(0, 38), (0, 1)], 0, 2), ([(0, 38), (0, 1), (2, 2)], 0, 144), ([(0, 38), (1, 6), (4, 9)], 0, 288), ([(0, 38), (0, 1), (5, 5)], 0, 288), ([(0, 38), (2, 10)], 2, 3), ([(0, 38), (2, 10)], 3, 4), ([(0, 38), (2, 10), (4, 11)], 0, 144), ([(0, 38), (2, 10), (5, 12)], 0, 144), ([(0, 38), (2, 10), (6, 13)], 0, 144), ([(0, 38), (2, 10), (7, 14)], 0, 144), ([(0, 38), (2, 10), (8, 15)], 0, 144)] : VSP), wkT Γ M (α 0) q.1) ∧ Q732 g (vsv M (α 0) ([(0, 38), (0, 1)], 0, 2)) (vsv M (α 0) ([(0, 38), (0, 1), (2, 2)], 0, 144)) (vsv M (α 0) ([(0, 38), (1, 6), (4, 9)], 0, 288)) (vsv M (α 0) ([(0, 38), (0, 1), (5, 5)], 0, 288)) (vsv M (α 0) ([(0, 38), (2, 10)], 2, 3)) (vsv M (α 0) ([(0, 38), (2, 10)], 3, 4)) (vsv M (α 0) ([(0, 38), (2, 10), (4, 11)], 0, 144)) (vsv M (α 0) ([(0, 38), (2, 10), (5, 12)], 0, 144)) (vsv M (α 0) ([(0, 38), (2, 10), (6, 13)], 0, 144)) (vsv M (α 0) ([(0, 38), (2, 10), (7, 14)], 0, 144)) (vsv M (α 0) ([(0, 38), (2, 10), (8, 15)], 0, 144))  := hP _ (List.mem_of_getElem? (i := 0) rfl)
  have h1 : Γ (α 0) = 54 ∧ (∀ q ∈ ([([(0, 38), (0, 1)], 0, 2), ([(0, 38), (1, 6), (4, 9)], 0, 288), ([(0, 38), (0, 1), (5, 5)], 0, 288), ([(6, 26), (0, 27)], 0, 288)] : VSP), wkT Γ M (α 0) q.1) ∧ Q737 g (vsv M (α 0) ([(0, 38), (0, 1)], 0, 2)) (vsv M (α 0) ([(0, 38), (1, 6), (4, 9)], 0, 288)) (vsv M (α 0) ([(0, 38), (0, 1), (5, 5)], 0, 288)) (vsv M (α 0) ([(6, 26), (0, 27)], 0, 288))  := hP _ (List.mem_of_getElem? (i := 1) rfl)
  have h2 : 0 ≤ (0 : Int) ∧ M.2.2.2.1 (α 0) (0 : Int).toNat = some (α 1) := hP _ (List.mem_of_getElem? (i := 2) rfl)
  have h3 : 0 ≤ (0 : Int) ∧ M.2.2.2.1 (α 1) (0 : Int).toNat = some (α 2) := hP _ (List.mem_of_getElem? (i := 3) rfl)
  have h4 : 0 ≤ (2 : Int) ∧ M.2.2.2.1 (α 1) (2 : Int).toNat = some (α 3) := hP _ (List.mem_of_getElem? (i := 4) rfl)
  have h5 : 0 ≤ (6 : Int) ∧ M.2.2.2.1 (α 0) (6 : Int).toNat = some (α 4) := hP _ (List.mem_of_getElem? (i := 5) rfl)
  try simp only [Int.add_zero] at h0 h1 h2 h3 h4 h5
  have key : (Γ (α 3) = 10 ∧ (∀ q ∈ ([([], 2, 3), ([], 3, 4), ([(4, 11)], 0, 144), ([(5, 12)], 0, 144), ([(6, 13)], 0, 144), ([(7, 14)], 0, 144), ([(8, 15)], 0, 144)] : VSP), wkT Γ M (α 3) q.1) ∧ Γ (α 2) = 1 ∧ (∀ q ∈ ([([], 0, 2), ([(2, 2)], 0, 144)] : VSP), wkT Γ M (α 2) q.1) ∧ Γ (α 4) = 26 ∧ (∀ q ∈ ([([(0, 27)], 0, 288)] : VSP), wkT Γ M (α 4) q.1) ∧ Q594 g (vsv M (α 3) ([], 2, 3)) (vsv M (α 3) ([], 3, 4)) (vsv M (α 3) ([(4, 11)], 0, 144)) (vsv M (α 3) ([(5, 12)], 0, 144)) (vsv M (α 3) ([(6, 13)], 0, 144)) (vsv M (α 3) ([(7, 14)], 0, 144)) (vsv M (α 3) ([(8, 15)], 0, 144)) (vsv M (α 2) ([], 0, 2)) (vsv M (α 2) ([(2, 2)], 0, 144)) (vsv M (α 4) ([(0, 27)], 0, 288)) ) ∧ True := by
    try simp only [Int.add_zero]
    have dm0 := fdim hT g0
    have rc0 := rc_bd dm0.1 dm0.2
    have dm1 := wdim hT g1
    have rc1 := rc_bd dm1.1 dm1.2
    have dm2 := cdim hT g2
    have rc2 := rc_bd dm2.1 dm2.2
    obtain ⟨-, -, p0⟩ := h0
    dsimp only [Q732] at p0
    obtain ⟨-, -, p1⟩ := h1
    dsimp only [Q737] at p1
    have e2 : M.2.2.2.1 (α 0) 0 = some (α 1) := h2.2
    have e3 : M.2.2.2.1 (α 1) 0 = some (α 2) := h3.2
    have e4 : M.2.2.2.1 (α 1) 2 = some (α 3) := h4.2
    have e5 : M.2.2.2.1 (α 0) 6 = some (α 4) := h5.2
    have wc : (vsv M (α 0) ([(0, 38), (0, 1)], 0, 2)) = (vsv M (α 2) ([], 0, 2)) := (vsvS e2).trans (vsvS e3)
    have wp : (vsv M (α 0) ([(0, 38), (0, 1), (2, 2)], 0, 144)) = (vsv M (α 2) ([(2, 2)], 0, 144)) := (vsvS e2).trans (vsvS e3)
    have wb : (vsv M (α 0) ([(6, 26), (0, 27)], 0, 288)) = (vsv M (α 4) ([(0, 27)], 0, 288)) := vsvS e5
    have w_l2 : (vsv M (α 0) ([(0, 38), (2, 10)], 2, 3)) = (vsv M (α 3) ([], 2, 3)) := (vsvS e2).trans (vsvS e4)
    have w_l3 : (vsv M (α 0) ([(0, 38), (2, 10)], 3, 4)) = (vsv M (α 3) ([], 3, 4)) := (vsvS e2).trans (vsvS e4)
    have w_H : (vsv M (α 0) ([(0, 38), (2, 10), (4, 11)], 0, 144)) = (vsv M (α 3) ([(4, 11)], 0, 144)) := (vsvS e2).trans (vsvS e4)
    have w_F : (vsv M (α 0) ([(0, 38), (2, 10), (5, 12)], 0, 144)) = (vsv M (α 3) ([(5, 12)], 0, 144)) := (vsvS e2).trans (vsvS e4)
    have w_S : (vsv M (α 0) ([(0, 38), (2, 10), (6, 13)], 0, 144)) = (vsv M (α 3) ([(6, 13)], 0, 144)) := (vsvS e2).trans (vsvS e4)
    have w_V : (vsv M (α 0) ([(0, 38), (2, 10), (7, 14)], 0, 144)) = (vsv M (α 3) ([(7, 14)], 0, 144)) := (vsvS e2).trans (vsvS e4)
    have w_T : (vsv M (α 0) ([(0, 38), (2, 10), (8, 15)], 0, 144)) = (vsv M (α 3) ([(8, 15)], 0, 144)) := (vsvS e2).trans (vsvS e4)
    refine ⟨⟨g3, pic1 hT g3 (by decide) (by decide), g2, pic1 hT g2 (by decide) (by decide), g4, pic1 hT g4 (by decide) (by decide), ?_⟩, trivial⟩
    · dsimp only [Q594]
      rw [wc] at p1
      rw [wc, wp, w_l2, w_l3, w_H, w_F, w_S, w_V, w_T] at p0
      exact flI_c (by omega) (by omega) (fun e he => by
        have z := p1 e (by have := he.2.1; omega)
        rw [wb] at z
        exact ⟨fun q => z.mpr ⟨he, q⟩, fun q => (z.mp q).2⟩) (fun _ _ => rfl) (fun _ _ _ => ⟨rfl, rfl, rfl⟩) (fun _ _ => rfl) (fun _ _ => rfl) p0
  exact ⟨nB, qB (key.1) (nB)⟩
def t_npLI : KT := ((0, 0, 0, 0), [(2, 0, 54, 0), (2, 1, 38, 0), (2, 2, 1, 0), (2, 3, 10, 0), (2, 4, 26, 0)], [(0, 0), (0, 0), (0, 0), (0, 0), (0, 0)], [(594, [(2, 3, 10, 0), (2, 2, 1, 0), (2, 4, 26, 0)]), (737, [(2, 0, 54, 0)]), (11, [(2, 0, 54, 0), (0, 0, 0, 0), (2, 1, 38, 0)]), (11, [(2, 1, 38, 0), (0, 0, 0, 0), (2, 2, 1, 0)]), (11, [(2, 1, 38, 0), (0, 0, 0, 2), (2, 3, 10, 0)]), (11, [(2, 0, 54, 0), (0, 0, 0, 6), (2, 4, 26, 0)])], (0, 0, 0), [], [], ([], [(732, [(2, 0, 54, 0)])]), ([], []))
set_option maxRecDepth 100000 in
theorem l_npLI (g : GG) : LOK Yt (PSt g) t_npLI := by
  intro ρ α Γ M as hT hB hA hP
  have g0 : Γ (α 0) = 54 := tyAt hA (i := 0) rfl
  have g1 : Γ (α 1) = 38 := tyAt hA (i := 1) rfl
  have g2 : Γ (α 2) = 1 := tyAt hA (i := 2) rfl
  have g3 : Γ (α 3) = 10 := tyAt hA (i := 3) rfl
  have g4 : Γ (α 4) = 26 := tyAt hA (i := 4) rfl
  have h0 : Γ (α 3) = 10 ∧ (∀ q ∈ ([([], 2, 3), ([], 3, 4), ([(4, 11)], 0, 144), ([(5, 12)], 0, 144), ([(6, 13)], 0, 144), ([(7, 14)], 0, 144), ([(8, 15)], 0, 144)] : VSP), wkT Γ M (α 3) q.1) ∧ Γ (α 2) = 1 ∧ (∀ q ∈ ([([], 0, 2), ([(2, 2)], 0, 144)] : VSP), wkT Γ M (α 2) q.1) ∧ Γ (α 4) = 26 ∧ (∀ q ∈ ([([(0, 27)], 0, 288)] : VSP), wkT Γ M (α 4) q.1) ∧ Q594 g (vsv M (α 3) ([], 2, 3)) (vsv M (α 3) ([], 3, 4)) (vsv M (α 3) ([(4, 11)], 0, 144)) (vsv M (α 3) ([(5, 12)], 0, 144)) (vsv M (α 3) ([(6, 13)], 0, 144)) (vsv M (α 3) ([(7, 14)], 0, 144)) (vsv M (α 3) ([(8, 15)], 0, 144)) (vsv M (α 2) ([], 0, 2)) (vsv M (α 2) ([(2, 2)], 0, 144)) (vsv M (α 4) ([(0, 27)], 0, 288))  := hP _ (List.mem_of_getElem? (i := 0) rfl)
  have h1 : Γ (α 0) = 54 ∧ (∀ q ∈ ([([(0, 38), (0, 1)], 0, 2), ([(0, 38), (1, 6), (4, 9)], 0, 288), ([(0, 38), (0, 1), (5, 5)], 0, 288), ([(6, 26), (0, 27)], 0, 288)] : VSP), wkT Γ M (α 0) q.1) ∧ Q737 g (vsv M (α 0) ([(0, 38), (0, 1)], 0, 2)) (vsv M (α 0) ([(0, 38), (1, 6), (4, 9)], 0, 288)) (vsv M (α 0) ([(0, 38), (0, 1), (5, 5)], 0, 288)) (vsv M (α 0) ([(6, 26), (0, 27)], 0, 288))  := hP _ (List.mem_of_getElem? (i := 1) rfl)
  have h2 : 0 ≤ (0 : Int) ∧ M.2.2.2.1 (α 0) (0 : Int).toNat = some (α 1) := hP _ (List.mem_of_getElem? (i := 2) rfl)
  have h3 : 0 ≤ (0 : Int) ∧ M.2.2.2.1 (α 1) (0 : Int).toNat = some (α 2) := hP _ (List.mem_of_getElem? (i := 3) rfl)
  have h4 : 0 ≤ (2 : Int) ∧ M.2.2.2.1 (α 1) (2 : Int).toNat = some (α 3) := hP _ (List.mem_of_getElem? (i := 4) rfl)
  have h5 : 0 ≤ (6 : Int) ∧ M.2.2.2.1 (α 0) (6 : Int).toNat = some (α 4) := hP _ (List.mem_of_getElem? (i := 5) rfl)
  try simp only [Int.add_zero] at h0 h1 h2 h3 h4 h5
  have key : (Γ (α 0) = 54 ∧ (∀ q ∈ ([([(0, 38), (0, 1)], 0, 2), ([(0, 38), (0, 1), (2, 2)], 0, 144), ([(0, 38), (1, 6), (4, 9)], 0, 288), ([(0, 38), (0, 1), (5, 5)], 0, 288), ([(0, 38), (2, 10)], 2, 3), ([(0, 38), (2, 10)], 3, 4), ([(0, 38), (2, 10), (4, 11)], 0, 144), ([(0, 38), (2, 10), (5, 12)], 0, 144), ([(0, 38), (2, 10), (6, 13)], 0, 144), ([(0, 38), (2, 10), (7, 14)], 0, 144), ([(0, 38), (2, 10), (8, 15)], 0, 144)] : VSP), wkT Γ M (α 0) q.1) ∧ Q732 g (vsv M (α 0) ([(0, 38), (0, 1)], 0, 2)) (vsv M (α 0) ([(0, 38), (0, 1), (2, 2)], 0, 144)) (vsv M (α 0) ([(0, 38), (1, 6), (4, 9)], 0, 288)) (vsv M (α 0) ([(0, 38), (0, 1), (5, 5)], 0, 288)) (vsv M (α 0) ([(0, 38), (2, 10)], 2, 3)) (vsv M (α 0) ([(0, 38), (2, 10)], 3, 4)) (vsv M (α 0) ([(0, 38), (2, 10), (4, 11)], 0, 144)) (vsv M (α 0) ([(0, 38), (2, 10), (5, 12)], 0, 144)) (vsv M (α 0) ([(0, 38), (2, 10), (6, 13)], 0, 144)) (vsv M (α 0) ([(0, 38), (2, 10), (7, 14)], 0, 144)) (vsv M (α 0) ([(0, 38), (2, 10), (8, 15)], 0, 144)) ) ∧ True := by
    try simp only [Int.add_zero]
    have dm0 := fdim hT g0
    have rc0 := rc_bd dm0.1 dm0.2
    have dm1 := wdim hT g1
    have rc1 := rc_bd dm1.1 dm1.2
    have dm2 := cdim hT g2
    have rc2 := rc_bd dm2.1 dm2.2
    obtain ⟨-, -, -, -, -, -, p0⟩ := h0
    dsimp only [Q594] at p0
    obtain ⟨-, -, p1⟩ := h1
    dsimp only [Q737] at p1
    have e2 : M.2.2.2.1 (α 0) 0 = some (α 1) := h2.2
    have e3 : M.2.2.2.1 (α 1) 0 = some (α 2) := h3.2
    have e4 : M.2.2.2.1 (α 1) 2 = some (α 3) := h4.2
    have e5 : M.2.2.2.1 (α 0) 6 = some (α 4) := h5.2
    have wc : (vsv M (α 0) ([(0, 38), (0, 1)], 0, 2)) = (vsv M (α 2) ([], 0, 2)) := (vsvS e2).trans (vsvS e3)
    have wp : (vsv M (α 0) ([(0, 38), (0, 1), (2, 2)], 0, 144)) = (vsv M (α 2) ([(2, 2)], 0, 144)) := (vsvS e2).trans (vsvS e3)
    have wb : (vsv M (α 0) ([(6, 26), (0, 27)], 0, 288)) = (vsv M (α 4) ([(0, 27)], 0, 288)) := vsvS e5
    have w_l2 : (vsv M (α 0) ([(0, 38), (2, 10)], 2, 3)) = (vsv M (α 3) ([], 2, 3)) := (vsvS e2).trans (vsvS e4)
    have w_l3 : (vsv M (α 0) ([(0, 38), (2, 10)], 3, 4)) = (vsv M (α 3) ([], 3, 4)) := (vsvS e2).trans (vsvS e4)
    have w_H : (vsv M (α 0) ([(0, 38), (2, 10), (4, 11)], 0, 144)) = (vsv M (α 3) ([(4, 11)], 0, 144)) := (vsvS e2).trans (vsvS e4)
    have w_F : (vsv M (α 0) ([(0, 38), (2, 10), (5, 12)], 0, 144)) = (vsv M (α 3) ([(5, 12)], 0, 144)) := (vsvS e2).trans (vsvS e4)
    have w_S : (vsv M (α 0) ([(0, 38), (2, 10), (6, 13)], 0, 144)) = (vsv M (α 3) ([(6, 13)], 0, 144)) := (vsvS e2).trans (vsvS e4)
    have w_V : (vsv M (α 0) ([(0, 38), (2, 10), (7, 14)], 0, 144)) = (vsv M (α 3) ([(7, 14)], 0, 144)) := (vsvS e2).trans (vsvS e4)
    have w_T : (vsv M (α 0) ([(0, 38), (2, 10), (8, 15)], 0, 144)) = (vsv M (α 3) ([(8, 15)], 0, 144)) := (vsvS e2).trans (vsvS e4)
    refine ⟨⟨g0, pic1 hT g0 (by decide) (by decide), ?_⟩, trivial⟩
    · dsimp only [Q732]
      rw [wc] at p1
      rw [wc, wp, w_l2, w_l3, w_H, w_F, w_S, w_V, w_T]
      exact flI_c (by omega) (by omega) (fun e he => by
        have z := p1 e (by have := he.2.1; omega)
        rw [wb] at z
        exact ⟨fun q => (z.mp q).2, fun q => z.mpr ⟨he, q⟩⟩) (fun _ _ => rfl) (fun _ _ _ => ⟨rfl, rfl, rfl⟩) (fun _ _ => rfl) (fun _ _ => rfl) p0
  exact ⟨nB, qB (key.1) (nB)⟩
def t_njf_1 : KT := ((0, 0, 0, 0), [(2, 0, 54, 0), (2, 1, 38, 0)], [(0, 0), (0, 0)], [(731, [(2, 0, 54, 0)]), (732, [(2, 0, 54, 0)]), (11, [(2, 0, 54, 0), (0, 0, 0, 0), (2, 1, 38, 0)])], (0, 0, 0), [], [], ([], [(489, [(2, 1, 38, 0)])]), ([], []))
set_option maxRecDepth 100000 in
theorem l_njf_1 (g : GG) : LOK Yt (PSt g) t_njf_1 := by
  intro ρ α Γ M as hT hB hA hP
  have g0 : Γ (α 0) = 54 := tyAt hA (i := 0) rfl
  have g1 : Γ (α 1) = 38 := tyAt hA (i := 1) rfl
  have h0 : Γ (α 0) = 54 ∧ (∀ q ∈ ([([(0, 38), (0, 1)], 0, 2), ([(0, 38), (0, 1), (2, 2)], 0, 144), ([(0, 38), (1, 6), (4, 9)], 0, 288)] : VSP), wkT Γ M (α 0) q.1) ∧ Q731 g (vsv M (α 0) ([(0, 38), (0, 1)], 0, 2)) (vsv M (α 0) ([(0, 38), (0, 1), (2, 2)], 0, 144)) (vsv M (α 0) ([(0, 38), (1, 6), (4, 9)], 0, 288))  := hP _ (List.mem_of_getElem? (i := 0) rfl)
  have h1 : Γ (α 0) = 54 ∧ (∀ q ∈ ([([(0, 38), (0, 1)], 0, 2), ([(0, 38), (0, 1), (2, 2)], 0, 144), ([(0, 38), (1, 6), (4, 9)], 0, 288), ([(0, 38), (0, 1), (5, 5)], 0, 288), ([(0, 38), (2, 10)], 2, 3), ([(0, 38), (2, 10)], 3, 4), ([(0, 38), (2, 10), (4, 11)], 0, 144), ([(0, 38), (2, 10), (5, 12)], 0, 144), ([(0, 38), (2, 10), (6, 13)], 0, 144), ([(0, 38), (2, 10), (7, 14)], 0, 144), ([(0, 38), (2, 10), (8, 15)], 0, 144)] : VSP), wkT Γ M (α 0) q.1) ∧ Q732 g (vsv M (α 0) ([(0, 38), (0, 1)], 0, 2)) (vsv M (α 0) ([(0, 38), (0, 1), (2, 2)], 0, 144)) (vsv M (α 0) ([(0, 38), (1, 6), (4, 9)], 0, 288)) (vsv M (α 0) ([(0, 38), (0, 1), (5, 5)], 0, 288)) (vsv M (α 0) ([(0, 38), (2, 10)], 2, 3)) (vsv M (α 0) ([(0, 38), (2, 10)], 3, 4)) (vsv M (α 0) ([(0, 38), (2, 10), (4, 11)], 0, 144)) (vsv M (α 0) ([(0, 38), (2, 10), (5, 12)], 0, 144)) (vsv M (α 0) ([(0, 38), (2, 10), (6, 13)], 0, 144)) (vsv M (α 0) ([(0, 38), (2, 10), (7, 14)], 0, 144)) (vsv M (α 0) ([(0, 38), (2, 10), (8, 15)], 0, 144))  := hP _ (List.mem_of_getElem? (i := 1) rfl)
  have h2 : 0 ≤ (0 : Int) ∧ M.2.2.2.1 (α 0) (0 : Int).toNat = some (α 1) := hP _ (List.mem_of_getElem? (i := 2) rfl)
  try simp only [Int.add_zero] at h0 h1 h2
  have key : (Γ (α 1) = 38 ∧ (∀ q ∈ ([([(0, 1)], 0, 2), ([(0, 1), (2, 2)], 0, 144), ([(1, 6), (4, 9)], 0, 288), ([(0, 1), (5, 5)], 0, 288), ([(2, 10), (4, 11)], 0, 144), ([(2, 10), (6, 13)], 0, 144)] : VSP), wkT Γ M (α 1) q.1) ∧ Q489 g (vsv M (α 1) ([(0, 1)], 0, 2)) (vsv M (α 1) ([(0, 1), (2, 2)], 0, 144)) (vsv M (α 1) ([(1, 6), (4, 9)], 0, 288)) (vsv M (α 1) ([(0, 1), (5, 5)], 0, 288)) (vsv M (α 1) ([(2, 10), (4, 11)], 0, 144)) (vsv M (α 1) ([(2, 10), (6, 13)], 0, 144)) ) ∧ True := by
    try simp only [Int.add_zero]
    have dm0 := fdim hT g0
    have rc0 := rc_bd dm0.1 dm0.2
    have dm1 := wdim hT g1
    have rc1 := rc_bd dm1.1 dm1.2
    obtain ⟨-, -, p0⟩ := h0
    dsimp only [Q731] at p0
    obtain ⟨-, -, p1⟩ := h1
    dsimp only [Q732] at p1
    have e2 : M.2.2.2.1 (α 0) 0 = some (α 1) := h2.2
    refine ⟨⟨g1, pic1 hT g1 (by decide) (by decide), ?_⟩, trivial⟩
    · dsimp only [Q489]
      rw [← (vsvS e2 : (vsv M (α 0) ([(0, 38), (0, 1)], 0, 2)) = (vsv M (α 1) ([(0, 1)], 0, 2))), ← (vsvS e2 : (vsv M (α 0) ([(0, 38), (0, 1), (2, 2)], 0, 144)) = (vsv M (α 1) ([(0, 1), (2, 2)], 0, 144))), ← (vsvS e2 : (vsv M (α 0) ([(0, 38), (1, 6), (4, 9)], 0, 288)) = (vsv M (α 1) ([(1, 6), (4, 9)], 0, 288))), ← (vsvS e2 : (vsv M (α 0) ([(0, 38), (0, 1), (5, 5)], 0, 288)) = (vsv M (α 1) ([(0, 1), (5, 5)], 0, 288))), ← (vsvS e2 : (vsv M (α 0) ([(0, 38), (2, 10), (4, 11)], 0, 144)) = (vsv M (α 1) ([(2, 10), (4, 11)], 0, 144))), ← (vsvS e2 : (vsv M (α 0) ([(0, 38), (2, 10), (6, 13)], 0, 144)) = (vsv M (α 1) ([(2, 10), (6, 13)], 0, 144)))]
      exact jf_of (by omega) (by omega) p0 (fun e q => q.2) p1.1
  exact ⟨nB, qB (key.1) (nB)⟩
def t_ncl_0 : KT := ((0, 0, 0, 0), [(2, 0, 10, 0), (2, 1, 13, 0)], [(0, 0), (0, 0)], [(598, [(2, 1, 13, 0), (0, 0, 0, 144)]), (11, [(2, 0, 10, 0), (0, 0, 0, 6), (2, 1, 13, 0)]), (10, [(2, 0, 10, 0), (0, 0, 0, 0), (0, 0, 0, 0)]), (10, [(2, 0, 10, 0), (0, 0, 0, 1), (0, 0, 0, 0)]), (10, [(2, 0, 10, 0), (0, 0, 0, 2), (0, 0, 0, 0)]), (10, [(2, 0, 10, 0), (0, 0, 0, 3), (0, 0, 0, 0)])], (0, 0, 0), [], [], ([], [(496, [(2, 0, 10, 0)])]), ([], []))
set_option maxRecDepth 100000 in
theorem l_ncl_0 (g : GG) : LOK Yt (PSt g) t_ncl_0 := by
  intro ρ α Γ M as hT hB hA hP
  have g0 : Γ (α 0) = 10 := tyAt hA (i := 0) rfl
  have g1 : Γ (α 1) = 13 := tyAt hA (i := 1) rfl
  have h0 : Γ (α 1) = 13 ∧ (∀ q ∈ ([([], 0, 144)] : VSP), wkT Γ M (α 1) q.1) ∧ Q598 g (vsv M (α 1) ([], 0, 144)) (144) := hP _ (List.mem_of_getElem? (i := 0) rfl)
  have h1 : 0 ≤ (6 : Int) ∧ M.2.2.2.1 (α 0) (6 : Int).toNat = some (α 1) := hP _ (List.mem_of_getElem? (i := 1) rfl)
  have h2 : 0 ≤ (0 : Int) ∧ M.2.2.2.2 (α 0) (0 : Int).toNat = 0 := hP _ (List.mem_of_getElem? (i := 2) rfl)
  have h3 : 0 ≤ (1 : Int) ∧ M.2.2.2.2 (α 0) (1 : Int).toNat = 0 := hP _ (List.mem_of_getElem? (i := 3) rfl)
  have h4 : 0 ≤ (2 : Int) ∧ M.2.2.2.2 (α 0) (2 : Int).toNat = 0 := hP _ (List.mem_of_getElem? (i := 4) rfl)
  have h5 : 0 ≤ (3 : Int) ∧ M.2.2.2.2 (α 0) (3 : Int).toNat = 0 := hP _ (List.mem_of_getElem? (i := 5) rfl)
  try simp only [Int.add_zero] at h0 h1 h2 h3 h4 h5
  have key : (Γ (α 0) = 10 ∧ (∀ q ∈ ([([], 0, 1), ([], 1, 2), ([], 2, 3), ([], 3, 4), ([(6, 13)], 0, 144)] : VSP), wkT Γ M (α 0) q.1) ∧ Q496 g (vsv M (α 0) ([], 0, 1)) (vsv M (α 0) ([], 1, 2)) (vsv M (α 0) ([], 2, 3)) (vsv M (α 0) ([], 3, 4)) (vsv M (α 0) ([(6, 13)], 0, 144)) ) ∧ True := by
    try simp only [Int.add_zero]
    obtain ⟨-, -, p0⟩ := h0
    dsimp only [Q598] at p0
    have e1 : M.2.2.2.1 (α 0) 6 = some (α 1) := h1.2
    have e2 : M.2.2.2.2 (α 0) 0 = 0 := h2.2
    have e3 : M.2.2.2.2 (α 0) 1 = 0 := h3.2
    have e4 : M.2.2.2.2 (α 0) 2 = 0 := h4.2
    have e5 : M.2.2.2.2 (α 0) 3 = 0 := h5.2
    refine ⟨⟨g0, pic1 hT g0 (by decide) (by decide), ?_⟩, trivial⟩
    · dsimp only [Q496]
      refine ⟨(vs0 (by decide) (by decide)).trans e2, (vs0 (by decide) (by decide)).trans e3, (vs0 (by decide) (by decide)).trans e4, (vs0 (by decide) (by decide)).trans e5, fun j hj => ?_⟩
      rw [vsv1 e1]
      exact p0 j (by omega)
  exact ⟨nB, qB (key.1) (nB)⟩
def t_nst_0 : KT := ((0, 0, 0, 0), [(2, 0, 10, 0)], [(0, 0)], [(496, [(2, 0, 10, 0)])], (0, 0, 0), [], [], ([], [(498, [(2, 0, 10, 0)])]), ([], []))
set_option maxRecDepth 100000 in
theorem l_nst_0 (g : GG) : LOK Yt (PSt g) t_nst_0 := by
  intro ρ α Γ M as hT hB hA hP
  have g0 : Γ (α 0) = 10 := tyAt hA (i := 0) rfl
  have h0 : Γ (α 0) = 10 ∧ (∀ q ∈ ([([], 0, 1), ([], 1, 2), ([], 2, 3), ([], 3, 4), ([(6, 13)], 0, 144)] : VSP), wkT Γ M (α 0) q.1) ∧ Q496 g (vsv M (α 0) ([], 0, 1)) (vsv M (α 0) ([], 1, 2)) (vsv M (α 0) ([], 2, 3)) (vsv M (α 0) ([], 3, 4)) (vsv M (α 0) ([(6, 13)], 0, 144))  := hP _ (List.mem_of_getElem? (i := 0) rfl)
  try simp only [Int.add_zero] at h0
  have key : (Γ (α 0) = 10 ∧ (∀ q ∈ ([([], 2, 3), ([], 3, 4), ([(6, 13)], 0, 144)] : VSP), wkT Γ M (α 0) q.1) ∧ Q498 g (vsv M (α 0) ([], 2, 3)) (vsv M (α 0) ([], 3, 4)) (vsv M (α 0) ([(6, 13)], 0, 144)) ) ∧ True := by
    try simp only [Int.add_zero]
    obtain ⟨-, -, p0⟩ := h0
    dsimp only [Q496] at p0
    refine ⟨⟨g0, pic1 hT g0 (by decide) (by decide), ?_⟩, trivial⟩
    · dsimp only [Q498]
      exact p0.2.2
  exact ⟨nB, qB (key.1) (nB)⟩
def t_nst_1 : KT := ((0, 0, 0, 0), [(2, 0, 10, 0), (2, 1, 1, 0), (1, 2, 0, 0), (1, 3, 0, 0), (1, 4, 0, 0)], [(0, 0), (0, 0), (-2147483648, 2147483647), (0, 0), (0, 1000)], [(498, [(2, 0, 10, 0)]), (10, [(2, 0, 10, 0), (0, 0, 0, 1), (1, 2, 0, 0)]), (5, [(2, 1, 1, 0), (1, 4, 0, 0)]), (10, [(2, 0, 10, 0), (0, 0, 0, 0), (0, 0, 0, 1)]), (24, [(1, 4, 0, 0), (1, 3, 0, 0), (1, 2, 0, 0)])], (0, 0, 0), [], [], ([], [(497, [(2, 0, 10, 0), (2, 1, 1, 0)])]), ([], []))
set_option maxRecDepth 100000 in
theorem l_nst_1 (g : GG) : LOK Yt (PSt g) t_nst_1 := by
  intro ρ α Γ M as hT hB hA hP
  have g0 : Γ (α 0) = 10 := tyAt hA (i := 0) rfl
  have g1 : Γ (α 1) = 1 := tyAt hA (i := 1) rfl
  have b2 : -2147483648 ≤ ρ 2 ∧ ρ 2 ≤ 2147483647 := hB 2
  have b3 : 0 ≤ ρ 3 ∧ ρ 3 ≤ 0 := hB 3
  have b4 : 0 ≤ ρ 4 ∧ ρ 4 ≤ 1000 := hB 4
  have h0 : Γ (α 0) = 10 ∧ (∀ q ∈ ([([], 2, 3), ([], 3, 4), ([(6, 13)], 0, 144)] : VSP), wkT Γ M (α 0) q.1) ∧ Q498 g (vsv M (α 0) ([], 2, 3)) (vsv M (α 0) ([], 3, 4)) (vsv M (α 0) ([(6, 13)], 0, 144))  := hP _ (List.mem_of_getElem? (i := 0) rfl)
  have h1 : 0 ≤ (1 : Int) ∧ M.2.2.2.2 (α 0) (1 : Int).toNat = ρ 2 + 0 := hP _ (List.mem_of_getElem? (i := 1) rfl)
  have h2 : Γ (α 1) = 1 ∧ ρ 4 + 0 = M.2.2.2.2 (α 1) 0 * M.2.2.2.2 (α 1) 1 := hP _ (List.mem_of_getElem? (i := 2) rfl)
  have h3 : 0 ≤ (0 : Int) ∧ M.2.2.2.2 (α 0) (0 : Int).toNat = 1 := hP _ (List.mem_of_getElem? (i := 3) rfl)
  have h4 : ρ 2 + 0 = wI ((ρ 4 + 0) - (ρ 3 + 0)) := hP _ (List.mem_of_getElem? (i := 4) rfl)
  try simp only [Int.add_zero] at h0 h1 h2 h3 h4
  have key : (Γ (α 0) = 10 ∧ (∀ q ∈ ([([], 0, 1), ([], 1, 2), ([], 2, 3), ([], 3, 4), ([(6, 13)], 0, 144)] : VSP), wkT Γ M (α 0) q.1) ∧ Γ (α 1) = 1 ∧ (∀ q ∈ ([([], 0, 2)] : VSP), wkT Γ M (α 1) q.1) ∧ Q497 g (vsv M (α 0) ([], 0, 1)) (vsv M (α 0) ([], 1, 2)) (vsv M (α 0) ([], 2, 3)) (vsv M (α 0) ([], 3, 4)) (vsv M (α 0) ([(6, 13)], 0, 144)) (vsv M (α 1) ([], 0, 2)) ) ∧ True := by
    try simp only [Int.add_zero]
    have dm1 := cdim hT g1
    have rc1 := rc_bd dm1.1 dm1.2
    obtain ⟨-, -, p0⟩ := h0
    dsimp only [Q498] at p0
    have e1 : M.2.2.2.2 (α 0) 1 = ρ 2 := h1.2
    have e3 : M.2.2.2.2 (α 0) 0 = 1 := h3.2
    have m0 : (vsv M (α 1) ([], 0, 2)) 0 = M.2.2.2.2 (α 1) 0 := vs0 (by decide) (by decide)
    have m1 : (vsv M (α 1) ([], 0, 2)) 1 = M.2.2.2.2 (α 1) 1 := vs0 (by decide) (by decide)
    refine ⟨⟨g0, pic1 hT g0 (by decide) (by decide), g1, pic1 hT g1 (by decide) (by decide), ?_⟩, trivial⟩
    · dsimp only [Q497]
      have h2 := h2.2
      rw [← m0, ← m1] at h2
      rw [wI_id (by unfold inI; omega)] at h4
      exact ⟨((vs0 (by decide) (by decide)).trans e1).trans (by omega), (vs0 (by decide) (by decide)).trans e3, p0⟩
  exact ⟨nB, qB (key.1) (nB)⟩
def t_nbe_1 : KT := ((0, 0, 0, 0), [(2, 0, 54, 0), (2, 1, 38, 0), (2, 2, 1, 0), (2, 3, 10, 0)], [(0, 0), (0, 0), (0, 0), (0, 0)], [(497, [(2, 3, 10, 0), (2, 2, 1, 0)]), (11, [(2, 0, 54, 0), (0, 0, 0, 0), (2, 1, 38, 0)]), (11, [(2, 1, 38, 0), (0, 0, 0, 0), (2, 2, 1, 0)]), (11, [(2, 1, 38, 0), (0, 0, 0, 2), (2, 3, 10, 0)])], (0, 0, 0), [], [], ([], [(732, [(2, 0, 54, 0)]), (735, [(2, 0, 54, 0)]), (742, [(2, 0, 54, 0), (0, 0, 0, 1)]), (743, [(2, 0, 54, 0), (0, 0, 0, 0), (0, 0, 0, 0)])]), ([], []))
set_option maxRecDepth 100000 in
theorem l_nbe_1 (g : GG) : LOK Yt (PSt g) t_nbe_1 := by
  intro ρ α Γ M as hT hB hA hP
  have g0 : Γ (α 0) = 54 := tyAt hA (i := 0) rfl
  have g1 : Γ (α 1) = 38 := tyAt hA (i := 1) rfl
  have g2 : Γ (α 2) = 1 := tyAt hA (i := 2) rfl
  have g3 : Γ (α 3) = 10 := tyAt hA (i := 3) rfl
  have h0 : Γ (α 3) = 10 ∧ (∀ q ∈ ([([], 0, 1), ([], 1, 2), ([], 2, 3), ([], 3, 4), ([(6, 13)], 0, 144)] : VSP), wkT Γ M (α 3) q.1) ∧ Γ (α 2) = 1 ∧ (∀ q ∈ ([([], 0, 2)] : VSP), wkT Γ M (α 2) q.1) ∧ Q497 g (vsv M (α 3) ([], 0, 1)) (vsv M (α 3) ([], 1, 2)) (vsv M (α 3) ([], 2, 3)) (vsv M (α 3) ([], 3, 4)) (vsv M (α 3) ([(6, 13)], 0, 144)) (vsv M (α 2) ([], 0, 2))  := hP _ (List.mem_of_getElem? (i := 0) rfl)
  have h1 : 0 ≤ (0 : Int) ∧ M.2.2.2.1 (α 0) (0 : Int).toNat = some (α 1) := hP _ (List.mem_of_getElem? (i := 1) rfl)
  have h2 : 0 ≤ (0 : Int) ∧ M.2.2.2.1 (α 1) (0 : Int).toNat = some (α 2) := hP _ (List.mem_of_getElem? (i := 2) rfl)
  have h3 : 0 ≤ (2 : Int) ∧ M.2.2.2.1 (α 1) (2 : Int).toNat = some (α 3) := hP _ (List.mem_of_getElem? (i := 3) rfl)
  try simp only [Int.add_zero] at h0 h1 h2 h3
  have key : (Γ (α 0) = 54 ∧ (∀ q ∈ ([([(0, 38), (0, 1)], 0, 2), ([(0, 38), (0, 1), (2, 2)], 0, 144), ([(0, 38), (1, 6), (4, 9)], 0, 288), ([(0, 38), (0, 1), (5, 5)], 0, 288), ([(0, 38), (2, 10)], 2, 3), ([(0, 38), (2, 10)], 3, 4), ([(0, 38), (2, 10), (4, 11)], 0, 144), ([(0, 38), (2, 10), (5, 12)], 0, 144), ([(0, 38), (2, 10), (6, 13)], 0, 144), ([(0, 38), (2, 10), (7, 14)], 0, 144), ([(0, 38), (2, 10), (8, 15)], 0, 144)] : VSP), wkT Γ M (α 0) q.1) ∧ Q732 g (vsv M (α 0) ([(0, 38), (0, 1)], 0, 2)) (vsv M (α 0) ([(0, 38), (0, 1), (2, 2)], 0, 144)) (vsv M (α 0) ([(0, 38), (1, 6), (4, 9)], 0, 288)) (vsv M (α 0) ([(0, 38), (0, 1), (5, 5)], 0, 288)) (vsv M (α 0) ([(0, 38), (2, 10)], 2, 3)) (vsv M (α 0) ([(0, 38), (2, 10)], 3, 4)) (vsv M (α 0) ([(0, 38), (2, 10), (4, 11)], 0, 144)) (vsv M (α 0) ([(0, 38), (2, 10), (5, 12)], 0, 144)) (vsv M (α 0) ([(0, 38), (2, 10), (6, 13)], 0, 144)) (vsv M (α 0) ([(0, 38), (2, 10), (7, 14)], 0, 144)) (vsv M (α 0) ([(0, 38), (2, 10), (8, 15)], 0, 144)) ) ∧ (Γ (α 0) = 54 ∧ (∀ q ∈ ([([(0, 38), (2, 10)], 0, 1), ([(0, 38), (2, 10)], 1, 2), ([(0, 38), (2, 10)], 2, 3), ([(0, 38), (0, 1)], 0, 2)] : VSP), wkT Γ M (α 0) q.1) ∧ Q735 g (vsv M (α 0) ([(0, 38), (2, 10)], 0, 1)) (vsv M (α 0) ([(0, 38), (2, 10)], 1, 2)) (vsv M (α 0) ([(0, 38), (2, 10)], 2, 3)) (vsv M (α 0) ([(0, 38), (0, 1)], 0, 2)) ) ∧ (Γ (α 0) = 54 ∧ (∀ q ∈ ([([(0, 38), (2, 10)], 0, 1)] : VSP), wkT Γ M (α 0) q.1) ∧ Q742 g (vsv M (α 0) ([(0, 38), (2, 10)], 0, 1)) (1)) ∧ (Γ (α 0) = 54 ∧ (∀ q ∈ ([([(0, 38), (2, 10)], 2, 3)] : VSP), wkT Γ M (α 0) q.1) ∧ Q743 g (vsv M (α 0) ([(0, 38), (2, 10)], 2, 3)) (0) (0)) ∧ True := by
    try simp only [Int.add_zero]
    have dm0 := fdim hT g0
    have rc0 := rc_bd dm0.1 dm0.2
    have dm1 := wdim hT g1
    have rc1 := rc_bd dm1.1 dm1.2
    have dm2 := cdim hT g2
    have rc2 := rc_bd dm2.1 dm2.2
    obtain ⟨-, -, -, -, p0⟩ := h0
    dsimp only [Q497] at p0
    have e1 : M.2.2.2.1 (α 0) 0 = some (α 1) := h1.2
    have e2 : M.2.2.2.1 (α 1) 0 = some (α 2) := h2.2
    have e3 : M.2.2.2.1 (α 1) 2 = some (α 3) := h3.2
    have wc : (vsv M (α 0) ([(0, 38), (0, 1)], 0, 2)) = (vsv M (α 2) ([], 0, 2)) := (vsvS e1).trans (vsvS e2)
    have w_l0 : (vsv M (α 0) ([(0, 38), (2, 10)], 0, 1)) = (vsv M (α 3) ([], 0, 1)) := (vsvS e1).trans (vsvS e3)
    have w_l1 : (vsv M (α 0) ([(0, 38), (2, 10)], 1, 2)) = (vsv M (α 3) ([], 1, 2)) := (vsvS e1).trans (vsvS e3)
    have w_l2 : (vsv M (α 0) ([(0, 38), (2, 10)], 2, 3)) = (vsv M (α 3) ([], 2, 3)) := (vsvS e1).trans (vsvS e3)
    have w_l3 : (vsv M (α 0) ([(0, 38), (2, 10)], 3, 4)) = (vsv M (α 3) ([], 3, 4)) := (vsvS e1).trans (vsvS e3)
    have w_H : (vsv M (α 0) ([(0, 38), (2, 10), (4, 11)], 0, 144)) = (vsv M (α 3) ([(4, 11)], 0, 144)) := (vsvS e1).trans (vsvS e3)
    have w_F : (vsv M (α 0) ([(0, 38), (2, 10), (5, 12)], 0, 144)) = (vsv M (α 3) ([(5, 12)], 0, 144)) := (vsvS e1).trans (vsvS e3)
    have w_S : (vsv M (α 0) ([(0, 38), (2, 10), (6, 13)], 0, 144)) = (vsv M (α 3) ([(6, 13)], 0, 144)) := (vsvS e1).trans (vsvS e3)
    have w_V : (vsv M (α 0) ([(0, 38), (2, 10), (7, 14)], 0, 144)) = (vsv M (α 3) ([(7, 14)], 0, 144)) := (vsvS e1).trans (vsvS e3)
    have w_T : (vsv M (α 0) ([(0, 38), (2, 10), (8, 15)], 0, 144)) = (vsv M (α 3) ([(8, 15)], 0, 144)) := (vsvS e1).trans (vsvS e3)
    refine ⟨⟨g0, pic1 hT g0 (by decide) (by decide), ?_⟩, ⟨g0, pic1 hT g0 (by decide) (by decide), ?_⟩, ⟨g0, pic1 hT g0 (by decide) (by decide), ?_⟩, ⟨g0, pic1 hT g0 (by decide) (by decide), ?_⟩, trivial⟩
    · dsimp only [Q732]
      obtain ⟨q1, q2, q3, q4, q5⟩ := p0
      rw [wc, w_l2, w_l3, w_H, w_F, w_S, w_V, w_T, q3, q4]
      exact flI_0 (by omega) (by omega) q5
    · dsimp only [Q735]
      obtain ⟨q1, q2, q3, q4, q5⟩ := p0
      rw [wc, w_l0, w_l1, w_l2]
      exact ⟨q1, Or.inr ⟨q2, by rw [q3]; omega⟩⟩
    · dsimp only [Q742]
      rw [w_l0]
      exact p0.2.1
    · dsimp only [Q743]
      rw [w_l2]
      exact p0.2.2.1
  exact ⟨nB, qB (key.1) (qB (key.2.1) (qB (key.2.2.1) (qB (key.2.2.2.1) (nB))))⟩
def t_nbe_2 : KT := ((0, 0, 0, 0), [(2, 0, 54, 0), (2, 1, 38, 0), (2, 2, 1, 0), (2, 3, 10, 0), (1, 4, 0, 0)], [(0, 0), (0, 0), (0, 0), (0, 0), (-2147483648, 2147483647)], [(497, [(2, 3, 10, 0), (2, 2, 1, 0)]), (11, [(2, 0, 54, 0), (0, 0, 0, 0), (2, 1, 38, 0)]), (11, [(2, 1, 38, 0), (0, 0, 0, 0), (2, 2, 1, 0)]), (11, [(2, 1, 38, 0), (0, 0, 0, 2), (2, 3, 10, 0)]), (10, [(2, 3, 10, 0), (0, 0, 0, 1), (1, 4, 0, 0)])], (0, 0, 0), [], [], ([], [(740, [(2, 0, 54, 0), (1, 4, 0, 0)])]), ([], []))
set_option maxRecDepth 100000 in
theorem l_nbe_2 (g : GG) : LOK Yt (PSt g) t_nbe_2 := by
  intro ρ α Γ M as hT hB hA hP
  have g0 : Γ (α 0) = 54 := tyAt hA (i := 0) rfl
  have g1 : Γ (α 1) = 38 := tyAt hA (i := 1) rfl
  have g2 : Γ (α 2) = 1 := tyAt hA (i := 2) rfl
  have g3 : Γ (α 3) = 10 := tyAt hA (i := 3) rfl
  have b4 : -2147483648 ≤ ρ 4 ∧ ρ 4 ≤ 2147483647 := hB 4
  have h0 : Γ (α 3) = 10 ∧ (∀ q ∈ ([([], 0, 1), ([], 1, 2), ([], 2, 3), ([], 3, 4), ([(6, 13)], 0, 144)] : VSP), wkT Γ M (α 3) q.1) ∧ Γ (α 2) = 1 ∧ (∀ q ∈ ([([], 0, 2)] : VSP), wkT Γ M (α 2) q.1) ∧ Q497 g (vsv M (α 3) ([], 0, 1)) (vsv M (α 3) ([], 1, 2)) (vsv M (α 3) ([], 2, 3)) (vsv M (α 3) ([], 3, 4)) (vsv M (α 3) ([(6, 13)], 0, 144)) (vsv M (α 2) ([], 0, 2))  := hP _ (List.mem_of_getElem? (i := 0) rfl)
  have h1 : 0 ≤ (0 : Int) ∧ M.2.2.2.1 (α 0) (0 : Int).toNat = some (α 1) := hP _ (List.mem_of_getElem? (i := 1) rfl)
  have h2 : 0 ≤ (0 : Int) ∧ M.2.2.2.1 (α 1) (0 : Int).toNat = some (α 2) := hP _ (List.mem_of_getElem? (i := 2) rfl)
  have h3 : 0 ≤ (2 : Int) ∧ M.2.2.2.1 (α 1) (2 : Int).toNat = some (α 3) := hP _ (List.mem_of_getElem? (i := 3) rfl)
  have h4 : 0 ≤ (1 : Int) ∧ M.2.2.2.2 (α 3) (1 : Int).toNat = ρ 4 + 0 := hP _ (List.mem_of_getElem? (i := 4) rfl)
  try simp only [Int.add_zero] at h0 h1 h2 h3 h4
  have key : (Γ (α 0) = 54 ∧ (∀ q ∈ ([([(0, 38), (0, 1)], 0, 2)] : VSP), wkT Γ M (α 0) q.1) ∧ Q740 g (vsv M (α 0) ([(0, 38), (0, 1)], 0, 2)) (ρ 4 + 0)) ∧ True := by
    try simp only [Int.add_zero]
    have dm0 := fdim hT g0
    have rc0 := rc_bd dm0.1 dm0.2
    have dm1 := wdim hT g1
    have rc1 := rc_bd dm1.1 dm1.2
    have dm2 := cdim hT g2
    have rc2 := rc_bd dm2.1 dm2.2
    obtain ⟨-, -, -, -, p0⟩ := h0
    dsimp only [Q497] at p0
    have e1 : M.2.2.2.1 (α 0) 0 = some (α 1) := h1.2
    have e2 : M.2.2.2.1 (α 1) 0 = some (α 2) := h2.2
    have e3 : M.2.2.2.1 (α 1) 2 = some (α 3) := h3.2
    have e4 : M.2.2.2.2 (α 3) 1 = ρ 4 := h4.2
    have wc : (vsv M (α 0) ([(0, 38), (0, 1)], 0, 2)) = (vsv M (α 2) ([], 0, 2)) := (vsvS e1).trans (vsvS e2)
    have w_l0 : (vsv M (α 0) ([(0, 38), (2, 10)], 0, 1)) = (vsv M (α 3) ([], 0, 1)) := (vsvS e1).trans (vsvS e3)
    have w_l1 : (vsv M (α 0) ([(0, 38), (2, 10)], 1, 2)) = (vsv M (α 3) ([], 1, 2)) := (vsvS e1).trans (vsvS e3)
    have w_l2 : (vsv M (α 0) ([(0, 38), (2, 10)], 2, 3)) = (vsv M (α 3) ([], 2, 3)) := (vsvS e1).trans (vsvS e3)
    have w_l3 : (vsv M (α 0) ([(0, 38), (2, 10)], 3, 4)) = (vsv M (α 3) ([], 3, 4)) := (vsvS e1).trans (vsvS e3)
    have w_H : (vsv M (α 0) ([(0, 38), (2, 10), (4, 11)], 0, 144)) = (vsv M (α 3) ([(4, 11)], 0, 144)) := (vsvS e1).trans (vsvS e3)
    have w_F : (vsv M (α 0) ([(0, 38), (2, 10), (5, 12)], 0, 144)) = (vsv M (α 3) ([(5, 12)], 0, 144)) := (vsvS e1).trans (vsvS e3)
    have w_S : (vsv M (α 0) ([(0, 38), (2, 10), (6, 13)], 0, 144)) = (vsv M (α 3) ([(6, 13)], 0, 144)) := (vsvS e1).trans (vsvS e3)
    have w_V : (vsv M (α 0) ([(0, 38), (2, 10), (7, 14)], 0, 144)) = (vsv M (α 3) ([(7, 14)], 0, 144)) := (vsvS e1).trans (vsvS e3)
    have w_T : (vsv M (α 0) ([(0, 38), (2, 10), (8, 15)], 0, 144)) = (vsv M (α 3) ([(8, 15)], 0, 144)) := (vsvS e1).trans (vsvS e3)
    refine ⟨⟨g0, pic1 hT g0 (by decide) (by decide), ?_⟩, trivial⟩
    · dsimp only [Q740]
      rw [wc, ← p0.1]
      exact (vs0 (by decide) (by decide)).trans e4
  exact ⟨nB, qB (key.1) (nB)⟩
def t_nst_f : KT := ((0, 0, 0, 0), [(2, 0, 54, 0), (2, 1, 38, 0), (2, 2, 10, 0), (1, 3, 0, 0)], [(0, 0), (0, 0), (0, 0), (-2147483648, 2147483647)], [(742, [(2, 0, 54, 0), (0, 0, 0, 1)]), (11, [(2, 0, 54, 0), (0, 0, 0, 0), (2, 1, 38, 0)]), (11, [(2, 1, 38, 0), (0, 0, 0, 2), (2, 2, 10, 0)]), (10, [(2, 2, 10, 0), (0, 0, 0, 0), (1, 3, 0, 0)])], (0, 0, 0), [], [], ([(3, 1, 1)], []), ([], []))
set_option maxRecDepth 100000 in
theorem l_nst_f (g : GG) : LOK Yt (PSt g) t_nst_f := by
  intro ρ α Γ M as hT hB hA hP
  have g0 : Γ (α 0) = 54 := tyAt hA (i := 0) rfl
  have g1 : Γ (α 1) = 38 := tyAt hA (i := 1) rfl
  have g2 : Γ (α 2) = 10 := tyAt hA (i := 2) rfl
  have b3 : -2147483648 ≤ ρ 3 ∧ ρ 3 ≤ 2147483647 := hB 3
  have h0 : Γ (α 0) = 54 ∧ (∀ q ∈ ([([(0, 38), (2, 10)], 0, 1)] : VSP), wkT Γ M (α 0) q.1) ∧ Q742 g (vsv M (α 0) ([(0, 38), (2, 10)], 0, 1)) (1) := hP _ (List.mem_of_getElem? (i := 0) rfl)
  have h1 : 0 ≤ (0 : Int) ∧ M.2.2.2.1 (α 0) (0 : Int).toNat = some (α 1) := hP _ (List.mem_of_getElem? (i := 1) rfl)
  have h2 : 0 ≤ (2 : Int) ∧ M.2.2.2.1 (α 1) (2 : Int).toNat = some (α 2) := hP _ (List.mem_of_getElem? (i := 2) rfl)
  have h3 : 0 ≤ (0 : Int) ∧ M.2.2.2.2 (α 2) (0 : Int).toNat = ρ 3 + 0 := hP _ (List.mem_of_getElem? (i := 3) rfl)
  try simp only [Int.add_zero] at h0 h1 h2 h3
  have key : (1 ≤ ρ 3 ∧ ρ 3 ≤ 1) ∧ True := by
    try simp only [Int.add_zero]
    have dm0 := fdim hT g0
    have rc0 := rc_bd dm0.1 dm0.2
    have dm1 := wdim hT g1
    have rc1 := rc_bd dm1.1 dm1.2
    obtain ⟨-, -, p0⟩ := h0
    dsimp only [Q742] at p0
    have e1 : M.2.2.2.1 (α 0) 0 = some (α 1) := h1.2
    have e2 : M.2.2.2.1 (α 1) 2 = some (α 2) := h2.2
    have e3 : M.2.2.2.2 (α 2) 0 = ρ 3 := h3.2
    refine ⟨?_, trivial⟩
    · rw [((vsvS e1).trans (vsvS e2) : (vsv M (α 0) ([(0, 38), (2, 10)], 0, 1)) = (vsv M (α 2) ([], 0, 1)))] at p0
      have := (vs0 (by decide) (by decide) : (vsv M (α 2) ([], 0, 1)) 0 = _).symm.trans p0
      omega
  exact ⟨qB (key.1) (nB), nB⟩
def t_nst_d0 : KT := ((0, 0, 0, 0), [(2, 0, 54, 0)], [(0, 0)], [(742, [(2, 0, 54, 0), (0, 0, 0, 1)])], (0, 0, 0), [], [], ([], [(745, [(2, 0, 54, 0), (0, 0, 0, 0)])]), ([], []))
set_option maxRecDepth 100000 in
theorem l_nst_d0 (g : GG) : LOK Yt (PSt g) t_nst_d0 := by
  intro ρ α Γ M as hT hB hA hP
  have g0 : Γ (α 0) = 54 := tyAt hA (i := 0) rfl
  have h0 : Γ (α 0) = 54 ∧ (∀ q ∈ ([([(0, 38), (2, 10)], 0, 1)] : VSP), wkT Γ M (α 0) q.1) ∧ Q742 g (vsv M (α 0) ([(0, 38), (2, 10)], 0, 1)) (1) := hP _ (List.mem_of_getElem? (i := 0) rfl)
  try simp only [Int.add_zero] at h0
  have key : (Γ (α 0) = 54 ∧ (∀ q ∈ ([([(0, 38), (2, 10)], 0, 1)] : VSP), wkT Γ M (α 0) q.1) ∧ Q745 g (vsv M (α 0) ([(0, 38), (2, 10)], 0, 1)) (0)) ∧ True := by
    try simp only [Int.add_zero]
    have dm0 := fdim hT g0
    have rc0 := rc_bd dm0.1 dm0.2
    obtain ⟨-, -, p0⟩ := h0
    dsimp only [Q742] at p0
    refine ⟨⟨g0, pic1 hT g0 (by decide) (by decide), ?_⟩, trivial⟩
    · dsimp only [Q745]
      exact fun _ => p0
  exact ⟨nB, qB (key.1) (nB)⟩
def t_nst_d1 : KT := ((0, 0, 0, 0), [(2, 0, 54, 0), (1, 1, 0, 0)], [(0, 0), (0, 144)], [], (0, 0, 0), [], [], ([], [(745, [(2, 0, 54, 0), (1, 1, 0, 1)])]), ([], []))
set_option maxRecDepth 100000 in
theorem l_nst_d1 (g : GG) : LOK Yt (PSt g) t_nst_d1 := by
  intro ρ α Γ M as hT hB hA hP
  have g0 : Γ (α 0) = 54 := tyAt hA (i := 0) rfl
  have b1 : 0 ≤ ρ 1 ∧ ρ 1 ≤ 144 := hB 1
  have key : (Γ (α 0) = 54 ∧ (∀ q ∈ ([([(0, 38), (2, 10)], 0, 1)] : VSP), wkT Γ M (α 0) q.1) ∧ Q745 g (vsv M (α 0) ([(0, 38), (2, 10)], 0, 1)) (ρ 1 + 1)) ∧ True := by
    try simp only [Int.add_zero]
    have dm0 := fdim hT g0
    have rc0 := rc_bd dm0.1 dm0.2
    refine ⟨⟨g0, pic1 hT g0 (by decide) (by decide), ?_⟩, trivial⟩
    · dsimp only [Q745]
      exact fun q => by omega
  exact ⟨nB, qB (key.1) (nB)⟩
def t_nst_d2 : KT := ((0, 0, 0, 0), [(2, 0, 54, 0), (2, 1, 38, 0), (2, 2, 10, 0), (1, 3, 0, 0), (1, 4, 0, 0)], [(0, 0), (0, 0), (0, 0), (0, 0), (0, 144)], [(745, [(2, 0, 54, 0), (1, 4, 0, 0)]), (11, [(2, 0, 54, 0), (0, 0, 0, 0), (2, 1, 38, 0)]), (11, [(2, 1, 38, 0), (0, 0, 0, 2), (2, 2, 10, 0)]), (10, [(2, 2, 10, 0), (0, 0, 0, 0), (1, 3, 0, 0)])], (0, 0, 0), [], [], ([(4, 1, 144)], []), ([], []))
set_option maxRecDepth 100000 in
theorem l_nst_d2 (g : GG) : LOK Yt (PSt g) t_nst_d2 := by
  intro ρ α Γ M as hT hB hA hP
  have g0 : Γ (α 0) = 54 := tyAt hA (i := 0) rfl
  have g1 : Γ (α 1) = 38 := tyAt hA (i := 1) rfl
  have g2 : Γ (α 2) = 10 := tyAt hA (i := 2) rfl
  have b3 : 0 ≤ ρ 3 ∧ ρ 3 ≤ 0 := hB 3
  have b4 : 0 ≤ ρ 4 ∧ ρ 4 ≤ 144 := hB 4
  have h0 : Γ (α 0) = 54 ∧ (∀ q ∈ ([([(0, 38), (2, 10)], 0, 1)] : VSP), wkT Γ M (α 0) q.1) ∧ Q745 g (vsv M (α 0) ([(0, 38), (2, 10)], 0, 1)) (ρ 4 + 0) := hP _ (List.mem_of_getElem? (i := 0) rfl)
  have h1 : 0 ≤ (0 : Int) ∧ M.2.2.2.1 (α 0) (0 : Int).toNat = some (α 1) := hP _ (List.mem_of_getElem? (i := 1) rfl)
  have h2 : 0 ≤ (2 : Int) ∧ M.2.2.2.1 (α 1) (2 : Int).toNat = some (α 2) := hP _ (List.mem_of_getElem? (i := 2) rfl)
  have h3 : 0 ≤ (0 : Int) ∧ M.2.2.2.2 (α 2) (0 : Int).toNat = ρ 3 + 0 := hP _ (List.mem_of_getElem? (i := 3) rfl)
  try simp only [Int.add_zero] at h0 h1 h2 h3
  have key : (1 ≤ ρ 4 ∧ ρ 4 ≤ 144) ∧ True := by
    try simp only [Int.add_zero]
    have dm0 := fdim hT g0
    have rc0 := rc_bd dm0.1 dm0.2
    have dm1 := wdim hT g1
    have rc1 := rc_bd dm1.1 dm1.2
    obtain ⟨-, -, p0⟩ := h0
    dsimp only [Q745] at p0
    have e1 : M.2.2.2.1 (α 0) 0 = some (α 1) := h1.2
    have e2 : M.2.2.2.1 (α 1) 2 = some (α 2) := h2.2
    have e3 : M.2.2.2.2 (α 2) 0 = ρ 3 := h3.2
    refine ⟨?_, trivial⟩
    · rw [((vsvS e1).trans (vsvS e2) : (vsv M (α 0) ([(0, 38), (2, 10)], 0, 1)) = (vsv M (α 2) ([], 0, 1)))] at p0
      have e : (vsv M (α 2) ([], 0, 1)) 0 = ρ 3 := (vs0 (by decide) (by decide)).trans e3
      rw [e] at p0
      rcases Int.lt_or_le 0 (ρ 4) with h | h
      · omega
      · have := p0 (by omega)
        omega
  exact ⟨qB (key.1) (nB), nB⟩
def t_nst_m : KT := ((0, 0, 0, 0), [(2, 0, 54, 0), (1, 1, 0, 0)], [(0, 0), (-2147483648, 2147483647)], [(452, [(2, 0, 54, 0), (1, 1, 0, 0)])], (0, 0, 0), [], [], ([], [(743, [(2, 0, 54, 0), (1, 1, 0, 0), (0, 0, 0, 0)])]), ([], []))
set_option maxRecDepth 100000 in
theorem l_nst_m (g : GG) : LOK Yt (PSt g) t_nst_m := by
  intro ρ α Γ M as hT hB hA hP
  have g0 : Γ (α 0) = 54 := tyAt hA (i := 0) rfl
  have b1 : -2147483648 ≤ ρ 1 ∧ ρ 1 ≤ 2147483647 := hB 1
  have h0 : Γ (α 0) = 54 ∧ (∀ q ∈ ([([(0, 38), (2, 10)], 2, 3)] : VSP), wkT Γ M (α 0) q.1) ∧ Q452 g (vsv M (α 0) ([(0, 38), (2, 10)], 2, 3)) (ρ 1 + 0) := hP _ (List.mem_of_getElem? (i := 0) rfl)
  try simp only [Int.add_zero] at h0
  have key : (Γ (α 0) = 54 ∧ (∀ q ∈ ([([(0, 38), (2, 10)], 2, 3)] : VSP), wkT Γ M (α 0) q.1) ∧ Q743 g (vsv M (α 0) ([(0, 38), (2, 10)], 2, 3)) (ρ 1 + 0) (0)) ∧ True := by
    try simp only [Int.add_zero]
    have dm0 := fdim hT g0
    have rc0 := rc_bd dm0.1 dm0.2
    obtain ⟨-, -, p0⟩ := h0
    dsimp only [Q452] at p0
    refine ⟨⟨g0, pic1 hT g0 (by decide) (by decide), ?_⟩, trivial⟩
    · dsimp only [Q743]
      exact p0.trans (by omega)
  exact ⟨nB, qB (key.1) (nB)⟩
def t_nin_k : KT := ((0, 0, 0, 0), [(2, 0, 31, 0), (1, 1, 0, 0), (1, 2, 0, 0)], [(0, 0), (288, 288), (-2147483648, 2147483647)], [(950, [(2, 0, 31, 0), (1, 2, 0, 0)]), (10, [(2, 0, 31, 0), (0, 0, 0, 2), (1, 1, 0, 0)])], (0, 0, 0), [], [], ([(1, 1, 0)], []), ([], []))
set_option maxRecDepth 100000 in
theorem l_nin_k (g : GG) : LOK Yt (PSt g) t_nin_k := by
  intro ρ α Γ M as hT hB hA hP
  have g0 : Γ (α 0) = 31 := tyAt hA (i := 0) rfl
  have b1 : 288 ≤ ρ 1 ∧ ρ 1 ≤ 288 := hB 1
  have b2 : -2147483648 ≤ ρ 2 ∧ ρ 2 ≤ 2147483647 := hB 2
  have h0 : Γ (α 0) = 31 ∧ (∀ q ∈ ([([], 2, 3), ([(3, 32)], 0, 288), ([(4, 33)], 0, 288)] : VSP), wkT Γ M (α 0) q.1) ∧ Q950 g (vsv M (α 0) ([], 2, 3)) (vsv M (α 0) ([(3, 32)], 0, 288)) (vsv M (α 0) ([(4, 33)], 0, 288)) (ρ 2 + 0) := hP _ (List.mem_of_getElem? (i := 0) rfl)
  have h1 : 0 ≤ (2 : Int) ∧ M.2.2.2.2 (α 0) (2 : Int).toNat = ρ 1 + 0 := hP _ (List.mem_of_getElem? (i := 1) rfl)
  try simp only [Int.add_zero] at h0 h1
  have key : (1 ≤ ρ 1 ∧ ρ 1 ≤ 0) ∧ True := by
    try simp only [Int.add_zero]
    obtain ⟨-, -, p0⟩ := h0
    dsimp only [Q950] at p0
    have e1 : M.2.2.2.2 (α 0) 2 = ρ 1 := h1.2
    have c2 : (vsv M (α 0) ([], 2, 3)) 2 = ρ 1 := (vs0 (by decide) (by decide)).trans e1
    refine ⟨?_, trivial⟩
    · rw [c2] at p0
      have := p0.1
      omega
  exact ⟨qB (key.1) (nB), nB⟩
def t_nin_0 : KT := ((0, 0, 0, 0), [(2, 0, 31, 0), (1, 1, 0, 0), (1, 2, 0, 0)], [(0, 0), (0, 288), (-2147483648, 2147483647)], [(950, [(2, 0, 31, 0), (1, 2, 0, 0)]), (10, [(2, 0, 31, 0), (0, 0, 0, 2), (1, 1, 0, 0)])], (0, 0, 0), [], [], ([], [(952, [(2, 0, 31, 0), (1, 1, 0, 0), (1, 2, 0, 0)])]), ([], []))
set_option maxRecDepth 100000 in
theorem l_nin_0 (g : GG) : LOK Yt (PSt g) t_nin_0 := by
  intro ρ α Γ M as hT hB hA hP
  have g0 : Γ (α 0) = 31 := tyAt hA (i := 0) rfl
  have b1 : 0 ≤ ρ 1 ∧ ρ 1 ≤ 288 := hB 1
  have b2 : -2147483648 ≤ ρ 2 ∧ ρ 2 ≤ 2147483647 := hB 2
  have h0 : Γ (α 0) = 31 ∧ (∀ q ∈ ([([], 2, 3), ([(3, 32)], 0, 288), ([(4, 33)], 0, 288)] : VSP), wkT Γ M (α 0) q.1) ∧ Q950 g (vsv M (α 0) ([], 2, 3)) (vsv M (α 0) ([(3, 32)], 0, 288)) (vsv M (α 0) ([(4, 33)], 0, 288)) (ρ 2 + 0) := hP _ (List.mem_of_getElem? (i := 0) rfl)
  have h1 : 0 ≤ (2 : Int) ∧ M.2.2.2.2 (α 0) (2 : Int).toNat = ρ 1 + 0 := hP _ (List.mem_of_getElem? (i := 1) rfl)
  try simp only [Int.add_zero] at h0 h1
  have key : (Γ (α 0) = 31 ∧ (∀ q ∈ ([([], 2, 3), ([(3, 32)], 0, 288), ([(4, 33)], 0, 288)] : VSP), wkT Γ M (α 0) q.1) ∧ Q952 g (vsv M (α 0) ([], 2, 3)) (vsv M (α 0) ([(3, 32)], 0, 288)) (vsv M (α 0) ([(4, 33)], 0, 288)) (ρ 1 + 0) (ρ 2 + 0)) ∧ True := by
    try simp only [Int.add_zero]
    obtain ⟨-, -, p0⟩ := h0
    dsimp only [Q950] at p0
    have e1 : M.2.2.2.2 (α 0) 2 = ρ 1 := h1.2
    have c2 : (vsv M (α 0) ([], 2, 3)) 2 = ρ 1 := (vs0 (by decide) (by decide)).trans e1
    refine ⟨⟨g0, pic1 hT g0 (by decide) (by decide), ?_⟩, trivial⟩
    · dsimp only [Q952]
      rw [← c2]
      exact seN_of p0
  exact ⟨nB, qB (key.1) (nB)⟩
def t_nin_1 : KT := ((0, 0, 0, 0), [(2, 0, 31, 0), (2, 1, 32, 0), (1, 2, 0, 0), (1, 3, 0, 0), (1, 4, 0, 0)], [(0, 0), (0, 0), (1, 287), (-2147483648, 2147483647), (-2147483648, 2147483647)], [(952, [(2, 0, 31, 0), (1, 2, 0, 0), (1, 3, 0, 0)]), (11, [(2, 0, 31, 0), (0, 0, 0, 3), (2, 1, 32, 0)]), (10, [(2, 1, 32, 0), (1, 2, 0, -1), (1, 4, 0, 0)])], (0, 0, 0), [], [], ([], [(636, [(2, 1, 32, 0), (1, 2, 0, 0), (2, 0, 31, 0), (1, 3, 0, 0), (1, 4, 0, 0)])]), ([], []))
set_option maxRecDepth 100000 in
theorem l_nin_1 (g : GG) : LOK Yt (PSt g) t_nin_1 := by
  intro ρ α Γ M as hT hB hA hP
  have g0 : Γ (α 0) = 31 := tyAt hA (i := 0) rfl
  have g1 : Γ (α 1) = 32 := tyAt hA (i := 1) rfl
  have b2 : 1 ≤ ρ 2 ∧ ρ 2 ≤ 287 := hB 2
  have b3 : -2147483648 ≤ ρ 3 ∧ ρ 3 ≤ 2147483647 := hB 3
  have b4 : -2147483648 ≤ ρ 4 ∧ ρ 4 ≤ 2147483647 := hB 4
  have h0 : Γ (α 0) = 31 ∧ (∀ q ∈ ([([], 2, 3), ([(3, 32)], 0, 288), ([(4, 33)], 0, 288)] : VSP), wkT Γ M (α 0) q.1) ∧ Q952 g (vsv M (α 0) ([], 2, 3)) (vsv M (α 0) ([(3, 32)], 0, 288)) (vsv M (α 0) ([(4, 33)], 0, 288)) (ρ 2 + 0) (ρ 3 + 0) := hP _ (List.mem_of_getElem? (i := 0) rfl)
  have h1 : 0 ≤ (3 : Int) ∧ M.2.2.2.1 (α 0) (3 : Int).toNat = some (α 1) := hP _ (List.mem_of_getElem? (i := 1) rfl)
  have h2 : 0 ≤ (ρ 2 + (-1) : Int) ∧ M.2.2.2.2 (α 1) (ρ 2 + (-1) : Int).toNat = ρ 4 + 0 := hP _ (List.mem_of_getElem? (i := 2) rfl)
  try simp only [Int.add_zero] at h0 h1 h2
  have key : (Γ (α 1) = 32 ∧ wlk M (α 0) [(3, 32)] = (α 1) ∧ wkT Γ M (α 0) [(3, 32)] ∧ Γ (α 0) = 31 ∧ (∀ q ∈ ([([], 2, 3), ([(4, 33)], 0, 288)] : VSP), wkT Γ M (α 0) q.1) ∧ Q636 g (hcl [vi (ρ 2 + 0)] (clp [(0, 288)] (M.2.2.2.2 (α 1)))) (ρ 2 + 0) (vsv M (α 0) ([], 2, 3)) (vsv M (α 0) ([(4, 33)], 0, 288)) (ρ 3 + 0) (ρ 4 + 0)) ∧ True := by
    try simp only [Int.add_zero]
    obtain ⟨-, -, p0⟩ := h0
    dsimp only [Q952] at p0
    have e1 : M.2.2.2.1 (α 0) 3 = some (α 1) := h1.2
    have e2 : M.2.2.2.2 (α 1) (ρ 2 + (-1)).toNat = ρ 4 := h2.2
    refine ⟨⟨g1, (fl_eq e1), wk1 e1 g1, g0, pic1 hT g0 (by decide) (by decide), ?_⟩, trivial⟩
    · dsimp only [Q636]
      refine ⟨b2.1, seN_c (fun s hs => by rw [hcl1 hs, vsv1 e1]) (fun _ _ => rfl) p0, ?_⟩
      rw [hcl1 (by omega), cAll (by omega), show ρ 2 - 1 = ρ 2 + -1 by omega]
      exact e2
  exact ⟨nB, qB (key.1) (nB)⟩
def t_nin_2 : KT := ((0, 0, 0, 0), [(2, 0, 31, 0), (2, 1, 32, 0), (1, 2, 0, 0), (1, 3, 0, 0), (1, 4, 0, 0)], [(0, 0), (0, 0), (1, 287), (-2147483648, 2147483647), (-2147483648, 2147483647)], [(636, [(2, 1, 32, 0), (1, 2, 0, 0), (2, 0, 31, 0), (1, 3, 0, 0), (1, 4, 0, 0)]), (11, [(2, 0, 31, 0), (0, 0, 0, 3), (2, 1, 32, 0)]), (10, [(2, 1, 32, 0), (1, 2, 0, 0), (1, 4, 0, 0)])], (0, 0, 0), [], [], ([], [(954, [(2, 0, 31, 0), (1, 2, 0, 0), (1, 3, 0, 0)])]), ([], []))
set_option maxRecDepth 100000 in
theorem l_nin_2 (g : GG) : LOK Yt (PSt g) t_nin_2 := by
  intro ρ α Γ M as hT hB hA hP
  have g0 : Γ (α 0) = 31 := tyAt hA (i := 0) rfl
  have g1 : Γ (α 1) = 32 := tyAt hA (i := 1) rfl
  have b2 : 1 ≤ ρ 2 ∧ ρ 2 ≤ 287 := hB 2
  have b3 : -2147483648 ≤ ρ 3 ∧ ρ 3 ≤ 2147483647 := hB 3
  have b4 : -2147483648 ≤ ρ 4 ∧ ρ 4 ≤ 2147483647 := hB 4
  have h0 : Γ (α 1) = 32 ∧ wlk M (α 0) [(3, 32)] = (α 1) ∧ wkT Γ M (α 0) [(3, 32)] ∧ Γ (α 0) = 31 ∧ (∀ q ∈ ([([], 2, 3), ([(4, 33)], 0, 288)] : VSP), wkT Γ M (α 0) q.1) ∧ Q636 g (hcl [vi (ρ 2 + 0)] (clp [(0, 288)] (M.2.2.2.2 (α 1)))) (ρ 2 + 0) (vsv M (α 0) ([], 2, 3)) (vsv M (α 0) ([(4, 33)], 0, 288)) (ρ 3 + 0) (ρ 4 + 0) := hP _ (List.mem_of_getElem? (i := 0) rfl)
  have h1 : 0 ≤ (3 : Int) ∧ M.2.2.2.1 (α 0) (3 : Int).toNat = some (α 1) := hP _ (List.mem_of_getElem? (i := 1) rfl)
  have h2 : 0 ≤ (ρ 2 + 0 : Int) ∧ M.2.2.2.2 (α 1) (ρ 2 + 0 : Int).toNat = ρ 4 + 0 := hP _ (List.mem_of_getElem? (i := 2) rfl)
  try simp only [Int.add_zero] at h0 h1 h2
  have key : (Γ (α 0) = 31 ∧ (∀ q ∈ ([([], 2, 3), ([(3, 32)], 0, 288), ([(4, 33)], 0, 288)] : VSP), wkT Γ M (α 0) q.1) ∧ Q954 g (vsv M (α 0) ([], 2, 3)) (vsv M (α 0) ([(3, 32)], 0, 288)) (vsv M (α 0) ([(4, 33)], 0, 288)) (ρ 2 + 0) (ρ 3 + 0)) ∧ True := by
    try simp only [Int.add_zero]
    obtain ⟨-, -, -, -, -, p0⟩ := h0
    dsimp only [Q636] at p0
    have e1 : M.2.2.2.1 (α 0) 3 = some (α 1) := h1.2
    have e2 : M.2.2.2.2 (α 1) (ρ 2).toNat = ρ 4 := h2.2
    refine ⟨⟨g0, pic1 hT g0 (by decide) (by decide), ?_⟩, trivial⟩
    · dsimp only [Q954]
      obtain ⟨a, f, h⟩ := p0
      refine ⟨a, seN_c (fun s hs => by rw [hcl1 hs, vsv1 e1]) (fun _ _ => rfl) f, ?_⟩
      rw [hcl1 (by omega), ← vsv1 (t := 32) e1] at h
      rw [h, vsv1 e1, cAll (by omega)]
      exact e2
  exact ⟨nB, qB (key.1) (nB)⟩
def t_nin_3 : KT := ((0, 0, 0, 0), [(2, 0, 31, 0), (2, 1, 33, 0), (1, 2, 0, 0), (1, 3, 0, 0), (1, 4, 0, 0)], [(0, 0), (0, 0), (1, 287), (-2147483648, 2147483647), (-2147483648, 2147483647)], [(954, [(2, 0, 31, 0), (1, 2, 0, 0), (1, 3, 0, 0)]), (11, [(2, 0, 31, 0), (0, 0, 0, 4), (2, 1, 33, 0)]), (10, [(2, 1, 33, 0), (1, 2, 0, -1), (1, 4, 0, 0)])], (0, 0, 0), [], [], ([], [(637, [(2, 1, 33, 0), (1, 2, 0, 0), (2, 0, 31, 0), (1, 3, 0, 0), (1, 4, 0, 0)])]), ([], []))
set_option maxRecDepth 100000 in
theorem l_nin_3 (g : GG) : LOK Yt (PSt g) t_nin_3 := by
  intro ρ α Γ M as hT hB hA hP
  have g0 : Γ (α 0) = 31 := tyAt hA (i := 0) rfl
  have g1 : Γ (α 1) = 33 := tyAt hA (i := 1) rfl
  have b2 : 1 ≤ ρ 2 ∧ ρ 2 ≤ 287 := hB 2
  have b3 : -2147483648 ≤ ρ 3 ∧ ρ 3 ≤ 2147483647 := hB 3
  have b4 : -2147483648 ≤ ρ 4 ∧ ρ 4 ≤ 2147483647 := hB 4
  have h0 : Γ (α 0) = 31 ∧ (∀ q ∈ ([([], 2, 3), ([(3, 32)], 0, 288), ([(4, 33)], 0, 288)] : VSP), wkT Γ M (α 0) q.1) ∧ Q954 g (vsv M (α 0) ([], 2, 3)) (vsv M (α 0) ([(3, 32)], 0, 288)) (vsv M (α 0) ([(4, 33)], 0, 288)) (ρ 2 + 0) (ρ 3 + 0) := hP _ (List.mem_of_getElem? (i := 0) rfl)
  have h1 : 0 ≤ (4 : Int) ∧ M.2.2.2.1 (α 0) (4 : Int).toNat = some (α 1) := hP _ (List.mem_of_getElem? (i := 1) rfl)
  have h2 : 0 ≤ (ρ 2 + (-1) : Int) ∧ M.2.2.2.2 (α 1) (ρ 2 + (-1) : Int).toNat = ρ 4 + 0 := hP _ (List.mem_of_getElem? (i := 2) rfl)
  try simp only [Int.add_zero] at h0 h1 h2
  have key : (Γ (α 1) = 33 ∧ wlk M (α 0) [(4, 33)] = (α 1) ∧ wkT Γ M (α 0) [(4, 33)] ∧ Γ (α 0) = 31 ∧ (∀ q ∈ ([([], 2, 3), ([(3, 32)], 0, 288)] : VSP), wkT Γ M (α 0) q.1) ∧ Q637 g (hcl [vi (ρ 2 + 0)] (clp [(0, 288)] (M.2.2.2.2 (α 1)))) (ρ 2 + 0) (vsv M (α 0) ([], 2, 3)) (vsv M (α 0) ([(3, 32)], 0, 288)) (ρ 3 + 0) (ρ 4 + 0)) ∧ True := by
    try simp only [Int.add_zero]
    obtain ⟨-, -, p0⟩ := h0
    dsimp only [Q954] at p0
    have e1 : M.2.2.2.1 (α 0) 4 = some (α 1) := h1.2
    have e2 : M.2.2.2.2 (α 1) (ρ 2 + (-1)).toNat = ρ 4 := h2.2
    refine ⟨⟨g1, (fl_eq e1), wk1 e1 g1, g0, pic1 hT g0 (by decide) (by decide), ?_⟩, trivial⟩
    · dsimp only [Q637]
      obtain ⟨a, f, h⟩ := p0
      refine ⟨a, seN_c (fun _ _ => rfl) (fun s hs => by rw [hcl1 hs, vsv1 e1]) f, h, ?_⟩
      rw [hcl1 (by omega), cAll (by omega), show ρ 2 - 1 = ρ 2 + -1 by omega]
      exact e2
  exact ⟨nB, qB (key.1) (nB)⟩
def t_nin_4 : KT := ((0, 0, 0, 0), [(2, 0, 31, 0), (2, 1, 33, 0), (1, 2, 0, 0), (1, 3, 0, 0), (1, 4, 0, 0)], [(0, 0), (0, 0), (1, 287), (-2147483648, 2147483647), (-2147483648, 2147483647)], [(637, [(2, 1, 33, 0), (1, 2, 0, 0), (2, 0, 31, 0), (1, 3, 0, 0), (1, 4, 0, 0)]), (11, [(2, 0, 31, 0), (0, 0, 0, 4), (2, 1, 33, 0)]), (10, [(2, 1, 33, 0), (1, 2, 0, 0), (1, 4, 0, 0)])], (0, 0, 0), [], [], ([], [(952, [(2, 0, 31, 0), (1, 2, 0, -1), (1, 3, 0, 0)])]), ([], []))
set_option maxRecDepth 100000 in
theorem l_nin_4 (g : GG) : LOK Yt (PSt g) t_nin_4 := by
  intro ρ α Γ M as hT hB hA hP
  have g0 : Γ (α 0) = 31 := tyAt hA (i := 0) rfl
  have g1 : Γ (α 1) = 33 := tyAt hA (i := 1) rfl
  have b2 : 1 ≤ ρ 2 ∧ ρ 2 ≤ 287 := hB 2
  have b3 : -2147483648 ≤ ρ 3 ∧ ρ 3 ≤ 2147483647 := hB 3
  have b4 : -2147483648 ≤ ρ 4 ∧ ρ 4 ≤ 2147483647 := hB 4
  have h0 : Γ (α 1) = 33 ∧ wlk M (α 0) [(4, 33)] = (α 1) ∧ wkT Γ M (α 0) [(4, 33)] ∧ Γ (α 0) = 31 ∧ (∀ q ∈ ([([], 2, 3), ([(3, 32)], 0, 288)] : VSP), wkT Γ M (α 0) q.1) ∧ Q637 g (hcl [vi (ρ 2 + 0)] (clp [(0, 288)] (M.2.2.2.2 (α 1)))) (ρ 2 + 0) (vsv M (α 0) ([], 2, 3)) (vsv M (α 0) ([(3, 32)], 0, 288)) (ρ 3 + 0) (ρ 4 + 0) := hP _ (List.mem_of_getElem? (i := 0) rfl)
  have h1 : 0 ≤ (4 : Int) ∧ M.2.2.2.1 (α 0) (4 : Int).toNat = some (α 1) := hP _ (List.mem_of_getElem? (i := 1) rfl)
  have h2 : 0 ≤ (ρ 2 + 0 : Int) ∧ M.2.2.2.2 (α 1) (ρ 2 + 0 : Int).toNat = ρ 4 + 0 := hP _ (List.mem_of_getElem? (i := 2) rfl)
  try simp only [Int.add_zero] at h0 h1 h2
  have key : (Γ (α 0) = 31 ∧ (∀ q ∈ ([([], 2, 3), ([(3, 32)], 0, 288), ([(4, 33)], 0, 288)] : VSP), wkT Γ M (α 0) q.1) ∧ Q952 g (vsv M (α 0) ([], 2, 3)) (vsv M (α 0) ([(3, 32)], 0, 288)) (vsv M (α 0) ([(4, 33)], 0, 288)) (ρ 2 + (-1)) (ρ 3 + 0)) ∧ True := by
    try simp only [Int.add_zero]
    obtain ⟨-, -, -, -, -, p0⟩ := h0
    dsimp only [Q637] at p0
    have e1 : M.2.2.2.1 (α 0) 4 = some (α 1) := h1.2
    have e2 : M.2.2.2.2 (α 1) (ρ 2).toNat = ρ 4 := h2.2
    refine ⟨⟨g0, pic1 hT g0 (by decide) (by decide), ?_⟩, trivial⟩
    · dsimp only [Q952]
      obtain ⟨a, f, h, h2⟩ := p0
      rw [hcl1 (by omega), ← vsv1 (t := 33) e1] at h2
      have f2 := seN_c (sp2 := (vsv M (α 0) ([(3, 32)], 0, 288))) (st2 := (vsv M (α 0) ([(4, 33)], 0, 288))) (fun _ _ => rfl) (fun s hs => by rw [hcl1 hs, vsv1 e1]) f
      exact seN_dn f2 a h (by rw [h2, vsv1 e1, cAll (by omega)]; exact e2)
  exact ⟨nB, qB (key.1) (nB)⟩
def t_nin_5 : KT := ((0, 0, 0, 0), [(2, 0, 31, 0), (2, 1, 32, 0), (1, 2, 0, 0), (1, 3, 0, 0)], [(0, 0), (0, 0), (0, 287), (-2147483648, 2147483647)], [(952, [(2, 0, 31, 0), (1, 2, 0, 0), (1, 3, 0, 0)]), (11, [(2, 0, 31, 0), (0, 0, 0, 3), (2, 1, 32, 0)])], (0, 0, 0), [], [], ([], [(638, [(2, 1, 32, 0), (1, 2, 0, 0), (2, 0, 31, 0), (1, 3, 0, 0)])]), ([], []))
set_option maxRecDepth 100000 in
theorem l_nin_5 (g : GG) : LOK Yt (PSt g) t_nin_5 := by
  intro ρ α Γ M as hT hB hA hP
  have g0 : Γ (α 0) = 31 := tyAt hA (i := 0) rfl
  have g1 : Γ (α 1) = 32 := tyAt hA (i := 1) rfl
  have b2 : 0 ≤ ρ 2 ∧ ρ 2 ≤ 287 := hB 2
  have b3 : -2147483648 ≤ ρ 3 ∧ ρ 3 ≤ 2147483647 := hB 3
  have h0 : Γ (α 0) = 31 ∧ (∀ q ∈ ([([], 2, 3), ([(3, 32)], 0, 288), ([(4, 33)], 0, 288)] : VSP), wkT Γ M (α 0) q.1) ∧ Q952 g (vsv M (α 0) ([], 2, 3)) (vsv M (α 0) ([(3, 32)], 0, 288)) (vsv M (α 0) ([(4, 33)], 0, 288)) (ρ 2 + 0) (ρ 3 + 0) := hP _ (List.mem_of_getElem? (i := 0) rfl)
  have h1 : 0 ≤ (3 : Int) ∧ M.2.2.2.1 (α 0) (3 : Int).toNat = some (α 1) := hP _ (List.mem_of_getElem? (i := 1) rfl)
  try simp only [Int.add_zero] at h0 h1
  have key : (Γ (α 1) = 32 ∧ wlk M (α 0) [(3, 32)] = (α 1) ∧ wkT Γ M (α 0) [(3, 32)] ∧ Γ (α 0) = 31 ∧ (∀ q ∈ ([([], 2, 3), ([(4, 33)], 0, 288)] : VSP), wkT Γ M (α 0) q.1) ∧ Q638 g (hcl [vi (ρ 2 + 0)] (clp [(0, 288)] (M.2.2.2.2 (α 1)))) (ρ 2 + 0) (vsv M (α 0) ([], 2, 3)) (vsv M (α 0) ([(4, 33)], 0, 288)) (ρ 3 + 0)) ∧ True := by
    try simp only [Int.add_zero]
    obtain ⟨-, -, p0⟩ := h0
    dsimp only [Q952] at p0
    have e1 : M.2.2.2.1 (α 0) 3 = some (α 1) := h1.2
    refine ⟨⟨g1, (fl_eq e1), wk1 e1 g1, g0, pic1 hT g0 (by decide) (by decide), ?_⟩, trivial⟩
    · dsimp only [Q638]
      exact seN_c (fun s hs => by rw [hcl1 hs, vsv1 e1]) (fun _ _ => rfl) p0
  exact ⟨nB, qB (key.1) (nB)⟩
def t_nin_6 : KT := ((0, 0, 0, 0), [(2, 0, 31, 0), (2, 1, 32, 0), (1, 2, 0, 0), (1, 3, 0, 0), (1, 4, 0, 0)], [(0, 0), (0, 0), (0, 287), (-2147483648, 2147483647), (-2147483648, 2147483647)], [(638, [(2, 1, 32, 0), (1, 2, 0, 0), (2, 0, 31, 0), (1, 3, 0, 0)]), (11, [(2, 0, 31, 0), (0, 0, 0, 3), (2, 1, 32, 0)]), (10, [(2, 1, 32, 0), (1, 2, 0, 0), (1, 4, 0, 0)])], (0, 0, 0), [], [], ([], [(955, [(2, 0, 31, 0), (1, 2, 0, 0), (1, 3, 0, 0), (1, 4, 0, 0)])]), ([], []))
set_option maxRecDepth 100000 in
theorem l_nin_6 (g : GG) : LOK Yt (PSt g) t_nin_6 := by
  intro ρ α Γ M as hT hB hA hP
  have g0 : Γ (α 0) = 31 := tyAt hA (i := 0) rfl
  have g1 : Γ (α 1) = 32 := tyAt hA (i := 1) rfl
  have b2 : 0 ≤ ρ 2 ∧ ρ 2 ≤ 287 := hB 2
  have b3 : -2147483648 ≤ ρ 3 ∧ ρ 3 ≤ 2147483647 := hB 3
  have b4 : -2147483648 ≤ ρ 4 ∧ ρ 4 ≤ 2147483647 := hB 4
  have h0 : Γ (α 1) = 32 ∧ wlk M (α 0) [(3, 32)] = (α 1) ∧ wkT Γ M (α 0) [(3, 32)] ∧ Γ (α 0) = 31 ∧ (∀ q ∈ ([([], 2, 3), ([(4, 33)], 0, 288)] : VSP), wkT Γ M (α 0) q.1) ∧ Q638 g (hcl [vi (ρ 2 + 0)] (clp [(0, 288)] (M.2.2.2.2 (α 1)))) (ρ 2 + 0) (vsv M (α 0) ([], 2, 3)) (vsv M (α 0) ([(4, 33)], 0, 288)) (ρ 3 + 0) := hP _ (List.mem_of_getElem? (i := 0) rfl)
  have h1 : 0 ≤ (3 : Int) ∧ M.2.2.2.1 (α 0) (3 : Int).toNat = some (α 1) := hP _ (List.mem_of_getElem? (i := 1) rfl)
  have h2 : 0 ≤ (ρ 2 + 0 : Int) ∧ M.2.2.2.2 (α 1) (ρ 2 + 0 : Int).toNat = ρ 4 + 0 := hP _ (List.mem_of_getElem? (i := 2) rfl)
  try simp only [Int.add_zero] at h0 h1 h2
  have key : (Γ (α 0) = 31 ∧ (∀ q ∈ ([([], 2, 3), ([(3, 32)], 0, 288), ([(4, 33)], 0, 288)] : VSP), wkT Γ M (α 0) q.1) ∧ Q955 g (vsv M (α 0) ([], 2, 3)) (vsv M (α 0) ([(3, 32)], 0, 288)) (vsv M (α 0) ([(4, 33)], 0, 288)) (ρ 2 + 0) (ρ 3 + 0) (ρ 4 + 0)) ∧ True := by
    try simp only [Int.add_zero]
    obtain ⟨-, -, -, -, -, p0⟩ := h0
    dsimp only [Q638] at p0
    have e1 : M.2.2.2.1 (α 0) 3 = some (α 1) := h1.2
    have e2 : M.2.2.2.2 (α 1) (ρ 2).toNat = ρ 4 := h2.2
    refine ⟨⟨g0, pic1 hT g0 (by decide) (by decide), ?_⟩, trivial⟩
    · dsimp only [Q955]
      exact ⟨seN_c (fun s hs => by rw [hcl1 hs, vsv1 e1]) (fun _ _ => rfl) p0, (vs1 e1 (Nat.zero_le _) (by omega)).trans e2⟩
  exact ⟨nB, qB (key.1) (nB)⟩
def t_nin_7 : KT := ((0, 0, 0, 0), [(2, 0, 31, 0), (2, 1, 33, 0), (1, 2, 0, 0), (1, 3, 0, 0), (1, 4, 0, 0)], [(0, 0), (0, 0), (0, 287), (-2147483648, 2147483647), (-2147483648, 2147483647)], [(955, [(2, 0, 31, 0), (1, 2, 0, 0), (1, 3, 0, 0), (1, 4, 0, 0)]), (11, [(2, 0, 31, 0), (0, 0, 0, 4), (2, 1, 33, 0)])], (0, 0, 0), [], [], ([], [(639, [(2, 1, 33, 0), (1, 2, 0, 0), (2, 0, 31, 0), (1, 3, 0, 0), (1, 4, 0, 0)])]), ([], []))
set_option maxRecDepth 100000 in
theorem l_nin_7 (g : GG) : LOK Yt (PSt g) t_nin_7 := by
  intro ρ α Γ M as hT hB hA hP
  have g0 : Γ (α 0) = 31 := tyAt hA (i := 0) rfl
  have g1 : Γ (α 1) = 33 := tyAt hA (i := 1) rfl
  have b2 : 0 ≤ ρ 2 ∧ ρ 2 ≤ 287 := hB 2
  have b3 : -2147483648 ≤ ρ 3 ∧ ρ 3 ≤ 2147483647 := hB 3
  have b4 : -2147483648 ≤ ρ 4 ∧ ρ 4 ≤ 2147483647 := hB 4
  have h0 : Γ (α 0) = 31 ∧ (∀ q ∈ ([([], 2, 3), ([(3, 32)], 0, 288), ([(4, 33)], 0, 288)] : VSP), wkT Γ M (α 0) q.1) ∧ Q955 g (vsv M (α 0) ([], 2, 3)) (vsv M (α 0) ([(3, 32)], 0, 288)) (vsv M (α 0) ([(4, 33)], 0, 288)) (ρ 2 + 0) (ρ 3 + 0) (ρ 4 + 0) := hP _ (List.mem_of_getElem? (i := 0) rfl)
  have h1 : 0 ≤ (4 : Int) ∧ M.2.2.2.1 (α 0) (4 : Int).toNat = some (α 1) := hP _ (List.mem_of_getElem? (i := 1) rfl)
  try simp only [Int.add_zero] at h0 h1
  have key : (Γ (α 1) = 33 ∧ wlk M (α 0) [(4, 33)] = (α 1) ∧ wkT Γ M (α 0) [(4, 33)] ∧ Γ (α 0) = 31 ∧ (∀ q ∈ ([([], 2, 3), ([(3, 32)], 0, 288)] : VSP), wkT Γ M (α 0) q.1) ∧ Q639 g (hcl [vi (ρ 2 + 0)] (clp [(0, 288)] (M.2.2.2.2 (α 1)))) (ρ 2 + 0) (vsv M (α 0) ([], 2, 3)) (vsv M (α 0) ([(3, 32)], 0, 288)) (ρ 3 + 0) (ρ 4 + 0)) ∧ True := by
    try simp only [Int.add_zero]
    obtain ⟨-, -, p0⟩ := h0
    dsimp only [Q955] at p0
    have e1 : M.2.2.2.1 (α 0) 4 = some (α 1) := h1.2
    refine ⟨⟨g1, (fl_eq e1), wk1 e1 g1, g0, pic1 hT g0 (by decide) (by decide), ?_⟩, trivial⟩
    · dsimp only [Q639]
      exact ⟨seN_c (fun _ _ => rfl) (fun s hs => by rw [hcl1 hs, vsv1 e1]) p0.1, p0.2⟩
  exact ⟨nB, qB (key.1) (nB)⟩
def t_nin_8 : KT := ((0, 0, 0, 0), [(2, 0, 31, 0), (2, 1, 33, 0), (1, 2, 0, 0), (1, 3, 0, 0), (1, 4, 0, 0), (1, 5, 0, 0), (1, 6, 0, 0)], [(0, 0), (0, 0), (0, 287), (-2147483648, 2147483647), (-2147483648, 2147483647), (-2147483648, 2147483647), (0, 288)], [(639, [(2, 1, 33, 0), (1, 2, 0, 0), (2, 0, 31, 0), (1, 3, 0, 0), (1, 4, 0, 0)]), (11, [(2, 0, 31, 0), (0, 0, 0, 4), (2, 1, 33, 0)]), (10, [(2, 1, 33, 0), (1, 2, 0, 0), (1, 5, 0, 0)]), (728, [(1, 3, 0, 0), (1, 4, 0, 0), (1, 5, 0, 0)]), (10, [(2, 0, 31, 0), (0, 0, 0, 2), (1, 6, 0, 0)])], (0, 0, 0), [], [], ([], [(957, [(2, 0, 31, 0), (1, 6, 0, 0), (1, 3, 0, 0)])]), ([], []))
set_option maxRecDepth 100000 in
theorem l_nin_8 (g : GG) : LOK Yt (PSt g) t_nin_8 := by
  intro ρ α Γ M as hT hB hA hP
  have g0 : Γ (α 0) = 31 := tyAt hA (i := 0) rfl
  have g1 : Γ (α 1) = 33 := tyAt hA (i := 1) rfl
  have b2 : 0 ≤ ρ 2 ∧ ρ 2 ≤ 287 := hB 2
  have b3 : -2147483648 ≤ ρ 3 ∧ ρ 3 ≤ 2147483647 := hB 3
  have b4 : -2147483648 ≤ ρ 4 ∧ ρ 4 ≤ 2147483647 := hB 4
  have b5 : -2147483648 ≤ ρ 5 ∧ ρ 5 ≤ 2147483647 := hB 5
  have b6 : 0 ≤ ρ 6 ∧ ρ 6 ≤ 288 := hB 6
  have h0 : Γ (α 1) = 33 ∧ wlk M (α 0) [(4, 33)] = (α 1) ∧ wkT Γ M (α 0) [(4, 33)] ∧ Γ (α 0) = 31 ∧ (∀ q ∈ ([([], 2, 3), ([(3, 32)], 0, 288)] : VSP), wkT Γ M (α 0) q.1) ∧ Q639 g (hcl [vi (ρ 2 + 0)] (clp [(0, 288)] (M.2.2.2.2 (α 1)))) (ρ 2 + 0) (vsv M (α 0) ([], 2, 3)) (vsv M (α 0) ([(3, 32)], 0, 288)) (ρ 3 + 0) (ρ 4 + 0) := hP _ (List.mem_of_getElem? (i := 0) rfl)
  have h1 : 0 ≤ (4 : Int) ∧ M.2.2.2.1 (α 0) (4 : Int).toNat = some (α 1) := hP _ (List.mem_of_getElem? (i := 1) rfl)
  have h2 : 0 ≤ (ρ 2 + 0 : Int) ∧ M.2.2.2.2 (α 1) (ρ 2 + 0 : Int).toNat = ρ 5 + 0 := hP _ (List.mem_of_getElem? (i := 2) rfl)
  have h3 : (0 ≤ (ρ 3 + 0 : Int) ∧ (ρ 3 + 0 : Int) ≤ 199) ∧ enQ (zR g) (zC g) (zS g) (zB g) (zI g) (ρ 4 + 0 : Int) (ρ 5 + 0 : Int) ∧ prE (zI g ((ρ 3 + 0 : Int) / 2).toNat) (zI g (tipI (zC g) (ρ 3 + 0 : Int)).toNat) = (ρ 4 + 0 : Int) := hP _ (List.mem_of_getElem? (i := 3) rfl)
  have h4 : 0 ≤ (2 : Int) ∧ M.2.2.2.2 (α 0) (2 : Int).toNat = ρ 6 + 0 := hP _ (List.mem_of_getElem? (i := 4) rfl)
  try simp only [Int.add_zero] at h0 h1 h2 h3 h4
  have key : (Γ (α 0) = 31 ∧ (∀ q ∈ ([([(3, 32)], 0, 288), ([(4, 33)], 0, 288)] : VSP), wkT Γ M (α 0) q.1) ∧ Q957 g (vsv M (α 0) ([(3, 32)], 0, 288)) (vsv M (α 0) ([(4, 33)], 0, 288)) (ρ 6 + 0) (ρ 3 + 0)) ∧ True := by
    try simp only [Int.add_zero]
    obtain ⟨-, -, -, -, -, p0⟩ := h0
    dsimp only [Q639] at p0
    have e1 : M.2.2.2.1 (α 0) 4 = some (α 1) := h1.2
    have e2 : M.2.2.2.2 (α 1) (ρ 2).toNat = ρ 5 := h2.2
    have e4 : M.2.2.2.2 (α 0) 2 = ρ 6 := h4.2
    have c2 : (vsv M (α 0) ([], 2, 3)) 2 = ρ 6 := (vs0 (by decide) (by decide)).trans e4
    refine ⟨⟨g0, pic1 hT g0 (by decide) (by decide), ?_⟩, trivial⟩
    · dsimp only [Q957]
      obtain ⟨f, h⟩ := p0
      rw [c2] at f
      exact seP_in (seN_c (fun _ _ => rfl) (fun s hs => by rw [hcl1 hs, vsv1 e1]) f) h3.1.2 h ((vs1 e1 (Nat.zero_le _) (by omega)).trans e2) h3.2.1 h3.2.2
  exact ⟨nB, qB (key.1) (nB)⟩
def t_nin_9 : KT := ((0, 0, 0, 0), [(2, 0, 31, 0), (1, 1, 0, 0), (1, 2, 0, 0)], [(0, 0), (0, 288), (-2147483648, 2147483647)], [(957, [(2, 0, 31, 0), (1, 1, 0, 0), (1, 2, 0, 0)]), (10, [(2, 0, 31, 0), (0, 0, 0, 2), (1, 1, 0, 1)])], (0, 0, 0), [], [], ([], [(950, [(2, 0, 31, 0), (1, 2, 0, 1)])]), ([], []))
set_option maxRecDepth 100000 in
theorem l_nin_9 (g : GG) : LOK Yt (PSt g) t_nin_9 := by
  intro ρ α Γ M as hT hB hA hP
  have g0 : Γ (α 0) = 31 := tyAt hA (i := 0) rfl
  have b1 : 0 ≤ ρ 1 ∧ ρ 1 ≤ 288 := hB 1
  have b2 : -2147483648 ≤ ρ 2 ∧ ρ 2 ≤ 2147483647 := hB 2
  have h0 : Γ (α 0) = 31 ∧ (∀ q ∈ ([([(3, 32)], 0, 288), ([(4, 33)], 0, 288)] : VSP), wkT Γ M (α 0) q.1) ∧ Q957 g (vsv M (α 0) ([(3, 32)], 0, 288)) (vsv M (α 0) ([(4, 33)], 0, 288)) (ρ 1 + 0) (ρ 2 + 0) := hP _ (List.mem_of_getElem? (i := 0) rfl)
  have h1 : 0 ≤ (2 : Int) ∧ M.2.2.2.2 (α 0) (2 : Int).toNat = ρ 1 + 1 := hP _ (List.mem_of_getElem? (i := 1) rfl)
  try simp only [Int.add_zero] at h0 h1
  have key : (Γ (α 0) = 31 ∧ (∀ q ∈ ([([], 2, 3), ([(3, 32)], 0, 288), ([(4, 33)], 0, 288)] : VSP), wkT Γ M (α 0) q.1) ∧ Q950 g (vsv M (α 0) ([], 2, 3)) (vsv M (α 0) ([(3, 32)], 0, 288)) (vsv M (α 0) ([(4, 33)], 0, 288)) (ρ 2 + 1)) ∧ True := by
    try simp only [Int.add_zero]
    obtain ⟨-, -, p0⟩ := h0
    dsimp only [Q957] at p0
    have e1 : M.2.2.2.2 (α 0) 2 = ρ 1 + 1 := h1.2
    refine ⟨⟨g0, pic1 hT g0 (by decide) (by decide), ?_⟩, trivial⟩
    · dsimp only [Q950]
      rw [(vs0 (by decide) (by decide) : (vsv M (α 0) ([], 2, 3)) 2 = _).trans e1]
      exact p0
  exact ⟨nB, qB (key.1) (nB)⟩
def t_npo_0 : KT := ((0, 0, 0, 0), [(1, 0, 0, 0), (1, 1, 0, 0), (1, 2, 0, 0), (1, 3, 0, 0)], [(0, 143), (0, 143), (-2147483648, 2147483647), (-2147483648, 2147483647)], [(25, [(1, 0, 0, 0), (0, 0, 0, 144), (1, 2, 0, 0)]), (23, [(1, 2, 0, 0), (1, 1, 0, 0), (1, 3, 0, 0)])], (0, 0, 0), [], [], ([], [(730, [(1, 0, 0, 0), (1, 1, 0, 0), (1, 3, 0, 0)])]), ([], []))
set_option maxRecDepth 100000 in
theorem l_npo_0 (g : GG) : LOK Yt (PSt g) t_npo_0 := by
  intro ρ α Γ M as hT hB hA hP
  have b0 : 0 ≤ ρ 0 ∧ ρ 0 ≤ 143 := hB 0
  have b1 : 0 ≤ ρ 1 ∧ ρ 1 ≤ 143 := hB 1
  have b2 : -2147483648 ≤ ρ 2 ∧ ρ 2 ≤ 2147483647 := hB 2
  have b3 : -2147483648 ≤ ρ 3 ∧ ρ 3 ≤ 2147483647 := hB 3
  have h0 : ρ 2 + 0 = wI ((ρ 0 + 0) * (144)) := hP _ (List.mem_of_getElem? (i := 0) rfl)
  have h1 : ρ 3 + 0 = wI ((ρ 2 + 0) + (ρ 1 + 0)) := hP _ (List.mem_of_getElem? (i := 1) rfl)
  try simp only [Int.add_zero] at h0 h1
  have key : ((ρ 3 + 0 : Int) = 144 * (ρ 0 + 0 : Int) + (ρ 1 + 0 : Int)) ∧ True := by
    try simp only [Int.add_zero]
    refine ⟨?_, trivial⟩
    · rw [wI_id (by unfold inI; omega)] at h0
      rw [wI_id (by unfold inI; omega)] at h1
      show ρ 3 = 144 * ρ 0 + ρ 1
      omega
  exact ⟨nB, qB (key.1) (nB)⟩
def t_ntu_1 : KT := ((0, 0, 0, 0), [(2, 0, 110, 0), (2, 1, 111, 0), (1, 2, 0, 0), (1, 3, 0, 0), (1, 4, 0, 0), (1, 5, 0, 0), (1, 6, 0, 0)], [(0, 0), (0, 0), (0, 143), (0, 143), (-2147483648, 2147483647), (-2147483648, 2147483647), (-9223372036854775808, 9223372036854775807)], [(11, [(2, 0, 110, 0), (0, 0, 0, 4), (2, 1, 111, 0)]), (10, [(2, 1, 111, 0), (1, 2, 0, 0), (1, 4, 0, 0)]), (10, [(2, 1, 111, 0), (1, 3, 0, 0), (1, 5, 0, 0)]), (711, [(1, 5, 0, 0), (1, 4, 0, 0), (1, 6, 0, 0)])], (0, 0, 0), [], [], ([], [(963, [(2, 0, 110, 0), (1, 2, 0, 0), (1, 3, 0, 0), (1, 6, 0, 0)])]), ([], []))
set_option maxRecDepth 100000 in
theorem l_ntu_1 (g : GG) : LOK Yt (PSt g) t_ntu_1 := by
  intro ρ α Γ M as hT hB hA hP
  have g0 : Γ (α 0) = 110 := tyAt hA (i := 0) rfl
  have g1 : Γ (α 1) = 111 := tyAt hA (i := 1) rfl
  have b2 : 0 ≤ ρ 2 ∧ ρ 2 ≤ 143 := hB 2
  have b3 : 0 ≤ ρ 3 ∧ ρ 3 ≤ 143 := hB 3
  have b4 : -2147483648 ≤ ρ 4 ∧ ρ 4 ≤ 2147483647 := hB 4
  have b5 : -2147483648 ≤ ρ 5 ∧ ρ 5 ≤ 2147483647 := hB 5
  have b6 : -9223372036854775808 ≤ ρ 6 ∧ ρ 6 ≤ 9223372036854775807 := hB 6
  have h0 : 0 ≤ (4 : Int) ∧ M.2.2.2.1 (α 0) (4 : Int).toNat = some (α 1) := hP _ (List.mem_of_getElem? (i := 0) rfl)
  have h1 : 0 ≤ (ρ 2 + 0 : Int) ∧ M.2.2.2.2 (α 1) (ρ 2 + 0 : Int).toNat = ρ 4 + 0 := hP _ (List.mem_of_getElem? (i := 1) rfl)
  have h2 : 0 ≤ (ρ 3 + 0 : Int) ∧ M.2.2.2.2 (α 1) (ρ 3 + 0 : Int).toNat = ρ 5 + 0 := hP _ (List.mem_of_getElem? (i := 2) rfl)
  have h3 : (ρ 6 + 0 : Int) = wL ((ρ 5 + 0 : Int) - (ρ 4 + 0 : Int)) := hP _ (List.mem_of_getElem? (i := 3) rfl)
  try simp only [Int.add_zero] at h0 h1 h2 h3
  have key : (Γ (α 0) = 110 ∧ (∀ q ∈ ([([(4, 111)], 0, 144)] : VSP), wkT Γ M (α 0) q.1) ∧ Q963 g (vsv M (α 0) ([(4, 111)], 0, 144)) (ρ 2 + 0) (ρ 3 + 0) (ρ 6 + 0)) ∧ True := by
    try simp only [Int.add_zero]
    have e0 : M.2.2.2.1 (α 0) 4 = some (α 1) := h0.2
    have e1 : M.2.2.2.2 (α 1) (ρ 2).toNat = ρ 4 := h1.2
    have e2 : M.2.2.2.2 (α 1) (ρ 3).toNat = ρ 5 := h2.2
    refine ⟨⟨g0, pic1 hT g0 (by decide) (by decide), ?_⟩, trivial⟩
    · dsimp only [Q963]
      rw [vsv1 e0, cAll (by omega), cAll (by omega), e1, e2]
      rw [wL_id (by unfold inL; omega)] at h3
      exact h3
  exact ⟨nB, qB (key.1) (nB)⟩
def t_ntu_2 : KT := ((0, 0, 0, 0), [(2, 0, 1, 0), (2, 1, 110, 0), (1, 2, 0, 0), (1, 3, 0, 0), (1, 4, 0, 0), (1, 5, 0, 0), (1, 6, 0, 0)], [(0, 0), (0, 0), (0, 143), (0, 143), (-127, 127), (-9223372036854775808, 9223372036854775807), (-9223372036854775808, 9223372036854775807)], [(963, [(2, 1, 110, 0), (1, 2, 0, 0), (1, 3, 0, 0), (1, 5, 0, 0)]), (501, [(2, 0, 1, 0), (1, 2, 0, 0), (1, 3, 0, 0), (1, 4, 0, 0)]), (711, [(1, 4, 0, 0), (1, 5, 0, 0), (1, 6, 0, 0)]), (768, [(2, 0, 1, 0), (2, 1, 110, 0)]), (2, [(2, 0, 1, 0), (1, 2, 0, 0)]), (2, [(2, 0, 1, 0), (1, 3, 0, 0)])], (0, 0, 0), [], [], ([], [(964, [(2, 0, 1, 0), (2, 1, 110, 0), (1, 2, 0, 0), (1, 3, 0, 0), (1, 6, 0, 0)])]), ([], []))
set_option maxRecDepth 100000 in
theorem l_ntu_2 (g : GG) : LOK Yt (PSt g) t_ntu_2 := by
  intro ρ α Γ M as hT hB hA hP
  have g0 : Γ (α 0) = 1 := tyAt hA (i := 0) rfl
  have g1 : Γ (α 1) = 110 := tyAt hA (i := 1) rfl
  have b2 : 0 ≤ ρ 2 ∧ ρ 2 ≤ 143 := hB 2
  have b3 : 0 ≤ ρ 3 ∧ ρ 3 ≤ 143 := hB 3
  have b4 : -127 ≤ ρ 4 ∧ ρ 4 ≤ 127 := hB 4
  have b5 : -9223372036854775808 ≤ ρ 5 ∧ ρ 5 ≤ 9223372036854775807 := hB 5
  have b6 : -9223372036854775808 ≤ ρ 6 ∧ ρ 6 ≤ 9223372036854775807 := hB 6
  have h0 : Γ (α 1) = 110 ∧ (∀ q ∈ ([([(4, 111)], 0, 144)] : VSP), wkT Γ M (α 1) q.1) ∧ Q963 g (vsv M (α 1) ([(4, 111)], 0, 144)) (ρ 2 + 0) (ρ 3 + 0) (ρ 5 + 0) := hP _ (List.mem_of_getElem? (i := 0) rfl)
  have h1 : Γ (α 0) = 1 ∧ (∀ q ∈ ([([(2, 2)], 0, 144)] : VSP), wkT Γ M (α 0) q.1) ∧ Q501 g (vsv M (α 0) ([(2, 2)], 0, 144)) (ρ 2 + 0) (ρ 3 + 0) (ρ 4 + 0) := hP _ (List.mem_of_getElem? (i := 1) rfl)
  have h2 : (ρ 6 + 0 : Int) = wL ((ρ 4 + 0 : Int) - (ρ 5 + 0 : Int)) := hP _ (List.mem_of_getElem? (i := 2) rfl)
  have h3 : Γ (α 0) = 1 ∧ (∀ q ∈ ([([], 0, 2), ([(2, 2)], 0, 144)] : VSP), wkT Γ M (α 0) q.1) ∧ Γ (α 1) = 110 ∧ (∀ q ∈ ([([(4, 111)], 0, 144), ([(6, 113)], 0, 144)] : VSP), wkT Γ M (α 1) q.1) ∧ Q768 g (vsv M (α 0) ([], 0, 2)) (vsv M (α 0) ([(2, 2)], 0, 144)) (vsv M (α 1) ([(4, 111)], 0, 144)) (vsv M (α 1) ([(6, 113)], 0, 144))  := hP _ (List.mem_of_getElem? (i := 3) rfl)
  have h4 : Γ (α 0) = 1 ∧ 0 ≤ ρ 2 + 0 ∧ ρ 2 + 0 < M.2.2.2.2 (α 0) 0 * M.2.2.2.2 (α 0) 1 := hP _ (List.mem_of_getElem? (i := 4) rfl)
  have h5 : Γ (α 0) = 1 ∧ 0 ≤ ρ 3 + 0 ∧ ρ 3 + 0 < M.2.2.2.2 (α 0) 0 * M.2.2.2.2 (α 0) 1 := hP _ (List.mem_of_getElem? (i := 5) rfl)
  try simp only [Int.add_zero] at h0 h1 h2 h3 h4 h5
  have key : (Γ (α 0) = 1 ∧ (∀ q ∈ ([([], 0, 2), ([(2, 2)], 0, 144)] : VSP), wkT Γ M (α 0) q.1) ∧ Γ (α 1) = 110 ∧ (∀ q ∈ ([([(4, 111)], 0, 144)] : VSP), wkT Γ M (α 1) q.1) ∧ Q964 g (vsv M (α 0) ([], 0, 2)) (vsv M (α 0) ([(2, 2)], 0, 144)) (vsv M (α 1) ([(4, 111)], 0, 144)) (ρ 2 + 0) (ρ 3 + 0) (ρ 6 + 0)) ∧ True := by
    try simp only [Int.add_zero]
    have dm0 := cdim hT g0
    have rc0 := rc_bd dm0.1 dm0.2
    obtain ⟨-, -, p0⟩ := h0
    dsimp only [Q963] at p0
    obtain ⟨-, -, p1⟩ := h1
    dsimp only [Q501] at p1
    obtain ⟨-, -, -, -, p3⟩ := h3
    dsimp only [Q768] at p3
    have m0 : (vsv M (α 0) ([], 0, 2)) 0 = M.2.2.2.2 (α 0) 0 := vs0 (by decide) (by decide)
    have m1 : (vsv M (α 0) ([], 0, 2)) 1 = M.2.2.2.2 (α 0) 1 := vs0 (by decide) (by decide)
    refine ⟨⟨g0, pic1 hT g0 (by decide) (by decide), g1, pic1 hT g1 (by decide) (by decide), ?_⟩, trivial⟩
    · dsimp only [Q964]
      have ha := h4.2.2
      have hb := h5.2.2
      rw [← m0, ← m1] at ha hb
      obtain ⟨⟨t1, a1⟩, a2, a3⟩ := p3 (ρ 2).toNat (by omega)
      obtain ⟨⟨t2, c1⟩, c2, c3⟩ := p3 (ρ 3).toNat (by omega)
      rw [wL_id (by unfold inL; omega)] at h2
      have p1 : ρ 4 = stA (vsv M (α 0) ([(2, 2)], 0, 144)) (ρ 2).toNat (ρ 3).toNat := p1
      obtain ⟨u, hu⟩ := wr_k ((vsv M (α 0) ([(2, 2)], 0, 144)) (ρ 3).toNat - (vsv M (α 0) ([(2, 2)], 0, 144)) (ρ 2).toNat)
      have hs : stA (vsv M (α 0) ([(2, 2)], 0, 144)) (ρ 2).toNat (ρ 3).toNat = wr ((vsv M (α 0) ([(2, 2)], 0, 144)) (ρ 3).toNat - (vsv M (α 0) ([(2, 2)], 0, 144)) (ρ 2).toNat) := rfl
      exact ⟨by omega, ⟨t1 - t2 - u, by omega⟩, by omega, by omega⟩
  exact ⟨nB, qB (key.1) (nB)⟩
def t_ntu_k : KT := ((0, 0, 0, 0), [(2, 0, 1, 0), (2, 1, 110, 0), (1, 2, 0, 0), (1, 3, 0, 0), (1, 4, 0, 0), (1, 5, 0, 0), (1, 6, 0, 0), (1, 7, 0, 0), (1, 8, 0, 0)], [(0, 0), (0, 0), (0, 143), (0, 143), (-9223372036854775808, 9223372036854775807), (255, 255), (-9223372036854775808, 9223372036854775807), (0, 0), (-1, 1)], [(964, [(2, 0, 1, 0), (2, 1, 110, 0), (1, 2, 0, 0), (1, 3, 0, 0), (1, 4, 0, 0)]), (714, [(1, 4, 0, 0), (1, 5, 0, 0), (1, 6, 0, 0)]), (715, [(1, 6, 0, 0), (1, 7, 0, 0), (1, 8, 0, 0)]), (99, [(1, 8, 0, 0), (0, 0, 0, 0), (0, 0, 0, 0)])], (0, 0, 0), [], [], ([(8, 1, 0)], []), ([], []))
set_option maxRecDepth 100000 in
theorem l_ntu_k (g : GG) : LOK Yt (PSt g) t_ntu_k := by
  intro ρ α Γ M as hT hB hA hP
  have g0 : Γ (α 0) = 1 := tyAt hA (i := 0) rfl
  have g1 : Γ (α 1) = 110 := tyAt hA (i := 1) rfl
  have b2 : 0 ≤ ρ 2 ∧ ρ 2 ≤ 143 := hB 2
  have b3 : 0 ≤ ρ 3 ∧ ρ 3 ≤ 143 := hB 3
  have b4 : -9223372036854775808 ≤ ρ 4 ∧ ρ 4 ≤ 9223372036854775807 := hB 4
  have b5 : 255 ≤ ρ 5 ∧ ρ 5 ≤ 255 := hB 5
  have b6 : -9223372036854775808 ≤ ρ 6 ∧ ρ 6 ≤ 9223372036854775807 := hB 6
  have b7 : 0 ≤ ρ 7 ∧ ρ 7 ≤ 0 := hB 7
  have b8 : -1 ≤ ρ 8 ∧ ρ 8 ≤ 1 := hB 8
  have h0 : Γ (α 0) = 1 ∧ (∀ q ∈ ([([], 0, 2), ([(2, 2)], 0, 144)] : VSP), wkT Γ M (α 0) q.1) ∧ Γ (α 1) = 110 ∧ (∀ q ∈ ([([(4, 111)], 0, 144)] : VSP), wkT Γ M (α 1) q.1) ∧ Q964 g (vsv M (α 0) ([], 0, 2)) (vsv M (α 0) ([(2, 2)], 0, 144)) (vsv M (α 1) ([(4, 111)], 0, 144)) (ρ 2 + 0) (ρ 3 + 0) (ρ 4 + 0) := hP _ (List.mem_of_getElem? (i := 0) rfl)
  have h1 : (ρ 6 + 0 : Int) = (ρ 4 + 0 : Int).tmod (ρ 5 + 0 : Int) := hP _ (List.mem_of_getElem? (i := 1) rfl)
  have h2 : (ρ 8 + 0 : Int) = lCm (ρ 6 + 0 : Int) (ρ 7 + 0 : Int) := hP _ (List.mem_of_getElem? (i := 2) rfl)
  have h3 : (ρ 8 + 0 : Int) ≠ 0 := hP _ (List.mem_of_getElem? (i := 3) rfl)
  try simp only [Int.add_zero] at h0 h1 h2 h3
  have key : (1 ≤ ρ 8 ∧ ρ 8 ≤ 0) ∧ True := by
    try simp only [Int.add_zero]
    have dm0 := cdim hT g0
    have rc0 := rc_bd dm0.1 dm0.2
    obtain ⟨-, -, -, -, p0⟩ := h0
    dsimp only [Q964] at p0
    refine ⟨?_, trivial⟩
    · exfalso
      obtain ⟨-, ⟨t, ht⟩, -⟩ := p0
      have e5 : ρ 5 = 255 := by omega
      rw [e5, ht, Int.mul_tmod_right] at h1
      unfold lCm at h2
      rw [if_neg (by omega), if_pos (by omega)] at h2
      exact h3 h2
  exact ⟨qB (key.1) (nB), nB⟩
def t_ntu_3 : KT := ((0, 0, 0, 0), [(2, 0, 1, 0), (2, 1, 110, 0), (1, 2, 0, 0), (1, 3, 0, 0), (1, 4, 0, 0), (1, 5, 0, 0), (1, 6, 0, 0), (1, 7, 0, 0)], [(0, 0), (0, 0), (0, 143), (0, 143), (-9223372036854775808, 9223372036854775807), (255, 255), (-9223372036854775808, 9223372036854775807), (-2147483648, 2147483647)], [(964, [(2, 0, 1, 0), (2, 1, 110, 0), (1, 2, 0, 0), (1, 3, 0, 0), (1, 4, 0, 0)]), (713, [(1, 4, 0, 0), (1, 5, 0, 0), (1, 6, 0, 0)]), (716, [(1, 6, 0, 0), (1, 7, 0, 0)])], (0, 0, 0), [], [], ([(7, -4000000, 4000000)], [(961, [(2, 0, 1, 0), (2, 1, 110, 0), (1, 2, 0, 0), (1, 3, 0, 0), (1, 7, 0, 0)])]), ([], []))
set_option maxRecDepth 100000 in
theorem l_ntu_3 (g : GG) : LOK Yt (PSt g) t_ntu_3 := by
  intro ρ α Γ M as hT hB hA hP
  have g0 : Γ (α 0) = 1 := tyAt hA (i := 0) rfl
  have g1 : Γ (α 1) = 110 := tyAt hA (i := 1) rfl
  have b2 : 0 ≤ ρ 2 ∧ ρ 2 ≤ 143 := hB 2
  have b3 : 0 ≤ ρ 3 ∧ ρ 3 ≤ 143 := hB 3
  have b4 : -9223372036854775808 ≤ ρ 4 ∧ ρ 4 ≤ 9223372036854775807 := hB 4
  have b5 : 255 ≤ ρ 5 ∧ ρ 5 ≤ 255 := hB 5
  have b6 : -9223372036854775808 ≤ ρ 6 ∧ ρ 6 ≤ 9223372036854775807 := hB 6
  have b7 : -2147483648 ≤ ρ 7 ∧ ρ 7 ≤ 2147483647 := hB 7
  have h0 : Γ (α 0) = 1 ∧ (∀ q ∈ ([([], 0, 2), ([(2, 2)], 0, 144)] : VSP), wkT Γ M (α 0) q.1) ∧ Γ (α 1) = 110 ∧ (∀ q ∈ ([([(4, 111)], 0, 144)] : VSP), wkT Γ M (α 1) q.1) ∧ Q964 g (vsv M (α 0) ([], 0, 2)) (vsv M (α 0) ([(2, 2)], 0, 144)) (vsv M (α 1) ([(4, 111)], 0, 144)) (ρ 2 + 0) (ρ 3 + 0) (ρ 4 + 0) := hP _ (List.mem_of_getElem? (i := 0) rfl)
  have h1 : (ρ 6 + 0 : Int) = wL ((ρ 4 + 0 : Int).tdiv (ρ 5 + 0 : Int)) := hP _ (List.mem_of_getElem? (i := 1) rfl)
  have h2 : (ρ 7 + 0 : Int) = wI (ρ 6 + 0 : Int) := hP _ (List.mem_of_getElem? (i := 2) rfl)
  try simp only [Int.add_zero] at h0 h1 h2
  have key : (-4000000 ≤ ρ 7 ∧ ρ 7 ≤ 4000000) ∧ (Γ (α 0) = 1 ∧ (∀ q ∈ ([([], 0, 2), ([(2, 2)], 0, 144)] : VSP), wkT Γ M (α 0) q.1) ∧ Γ (α 1) = 110 ∧ (∀ q ∈ ([([(4, 111)], 0, 144)] : VSP), wkT Γ M (α 1) q.1) ∧ Q961 g (vsv M (α 0) ([], 0, 2)) (vsv M (α 0) ([(2, 2)], 0, 144)) (vsv M (α 1) ([(4, 111)], 0, 144)) (ρ 2 + 0) (ρ 3 + 0) (ρ 7 + 0)) ∧ True := by
    try simp only [Int.add_zero]
    have dm0 := cdim hT g0
    have rc0 := rc_bd dm0.1 dm0.2
    obtain ⟨-, -, -, -, p0⟩ := h0
    dsimp only [Q964] at p0
    obtain ⟨t, ht⟩ := p0.2.1
    have bd := p0.2.2
    have e5 : ρ 5 = 255 := by omega
    rw [e5, ht, Int.mul_tdiv_cancel_left _ (by decide), wL_id (by unfold inL; omega)] at h1
    rw [wI_id (by unfold inI; omega)] at h2
    have x3 : ρ 4 = 255 * ρ 7 := by omega
    refine ⟨?_, ⟨g0, pic1 hT g0 (by decide) (by decide), g1, pic1 hT g1 (by decide) (by decide), ?_⟩, trivial⟩
    · omega
    · dsimp only [Q961]
      rw [← x3]
      exact p0.1
  exact ⟨qB (key.1) (nB), qB (key.2.1) (nB)⟩
def t_nge_i : KT := ((0, 0, 0, 0), [(2, 0, 110, 0), (1, 1, 0, 0), (2, 2, 113, 0), (1, 3, 0, 0)], [(0, 0), (0, 143), (0, 0), (-1, 143)], [(576, [(2, 0, 110, 0), (1, 1, 0, 0)]), (11, [(2, 0, 110, 0), (0, 0, 0, 6), (2, 2, 113, 0)]), (10, [(2, 2, 113, 0), (1, 1, 0, 0), (1, 3, 0, 0)])], (0, 0, 0), [], [], ([(3, 0, 143)], []), ([], []))
set_option maxRecDepth 100000 in
theorem l_nge_i (g : GG) : LOK Yt (PSt g) t_nge_i := by
  intro ρ α Γ M as hT hB hA hP
  have g0 : Γ (α 0) = 110 := tyAt hA (i := 0) rfl
  have b1 : 0 ≤ ρ 1 ∧ ρ 1 ≤ 143 := hB 1
  have g2 : Γ (α 2) = 113 := tyAt hA (i := 2) rfl
  have b3 : -1 ≤ ρ 3 ∧ ρ 3 ≤ 143 := hB 3
  have h0 : Γ (α 0) = 110 ∧ (∀ q ∈ ([([(6, 113)], 0, 144)] : VSP), wkT Γ M (α 0) q.1) ∧ Q576 g (vsv M (α 0) ([(6, 113)], 0, 144)) (ρ 1 + 0) := hP _ (List.mem_of_getElem? (i := 0) rfl)
  have h1 : 0 ≤ (6 : Int) ∧ M.2.2.2.1 (α 0) (6 : Int).toNat = some (α 2) := hP _ (List.mem_of_getElem? (i := 1) rfl)
  have h2 : 0 ≤ (ρ 1 + 0 : Int) ∧ M.2.2.2.2 (α 2) (ρ 1 + 0 : Int).toNat = ρ 3 + 0 := hP _ (List.mem_of_getElem? (i := 2) rfl)
  try simp only [Int.add_zero] at h0 h1 h2
  have key : (0 ≤ ρ 3 ∧ ρ 3 ≤ 143) ∧ True := by
    try simp only [Int.add_zero]
    obtain ⟨-, -, p0⟩ := h0
    dsimp only [Q576] at p0
    have e1 : M.2.2.2.1 (α 0) 6 = some (α 2) := h1.2
    have e2 : M.2.2.2.2 (α 2) (ρ 1).toNat = ρ 3 := h2.2
    refine ⟨?_, trivial⟩
    · have := (vs1 e1 (Nat.zero_le _) (by omega) : (vsv M (α 0) ([(6, 113)], 0, 144)) (ρ 1).toNat = _).trans e2
      have z := p0.2
      omega
  exact ⟨qB (key.1) (nB), nB⟩
def t_nil1b : KT := ((0, 0, 0, 0), [(2, 0, 110, 0), (1, 1, 0, 0), (1, 2, 0, 0)], [(0, 0), (0, 143), (0, 2147483647)], [(959, [(2, 0, 110, 0), (1, 1, 0, 0), (1, 2, 0, 0)])], (0, 0, 0), [], [], ([], [(576, [(2, 0, 110, 0), (1, 1, 0, 0)])]), ([], []))
set_option maxRecDepth 100000 in
theorem l_nil1b (g : GG) : LOK Yt (PSt g) t_nil1b := by
  intro ρ α Γ M as hT hB hA hP
  have g0 : Γ (α 0) = 110 := tyAt hA (i := 0) rfl
  have b1 : 0 ≤ ρ 1 ∧ ρ 1 ≤ 143 := hB 1
  have b2 : 0 ≤ ρ 2 ∧ ρ 2 ≤ 2147483647 := hB 2
  have h0 : Γ (α 0) = 110 ∧ (∀ q ∈ ([([(6, 113)], 0, 144)] : VSP), wkT Γ M (α 0) q.1) ∧ Q959 g (vsv M (α 0) ([(6, 113)], 0, 144)) (ρ 1 + 0) (ρ 2 + 0) := hP _ (List.mem_of_getElem? (i := 0) rfl)
  try simp only [Int.add_zero] at h0
  have key : (Γ (α 0) = 110 ∧ (∀ q ∈ ([([(6, 113)], 0, 144)] : VSP), wkT Γ M (α 0) q.1) ∧ Q576 g (vsv M (α 0) ([(6, 113)], 0, 144)) (ρ 1 + 0)) ∧ True := by
    try simp only [Int.add_zero]
    obtain ⟨-, -, p0⟩ := h0
    dsimp only [Q959] at p0
    refine ⟨⟨g0, pic1 hT g0 (by decide) (by decide), ?_⟩, trivial⟩
    · dsimp only [Q576]
      refine ⟨b1.1, ?_⟩
      show (vsv M (α 0) ([(6, 113)], 0, 144)) (ρ 1).toNat ≠ -1
      rw [p0.2]
      omega
  exact ⟨nB, qB (key.1) (nB)⟩
def t_nil2b : KT := ((0, 0, 0, 0), [(2, 0, 110, 0), (1, 1, 0, 0), (1, 2, 0, 0)], [(0, 0), (0, 143), (-1, -1)], [(959, [(2, 0, 110, 0), (1, 1, 0, 0), (1, 2, 0, 0)])], (0, 0, 0), [], [], ([], [(578, [(2, 0, 110, 0), (1, 1, 0, 0)])]), ([], []))
set_option maxRecDepth 100000 in
theorem l_nil2b (g : GG) : LOK Yt (PSt g) t_nil2b := by
  intro ρ α Γ M as hT hB hA hP
  have g0 : Γ (α 0) = 110 := tyAt hA (i := 0) rfl
  have b1 : 0 ≤ ρ 1 ∧ ρ 1 ≤ 143 := hB 1
  have b2 : -1 ≤ ρ 2 ∧ ρ 2 ≤ -1 := hB 2
  have h0 : Γ (α 0) = 110 ∧ (∀ q ∈ ([([(6, 113)], 0, 144)] : VSP), wkT Γ M (α 0) q.1) ∧ Q959 g (vsv M (α 0) ([(6, 113)], 0, 144)) (ρ 1 + 0) (ρ 2 + 0) := hP _ (List.mem_of_getElem? (i := 0) rfl)
  try simp only [Int.add_zero] at h0
  have key : (Γ (α 0) = 110 ∧ (∀ q ∈ ([([(6, 113)], 0, 144)] : VSP), wkT Γ M (α 0) q.1) ∧ Q578 g (vsv M (α 0) ([(6, 113)], 0, 144)) (ρ 1 + 0)) ∧ True := by
    try simp only [Int.add_zero]
    obtain ⟨-, -, p0⟩ := h0
    dsimp only [Q959] at p0
    refine ⟨⟨g0, pic1 hT g0 (by decide) (by decide), ?_⟩, trivial⟩
    · dsimp only [Q578]
      refine ⟨b1.1, ?_⟩
      show (vsv M (α 0) ([(6, 113)], 0, 144)) (ρ 1).toNat = -1
      rw [p0.2]
      omega
  exact ⟨nB, qB (key.1) (nB)⟩
def t_nge_p : KT := ((0, 0, 0, 0), [(2, 0, 110, 0), (2, 1, 113, 0), (1, 2, 0, 0), (1, 3, 0, 0)], [(0, 0), (0, 0), (0, 143), (-2147483648, 2147483647)], [(11, [(2, 0, 110, 0), (0, 0, 0, 6), (2, 1, 113, 0)]), (10, [(2, 1, 113, 0), (1, 2, 0, 0), (1, 3, 0, 0)])], (0, 0, 0), [], [], ([], [(959, [(2, 0, 110, 0), (1, 2, 0, 0), (1, 3, 0, 0)])]), ([], []))
set_option maxRecDepth 100000 in
theorem l_nge_p (g : GG) : LOK Yt (PSt g) t_nge_p := by
  intro ρ α Γ M as hT hB hA hP
  have g0 : Γ (α 0) = 110 := tyAt hA (i := 0) rfl
  have g1 : Γ (α 1) = 113 := tyAt hA (i := 1) rfl
  have b2 : 0 ≤ ρ 2 ∧ ρ 2 ≤ 143 := hB 2
  have b3 : -2147483648 ≤ ρ 3 ∧ ρ 3 ≤ 2147483647 := hB 3
  have h0 : 0 ≤ (6 : Int) ∧ M.2.2.2.1 (α 0) (6 : Int).toNat = some (α 1) := hP _ (List.mem_of_getElem? (i := 0) rfl)
  have h1 : 0 ≤ (ρ 2 + 0 : Int) ∧ M.2.2.2.2 (α 1) (ρ 2 + 0 : Int).toNat = ρ 3 + 0 := hP _ (List.mem_of_getElem? (i := 1) rfl)
  try simp only [Int.add_zero] at h0 h1
  have key : (Γ (α 0) = 110 ∧ (∀ q ∈ ([([(6, 113)], 0, 144)] : VSP), wkT Γ M (α 0) q.1) ∧ Q959 g (vsv M (α 0) ([(6, 113)], 0, 144)) (ρ 2 + 0) (ρ 3 + 0)) ∧ True := by
    try simp only [Int.add_zero]
    have e0 : M.2.2.2.1 (α 0) 6 = some (α 1) := h0.2
    have e1 : M.2.2.2.2 (α 1) (ρ 2).toNat = ρ 3 := h1.2
    refine ⟨⟨g0, pic1 hT g0 (by decide) (by decide), ?_⟩, trivial⟩
    · dsimp only [Q959]
      exact ⟨⟨b2.1, by omega⟩, (vs1 e0 (Nat.zero_le _) (by omega)).trans e1⟩
  exact ⟨nB, qB (key.1) (nB)⟩
def t_nge_q : KT := ((0, 0, 0, 0), [(2, 0, 110, 0), (2, 1, 113, 0), (1, 2, 0, 0), (1, 3, 0, 0)], [(0, 0), (0, 0), (0, 143), (-2147483648, 2147483647)], [(11, [(2, 0, 110, 0), (0, 0, 0, 6), (2, 1, 113, 0)]), (10, [(2, 1, 113, 0), (1, 2, 0, 0), (1, 3, 0, 0)])], (0, 0, 0), [], [], ([], [(960, [(2, 0, 110, 0), (1, 2, 0, 0), (1, 3, 0, 0)])]), ([], []))
set_option maxRecDepth 100000 in
theorem l_nge_q (g : GG) : LOK Yt (PSt g) t_nge_q := by
  intro ρ α Γ M as hT hB hA hP
  have g0 : Γ (α 0) = 110 := tyAt hA (i := 0) rfl
  have g1 : Γ (α 1) = 113 := tyAt hA (i := 1) rfl
  have b2 : 0 ≤ ρ 2 ∧ ρ 2 ≤ 143 := hB 2
  have b3 : -2147483648 ≤ ρ 3 ∧ ρ 3 ≤ 2147483647 := hB 3
  have h0 : 0 ≤ (6 : Int) ∧ M.2.2.2.1 (α 0) (6 : Int).toNat = some (α 1) := hP _ (List.mem_of_getElem? (i := 0) rfl)
  have h1 : 0 ≤ (ρ 2 + 0 : Int) ∧ M.2.2.2.2 (α 1) (ρ 2 + 0 : Int).toNat = ρ 3 + 0 := hP _ (List.mem_of_getElem? (i := 1) rfl)
  try simp only [Int.add_zero] at h0 h1
  have key : (Γ (α 0) = 110 ∧ (∀ q ∈ ([([(6, 113)], 0, 144)] : VSP), wkT Γ M (α 0) q.1) ∧ Q960 g (vsv M (α 0) ([(6, 113)], 0, 144)) (ρ 2 + 0) (ρ 3 + 0)) ∧ True := by
    try simp only [Int.add_zero]
    have e0 : M.2.2.2.1 (α 0) 6 = some (α 1) := h0.2
    have e1 : M.2.2.2.2 (α 1) (ρ 2).toNat = ρ 3 := h1.2
    refine ⟨⟨g0, pic1 hT g0 (by decide) (by decide), ?_⟩, trivial⟩
    · dsimp only [Q960]
      exact ⟨⟨b2.1, by omega⟩, (vs1 e0 (Nat.zero_le _) (by omega)).trans e1⟩
  exact ⟨nB, qB (key.1) (nB)⟩
def t_nge_0p : KT := ((0, 0, 0, 0), [(2, 0, 31, 0), (2, 1, 1, 0), (2, 2, 110, 0), (1, 3, 0, 0), (1, 4, 0, 0), (1, 5, 0, 0)], [(0, 0), (0, 0), (0, 0), (0, 143), (0, 143), (-2147483648, 2147483647)], [(950, [(2, 0, 31, 0), (1, 5, 0, 0)]), (769, [(2, 1, 1, 0), (2, 2, 110, 0)]), (729, [(1, 3, 0, 0), (1, 4, 0, 0), (1, 5, 0, 0)]), (578, [(2, 2, 110, 0), (1, 3, 0, 0)])], (0, 0, 0), [], [], ([], [(950, [(2, 0, 31, 0), (1, 5, 0, 1)])]), ([], []))
set_option maxRecDepth 100000 in
theorem l_nge_0p (g : GG) : LOK Yt (PSt g) t_nge_0p := by
  intro ρ α Γ M as hT hB hA hP
  have g0 : Γ (α 0) = 31 := tyAt hA (i := 0) rfl
  have g1 : Γ (α 1) = 1 := tyAt hA (i := 1) rfl
  have g2 : Γ (α 2) = 110 := tyAt hA (i := 2) rfl
  have b3 : 0 ≤ ρ 3 ∧ ρ 3 ≤ 143 := hB 3
  have b4 : 0 ≤ ρ 4 ∧ ρ 4 ≤ 143 := hB 4
  have b5 : -2147483648 ≤ ρ 5 ∧ ρ 5 ≤ 2147483647 := hB 5
  have h0 : Γ (α 0) = 31 ∧ (∀ q ∈ ([([], 2, 3), ([(3, 32)], 0, 288), ([(4, 33)], 0, 288)] : VSP), wkT Γ M (α 0) q.1) ∧ Q950 g (vsv M (α 0) ([], 2, 3)) (vsv M (α 0) ([(3, 32)], 0, 288)) (vsv M (α 0) ([(4, 33)], 0, 288)) (ρ 5 + 0) := hP _ (List.mem_of_getElem? (i := 0) rfl)
  have h1 : Γ (α 1) = 1 ∧ (∀ q ∈ ([([], 0, 2), ([(2, 2)], 0, 144)] : VSP), wkT Γ M (α 1) q.1) ∧ Γ (α 2) = 110 ∧ (∀ q ∈ ([([(4, 111)], 0, 144), ([(6, 113)], 0, 144)] : VSP), wkT Γ M (α 2) q.1) ∧ Q769 g (vsv M (α 1) ([], 0, 2)) (vsv M (α 1) ([(2, 2)], 0, 144)) (vsv M (α 2) ([(4, 111)], 0, 144)) (vsv M (α 2) ([(6, 113)], 0, 144))  := hP _ (List.mem_of_getElem? (i := 1) rfl)
  have h2 : (0 ≤ (ρ 5 + 0 : Int) ∧ (ρ 5 + 0 : Int) ≤ 199) ∧ edP (zR g) (zC g) (ρ 5 + 0 : Int) ∧ (ρ 3 + 0 : Int) = (ρ 5 + 0 : Int) / 2 ∧ (ρ 4 + 0 : Int) = tipI (zC g) (ρ 5 + 0 : Int) := hP _ (List.mem_of_getElem? (i := 2) rfl)
  have h3 : Γ (α 2) = 110 ∧ (∀ q ∈ ([([(6, 113)], 0, 144)] : VSP), wkT Γ M (α 2) q.1) ∧ Q578 g (vsv M (α 2) ([(6, 113)], 0, 144)) (ρ 3 + 0) := hP _ (List.mem_of_getElem? (i := 3) rfl)
  try simp only [Int.add_zero] at h0 h1 h2 h3
  have key : (Γ (α 0) = 31 ∧ (∀ q ∈ ([([], 2, 3), ([(3, 32)], 0, 288), ([(4, 33)], 0, 288)] : VSP), wkT Γ M (α 0) q.1) ∧ Q950 g (vsv M (α 0) ([], 2, 3)) (vsv M (α 0) ([(3, 32)], 0, 288)) (vsv M (α 0) ([(4, 33)], 0, 288)) (ρ 5 + 1)) ∧ True := by
    try simp only [Int.add_zero]
    have dm1 := cdim hT g1
    have rc1 := rc_bd dm1.1 dm1.2
    obtain ⟨-, -, p0⟩ := h0
    dsimp only [Q950] at p0
    obtain ⟨-, -, -, -, p1⟩ := h1
    dsimp only [Q769] at p1
    obtain ⟨-, -, p3⟩ := h3
    dsimp only [Q578] at p3
    obtain ⟨⟨s1, s2⟩, ⟨⟨z1, z2⟩, z3, z4⟩, hS⟩ := p1
    obtain ⟨⟨y1, y2⟩, y3, y4, y5⟩ := h2
    have tl := tip_lt (by omega) y3
    have rc81 : 4 ≤ zR g * zC g ∧ zR g * zC g ≤ 81 := ⟨(rc_bd ⟨z1, by omega⟩ ⟨z3, by omega⟩).1, Int.le_trans (Int.mul_le_mul z2 z4 (by omega) (by decide)) (by decide)⟩
    refine ⟨⟨g0, pic1 hT g0 (by decide) (by decide), ?_⟩, trivial⟩
    · dsimp only [Q950]
      exact seP_no p0 y2 (Or.inl (by rw [← y4, ← (hS _ (by omega)).2.2]; exact p3.2))
  exact ⟨nB, qB (key.1) (nB)⟩
def t_nge_0q : KT := ((0, 0, 0, 0), [(2, 0, 31, 0), (2, 1, 1, 0), (2, 2, 110, 0), (1, 3, 0, 0), (1, 4, 0, 0), (1, 5, 0, 0)], [(0, 0), (0, 0), (0, 0), (0, 143), (0, 143), (-2147483648, 2147483647)], [(950, [(2, 0, 31, 0), (1, 5, 0, 0)]), (769, [(2, 1, 1, 0), (2, 2, 110, 0)]), (729, [(1, 3, 0, 0), (1, 4, 0, 0), (1, 5, 0, 0)]), (578, [(2, 2, 110, 0), (1, 4, 0, 0)])], (0, 0, 0), [], [], ([], [(950, [(2, 0, 31, 0), (1, 5, 0, 1)])]), ([], []))
set_option maxRecDepth 100000 in
theorem l_nge_0q (g : GG) : LOK Yt (PSt g) t_nge_0q := by
  intro ρ α Γ M as hT hB hA hP
  have g0 : Γ (α 0) = 31 := tyAt hA (i := 0) rfl
  have g1 : Γ (α 1) = 1 := tyAt hA (i := 1) rfl
  have g2 : Γ (α 2) = 110 := tyAt hA (i := 2) rfl
  have b3 : 0 ≤ ρ 3 ∧ ρ 3 ≤ 143 := hB 3
  have b4 : 0 ≤ ρ 4 ∧ ρ 4 ≤ 143 := hB 4
  have b5 : -2147483648 ≤ ρ 5 ∧ ρ 5 ≤ 2147483647 := hB 5
  have h0 : Γ (α 0) = 31 ∧ (∀ q ∈ ([([], 2, 3), ([(3, 32)], 0, 288), ([(4, 33)], 0, 288)] : VSP), wkT Γ M (α 0) q.1) ∧ Q950 g (vsv M (α 0) ([], 2, 3)) (vsv M (α 0) ([(3, 32)], 0, 288)) (vsv M (α 0) ([(4, 33)], 0, 288)) (ρ 5 + 0) := hP _ (List.mem_of_getElem? (i := 0) rfl)
  have h1 : Γ (α 1) = 1 ∧ (∀ q ∈ ([([], 0, 2), ([(2, 2)], 0, 144)] : VSP), wkT Γ M (α 1) q.1) ∧ Γ (α 2) = 110 ∧ (∀ q ∈ ([([(4, 111)], 0, 144), ([(6, 113)], 0, 144)] : VSP), wkT Γ M (α 2) q.1) ∧ Q769 g (vsv M (α 1) ([], 0, 2)) (vsv M (α 1) ([(2, 2)], 0, 144)) (vsv M (α 2) ([(4, 111)], 0, 144)) (vsv M (α 2) ([(6, 113)], 0, 144))  := hP _ (List.mem_of_getElem? (i := 1) rfl)
  have h2 : (0 ≤ (ρ 5 + 0 : Int) ∧ (ρ 5 + 0 : Int) ≤ 199) ∧ edP (zR g) (zC g) (ρ 5 + 0 : Int) ∧ (ρ 3 + 0 : Int) = (ρ 5 + 0 : Int) / 2 ∧ (ρ 4 + 0 : Int) = tipI (zC g) (ρ 5 + 0 : Int) := hP _ (List.mem_of_getElem? (i := 2) rfl)
  have h3 : Γ (α 2) = 110 ∧ (∀ q ∈ ([([(6, 113)], 0, 144)] : VSP), wkT Γ M (α 2) q.1) ∧ Q578 g (vsv M (α 2) ([(6, 113)], 0, 144)) (ρ 4 + 0) := hP _ (List.mem_of_getElem? (i := 3) rfl)
  try simp only [Int.add_zero] at h0 h1 h2 h3
  have key : (Γ (α 0) = 31 ∧ (∀ q ∈ ([([], 2, 3), ([(3, 32)], 0, 288), ([(4, 33)], 0, 288)] : VSP), wkT Γ M (α 0) q.1) ∧ Q950 g (vsv M (α 0) ([], 2, 3)) (vsv M (α 0) ([(3, 32)], 0, 288)) (vsv M (α 0) ([(4, 33)], 0, 288)) (ρ 5 + 1)) ∧ True := by
    try simp only [Int.add_zero]
    have dm1 := cdim hT g1
    have rc1 := rc_bd dm1.1 dm1.2
    obtain ⟨-, -, p0⟩ := h0
    dsimp only [Q950] at p0
    obtain ⟨-, -, -, -, p1⟩ := h1
    dsimp only [Q769] at p1
    obtain ⟨-, -, p3⟩ := h3
    dsimp only [Q578] at p3
    obtain ⟨⟨s1, s2⟩, ⟨⟨z1, z2⟩, z3, z4⟩, hS⟩ := p1
    obtain ⟨⟨y1, y2⟩, y3, y4, y5⟩ := h2
    have tl := tip_lt (by omega) y3
    have rc81 : 4 ≤ zR g * zC g ∧ zR g * zC g ≤ 81 := ⟨(rc_bd ⟨z1, by omega⟩ ⟨z3, by omega⟩).1, Int.le_trans (Int.mul_le_mul z2 z4 (by omega) (by decide)) (by decide)⟩
    refine ⟨⟨g0, pic1 hT g0 (by decide) (by decide), ?_⟩, trivial⟩
    · dsimp only [Q950]
      exact seP_no p0 y2 (Or.inr (Or.inl (by rw [← y5, ← (hS _ (by omega)).2.2]; exact p3.2)))
  exact ⟨nB, qB (key.1) (nB)⟩
def t_nge_0e : KT := ((0, 0, 0, 0), [(2, 0, 31, 0), (2, 1, 1, 0), (2, 2, 110, 0), (1, 3, 0, 0), (1, 4, 0, 0), (1, 5, 0, 0), (1, 6, 0, 0), (1, 7, 0, 0)], [(0, 0), (0, 0), (0, 0), (0, 143), (0, 143), (-2147483648, 2147483647), (-2147483648, 2147483647), (-2147483648, 2147483647)], [(950, [(2, 0, 31, 0), (1, 5, 0, 0)]), (769, [(2, 1, 1, 0), (2, 2, 110, 0)]), (729, [(1, 3, 0, 0), (1, 4, 0, 0), (1, 5, 0, 0)]), (959, [(2, 2, 110, 0), (1, 3, 0, 0), (1, 6, 0, 0)]), (960, [(2, 2, 110, 0), (1, 4, 0, 0), (1, 7, 0, 0)]), (6, [(1, 6, 0, 0), (1, 7, 0, 0)]), (6, [(1, 7, 0, 0), (1, 6, 0, 0)])], (0, 0, 0), [], [], ([], [(950, [(2, 0, 31, 0), (1, 5, 0, 1)])]), ([], []))
set_option maxRecDepth 100000 in
theorem l_nge_0e (g : GG) : LOK Yt (PSt g) t_nge_0e := by
  intro ρ α Γ M as hT hB hA hP
  have g0 : Γ (α 0) = 31 := tyAt hA (i := 0) rfl
  have g1 : Γ (α 1) = 1 := tyAt hA (i := 1) rfl
  have g2 : Γ (α 2) = 110 := tyAt hA (i := 2) rfl
  have b3 : 0 ≤ ρ 3 ∧ ρ 3 ≤ 143 := hB 3
  have b4 : 0 ≤ ρ 4 ∧ ρ 4 ≤ 143 := hB 4
  have b5 : -2147483648 ≤ ρ 5 ∧ ρ 5 ≤ 2147483647 := hB 5
  have b6 : -2147483648 ≤ ρ 6 ∧ ρ 6 ≤ 2147483647 := hB 6
  have b7 : -2147483648 ≤ ρ 7 ∧ ρ 7 ≤ 2147483647 := hB 7
  have h0 : Γ (α 0) = 31 ∧ (∀ q ∈ ([([], 2, 3), ([(3, 32)], 0, 288), ([(4, 33)], 0, 288)] : VSP), wkT Γ M (α 0) q.1) ∧ Q950 g (vsv M (α 0) ([], 2, 3)) (vsv M (α 0) ([(3, 32)], 0, 288)) (vsv M (α 0) ([(4, 33)], 0, 288)) (ρ 5 + 0) := hP _ (List.mem_of_getElem? (i := 0) rfl)
  have h1 : Γ (α 1) = 1 ∧ (∀ q ∈ ([([], 0, 2), ([(2, 2)], 0, 144)] : VSP), wkT Γ M (α 1) q.1) ∧ Γ (α 2) = 110 ∧ (∀ q ∈ ([([(4, 111)], 0, 144), ([(6, 113)], 0, 144)] : VSP), wkT Γ M (α 2) q.1) ∧ Q769 g (vsv M (α 1) ([], 0, 2)) (vsv M (α 1) ([(2, 2)], 0, 144)) (vsv M (α 2) ([(4, 111)], 0, 144)) (vsv M (α 2) ([(6, 113)], 0, 144))  := hP _ (List.mem_of_getElem? (i := 1) rfl)
  have h2 : (0 ≤ (ρ 5 + 0 : Int) ∧ (ρ 5 + 0 : Int) ≤ 199) ∧ edP (zR g) (zC g) (ρ 5 + 0 : Int) ∧ (ρ 3 + 0 : Int) = (ρ 5 + 0 : Int) / 2 ∧ (ρ 4 + 0 : Int) = tipI (zC g) (ρ 5 + 0 : Int) := hP _ (List.mem_of_getElem? (i := 2) rfl)
  have h3 : Γ (α 2) = 110 ∧ (∀ q ∈ ([([(6, 113)], 0, 144)] : VSP), wkT Γ M (α 2) q.1) ∧ Q959 g (vsv M (α 2) ([(6, 113)], 0, 144)) (ρ 3 + 0) (ρ 6 + 0) := hP _ (List.mem_of_getElem? (i := 3) rfl)
  have h4 : Γ (α 2) = 110 ∧ (∀ q ∈ ([([(6, 113)], 0, 144)] : VSP), wkT Γ M (α 2) q.1) ∧ Q960 g (vsv M (α 2) ([(6, 113)], 0, 144)) (ρ 4 + 0) (ρ 7 + 0) := hP _ (List.mem_of_getElem? (i := 4) rfl)
  have h5 : ρ 6 + 0 ≤ ρ 7 + 0 := hP _ (List.mem_of_getElem? (i := 5) rfl)
  have h6 : ρ 7 + 0 ≤ ρ 6 + 0 := hP _ (List.mem_of_getElem? (i := 6) rfl)
  try simp only [Int.add_zero] at h0 h1 h2 h3 h4 h5 h6
  have key : (Γ (α 0) = 31 ∧ (∀ q ∈ ([([], 2, 3), ([(3, 32)], 0, 288), ([(4, 33)], 0, 288)] : VSP), wkT Γ M (α 0) q.1) ∧ Q950 g (vsv M (α 0) ([], 2, 3)) (vsv M (α 0) ([(3, 32)], 0, 288)) (vsv M (α 0) ([(4, 33)], 0, 288)) (ρ 5 + 1)) ∧ True := by
    try simp only [Int.add_zero]
    have dm1 := cdim hT g1
    have rc1 := rc_bd dm1.1 dm1.2
    obtain ⟨-, -, p0⟩ := h0
    dsimp only [Q950] at p0
    obtain ⟨-, -, -, -, p1⟩ := h1
    dsimp only [Q769] at p1
    obtain ⟨-, -, p3⟩ := h3
    dsimp only [Q959] at p3
    obtain ⟨-, -, p4⟩ := h4
    dsimp only [Q960] at p4
    obtain ⟨⟨s1, s2⟩, ⟨⟨z1, z2⟩, z3, z4⟩, hS⟩ := p1
    obtain ⟨⟨y1, y2⟩, y3, y4, y5⟩ := h2
    have tl := tip_lt (by omega) y3
    have rc81 : 4 ≤ zR g * zC g ∧ zR g * zC g ≤ 81 := ⟨(rc_bd ⟨z1, by omega⟩ ⟨z3, by omega⟩).1, Int.le_trans (Int.mul_le_mul z2 z4 (by omega) (by decide)) (by decide)⟩
    refine ⟨⟨g0, pic1 hT g0 (by decide) (by decide), ?_⟩, trivial⟩
    · dsimp only [Q950]
      exact seP_no p0 y2 (Or.inr (Or.inr (Or.inl (by rw [← y4, ← y5, ← (hS _ (by omega)).2.2, ← (hS _ (by omega)).2.2, p3.2, p4.2]; omega))))
  exact ⟨nB, qB (key.1) (nB)⟩
def t_nge_a : KT := ((0, 0, 0, 0), [(2, 0, 31, 0), (2, 1, 1, 0), (2, 2, 110, 0), (1, 3, 0, 0), (1, 4, 0, 0), (1, 5, 0, 0), (1, 6, 0, 0), (1, 7, 0, 0), (1, 8, 0, 0), (1, 9, 0, 0)], [(0, 0), (0, 0), (0, 0), (0, 143), (0, 143), (-2147483648, 2147483647), (0, 143), (0, 143), (-2147483648, 2147483647), (-2147483648, 2147483647)], [(950, [(2, 0, 31, 0), (1, 5, 0, 0)]), (769, [(2, 1, 1, 0), (2, 2, 110, 0)]), (729, [(1, 3, 0, 0), (1, 4, 0, 0), (1, 5, 0, 0)]), (959, [(2, 2, 110, 0), (1, 3, 0, 0), (1, 6, 0, 0)]), (960, [(2, 2, 110, 0), (1, 4, 0, 0), (1, 7, 0, 0)]), (21, [(1, 6, 0, 0), (1, 7, 0, 0)]), (730, [(1, 6, 0, 0), (1, 7, 0, 0), (1, 8, 0, 0)]), (961, [(2, 1, 1, 0), (2, 2, 110, 0), (1, 3, 0, 0), (1, 4, 0, 0), (1, 9, 0, 0)])], (0, 0, 0), [], [], ([], [(728, [(1, 5, 0, 0), (1, 8, 0, 0), (1, 9, 0, 0)])]), ([], []))
set_option maxRecDepth 100000 in
theorem l_nge_a (g : GG) : LOK Yt (PSt g) t_nge_a := by
  intro ρ α Γ M as hT hB hA hP
  have g0 : Γ (α 0) = 31 := tyAt hA (i := 0) rfl
  have g1 : Γ (α 1) = 1 := tyAt hA (i := 1) rfl
  have g2 : Γ (α 2) = 110 := tyAt hA (i := 2) rfl
  have b3 : 0 ≤ ρ 3 ∧ ρ 3 ≤ 143 := hB 3
  have b4 : 0 ≤ ρ 4 ∧ ρ 4 ≤ 143 := hB 4
  have b5 : -2147483648 ≤ ρ 5 ∧ ρ 5 ≤ 2147483647 := hB 5
  have b6 : 0 ≤ ρ 6 ∧ ρ 6 ≤ 143 := hB 6
  have b7 : 0 ≤ ρ 7 ∧ ρ 7 ≤ 143 := hB 7
  have b8 : -2147483648 ≤ ρ 8 ∧ ρ 8 ≤ 2147483647 := hB 8
  have b9 : -2147483648 ≤ ρ 9 ∧ ρ 9 ≤ 2147483647 := hB 9
  have h0 : Γ (α 0) = 31 ∧ (∀ q ∈ ([([], 2, 3), ([(3, 32)], 0, 288), ([(4, 33)], 0, 288)] : VSP), wkT Γ M (α 0) q.1) ∧ Q950 g (vsv M (α 0) ([], 2, 3)) (vsv M (α 0) ([(3, 32)], 0, 288)) (vsv M (α 0) ([(4, 33)], 0, 288)) (ρ 5 + 0) := hP _ (List.mem_of_getElem? (i := 0) rfl)
  have h1 : Γ (α 1) = 1 ∧ (∀ q ∈ ([([], 0, 2), ([(2, 2)], 0, 144)] : VSP), wkT Γ M (α 1) q.1) ∧ Γ (α 2) = 110 ∧ (∀ q ∈ ([([(4, 111)], 0, 144), ([(6, 113)], 0, 144)] : VSP), wkT Γ M (α 2) q.1) ∧ Q769 g (vsv M (α 1) ([], 0, 2)) (vsv M (α 1) ([(2, 2)], 0, 144)) (vsv M (α 2) ([(4, 111)], 0, 144)) (vsv M (α 2) ([(6, 113)], 0, 144))  := hP _ (List.mem_of_getElem? (i := 1) rfl)
  have h2 : (0 ≤ (ρ 5 + 0 : Int) ∧ (ρ 5 + 0 : Int) ≤ 199) ∧ edP (zR g) (zC g) (ρ 5 + 0 : Int) ∧ (ρ 3 + 0 : Int) = (ρ 5 + 0 : Int) / 2 ∧ (ρ 4 + 0 : Int) = tipI (zC g) (ρ 5 + 0 : Int) := hP _ (List.mem_of_getElem? (i := 2) rfl)
  have h3 : Γ (α 2) = 110 ∧ (∀ q ∈ ([([(6, 113)], 0, 144)] : VSP), wkT Γ M (α 2) q.1) ∧ Q959 g (vsv M (α 2) ([(6, 113)], 0, 144)) (ρ 3 + 0) (ρ 6 + 0) := hP _ (List.mem_of_getElem? (i := 3) rfl)
  have h4 : Γ (α 2) = 110 ∧ (∀ q ∈ ([([(6, 113)], 0, 144)] : VSP), wkT Γ M (α 2) q.1) ∧ Q960 g (vsv M (α 2) ([(6, 113)], 0, 144)) (ρ 4 + 0) (ρ 7 + 0) := hP _ (List.mem_of_getElem? (i := 4) rfl)
  have h5 : ρ 6 + 0 < ρ 7 + 0 := hP _ (List.mem_of_getElem? (i := 5) rfl)
  have h6 : (ρ 8 + 0 : Int) = 144 * (ρ 6 + 0 : Int) + (ρ 7 + 0 : Int) := hP _ (List.mem_of_getElem? (i := 6) rfl)
  have h7 : Γ (α 1) = 1 ∧ (∀ q ∈ ([([], 0, 2), ([(2, 2)], 0, 144)] : VSP), wkT Γ M (α 1) q.1) ∧ Γ (α 2) = 110 ∧ (∀ q ∈ ([([(4, 111)], 0, 144)] : VSP), wkT Γ M (α 2) q.1) ∧ Q961 g (vsv M (α 1) ([], 0, 2)) (vsv M (α 1) ([(2, 2)], 0, 144)) (vsv M (α 2) ([(4, 111)], 0, 144)) (ρ 3 + 0) (ρ 4 + 0) (ρ 9 + 0) := hP _ (List.mem_of_getElem? (i := 7) rfl)
  try simp only [Int.add_zero] at h0 h1 h2 h3 h4 h5 h6 h7
  have key : ((0 ≤ (ρ 5 + 0 : Int) ∧ (ρ 5 + 0 : Int) ≤ 199) ∧ enQ (zR g) (zC g) (zS g) (zB g) (zI g) (ρ 8 + 0 : Int) (ρ 9 + 0 : Int) ∧ prE (zI g ((ρ 5 + 0 : Int) / 2).toNat) (zI g (tipI (zC g) (ρ 5 + 0 : Int)).toNat) = (ρ 8 + 0 : Int)) ∧ True := by
    try simp only [Int.add_zero]
    have dm1 := cdim hT g1
    have rc1 := rc_bd dm1.1 dm1.2
    obtain ⟨-, -, p0⟩ := h0
    dsimp only [Q950] at p0
    obtain ⟨-, -, -, -, p1⟩ := h1
    dsimp only [Q769] at p1
    obtain ⟨-, -, p3⟩ := h3
    dsimp only [Q959] at p3
    obtain ⟨-, -, p4⟩ := h4
    dsimp only [Q960] at p4
    obtain ⟨-, -, -, -, p7⟩ := h7
    dsimp only [Q961] at p7
    obtain ⟨⟨s1, s2⟩, ⟨⟨z1, z2⟩, z3, z4⟩, hS⟩ := p1
    obtain ⟨⟨y1, y2⟩, y3, y4, y5⟩ := h2
    have tl := tip_lt (by omega) y3
    have rc81 : 4 ≤ zR g * zC g ∧ zR g * zC g ≤ 81 := ⟨(rc_bd ⟨z1, by omega⟩ ⟨z3, by omega⟩).1, Int.le_trans (Int.mul_le_mul z2 z4 (by omega) (by decide)) (by decide)⟩
    refine ⟨?_, trivial⟩
    · have h6 : ρ 8 = 144 * ρ 6 + ρ 7 := h6
      have sa : zI g (ρ 3).toNat = ρ 6 := (hS _ (by omega)).2.2.symm.trans p3.2
      have sb : zI g (ρ 4).toNat = ρ 7 := (hS _ (by omega)).2.2.symm.trans p4.2
      refine ⟨⟨y1, y2⟩, ⟨(ρ 3).toNat, (ρ 4).toNat, ?_, ?_, ?_, ?_⟩, ?_⟩
      · exact ⟨(ρ 5).toNat, by rw [show (((ρ 5).toNat : Nat) : Int) = ρ 5 by omega]; exact y3, trivial, by rw [show (((ρ 5).toNat : Nat) : Int) = ρ 5 by omega]; omega⟩
      · rw [sa, sb]
        omega
      · rw [sa, sb]
        exact h6
      · rw [p7]
        unfold stA
        rw [(hS _ (by omega)).1, (hS _ (by omega)).1, (hS _ (by omega)).2.1, (hS _ (by omega)).2.1]
      · rw [← y4, ← y5, sa, sb]
        unfold prE
        rw [if_pos h5]
        omega
  exact ⟨nB, qB (key.1) (nB)⟩
def t_nge_b : KT := ((0, 0, 0, 0), [(2, 0, 31, 0), (2, 1, 1, 0), (2, 2, 110, 0), (1, 3, 0, 0), (1, 4, 0, 0), (1, 5, 0, 0), (1, 6, 0, 0), (1, 7, 0, 0), (1, 8, 0, 0), (1, 9, 0, 0)], [(0, 0), (0, 0), (0, 0), (0, 143), (0, 143), (-2147483648, 2147483647), (0, 143), (0, 143), (-2147483648, 2147483647), (-2147483648, 2147483647)], [(950, [(2, 0, 31, 0), (1, 5, 0, 0)]), (769, [(2, 1, 1, 0), (2, 2, 110, 0)]), (729, [(1, 3, 0, 0), (1, 4, 0, 0), (1, 5, 0, 0)]), (959, [(2, 2, 110, 0), (1, 3, 0, 0), (1, 6, 0, 0)]), (960, [(2, 2, 110, 0), (1, 4, 0, 0), (1, 7, 0, 0)]), (6, [(1, 7, 0, 0), (1, 6, 0, 0)]), (730, [(1, 7, 0, 0), (1, 6, 0, 0), (1, 8, 0, 0)]), (961, [(2, 1, 1, 0), (2, 2, 110, 0), (1, 4, 0, 0), (1, 3, 0, 0), (1, 9, 0, 0)]), (99, [(1, 6, 0, 0), (1, 7, 0, 0), (0, 0, 0, 0)])], (0, 0, 0), [], [], ([], [(728, [(1, 5, 0, 0), (1, 8, 0, 0), (1, 9, 0, 0)])]), ([], []))
set_option maxRecDepth 100000 in
theorem l_nge_b (g : GG) : LOK Yt (PSt g) t_nge_b := by
  intro ρ α Γ M as hT hB hA hP
  have g0 : Γ (α 0) = 31 := tyAt hA (i := 0) rfl
  have g1 : Γ (α 1) = 1 := tyAt hA (i := 1) rfl
  have g2 : Γ (α 2) = 110 := tyAt hA (i := 2) rfl
  have b3 : 0 ≤ ρ 3 ∧ ρ 3 ≤ 143 := hB 3
  have b4 : 0 ≤ ρ 4 ∧ ρ 4 ≤ 143 := hB 4
  have b5 : -2147483648 ≤ ρ 5 ∧ ρ 5 ≤ 2147483647 := hB 5
  have b6 : 0 ≤ ρ 6 ∧ ρ 6 ≤ 143 := hB 6
  have b7 : 0 ≤ ρ 7 ∧ ρ 7 ≤ 143 := hB 7
  have b8 : -2147483648 ≤ ρ 8 ∧ ρ 8 ≤ 2147483647 := hB 8
  have b9 : -2147483648 ≤ ρ 9 ∧ ρ 9 ≤ 2147483647 := hB 9
  have h0 : Γ (α 0) = 31 ∧ (∀ q ∈ ([([], 2, 3), ([(3, 32)], 0, 288), ([(4, 33)], 0, 288)] : VSP), wkT Γ M (α 0) q.1) ∧ Q950 g (vsv M (α 0) ([], 2, 3)) (vsv M (α 0) ([(3, 32)], 0, 288)) (vsv M (α 0) ([(4, 33)], 0, 288)) (ρ 5 + 0) := hP _ (List.mem_of_getElem? (i := 0) rfl)
  have h1 : Γ (α 1) = 1 ∧ (∀ q ∈ ([([], 0, 2), ([(2, 2)], 0, 144)] : VSP), wkT Γ M (α 1) q.1) ∧ Γ (α 2) = 110 ∧ (∀ q ∈ ([([(4, 111)], 0, 144), ([(6, 113)], 0, 144)] : VSP), wkT Γ M (α 2) q.1) ∧ Q769 g (vsv M (α 1) ([], 0, 2)) (vsv M (α 1) ([(2, 2)], 0, 144)) (vsv M (α 2) ([(4, 111)], 0, 144)) (vsv M (α 2) ([(6, 113)], 0, 144))  := hP _ (List.mem_of_getElem? (i := 1) rfl)
  have h2 : (0 ≤ (ρ 5 + 0 : Int) ∧ (ρ 5 + 0 : Int) ≤ 199) ∧ edP (zR g) (zC g) (ρ 5 + 0 : Int) ∧ (ρ 3 + 0 : Int) = (ρ 5 + 0 : Int) / 2 ∧ (ρ 4 + 0 : Int) = tipI (zC g) (ρ 5 + 0 : Int) := hP _ (List.mem_of_getElem? (i := 2) rfl)
  have h3 : Γ (α 2) = 110 ∧ (∀ q ∈ ([([(6, 113)], 0, 144)] : VSP), wkT Γ M (α 2) q.1) ∧ Q959 g (vsv M (α 2) ([(6, 113)], 0, 144)) (ρ 3 + 0) (ρ 6 + 0) := hP _ (List.mem_of_getElem? (i := 3) rfl)
  have h4 : Γ (α 2) = 110 ∧ (∀ q ∈ ([([(6, 113)], 0, 144)] : VSP), wkT Γ M (α 2) q.1) ∧ Q960 g (vsv M (α 2) ([(6, 113)], 0, 144)) (ρ 4 + 0) (ρ 7 + 0) := hP _ (List.mem_of_getElem? (i := 4) rfl)
  have h5 : ρ 7 + 0 ≤ ρ 6 + 0 := hP _ (List.mem_of_getElem? (i := 5) rfl)
  have h6 : (ρ 8 + 0 : Int) = 144 * (ρ 7 + 0 : Int) + (ρ 6 + 0 : Int) := hP _ (List.mem_of_getElem? (i := 6) rfl)
  have h7 : Γ (α 1) = 1 ∧ (∀ q ∈ ([([], 0, 2), ([(2, 2)], 0, 144)] : VSP), wkT Γ M (α 1) q.1) ∧ Γ (α 2) = 110 ∧ (∀ q ∈ ([([(4, 111)], 0, 144)] : VSP), wkT Γ M (α 2) q.1) ∧ Q961 g (vsv M (α 1) ([], 0, 2)) (vsv M (α 1) ([(2, 2)], 0, 144)) (vsv M (α 2) ([(4, 111)], 0, 144)) (ρ 4 + 0) (ρ 3 + 0) (ρ 9 + 0) := hP _ (List.mem_of_getElem? (i := 7) rfl)
  have h8 : (ρ 6 + 0 : Int) ≠ ρ 7 + 0 := hP _ (List.mem_of_getElem? (i := 8) rfl)
  try simp only [Int.add_zero] at h0 h1 h2 h3 h4 h5 h6 h7 h8
  have key : ((0 ≤ (ρ 5 + 0 : Int) ∧ (ρ 5 + 0 : Int) ≤ 199) ∧ enQ (zR g) (zC g) (zS g) (zB g) (zI g) (ρ 8 + 0 : Int) (ρ 9 + 0 : Int) ∧ prE (zI g ((ρ 5 + 0 : Int) / 2).toNat) (zI g (tipI (zC g) (ρ 5 + 0 : Int)).toNat) = (ρ 8 + 0 : Int)) ∧ True := by
    try simp only [Int.add_zero]
    have dm1 := cdim hT g1
    have rc1 := rc_bd dm1.1 dm1.2
    obtain ⟨-, -, p0⟩ := h0
    dsimp only [Q950] at p0
    obtain ⟨-, -, -, -, p1⟩ := h1
    dsimp only [Q769] at p1
    obtain ⟨-, -, p3⟩ := h3
    dsimp only [Q959] at p3
    obtain ⟨-, -, p4⟩ := h4
    dsimp only [Q960] at p4
    obtain ⟨-, -, -, -, p7⟩ := h7
    dsimp only [Q961] at p7
    obtain ⟨⟨s1, s2⟩, ⟨⟨z1, z2⟩, z3, z4⟩, hS⟩ := p1
    obtain ⟨⟨y1, y2⟩, y3, y4, y5⟩ := h2
    have tl := tip_lt (by omega) y3
    have rc81 : 4 ≤ zR g * zC g ∧ zR g * zC g ≤ 81 := ⟨(rc_bd ⟨z1, by omega⟩ ⟨z3, by omega⟩).1, Int.le_trans (Int.mul_le_mul z2 z4 (by omega) (by decide)) (by decide)⟩
    have h8 : ρ 6 ≠ ρ 7 := h8
    refine ⟨?_, trivial⟩
    · have h6 : ρ 8 = 144 * ρ 7 + ρ 6 := h6
      have sa : zI g (ρ 3).toNat = ρ 6 := (hS _ (by omega)).2.2.symm.trans p3.2
      have sb : zI g (ρ 4).toNat = ρ 7 := (hS _ (by omega)).2.2.symm.trans p4.2
      refine ⟨⟨y1, y2⟩, ⟨(ρ 4).toNat, (ρ 3).toNat, ?_, ?_, ?_, ?_⟩, ?_⟩
      · exact ⟨(ρ 5).toNat, by rw [show (((ρ 5).toNat : Nat) : Int) = ρ 5 by omega]; exact y3, trivial, by rw [show (((ρ 5).toNat : Nat) : Int) = ρ 5 by omega]; omega⟩
      · rw [sa, sb]
        omega
      · rw [sa, sb]
        exact h6
      · rw [p7]
        unfold stA
        rw [(hS _ (by omega)).1, (hS _ (by omega)).1, (hS _ (by omega)).2.1, (hS _ (by omega)).2.1]
      · rw [← y4, ← y5, sa, sb]
        unfold prE
        rw [if_neg (by omega)]
        omega
  exact ⟨nB, qB (key.1) (nB)⟩
def t_nsg_0 : KT := ((0, 0, 0, 0), [(2, 0, 31, 0), (1, 1, 0, 0)], [(0, 0), (0, 0)], [(10, [(2, 0, 31, 0), (0, 0, 0, 2), (0, 0, 0, 0)])], (0, 0, 0), [], [], ([], [(950, [(2, 0, 31, 0), (1, 1, 0, 0)])]), ([], []))
set_option maxRecDepth 100000 in
theorem l_nsg_0 (g : GG) : LOK Yt (PSt g) t_nsg_0 := by
  intro ρ α Γ M as hT hB hA hP
  have g0 : Γ (α 0) = 31 := tyAt hA (i := 0) rfl
  have b1 : 0 ≤ ρ 1 ∧ ρ 1 ≤ 0 := hB 1
  have h0 : 0 ≤ (2 : Int) ∧ M.2.2.2.2 (α 0) (2 : Int).toNat = 0 := hP _ (List.mem_of_getElem? (i := 0) rfl)
  try simp only [Int.add_zero] at h0
  have key : (Γ (α 0) = 31 ∧ (∀ q ∈ ([([], 2, 3), ([(3, 32)], 0, 288), ([(4, 33)], 0, 288)] : VSP), wkT Γ M (α 0) q.1) ∧ Q950 g (vsv M (α 0) ([], 2, 3)) (vsv M (α 0) ([(3, 32)], 0, 288)) (vsv M (α 0) ([(4, 33)], 0, 288)) (ρ 1 + 0)) ∧ True := by
    try simp only [Int.add_zero]
    have e0 : M.2.2.2.2 (α 0) 2 = 0 := h0.2
    refine ⟨⟨g0, pic1 hT g0 (by decide) (by decide), ?_⟩, trivial⟩
    · dsimp only [Q950]
      rw [(vs0 (by decide) (by decide) : (vsv M (α 0) ([], 2, 3)) 2 = _).trans e0, show ρ 1 = 0 by omega]
      exact ⟨⟨Int.le_refl _, Int.le_refl _, by decide⟩, fun s hs => by omega, fun e he => by omega⟩
  exact ⟨nB, qB (key.1) (nB)⟩
def t_nsg_1 : KT := ((0, 0, 0, 0), [(2, 0, 1, 0), (2, 1, 110, 0), (1, 2, 0, 0), (1, 3, 0, 0), (1, 4, 0, 0)], [(0, 0), (0, 0), (0, 143), (0, 143), (0, 287)], [(726, [(1, 4, 0, 0), (1, 2, 0, 0)]), (491, [(2, 0, 1, 0), (1, 4, 0, 0), (1, 3, 0, 0)]), (3, [(2, 0, 1, 0), (1, 4, 0, 0)]), (769, [(2, 0, 1, 0), (2, 1, 110, 0)])], (0, 0, 0), [], [], ([], [(729, [(1, 2, 0, 0), (1, 3, 0, 0), (1, 4, 0, 0)]), (2, [(2, 0, 1, 0), (1, 2, 0, 0)]), (2, [(2, 0, 1, 0), (1, 3, 0, 0)])]), ([], []))
set_option maxRecDepth 100000 in
theorem l_nsg_1 (g : GG) : LOK Yt (PSt g) t_nsg_1 := by
  intro ρ α Γ M as hT hB hA hP
  have g0 : Γ (α 0) = 1 := tyAt hA (i := 0) rfl
  have g1 : Γ (α 1) = 110 := tyAt hA (i := 1) rfl
  have b2 : 0 ≤ ρ 2 ∧ ρ 2 ≤ 143 := hB 2
  have b3 : 0 ≤ ρ 3 ∧ ρ 3 ≤ 143 := hB 3
  have b4 : 0 ≤ ρ 4 ∧ ρ 4 ≤ 287 := hB 4
  have h0 : (ρ 2 + 0 : Int) = (ρ 4 + 0 : Int) / 2 := hP _ (List.mem_of_getElem? (i := 0) rfl)
  have h1 : Γ (α 0) = 1 ∧ (∀ q ∈ ([([], 0, 2)] : VSP), wkT Γ M (α 0) q.1) ∧ Q491 g (vsv M (α 0) ([], 0, 2)) (ρ 4 + 0) (ρ 3 + 0) := hP _ (List.mem_of_getElem? (i := 1) rfl)
  have h2 : Γ (α 0) = 1 ∧ edP (M.2.2.2.2 (α 0) 0) (M.2.2.2.2 (α 0) 1) (ρ 4 + 0) := hP _ (List.mem_of_getElem? (i := 2) rfl)
  have h3 : Γ (α 0) = 1 ∧ (∀ q ∈ ([([], 0, 2), ([(2, 2)], 0, 144)] : VSP), wkT Γ M (α 0) q.1) ∧ Γ (α 1) = 110 ∧ (∀ q ∈ ([([(4, 111)], 0, 144), ([(6, 113)], 0, 144)] : VSP), wkT Γ M (α 1) q.1) ∧ Q769 g (vsv M (α 0) ([], 0, 2)) (vsv M (α 0) ([(2, 2)], 0, 144)) (vsv M (α 1) ([(4, 111)], 0, 144)) (vsv M (α 1) ([(6, 113)], 0, 144))  := hP _ (List.mem_of_getElem? (i := 3) rfl)
  try simp only [Int.add_zero] at h0 h1 h2 h3
  have key : ((0 ≤ (ρ 4 + 0 : Int) ∧ (ρ 4 + 0 : Int) ≤ 199) ∧ edP (zR g) (zC g) (ρ 4 + 0 : Int) ∧ (ρ 2 + 0 : Int) = (ρ 4 + 0 : Int) / 2 ∧ (ρ 3 + 0 : Int) = tipI (zC g) (ρ 4 + 0 : Int)) ∧ (Γ (α 0) = 1 ∧ 0 ≤ ρ 2 + 0 ∧ ρ 2 + 0 < M.2.2.2.2 (α 0) 0 * M.2.2.2.2 (α 0) 1) ∧ (Γ (α 0) = 1 ∧ 0 ≤ ρ 3 + 0 ∧ ρ 3 + 0 < M.2.2.2.2 (α 0) 0 * M.2.2.2.2 (α 0) 1) ∧ True := by
    try simp only [Int.add_zero]
    have dm0 := cdim hT g0
    have rc0 := rc_bd dm0.1 dm0.2
    obtain ⟨-, -, p1⟩ := h1
    dsimp only [Q491] at p1
    obtain ⟨-, -, -, -, p3⟩ := h3
    dsimp only [Q769] at p3
    have m0 : (vsv M (α 0) ([], 0, 2)) 0 = M.2.2.2.2 (α 0) 0 := vs0 (by decide) (by decide)
    have m1 : (vsv M (α 0) ([], 0, 2)) 1 = M.2.2.2.2 (α 0) 1 := vs0 (by decide) (by decide)
    
    obtain ⟨⟨s1, s2⟩, ⟨⟨z1, z2⟩, z3, z4⟩, hS⟩ := p3
    have y := h2.2
    rw [← m0, ← m1, s1, s2] at y
    rw [s2] at p1
    have h0 : ρ 2 = ρ 4 / 2 := h0
    have tl := tip_lt (by omega) y
    have rc81 : 4 ≤ zR g * zC g ∧ zR g * zC g ≤ 81 := ⟨(rc_bd ⟨z1, by omega⟩ ⟨z3, by omega⟩).1, Int.le_trans (Int.mul_le_mul z2 z4 (by omega) (by decide)) (by decide)⟩
    have y6 := y.2.1
    refine ⟨?_, ?_, ?_, trivial⟩
    · exact ⟨⟨b4.1, by omega⟩, y, h0, p1⟩
    · exact ⟨g0, b2.1, by rw [← m0, ← m1, s1, s2]; omega⟩
    · exact ⟨g0, b3.1, by rw [← m0, ← m1, s1, s2]; omega⟩
  exact ⟨nB, qB (key.1) (qB (key.2.1) (qB (key.2.2.1) (nB)))⟩
def t_nsg_2 : KT := ((0, 0, 0, 0), [(2, 0, 31, 0), (2, 1, 1, 0), (2, 2, 110, 0), (1, 3, 0, 0), (1, 4, 0, 0), (1, 5, 0, 0)], [(0, 0), (0, 0), (0, 0), (0, 287), (-2147483648, 2147483647), (-2147483648, 2147483647)], [(950, [(2, 0, 31, 0), (1, 3, 0, 0)]), (769, [(2, 1, 1, 0), (2, 2, 110, 0)]), (483, [(2, 1, 1, 0), (1, 3, 0, 0)]), (5, [(2, 1, 1, 0), (1, 4, 0, 0)]), (25, [(0, 0, 0, 2), (1, 4, 0, 0), (1, 5, 0, 0)]), (21, [(1, 3, 0, 0), (1, 5, 0, 0)])], (0, 0, 0), [], [], ([], [(950, [(2, 0, 31, 0), (1, 3, 0, 1)])]), ([], []))
set_option maxRecDepth 100000 in
theorem l_nsg_2 (g : GG) : LOK Yt (PSt g) t_nsg_2 := by
  intro ρ α Γ M as hT hB hA hP
  have g0 : Γ (α 0) = 31 := tyAt hA (i := 0) rfl
  have g1 : Γ (α 1) = 1 := tyAt hA (i := 1) rfl
  have g2 : Γ (α 2) = 110 := tyAt hA (i := 2) rfl
  have b3 : 0 ≤ ρ 3 ∧ ρ 3 ≤ 287 := hB 3
  have b4 : -2147483648 ≤ ρ 4 ∧ ρ 4 ≤ 2147483647 := hB 4
  have b5 : -2147483648 ≤ ρ 5 ∧ ρ 5 ≤ 2147483647 := hB 5
  have h0 : Γ (α 0) = 31 ∧ (∀ q ∈ ([([], 2, 3), ([(3, 32)], 0, 288), ([(4, 33)], 0, 288)] : VSP), wkT Γ M (α 0) q.1) ∧ Q950 g (vsv M (α 0) ([], 2, 3)) (vsv M (α 0) ([(3, 32)], 0, 288)) (vsv M (α 0) ([(4, 33)], 0, 288)) (ρ 3 + 0) := hP _ (List.mem_of_getElem? (i := 0) rfl)
  have h1 : Γ (α 1) = 1 ∧ (∀ q ∈ ([([], 0, 2), ([(2, 2)], 0, 144)] : VSP), wkT Γ M (α 1) q.1) ∧ Γ (α 2) = 110 ∧ (∀ q ∈ ([([(4, 111)], 0, 144), ([(6, 113)], 0, 144)] : VSP), wkT Γ M (α 2) q.1) ∧ Q769 g (vsv M (α 1) ([], 0, 2)) (vsv M (α 1) ([(2, 2)], 0, 144)) (vsv M (α 2) ([(4, 111)], 0, 144)) (vsv M (α 2) ([(6, 113)], 0, 144))  := hP _ (List.mem_of_getElem? (i := 1) rfl)
  have h2 : Γ (α 1) = 1 ∧ (∀ q ∈ ([([], 0, 2)] : VSP), wkT Γ M (α 1) q.1) ∧ Q483 g (vsv M (α 1) ([], 0, 2)) (ρ 3 + 0) := hP _ (List.mem_of_getElem? (i := 2) rfl)
  have h3 : Γ (α 1) = 1 ∧ ρ 4 + 0 = M.2.2.2.2 (α 1) 0 * M.2.2.2.2 (α 1) 1 := hP _ (List.mem_of_getElem? (i := 3) rfl)
  have h4 : ρ 5 + 0 = wI ((2) * (ρ 4 + 0)) := hP _ (List.mem_of_getElem? (i := 4) rfl)
  have h5 : ρ 3 + 0 < ρ 5 + 0 := hP _ (List.mem_of_getElem? (i := 5) rfl)
  try simp only [Int.add_zero] at h0 h1 h2 h3 h4 h5
  have key : (Γ (α 0) = 31 ∧ (∀ q ∈ ([([], 2, 3), ([(3, 32)], 0, 288), ([(4, 33)], 0, 288)] : VSP), wkT Γ M (α 0) q.1) ∧ Q950 g (vsv M (α 0) ([], 2, 3)) (vsv M (α 0) ([(3, 32)], 0, 288)) (vsv M (α 0) ([(4, 33)], 0, 288)) (ρ 3 + 1)) ∧ True := by
    try simp only [Int.add_zero]
    have dm1 := cdim hT g1
    have rc1 := rc_bd dm1.1 dm1.2
    obtain ⟨-, -, p0⟩ := h0
    dsimp only [Q950] at p0
    obtain ⟨-, -, -, -, p1⟩ := h1
    dsimp only [Q769] at p1
    obtain ⟨-, -, p2⟩ := h2
    dsimp only [Q483] at p2
    have m0 : (vsv M (α 1) ([], 0, 2)) 0 = M.2.2.2.2 (α 1) 0 := vs0 (by decide) (by decide)
    have m1 : (vsv M (α 1) ([], 0, 2)) 1 = M.2.2.2.2 (α 1) 1 := vs0 (by decide) (by decide)
    refine ⟨⟨g0, pic1 hT g0 (by decide) (by decide), ?_⟩, trivial⟩
    · dsimp only [Q950]
      obtain ⟨⟨s1, s2⟩, ⟨⟨z1, z2⟩, z3, z4⟩, -⟩ := p1
      rw [s1, s2] at p2
      have h3 := h3.2
      rw [← m0, ← m1, s1, s2] at h3
      have rc81 : 4 ≤ zR g * zC g ∧ zR g * zC g ≤ 81 := ⟨(rc_bd ⟨z1, by omega⟩ ⟨z3, by omega⟩).1, Int.le_trans (Int.mul_le_mul z2 z4 (by omega) (by decide)) (by decide)⟩
      rw [wI_id (by unfold inI; omega)] at h4
      exact seP_no p0 (by omega) (Or.inr (Or.inr (Or.inr p2)))
  exact ⟨nB, qB (key.1) (nB)⟩
def t_nsg_3 : KT := ((0, 0, 0, 0), [(2, 0, 31, 0), (2, 1, 1, 0), (2, 2, 110, 0), (1, 3, 0, 0), (1, 4, 0, 0), (1, 5, 0, 0)], [(0, 0), (0, 0), (0, 0), (-2147483648, 2147483647), (-2147483648, 2147483647), (-2147483648, 2147483647)], [(950, [(2, 0, 31, 0), (1, 3, 0, 0)]), (769, [(2, 1, 1, 0), (2, 2, 110, 0)]), (5, [(2, 1, 1, 0), (1, 4, 0, 0)]), (25, [(0, 0, 0, 2), (1, 4, 0, 0), (1, 5, 0, 0)]), (6, [(1, 5, 0, 0), (1, 3, 0, 0)])], (0, 0, 0), [], [], ([], [(770, [(2, 0, 31, 0), (2, 1, 1, 0), (2, 2, 110, 0)])]), ([], []))
set_option maxRecDepth 100000 in
theorem l_nsg_3 (g : GG) : LOK Yt (PSt g) t_nsg_3 := by
  intro ρ α Γ M as hT hB hA hP
  have g0 : Γ (α 0) = 31 := tyAt hA (i := 0) rfl
  have g1 : Γ (α 1) = 1 := tyAt hA (i := 1) rfl
  have g2 : Γ (α 2) = 110 := tyAt hA (i := 2) rfl
  have b3 : -2147483648 ≤ ρ 3 ∧ ρ 3 ≤ 2147483647 := hB 3
  have b4 : -2147483648 ≤ ρ 4 ∧ ρ 4 ≤ 2147483647 := hB 4
  have b5 : -2147483648 ≤ ρ 5 ∧ ρ 5 ≤ 2147483647 := hB 5
  have h0 : Γ (α 0) = 31 ∧ (∀ q ∈ ([([], 2, 3), ([(3, 32)], 0, 288), ([(4, 33)], 0, 288)] : VSP), wkT Γ M (α 0) q.1) ∧ Q950 g (vsv M (α 0) ([], 2, 3)) (vsv M (α 0) ([(3, 32)], 0, 288)) (vsv M (α 0) ([(4, 33)], 0, 288)) (ρ 3 + 0) := hP _ (List.mem_of_getElem? (i := 0) rfl)
  have h1 : Γ (α 1) = 1 ∧ (∀ q ∈ ([([], 0, 2), ([(2, 2)], 0, 144)] : VSP), wkT Γ M (α 1) q.1) ∧ Γ (α 2) = 110 ∧ (∀ q ∈ ([([(4, 111)], 0, 144), ([(6, 113)], 0, 144)] : VSP), wkT Γ M (α 2) q.1) ∧ Q769 g (vsv M (α 1) ([], 0, 2)) (vsv M (α 1) ([(2, 2)], 0, 144)) (vsv M (α 2) ([(4, 111)], 0, 144)) (vsv M (α 2) ([(6, 113)], 0, 144))  := hP _ (List.mem_of_getElem? (i := 1) rfl)
  have h2 : Γ (α 1) = 1 ∧ ρ 4 + 0 = M.2.2.2.2 (α 1) 0 * M.2.2.2.2 (α 1) 1 := hP _ (List.mem_of_getElem? (i := 2) rfl)
  have h3 : ρ 5 + 0 = wI ((2) * (ρ 4 + 0)) := hP _ (List.mem_of_getElem? (i := 3) rfl)
  have h4 : ρ 5 + 0 ≤ ρ 3 + 0 := hP _ (List.mem_of_getElem? (i := 4) rfl)
  try simp only [Int.add_zero] at h0 h1 h2 h3 h4
  have key : (Γ (α 0) = 31 ∧ (∀ q ∈ ([([], 2, 3), ([(3, 32)], 0, 288), ([(4, 33)], 0, 288)] : VSP), wkT Γ M (α 0) q.1) ∧ Γ (α 1) = 1 ∧ (∀ q ∈ ([([], 0, 2), ([(2, 2)], 0, 144)] : VSP), wkT Γ M (α 1) q.1) ∧ Γ (α 2) = 110 ∧ (∀ q ∈ ([([(4, 111)], 0, 144), ([(6, 113)], 0, 144)] : VSP), wkT Γ M (α 2) q.1) ∧ Q770 g (vsv M (α 0) ([], 2, 3)) (vsv M (α 0) ([(3, 32)], 0, 288)) (vsv M (α 0) ([(4, 33)], 0, 288)) (vsv M (α 1) ([], 0, 2)) (vsv M (α 1) ([(2, 2)], 0, 144)) (vsv M (α 2) ([(4, 111)], 0, 144)) (vsv M (α 2) ([(6, 113)], 0, 144)) ) ∧ True := by
    try simp only [Int.add_zero]
    have dm1 := cdim hT g1
    have rc1 := rc_bd dm1.1 dm1.2
    obtain ⟨-, -, p0⟩ := h0
    dsimp only [Q950] at p0
    obtain ⟨-, -, -, -, p1⟩ := h1
    dsimp only [Q769] at p1
    have m0 : (vsv M (α 1) ([], 0, 2)) 0 = M.2.2.2.2 (α 1) 0 := vs0 (by decide) (by decide)
    have m1 : (vsv M (α 1) ([], 0, 2)) 1 = M.2.2.2.2 (α 1) 1 := vs0 (by decide) (by decide)
    refine ⟨⟨g0, pic1 hT g0 (by decide) (by decide), g1, pic1 hT g1 (by decide) (by decide), g2, pic1 hT g2 (by decide) (by decide), ?_⟩, trivial⟩
    · dsimp only [Q770]
      obtain ⟨⟨s1, s2⟩, ⟨⟨z1, z2⟩, z3, z4⟩, hS⟩ := p1
      have h2 := h2.2
      rw [← m0, ← m1] at h2
      rw [wI_id (by unfold inI; omega)] at h3
      refine ⟨ρ 3, by omega, ?_⟩
      have rc81 : 4 ≤ zR g * zC g ∧ zR g * zC g ≤ 81 := ⟨(rc_bd ⟨z1, by omega⟩ ⟨z3, by omega⟩).1, Int.le_trans (Int.mul_le_mul z2 z4 (by omega) (by decide)) (by decide)⟩
      obtain ⟨q1, q2, q3⟩ := p0
      rw [← s1, ← s2] at q2 q3
      refine ⟨q1, fun s hs => ?_, fun e he h1 h2 h3 h4 => ?_⟩
      · obtain ⟨a, b, x1, x2, x3, x4⟩ := q2 s hs
        have hl := lk_lt (by omega) x1
        refine ⟨a, b, x1, ?_⟩
        unfold stA at x4 ⊢
        rw [(hS a (by omega)).1, (hS b (by omega)).1, (hS a (by omega)).2.1, (hS b (by omega)).2.1, (hS a (by omega)).2.2, (hS b (by omega)).2.2]
        exact ⟨x2, x3, x4⟩
      · have tl := tip_lt (by omega) h1
        rw [(hS _ (by omega)).2.2] at h2 h4 ⊢
        rw [(hS _ (by omega)).2.2] at h3 h4 ⊢
        exact q3 e he h1 h2 h3 h4
  exact ⟨nB, qB (key.1) (nB)⟩
def t_nep_0 : KT := ((0, 0, 0, 0), [(2, 0, 31, 0), (1, 1, 0, 0), (1, 2, 0, 0)], [(0, 0), (0, 288), (-2147483648, 2147483647)], [], (0, 0, 0), [], [], ([], [(774, [(2, 0, 31, 0), (1, 1, 0, 0), (1, 2, 0, 0), (1, 1, 0, 0)])]), ([], []))
set_option maxRecDepth 100000 in
theorem l_nep_0 (g : GG) : LOK Yt (PSt g) t_nep_0 := by
  intro ρ α Γ M as hT hB hA hP
  have g0 : Γ (α 0) = 31 := tyAt hA (i := 0) rfl
  have b1 : 0 ≤ ρ 1 ∧ ρ 1 ≤ 288 := hB 1
  have b2 : -2147483648 ≤ ρ 2 ∧ ρ 2 ≤ 2147483647 := hB 2
  have key : (Γ (α 0) = 31 ∧ (∀ q ∈ ([([], 2, 3), ([(3, 32)], 0, 288)] : VSP), wkT Γ M (α 0) q.1) ∧ Q774 g (vsv M (α 0) ([], 2, 3)) (vsv M (α 0) ([(3, 32)], 0, 288)) (ρ 1 + 0) (ρ 2 + 0) (ρ 1 + 0)) ∧ True := by
    try simp only [Int.add_zero]
    refine ⟨⟨g0, pic1 hT g0 (by decide) (by decide), ?_⟩, trivial⟩
    · dsimp only [Q774]
      exact ⟨Int.le_refl _, fun j h1 h2 => by omega⟩
  exact ⟨nB, qB (key.1) (nB)⟩
def t_nep_1 : KT := ((0, 0, 0, 0), [(2, 0, 31, 0), (1, 1, 0, 0), (1, 2, 0, 0), (1, 3, 0, 0), (2, 4, 32, 0), (1, 5, 0, 0), (1, 6, 0, 0)], [(0, 0), (0, 288), (-2147483648, 2147483647), (0, 287), (0, 0), (-2147483648, 2147483647), (-2147483648, 2147483647)], [(774, [(2, 0, 31, 0), (1, 1, 0, 0), (1, 2, 0, 0), (1, 3, 0, 0)]), (11, [(2, 0, 31, 0), (0, 0, 0, 3), (2, 4, 32, 0)]), (10, [(2, 4, 32, 0), (1, 3, 0, 0), (1, 5, 0, 0)]), (6, [(1, 5, 0, 0), (1, 2, 0, 0)]), (6, [(1, 2, 0, 0), (1, 5, 0, 0)]), (10, [(2, 0, 31, 0), (0, 0, 0, 2), (1, 6, 0, 0)]), (21, [(1, 3, 0, 0), (1, 6, 0, 0)])], (0, 0, 0), [], [], ([], [(774, [(2, 0, 31, 0), (1, 1, 0, 0), (1, 2, 0, 0), (1, 3, 0, 1)])]), ([], []))
set_option maxRecDepth 100000 in
theorem l_nep_1 (g : GG) : LOK Yt (PSt g) t_nep_1 := by
  intro ρ α Γ M as hT hB hA hP
  have g0 : Γ (α 0) = 31 := tyAt hA (i := 0) rfl
  have b1 : 0 ≤ ρ 1 ∧ ρ 1 ≤ 288 := hB 1
  have b2 : -2147483648 ≤ ρ 2 ∧ ρ 2 ≤ 2147483647 := hB 2
  have b3 : 0 ≤ ρ 3 ∧ ρ 3 ≤ 287 := hB 3
  have g4 : Γ (α 4) = 32 := tyAt hA (i := 4) rfl
  have b5 : -2147483648 ≤ ρ 5 ∧ ρ 5 ≤ 2147483647 := hB 5
  have b6 : -2147483648 ≤ ρ 6 ∧ ρ 6 ≤ 2147483647 := hB 6
  have h0 : Γ (α 0) = 31 ∧ (∀ q ∈ ([([], 2, 3), ([(3, 32)], 0, 288)] : VSP), wkT Γ M (α 0) q.1) ∧ Q774 g (vsv M (α 0) ([], 2, 3)) (vsv M (α 0) ([(3, 32)], 0, 288)) (ρ 1 + 0) (ρ 2 + 0) (ρ 3 + 0) := hP _ (List.mem_of_getElem? (i := 0) rfl)
  have h1 : 0 ≤ (3 : Int) ∧ M.2.2.2.1 (α 0) (3 : Int).toNat = some (α 4) := hP _ (List.mem_of_getElem? (i := 1) rfl)
  have h2 : 0 ≤ (ρ 3 + 0 : Int) ∧ M.2.2.2.2 (α 4) (ρ 3 + 0 : Int).toNat = ρ 5 + 0 := hP _ (List.mem_of_getElem? (i := 2) rfl)
  have h3 : ρ 5 + 0 ≤ ρ 2 + 0 := hP _ (List.mem_of_getElem? (i := 3) rfl)
  have h4 : ρ 2 + 0 ≤ ρ 5 + 0 := hP _ (List.mem_of_getElem? (i := 4) rfl)
  have h5 : 0 ≤ (2 : Int) ∧ M.2.2.2.2 (α 0) (2 : Int).toNat = ρ 6 + 0 := hP _ (List.mem_of_getElem? (i := 5) rfl)
  have h6 : ρ 3 + 0 < ρ 6 + 0 := hP _ (List.mem_of_getElem? (i := 6) rfl)
  try simp only [Int.add_zero] at h0 h1 h2 h3 h4 h5 h6
  have key : (Γ (α 0) = 31 ∧ (∀ q ∈ ([([], 2, 3), ([(3, 32)], 0, 288)] : VSP), wkT Γ M (α 0) q.1) ∧ Q774 g (vsv M (α 0) ([], 2, 3)) (vsv M (α 0) ([(3, 32)], 0, 288)) (ρ 1 + 0) (ρ 2 + 0) (ρ 3 + 1)) ∧ True := by
    try simp only [Int.add_zero]
    obtain ⟨-, -, p0⟩ := h0
    dsimp only [Q774] at p0
    have e1 : M.2.2.2.1 (α 0) 3 = some (α 4) := h1.2
    have e2 : M.2.2.2.2 (α 4) (ρ 3).toNat = ρ 5 := h2.2
    have e5 : M.2.2.2.2 (α 0) 2 = ρ 6 := h5.2
    have c2 : (vsv M (α 0) ([], 2, 3)) 2 = ρ 6 := (vs0 (by decide) (by decide)).trans e5
    refine ⟨⟨g0, pic1 hT g0 (by decide) (by decide), ?_⟩, trivial⟩
    · dsimp only [Q774]
      refine ⟨by omega, fun j h1 h2 => ?_⟩
      by_cases hj : (j : Int) = ρ 3
      · refine ⟨by rw [c2]; omega, ?_⟩
        rw [show j = (ρ 3).toNat by omega]
        exact ((vs1 e1 (Nat.zero_le _) (by omega)).trans e2).trans (by omega)
      · exact p0.2 j h1 (by omega)
  exact ⟨nB, qB (key.1) (nB)⟩
def t_nep_2 : KT := ((0, 0, 0, 0), [(2, 0, 31, 0), (1, 1, 0, 0), (1, 2, 0, 0), (1, 3, 0, 0), (1, 4, 0, 0)], [(0, 0), (0, 288), (-2147483648, 2147483647), (0, 288), (-2147483648, 2147483647)], [(774, [(2, 0, 31, 0), (1, 1, 0, 0), (1, 2, 0, 0), (1, 3, 0, 0)]), (10, [(2, 0, 31, 0), (0, 0, 0, 2), (1, 4, 0, 0)]), (6, [(1, 4, 0, 0), (1, 3, 0, 0)])], (0, 0, 0), [], [], ([], [(773, [(2, 0, 31, 0), (1, 1, 0, 0), (1, 2, 0, 0), (1, 3, 0, 0)])]), ([], []))
set_option maxRecDepth 100000 in
theorem l_nep_2 (g : GG) : LOK Yt (PSt g) t_nep_2 := by
  intro ρ α Γ M as hT hB hA hP
  have g0 : Γ (α 0) = 31 := tyAt hA (i := 0) rfl
  have b1 : 0 ≤ ρ 1 ∧ ρ 1 ≤ 288 := hB 1
  have b2 : -2147483648 ≤ ρ 2 ∧ ρ 2 ≤ 2147483647 := hB 2
  have b3 : 0 ≤ ρ 3 ∧ ρ 3 ≤ 288 := hB 3
  have b4 : -2147483648 ≤ ρ 4 ∧ ρ 4 ≤ 2147483647 := hB 4
  have h0 : Γ (α 0) = 31 ∧ (∀ q ∈ ([([], 2, 3), ([(3, 32)], 0, 288)] : VSP), wkT Γ M (α 0) q.1) ∧ Q774 g (vsv M (α 0) ([], 2, 3)) (vsv M (α 0) ([(3, 32)], 0, 288)) (ρ 1 + 0) (ρ 2 + 0) (ρ 3 + 0) := hP _ (List.mem_of_getElem? (i := 0) rfl)
  have h1 : 0 ≤ (2 : Int) ∧ M.2.2.2.2 (α 0) (2 : Int).toNat = ρ 4 + 0 := hP _ (List.mem_of_getElem? (i := 1) rfl)
  have h2 : ρ 4 + 0 ≤ ρ 3 + 0 := hP _ (List.mem_of_getElem? (i := 2) rfl)
  try simp only [Int.add_zero] at h0 h1 h2
  have key : (Γ (α 0) = 31 ∧ (∀ q ∈ ([([], 2, 3), ([(3, 32)], 0, 288)] : VSP), wkT Γ M (α 0) q.1) ∧ Q773 g (vsv M (α 0) ([], 2, 3)) (vsv M (α 0) ([(3, 32)], 0, 288)) (ρ 1 + 0) (ρ 2 + 0) (ρ 3 + 0)) ∧ True := by
    try simp only [Int.add_zero]
    obtain ⟨-, -, p0⟩ := h0
    dsimp only [Q774] at p0
    have e1 : M.2.2.2.2 (α 0) 2 = ρ 4 := h1.2
    have c2 : (vsv M (α 0) ([], 2, 3)) 2 = ρ 4 := (vs0 (by decide) (by decide)).trans e1
    refine ⟨⟨g0, pic1 hT g0 (by decide) (by decide), ?_⟩, trivial⟩
    · dsimp only [Q773]
      exact ⟨p0, fun h _ => by omega⟩
  exact ⟨nB, qB (key.1) (nB)⟩
def t_nep_3 : KT := ((0, 0, 0, 0), [(2, 0, 31, 0), (1, 1, 0, 0), (1, 2, 0, 0), (1, 3, 0, 0), (2, 4, 32, 0), (1, 5, 0, 0)], [(0, 0), (0, 288), (-2147483648, 2147483647), (0, 287), (0, 0), (-2147483648, 2147483647)], [(774, [(2, 0, 31, 0), (1, 1, 0, 0), (1, 2, 0, 0), (1, 3, 0, 0)]), (11, [(2, 0, 31, 0), (0, 0, 0, 3), (2, 4, 32, 0)]), (10, [(2, 4, 32, 0), (1, 3, 0, 0), (1, 5, 0, 0)]), (99, [(1, 5, 0, 0), (1, 2, 0, 0), (0, 0, 0, 0)])], (0, 0, 0), [], [], ([], [(773, [(2, 0, 31, 0), (1, 1, 0, 0), (1, 2, 0, 0), (1, 3, 0, 0)])]), ([], []))
set_option maxRecDepth 100000 in
theorem l_nep_3 (g : GG) : LOK Yt (PSt g) t_nep_3 := by
  intro ρ α Γ M as hT hB hA hP
  have g0 : Γ (α 0) = 31 := tyAt hA (i := 0) rfl
  have b1 : 0 ≤ ρ 1 ∧ ρ 1 ≤ 288 := hB 1
  have b2 : -2147483648 ≤ ρ 2 ∧ ρ 2 ≤ 2147483647 := hB 2
  have b3 : 0 ≤ ρ 3 ∧ ρ 3 ≤ 287 := hB 3
  have g4 : Γ (α 4) = 32 := tyAt hA (i := 4) rfl
  have b5 : -2147483648 ≤ ρ 5 ∧ ρ 5 ≤ 2147483647 := hB 5
  have h0 : Γ (α 0) = 31 ∧ (∀ q ∈ ([([], 2, 3), ([(3, 32)], 0, 288)] : VSP), wkT Γ M (α 0) q.1) ∧ Q774 g (vsv M (α 0) ([], 2, 3)) (vsv M (α 0) ([(3, 32)], 0, 288)) (ρ 1 + 0) (ρ 2 + 0) (ρ 3 + 0) := hP _ (List.mem_of_getElem? (i := 0) rfl)
  have h1 : 0 ≤ (3 : Int) ∧ M.2.2.2.1 (α 0) (3 : Int).toNat = some (α 4) := hP _ (List.mem_of_getElem? (i := 1) rfl)
  have h2 : 0 ≤ (ρ 3 + 0 : Int) ∧ M.2.2.2.2 (α 4) (ρ 3 + 0 : Int).toNat = ρ 5 + 0 := hP _ (List.mem_of_getElem? (i := 2) rfl)
  have h3 : (ρ 5 + 0 : Int) ≠ ρ 2 + 0 := hP _ (List.mem_of_getElem? (i := 3) rfl)
  try simp only [Int.add_zero] at h0 h1 h2 h3
  have key : (Γ (α 0) = 31 ∧ (∀ q ∈ ([([], 2, 3), ([(3, 32)], 0, 288)] : VSP), wkT Γ M (α 0) q.1) ∧ Q773 g (vsv M (α 0) ([], 2, 3)) (vsv M (α 0) ([(3, 32)], 0, 288)) (ρ 1 + 0) (ρ 2 + 0) (ρ 3 + 0)) ∧ True := by
    try simp only [Int.add_zero]
    obtain ⟨-, -, p0⟩ := h0
    dsimp only [Q774] at p0
    have e1 : M.2.2.2.1 (α 0) 3 = some (α 4) := h1.2
    have e2 : M.2.2.2.2 (α 4) (ρ 3).toNat = ρ 5 := h2.2
    refine ⟨⟨g0, pic1 hT g0 (by decide) (by decide), ?_⟩, trivial⟩
    · dsimp only [Q773]
      refine ⟨p0, fun h q => ?_⟩
      by_cases e : ρ 1 = ρ 3
      · have x : (vsv M (α 0) ([(3, 32)], 0, 288)) (ρ 3).toNat = ρ 5 := (vs1 e1 (Nat.zero_le _) (by omega)).trans e2
        rw [e] at q
        exact absurd (x.symm.trans q) h3
      · have := p0.1
        omega
  exact ⟨nB, qB (key.1) (nB)⟩
def t_nfw_0 : KT := ((0, 0, 0, 0), [(2, 0, 31, 0), (1, 1, 0, 0), (1, 2, 0, 0), (1, 3, 0, 0)], [(0, 0), (0, 288), (0, 288), (-1, 0)], [(10, [(2, 0, 31, 0), (0, 0, 0, 1), (1, 3, 0, 0)])], (0, 0, 0), [], [], ([], [(777, [(2, 0, 31, 0), (1, 1, 0, 0), (1, 2, 0, 0), (1, 1, 0, 0)]), (6, [(1, 1, 0, 0), (1, 1, 0, 0)])]), ([], []))
set_option maxRecDepth 100000 in
theorem l_nfw_0 (g : GG) : LOK Yt (PSt g) t_nfw_0 := by
  intro ρ α Γ M as hT hB hA hP
  have g0 : Γ (α 0) = 31 := tyAt hA (i := 0) rfl
  have b1 : 0 ≤ ρ 1 ∧ ρ 1 ≤ 288 := hB 1
  have b2 : 0 ≤ ρ 2 ∧ ρ 2 ≤ 288 := hB 2
  have b3 : -1 ≤ ρ 3 ∧ ρ 3 ≤ 0 := hB 3
  have h0 : 0 ≤ (1 : Int) ∧ M.2.2.2.2 (α 0) (1 : Int).toNat = ρ 3 + 0 := hP _ (List.mem_of_getElem? (i := 0) rfl)
  try simp only [Int.add_zero] at h0
  have key : (Γ (α 0) = 31 ∧ (∀ q ∈ ([([], 0, 1), ([], 1, 2), ([(4, 33)], 0, 288)] : VSP), wkT Γ M (α 0) q.1) ∧ Q777 g (vsv M (α 0) ([], 0, 1)) (vsv M (α 0) ([], 1, 2)) (vsv M (α 0) ([(4, 33)], 0, 288)) (ρ 1 + 0) (ρ 2 + 0) (ρ 1 + 0)) ∧ (ρ 1 + 0 ≤ ρ 1 + 0) ∧ True := by
    try simp only [Int.add_zero]
    have e0 : M.2.2.2.2 (α 0) 1 = ρ 3 := h0.2
    have c1 : (vsv M (α 0) ([], 1, 2)) 1 = ρ 3 := (vs0 (by decide) (by decide)).trans e0
    refine ⟨⟨g0, pic1 hT g0 (by decide) (by decide), ?_⟩, ?_, trivial⟩
    · dsimp only [Q777]
      exact ⟨Int.le_refl _, Or.inl ⟨rfl, by rw [c1]; exact b3.2⟩⟩
    · exact Int.le_refl (ρ 1)
  exact ⟨nB, qB (key.1) (qB (key.2.1) (nB))⟩
def t_nfw_t0 : KT := ((0, 0, 0, 0), [(1, 0, 0, 0)], [(0, 288)], [], (0, 0, 0), [], [], ([], [(778, [(1, 0, 0, 0), (1, 0, 0, 0), (0, 0, 0, 0)])]), ([], []))
set_option maxRecDepth 100000 in
theorem l_nfw_t0 (g : GG) : LOK Yt (PSt g) t_nfw_t0 := by
  intro ρ α Γ M as hT hB hA hP
  have b0 : 0 ≤ ρ 0 ∧ ρ 0 ≤ 288 := hB 0
  have key : (((ρ 0 + 0 : Int) ≤ (ρ 0 + 0 : Int) ∧ 0 ≤ (0 : Int) ∧ (0 : Int) ≤ (ρ 0 + 0 : Int) - (ρ 0 + 0 : Int)) ∧ (((ρ 0 + 0 : Int) = (ρ 0 + 0 : Int) ∧ (0 : Int) = 0) ∨ 1 ≤ (0 : Int))) ∧ True := by
    try simp only [Int.add_zero]
    refine ⟨?_, trivial⟩
    · exact ⟨⟨Int.le_refl _, Int.le_refl _, by omega⟩, Or.inl (by simp)⟩
  exact ⟨nB, qB (key.1) (nB)⟩
def t_nfw_t1 : KT := ((0, 0, 0, 0), [(1, 0, 0, 0), (1, 1, 0, 0), (1, 2, 0, 0)], [(0, 288), (0, 288), (-2147483648, 2147483647)], [(778, [(1, 0, 0, 0), (1, 1, 0, 0), (1, 2, 0, 0)])], (0, 0, 0), [], [], ([(2, 0, 288)], [(778, [(1, 0, 0, 0), (1, 1, 0, 1), (1, 2, 0, 1)])]), ([], []))
set_option maxRecDepth 100000 in
theorem l_nfw_t1 (g : GG) : LOK Yt (PSt g) t_nfw_t1 := by
  intro ρ α Γ M as hT hB hA hP
  have b0 : 0 ≤ ρ 0 ∧ ρ 0 ≤ 288 := hB 0
  have b1 : 0 ≤ ρ 1 ∧ ρ 1 ≤ 288 := hB 1
  have b2 : -2147483648 ≤ ρ 2 ∧ ρ 2 ≤ 2147483647 := hB 2
  have h0 : ((ρ 0 + 0 : Int) ≤ (ρ 1 + 0 : Int) ∧ 0 ≤ (ρ 2 + 0 : Int) ∧ (ρ 2 + 0 : Int) ≤ (ρ 1 + 0 : Int) - (ρ 0 + 0 : Int)) ∧ (((ρ 1 + 0 : Int) = (ρ 0 + 0 : Int) ∧ (ρ 2 + 0 : Int) = 0) ∨ 1 ≤ (ρ 2 + 0 : Int)) := hP _ (List.mem_of_getElem? (i := 0) rfl)
  try simp only [Int.add_zero] at h0
  have key : (0 ≤ ρ 2 ∧ ρ 2 ≤ 288) ∧ (((ρ 0 + 0 : Int) ≤ (ρ 1 + 1 : Int) ∧ 0 ≤ (ρ 2 + 1 : Int) ∧ (ρ 2 + 1 : Int) ≤ (ρ 1 + 1 : Int) - (ρ 0 + 0 : Int)) ∧ (((ρ 1 + 1 : Int) = (ρ 0 + 0 : Int) ∧ (ρ 2 + 1 : Int) = 0) ∨ 1 ≤ (ρ 2 + 1 : Int))) ∧ True := by
    try simp only [Int.add_zero]
    have h0 : (ρ 0 ≤ ρ 1 ∧ 0 ≤ ρ 2 ∧ ρ 2 ≤ ρ 1 - ρ 0) ∧ ((ρ 1 = ρ 0 ∧ ρ 2 = 0) ∨ 1 ≤ ρ 2) := h0
    refine ⟨?_, ?_, trivial⟩
    · omega
    · exact ⟨by omega, Or.inr (by omega)⟩
  exact ⟨qB (key.1) (nB), qB (key.2.1) (nB)⟩
def t_nfw_t2 : KT := ((0, 0, 0, 0), [(2, 0, 31, 0), (2, 1, 33, 0), (1, 2, 0, 0), (1, 3, 0, 0), (1, 4, 0, 0), (1, 5, 0, 0), (1, 6, 0, 0)], [(0, 0), (0, 0), (0, 287), (0, 287), (-2147483648, 2147483647), (-2147483648, 2147483647), (-2147483648, 2147483647)], [(778, [(1, 2, 0, 0), (1, 3, 0, 0), (1, 4, 0, 0)]), (10, [(2, 1, 33, 0), (1, 3, 0, 0), (1, 5, 0, 0)]), (10, [(2, 1, 33, 0), (1, 2, 0, 0), (1, 6, 0, 0)]), (99, [(1, 5, 0, 0), (1, 6, 0, 0), (0, 0, 0, 0)])], (0, 0, 0), [], [], ([], [(778, [(1, 2, 0, 0), (1, 3, 0, 1), (1, 4, 0, 0)])]), ([], []))
set_option maxRecDepth 100000 in
theorem l_nfw_t2 (g : GG) : LOK Yt (PSt g) t_nfw_t2 := by
  intro ρ α Γ M as hT hB hA hP
  have g0 : Γ (α 0) = 31 := tyAt hA (i := 0) rfl
  have g1 : Γ (α 1) = 33 := tyAt hA (i := 1) rfl
  have b2 : 0 ≤ ρ 2 ∧ ρ 2 ≤ 287 := hB 2
  have b3 : 0 ≤ ρ 3 ∧ ρ 3 ≤ 287 := hB 3
  have b4 : -2147483648 ≤ ρ 4 ∧ ρ 4 ≤ 2147483647 := hB 4
  have b5 : -2147483648 ≤ ρ 5 ∧ ρ 5 ≤ 2147483647 := hB 5
  have b6 : -2147483648 ≤ ρ 6 ∧ ρ 6 ≤ 2147483647 := hB 6
  have h0 : ((ρ 2 + 0 : Int) ≤ (ρ 3 + 0 : Int) ∧ 0 ≤ (ρ 4 + 0 : Int) ∧ (ρ 4 + 0 : Int) ≤ (ρ 3 + 0 : Int) - (ρ 2 + 0 : Int)) ∧ (((ρ 3 + 0 : Int) = (ρ 2 + 0 : Int) ∧ (ρ 4 + 0 : Int) = 0) ∨ 1 ≤ (ρ 4 + 0 : Int)) := hP _ (List.mem_of_getElem? (i := 0) rfl)
  have h1 : 0 ≤ (ρ 3 + 0 : Int) ∧ M.2.2.2.2 (α 1) (ρ 3 + 0 : Int).toNat = ρ 5 + 0 := hP _ (List.mem_of_getElem? (i := 1) rfl)
  have h2 : 0 ≤ (ρ 2 + 0 : Int) ∧ M.2.2.2.2 (α 1) (ρ 2 + 0 : Int).toNat = ρ 6 + 0 := hP _ (List.mem_of_getElem? (i := 2) rfl)
  have h3 : (ρ 5 + 0 : Int) ≠ ρ 6 + 0 := hP _ (List.mem_of_getElem? (i := 3) rfl)
  try simp only [Int.add_zero] at h0 h1 h2 h3
  have key : (((ρ 2 + 0 : Int) ≤ (ρ 3 + 1 : Int) ∧ 0 ≤ (ρ 4 + 0 : Int) ∧ (ρ 4 + 0 : Int) ≤ (ρ 3 + 1 : Int) - (ρ 2 + 0 : Int)) ∧ (((ρ 3 + 1 : Int) = (ρ 2 + 0 : Int) ∧ (ρ 4 + 0 : Int) = 0) ∨ 1 ≤ (ρ 4 + 0 : Int))) ∧ True := by
    try simp only [Int.add_zero]
    have e1 : M.2.2.2.2 (α 1) (ρ 3).toNat = ρ 5 := h1.2
    have e2 : M.2.2.2.2 (α 1) (ρ 2).toNat = ρ 6 := h2.2
    have h0 : (ρ 2 ≤ ρ 3 ∧ 0 ≤ ρ 4 ∧ ρ 4 ≤ ρ 3 - ρ 2) ∧ ((ρ 3 = ρ 2 ∧ ρ 4 = 0) ∨ 1 ≤ ρ 4) := h0
    refine ⟨?_, trivial⟩
    · by_cases e : ρ 3 = ρ 2
      · rw [e] at e1
        exact absurd (e1.symm.trans e2) h3
      · exact ⟨by omega, Or.inr (by omega)⟩
  exact ⟨nB, qB (key.1) (nB)⟩
def t_nfw_x : KT := ((0, 0, 0, 0), [(1, 0, 0, 0), (1, 1, 0, 0), (1, 2, 0, 0), (1, 3, 0, 0)], [(0, 288), (0, 288), (-2147483648, 2147483647), (0, 288)], [(778, [(1, 0, 0, 0), (1, 1, 0, 0), (1, 2, 0, 0)]), (6, [(1, 3, 0, 0), (1, 1, 0, 0)]), (21, [(1, 0, 0, 0), (1, 3, 0, 0)])], (0, 0, 0), [], [], ([(2, 1, 2147483647)], []), ([], []))
set_option maxRecDepth 100000 in
theorem l_nfw_x (g : GG) : LOK Yt (PSt g) t_nfw_x := by
  intro ρ α Γ M as hT hB hA hP
  have b0 : 0 ≤ ρ 0 ∧ ρ 0 ≤ 288 := hB 0
  have b1 : 0 ≤ ρ 1 ∧ ρ 1 ≤ 288 := hB 1
  have b2 : -2147483648 ≤ ρ 2 ∧ ρ 2 ≤ 2147483647 := hB 2
  have b3 : 0 ≤ ρ 3 ∧ ρ 3 ≤ 288 := hB 3
  have h0 : ((ρ 0 + 0 : Int) ≤ (ρ 1 + 0 : Int) ∧ 0 ≤ (ρ 2 + 0 : Int) ∧ (ρ 2 + 0 : Int) ≤ (ρ 1 + 0 : Int) - (ρ 0 + 0 : Int)) ∧ (((ρ 1 + 0 : Int) = (ρ 0 + 0 : Int) ∧ (ρ 2 + 0 : Int) = 0) ∨ 1 ≤ (ρ 2 + 0 : Int)) := hP _ (List.mem_of_getElem? (i := 0) rfl)
  have h1 : ρ 3 + 0 ≤ ρ 1 + 0 := hP _ (List.mem_of_getElem? (i := 1) rfl)
  have h2 : ρ 0 + 0 < ρ 3 + 0 := hP _ (List.mem_of_getElem? (i := 2) rfl)
  try simp only [Int.add_zero] at h0 h1 h2
  have key : (1 ≤ ρ 2 ∧ ρ 2 ≤ 2147483647) ∧ True := by
    try simp only [Int.add_zero]
    have h0 : (ρ 0 ≤ ρ 1 ∧ 0 ≤ ρ 2 ∧ ρ 2 ≤ ρ 1 - ρ 0) ∧ ((ρ 1 = ρ 0 ∧ ρ 2 = 0) ∨ 1 ≤ ρ 2) := h0
    refine ⟨?_, trivial⟩
    · omega
  exact ⟨qB (key.1) (nB), nB⟩
def t_nfw_m : KT := ((0, 0, 0, 0), [(2, 0, 31, 0), (2, 1, 33, 0), (1, 2, 0, 0), (1, 3, 0, 0), (1, 4, 0, 0), (1, 5, 0, 0)], [(0, 0), (0, 0), (0, 288), (0, 288), (0, 287), (-2147483648, 2147483647)], [(775, [(2, 0, 31, 0), (1, 2, 0, 0), (1, 3, 0, 0)]), (11, [(2, 0, 31, 0), (0, 0, 0, 4), (2, 1, 33, 0)]), (10, [(2, 1, 33, 0), (1, 4, 0, 0), (1, 5, 0, 0)]), (21, [(1, 4, 0, 0), (1, 3, 0, 0)])], (0, 0, 0), [], [], ([(5, -4000000, 4000000)], []), ([], []))
set_option maxRecDepth 100000 in
theorem l_nfw_m (g : GG) : LOK Yt (PSt g) t_nfw_m := by
  intro ρ α Γ M as hT hB hA hP
  have g0 : Γ (α 0) = 31 := tyAt hA (i := 0) rfl
  have g1 : Γ (α 1) = 33 := tyAt hA (i := 1) rfl
  have b2 : 0 ≤ ρ 2 ∧ ρ 2 ≤ 288 := hB 2
  have b3 : 0 ≤ ρ 3 ∧ ρ 3 ≤ 288 := hB 3
  have b4 : 0 ≤ ρ 4 ∧ ρ 4 ≤ 287 := hB 4
  have b5 : -2147483648 ≤ ρ 5 ∧ ρ 5 ≤ 2147483647 := hB 5
  have h0 : Γ (α 0) = 31 ∧ (∀ q ∈ ([([(4, 33)], 0, 288)] : VSP), wkT Γ M (α 0) q.1) ∧ Q775 g (vsv M (α 0) ([(4, 33)], 0, 288)) (ρ 2 + 0) (ρ 3 + 0) := hP _ (List.mem_of_getElem? (i := 0) rfl)
  have h1 : 0 ≤ (4 : Int) ∧ M.2.2.2.1 (α 0) (4 : Int).toNat = some (α 1) := hP _ (List.mem_of_getElem? (i := 1) rfl)
  have h2 : 0 ≤ (ρ 4 + 0 : Int) ∧ M.2.2.2.2 (α 1) (ρ 4 + 0 : Int).toNat = ρ 5 + 0 := hP _ (List.mem_of_getElem? (i := 2) rfl)
  have h3 : ρ 4 + 0 < ρ 3 + 0 := hP _ (List.mem_of_getElem? (i := 3) rfl)
  try simp only [Int.add_zero] at h0 h1 h2 h3
  have key : (-4000000 ≤ ρ 5 ∧ ρ 5 ≤ 4000000) ∧ True := by
    try simp only [Int.add_zero]
    obtain ⟨-, -, p0⟩ := h0
    dsimp only [Q775] at p0
    have e1 : M.2.2.2.1 (α 0) 4 = some (α 1) := h1.2
    have e2 : M.2.2.2.2 (α 1) (ρ 4).toNat = ρ 5 := h2.2
    refine ⟨?_, trivial⟩
    · have x := (vs1 e1 (Nat.zero_le _) (by omega) : (vsv M (α 0) ([(4, 33)], 0, 288)) (ρ 4).toNat = _).trans e2
      have := p0.2 (ρ 4).toNat (by omega)
      omega
  exact ⟨qB (key.1) (nB), nB⟩
def t_nfw_k : KT := ((0, 0, 0, 0), [(2, 0, 31, 0), (2, 1, 33, 0), (1, 2, 0, 0), (1, 3, 0, 0), (1, 4, 0, 0), (1, 5, 0, 0)], [(0, 0), (0, 0), (1, 1), (0, 287), (-2147483648, 2147483647), (-2147483648, 2147483647)], [(11, [(2, 0, 31, 0), (0, 0, 0, 4), (2, 1, 33, 0)]), (10, [(2, 1, 33, 0), (1, 3, 0, 0), (1, 4, 0, 0)]), (25, [(1, 2, 0, 0), (1, 4, 0, 0), (1, 5, 0, 0)])], (0, 0, 0), [], [], ([], [(779, [(2, 0, 31, 0), (1, 3, 0, 0), (1, 5, 0, 0)])]), ([], []))
set_option maxRecDepth 100000 in
theorem l_nfw_k (g : GG) : LOK Yt (PSt g) t_nfw_k := by
  intro ρ α Γ M as hT hB hA hP
  have g0 : Γ (α 0) = 31 := tyAt hA (i := 0) rfl
  have g1 : Γ (α 1) = 33 := tyAt hA (i := 1) rfl
  have b2 : 1 ≤ ρ 2 ∧ ρ 2 ≤ 1 := hB 2
  have b3 : 0 ≤ ρ 3 ∧ ρ 3 ≤ 287 := hB 3
  have b4 : -2147483648 ≤ ρ 4 ∧ ρ 4 ≤ 2147483647 := hB 4
  have b5 : -2147483648 ≤ ρ 5 ∧ ρ 5 ≤ 2147483647 := hB 5
  have h0 : 0 ≤ (4 : Int) ∧ M.2.2.2.1 (α 0) (4 : Int).toNat = some (α 1) := hP _ (List.mem_of_getElem? (i := 0) rfl)
  have h1 : 0 ≤ (ρ 3 + 0 : Int) ∧ M.2.2.2.2 (α 1) (ρ 3 + 0 : Int).toNat = ρ 4 + 0 := hP _ (List.mem_of_getElem? (i := 1) rfl)
  have h2 : ρ 5 + 0 = wI ((ρ 2 + 0) * (ρ 4 + 0)) := hP _ (List.mem_of_getElem? (i := 2) rfl)
  try simp only [Int.add_zero] at h0 h1 h2
  have key : (Γ (α 0) = 31 ∧ (∀ q ∈ ([([(4, 33)], 0, 288)] : VSP), wkT Γ M (α 0) q.1) ∧ Q779 g (vsv M (α 0) ([(4, 33)], 0, 288)) (ρ 3 + 0) (ρ 5 + 0)) ∧ True := by
    try simp only [Int.add_zero]
    have e0 : M.2.2.2.1 (α 0) 4 = some (α 1) := h0.2
    have e1 : M.2.2.2.2 (α 1) (ρ 3).toNat = ρ 4 := h1.2
    refine ⟨⟨g0, pic1 hT g0 (by decide) (by decide), ?_⟩, trivial⟩
    · dsimp only [Q779]
      rw [show ρ 2 = 1 by omega, wI_id (by unfold inI; omega)] at h2
      exact ((vs1 e0 (Nat.zero_le _) (by omega)).trans e1).trans (by omega)
  exact ⟨nB, qB (key.1) (nB)⟩
def t_nfw_s : KT := ((0, 0, 0, 0), [(2, 0, 31, 0), (1, 1, 0, 0), (1, 2, 0, 0), (1, 3, 0, 0), (1, 4, 0, 0), (1, 5, 0, 0)], [(0, 0), (0, 288), (0, 288), (0, 287), (1, 2147483647), (-2147483648, 2147483647)], [(6, [(1, 1, 0, 0), (1, 3, 0, 0)]), (779, [(2, 0, 31, 0), (1, 3, 0, 0), (1, 5, 0, 0)]), (10, [(2, 0, 31, 0), (0, 0, 0, 1), (1, 4, 0, 0)]), (10, [(2, 0, 31, 0), (0, 0, 0, 0), (1, 5, 0, 0)]), (21, [(1, 3, 0, 0), (1, 2, 0, 0)])], (0, 0, 0), [], [], ([], [(777, [(2, 0, 31, 0), (1, 1, 0, 0), (1, 2, 0, 0), (1, 3, 0, 1)]), (6, [(1, 1, 0, 0), (1, 3, 0, 1)])]), ([], []))
set_option maxRecDepth 100000 in
theorem l_nfw_s (g : GG) : LOK Yt (PSt g) t_nfw_s := by
  intro ρ α Γ M as hT hB hA hP
  have g0 : Γ (α 0) = 31 := tyAt hA (i := 0) rfl
  have b1 : 0 ≤ ρ 1 ∧ ρ 1 ≤ 288 := hB 1
  have b2 : 0 ≤ ρ 2 ∧ ρ 2 ≤ 288 := hB 2
  have b3 : 0 ≤ ρ 3 ∧ ρ 3 ≤ 287 := hB 3
  have b4 : 1 ≤ ρ 4 ∧ ρ 4 ≤ 2147483647 := hB 4
  have b5 : -2147483648 ≤ ρ 5 ∧ ρ 5 ≤ 2147483647 := hB 5
  have h0 : ρ 1 + 0 ≤ ρ 3 + 0 := hP _ (List.mem_of_getElem? (i := 0) rfl)
  have h1 : Γ (α 0) = 31 ∧ (∀ q ∈ ([([(4, 33)], 0, 288)] : VSP), wkT Γ M (α 0) q.1) ∧ Q779 g (vsv M (α 0) ([(4, 33)], 0, 288)) (ρ 3 + 0) (ρ 5 + 0) := hP _ (List.mem_of_getElem? (i := 1) rfl)
  have h2 : 0 ≤ (1 : Int) ∧ M.2.2.2.2 (α 0) (1 : Int).toNat = ρ 4 + 0 := hP _ (List.mem_of_getElem? (i := 2) rfl)
  have h3 : 0 ≤ (0 : Int) ∧ M.2.2.2.2 (α 0) (0 : Int).toNat = ρ 5 + 0 := hP _ (List.mem_of_getElem? (i := 3) rfl)
  have h4 : ρ 3 + 0 < ρ 2 + 0 := hP _ (List.mem_of_getElem? (i := 4) rfl)
  try simp only [Int.add_zero] at h0 h1 h2 h3 h4
  have key : (Γ (α 0) = 31 ∧ (∀ q ∈ ([([], 0, 1), ([], 1, 2), ([(4, 33)], 0, 288)] : VSP), wkT Γ M (α 0) q.1) ∧ Q777 g (vsv M (α 0) ([], 0, 1)) (vsv M (α 0) ([], 1, 2)) (vsv M (α 0) ([(4, 33)], 0, 288)) (ρ 1 + 0) (ρ 2 + 0) (ρ 3 + 1)) ∧ (ρ 1 + 0 ≤ ρ 3 + 1) ∧ True := by
    try simp only [Int.add_zero]
    obtain ⟨-, -, p1⟩ := h1
    dsimp only [Q779] at p1
    have e2 : M.2.2.2.2 (α 0) 1 = ρ 4 := h2.2
    have e3 : M.2.2.2.2 (α 0) 0 = ρ 5 := h3.2
    have h0 : ρ 1 ≤ ρ 3 := h0
    refine ⟨⟨g0, pic1 hT g0 (by decide) (by decide), ?_⟩, ?_, trivial⟩
    · dsimp only [Q777]
      have c1 : (vsv M (α 0) ([], 1, 2)) 1 = ρ 4 := (vs0 (by decide) (by decide)).trans e2
      have c0 : (vsv M (α 0) ([], 0, 1)) 0 = ρ 5 := (vs0 (by decide) (by decide)).trans e3
      exact ⟨by omega, Or.inr ⟨by rw [c1]; omega, (ρ 3).toNat, by omega, by rw [c0]; exact p1.symm⟩⟩
    · show ρ 1 ≤ ρ 3 + 1
      omega
  exact ⟨nB, qB (key.1) (qB (key.2.1) (nB))⟩
def t_nfw_n : KT := ((0, 0, 0, 0), [(2, 0, 31, 0), (1, 1, 0, 0), (1, 2, 0, 0), (1, 3, 0, 0), (1, 4, 0, 0), (1, 5, 0, 0)], [(0, 0), (0, 288), (0, 288), (0, 287), (1, 2147483647), (-2147483648, 2147483647)], [(777, [(2, 0, 31, 0), (1, 1, 0, 0), (1, 2, 0, 0), (1, 3, 0, 0)]), (10, [(2, 0, 31, 0), (0, 0, 0, 1), (1, 5, 0, 0)]), (6, [(1, 4, 0, 0), (1, 5, 0, 0)]), (6, [(1, 1, 0, 0), (1, 3, 0, 0)])], (0, 0, 0), [], [], ([], [(777, [(2, 0, 31, 0), (1, 1, 0, 0), (1, 2, 0, 0), (1, 3, 0, 1)]), (6, [(1, 1, 0, 0), (1, 3, 0, 1)])]), ([], []))
set_option maxRecDepth 100000 in
theorem l_nfw_n (g : GG) : LOK Yt (PSt g) t_nfw_n := by
  intro ρ α Γ M as hT hB hA hP
  have g0 : Γ (α 0) = 31 := tyAt hA (i := 0) rfl
  have b1 : 0 ≤ ρ 1 ∧ ρ 1 ≤ 288 := hB 1
  have b2 : 0 ≤ ρ 2 ∧ ρ 2 ≤ 288 := hB 2
  have b3 : 0 ≤ ρ 3 ∧ ρ 3 ≤ 287 := hB 3
  have b4 : 1 ≤ ρ 4 ∧ ρ 4 ≤ 2147483647 := hB 4
  have b5 : -2147483648 ≤ ρ 5 ∧ ρ 5 ≤ 2147483647 := hB 5
  have h0 : Γ (α 0) = 31 ∧ (∀ q ∈ ([([], 0, 1), ([], 1, 2), ([(4, 33)], 0, 288)] : VSP), wkT Γ M (α 0) q.1) ∧ Q777 g (vsv M (α 0) ([], 0, 1)) (vsv M (α 0) ([], 1, 2)) (vsv M (α 0) ([(4, 33)], 0, 288)) (ρ 1 + 0) (ρ 2 + 0) (ρ 3 + 0) := hP _ (List.mem_of_getElem? (i := 0) rfl)
  have h1 : 0 ≤ (1 : Int) ∧ M.2.2.2.2 (α 0) (1 : Int).toNat = ρ 5 + 0 := hP _ (List.mem_of_getElem? (i := 1) rfl)
  have h2 : ρ 4 + 0 ≤ ρ 5 + 0 := hP _ (List.mem_of_getElem? (i := 2) rfl)
  have h3 : ρ 1 + 0 ≤ ρ 3 + 0 := hP _ (List.mem_of_getElem? (i := 3) rfl)
  try simp only [Int.add_zero] at h0 h1 h2 h3
  have key : (Γ (α 0) = 31 ∧ (∀ q ∈ ([([], 0, 1), ([], 1, 2), ([(4, 33)], 0, 288)] : VSP), wkT Γ M (α 0) q.1) ∧ Q777 g (vsv M (α 0) ([], 0, 1)) (vsv M (α 0) ([], 1, 2)) (vsv M (α 0) ([(4, 33)], 0, 288)) (ρ 1 + 0) (ρ 2 + 0) (ρ 3 + 1)) ∧ (ρ 1 + 0 ≤ ρ 3 + 1) ∧ True := by
    try simp only [Int.add_zero]
    obtain ⟨-, -, p0⟩ := h0
    dsimp only [Q777] at p0
    have e1 : M.2.2.2.2 (α 0) 1 = ρ 5 := h1.2
    have h3 : ρ 1 ≤ ρ 3 := h3
    refine ⟨⟨g0, pic1 hT g0 (by decide) (by decide), ?_⟩, ?_, trivial⟩
    · dsimp only [Q777]
      have c1 : (vsv M (α 0) ([], 1, 2)) 1 = ρ 5 := (vs0 (by decide) (by decide)).trans e1
      rcases p0.2 with q | q
      · omega
      · exact ⟨by omega, Or.inr q⟩
    · show ρ 1 ≤ ρ 3 + 1
      omega
  exact ⟨nB, qB (key.1) (qB (key.2.1) (nB))⟩
def t_nfw_e : KT := ((0, 0, 0, 0), [(2, 0, 31, 0), (1, 1, 0, 0), (1, 2, 0, 0), (1, 3, 0, 0)], [(0, 0), (0, 288), (0, 288), (0, 288)], [(777, [(2, 0, 31, 0), (1, 1, 0, 0), (1, 2, 0, 0), (1, 3, 0, 0)]), (775, [(2, 0, 31, 0), (1, 1, 0, 0), (1, 2, 0, 0)]), (6, [(1, 2, 0, 0), (1, 3, 0, 0)])], (0, 0, 0), [], [], ([], [(776, [(2, 0, 31, 0), (1, 1, 0, 0), (1, 2, 0, 0)])]), ([], []))
set_option maxRecDepth 100000 in
theorem l_nfw_e (g : GG) : LOK Yt (PSt g) t_nfw_e := by
  intro ρ α Γ M as hT hB hA hP
  have g0 : Γ (α 0) = 31 := tyAt hA (i := 0) rfl
  have b1 : 0 ≤ ρ 1 ∧ ρ 1 ≤ 288 := hB 1
  have b2 : 0 ≤ ρ 2 ∧ ρ 2 ≤ 288 := hB 2
  have b3 : 0 ≤ ρ 3 ∧ ρ 3 ≤ 288 := hB 3
  have h0 : Γ (α 0) = 31 ∧ (∀ q ∈ ([([], 0, 1), ([], 1, 2), ([(4, 33)], 0, 288)] : VSP), wkT Γ M (α 0) q.1) ∧ Q777 g (vsv M (α 0) ([], 0, 1)) (vsv M (α 0) ([], 1, 2)) (vsv M (α 0) ([(4, 33)], 0, 288)) (ρ 1 + 0) (ρ 2 + 0) (ρ 3 + 0) := hP _ (List.mem_of_getElem? (i := 0) rfl)
  have h1 : Γ (α 0) = 31 ∧ (∀ q ∈ ([([(4, 33)], 0, 288)] : VSP), wkT Γ M (α 0) q.1) ∧ Q775 g (vsv M (α 0) ([(4, 33)], 0, 288)) (ρ 1 + 0) (ρ 2 + 0) := hP _ (List.mem_of_getElem? (i := 1) rfl)
  have h2 : ρ 2 + 0 ≤ ρ 3 + 0 := hP _ (List.mem_of_getElem? (i := 2) rfl)
  try simp only [Int.add_zero] at h0 h1 h2
  have key : (Γ (α 0) = 31 ∧ (∀ q ∈ ([([], 0, 1), ([], 1, 2), ([(4, 33)], 0, 288)] : VSP), wkT Γ M (α 0) q.1) ∧ Q776 g (vsv M (α 0) ([], 0, 1)) (vsv M (α 0) ([], 1, 2)) (vsv M (α 0) ([(4, 33)], 0, 288)) (ρ 1 + 0) (ρ 2 + 0)) ∧ True := by
    try simp only [Int.add_zero]
    obtain ⟨-, -, p0⟩ := h0
    dsimp only [Q777] at p0
    obtain ⟨-, -, p1⟩ := h1
    dsimp only [Q775] at p1
    refine ⟨⟨g0, pic1 hT g0 (by decide) (by decide), ?_⟩, trivial⟩
    · dsimp only [Q776]
      rcases p0.2 with q | q
      · omega
      · exact q
  exact ⟨nB, qB (key.1) (nB)⟩
def t_nfb_0 : KT := ((0, 0, 0, 0), [(2, 0, 31, 0)], [(0, 0)], [], (0, 0, 0), [], [], ([], [(785, [(2, 0, 31, 0), (0, 0, 0, -1), (0, 0, 0, -1), (0, 0, 0, 0), (0, 0, 0, 0)])]), ([], []))
set_option maxRecDepth 100000 in
theorem l_nfb_0 (g : GG) : LOK Yt (PSt g) t_nfb_0 := by
  intro ρ α Γ M as hT hB hA hP
  have g0 : Γ (α 0) = 31 := tyAt hA (i := 0) rfl
  have key : (Γ (α 0) = 31 ∧ (∀ q ∈ ([([], 2, 3), ([(3, 32)], 0, 288), ([(4, 33)], 0, 288), ([(5, 34)], 0, 144)] : VSP), wkT Γ M (α 0) q.1) ∧ Q785 g (vsv M (α 0) ([], 2, 3)) (vsv M (α 0) ([(3, 32)], 0, 288)) (vsv M (α 0) ([(4, 33)], 0, 288)) (vsv M (α 0) ([(5, 34)], 0, 144)) ((-1)) ((-1)) (0) (0)) ∧ True := by
    try simp only [Int.add_zero]
    refine ⟨⟨g0, pic1 hT g0 (by decide) (by decide), ?_⟩, trivial⟩
    · dsimp only [Q785]
      exact Or.inl ⟨rfl, rfl, fun j hj => by omega⟩
  exact ⟨nB, qB (key.1) (nB)⟩
def t_nfb_1 : KT := ((0, 0, 0, 0), [(2, 0, 31, 0), (1, 1, 0, 0), (1, 2, 0, 0), (1, 3, 0, 0), (1, 4, 0, 0), (2, 5, 32, 0), (1, 6, 0, 0), (1, 7, 0, 0)], [(0, 0), (-2147483648, 2147483647), (-2147483648, 2147483647), (-2147483648, 2147483647), (1, 287), (0, 0), (-2147483648, 2147483647), (-2147483648, 2147483647)], [(785, [(2, 0, 31, 0), (1, 1, 0, 0), (1, 2, 0, 0), (1, 3, 0, 0), (1, 4, 0, 0)]), (11, [(2, 0, 31, 0), (0, 0, 0, 3), (2, 5, 32, 0)]), (10, [(2, 5, 32, 0), (1, 4, 0, 0), (1, 6, 0, 0)]), (10, [(2, 5, 32, 0), (1, 4, 0, -1), (1, 7, 0, 0)]), (6, [(1, 6, 0, 0), (1, 7, 0, 0)]), (6, [(1, 7, 0, 0), (1, 6, 0, 0)])], (0, 0, 0), [], [], ([], [(785, [(2, 0, 31, 0), (1, 1, 0, 0), (1, 2, 0, 0), (1, 3, 0, 0), (1, 4, 0, 1)])]), ([], []))
set_option maxRecDepth 100000 in
theorem l_nfb_1 (g : GG) : LOK Yt (PSt g) t_nfb_1 := by
  intro ρ α Γ M as hT hB hA hP
  have g0 : Γ (α 0) = 31 := tyAt hA (i := 0) rfl
  have b1 : -2147483648 ≤ ρ 1 ∧ ρ 1 ≤ 2147483647 := hB 1
  have b2 : -2147483648 ≤ ρ 2 ∧ ρ 2 ≤ 2147483647 := hB 2
  have b3 : -2147483648 ≤ ρ 3 ∧ ρ 3 ≤ 2147483647 := hB 3
  have b4 : 1 ≤ ρ 4 ∧ ρ 4 ≤ 287 := hB 4
  have g5 : Γ (α 5) = 32 := tyAt hA (i := 5) rfl
  have b6 : -2147483648 ≤ ρ 6 ∧ ρ 6 ≤ 2147483647 := hB 6
  have b7 : -2147483648 ≤ ρ 7 ∧ ρ 7 ≤ 2147483647 := hB 7
  have h0 : Γ (α 0) = 31 ∧ (∀ q ∈ ([([], 2, 3), ([(3, 32)], 0, 288), ([(4, 33)], 0, 288), ([(5, 34)], 0, 144)] : VSP), wkT Γ M (α 0) q.1) ∧ Q785 g (vsv M (α 0) ([], 2, 3)) (vsv M (α 0) ([(3, 32)], 0, 288)) (vsv M (α 0) ([(4, 33)], 0, 288)) (vsv M (α 0) ([(5, 34)], 0, 144)) (ρ 1 + 0) (ρ 2 + 0) (ρ 3 + 0) (ρ 4 + 0) := hP _ (List.mem_of_getElem? (i := 0) rfl)
  have h1 : 0 ≤ (3 : Int) ∧ M.2.2.2.1 (α 0) (3 : Int).toNat = some (α 5) := hP _ (List.mem_of_getElem? (i := 1) rfl)
  have h2 : 0 ≤ (ρ 4 + 0 : Int) ∧ M.2.2.2.2 (α 5) (ρ 4 + 0 : Int).toNat = ρ 6 + 0 := hP _ (List.mem_of_getElem? (i := 2) rfl)
  have h3 : 0 ≤ (ρ 4 + (-1) : Int) ∧ M.2.2.2.2 (α 5) (ρ 4 + (-1) : Int).toNat = ρ 7 + 0 := hP _ (List.mem_of_getElem? (i := 3) rfl)
  have h4 : ρ 6 + 0 ≤ ρ 7 + 0 := hP _ (List.mem_of_getElem? (i := 4) rfl)
  have h5 : ρ 7 + 0 ≤ ρ 6 + 0 := hP _ (List.mem_of_getElem? (i := 5) rfl)
  try simp only [Int.add_zero] at h0 h1 h2 h3 h4 h5
  have key : (Γ (α 0) = 31 ∧ (∀ q ∈ ([([], 2, 3), ([(3, 32)], 0, 288), ([(4, 33)], 0, 288), ([(5, 34)], 0, 144)] : VSP), wkT Γ M (α 0) q.1) ∧ Q785 g (vsv M (α 0) ([], 2, 3)) (vsv M (α 0) ([(3, 32)], 0, 288)) (vsv M (α 0) ([(4, 33)], 0, 288)) (vsv M (α 0) ([(5, 34)], 0, 144)) (ρ 1 + 0) (ρ 2 + 0) (ρ 3 + 0) (ρ 4 + 1)) ∧ True := by
    try simp only [Int.add_zero]
    obtain ⟨-, -, p0⟩ := h0
    dsimp only [Q785] at p0
    have e1 : M.2.2.2.1 (α 0) 3 = some (α 5) := h1.2
    have e2 : M.2.2.2.2 (α 5) (ρ 4).toNat = ρ 6 := h2.2
    have e3 : M.2.2.2.2 (α 5) (ρ 4 + (-1)).toNat = ρ 7 := h3.2
    have nx : ∀ {P : Nat → Prop}, (∀ j : Nat, (j : Int) < ρ 4 → P j) → P (ρ 4).toNat → ∀ j : Nat, (j : Int) < ρ 4 + 1 → P j := fun h q j hj => by
      by_cases e : (j : Int) = ρ 4
      · rw [show j = (ρ 4).toNat by omega]
        exact q
      · exact h j (by omega)
    refine ⟨⟨g0, pic1 hT g0 (by decide) (by decide), ?_⟩, trivial⟩
    · dsimp only [Q785]
      have x : (vsv M (α 0) ([(3, 32)], 0, 288)) (ρ 4).toNat = ρ 6 := (vs1 e1 (Nat.zero_le _) (by omega)).trans e2
      have y : (vsv M (α 0) ([(3, 32)], 0, 288)) (ρ 4 + -1).toNat = ρ 7 := (vs1 e1 (Nat.zero_le _) (by omega)).trans e3
      rcases p0 with ⟨q1, q2, q3⟩ | q
      · refine Or.inl ⟨q1, q2, nx q3 ?_⟩
        have z := q3 (ρ 4 + -1).toNat (by omega)
        rw [y] at z
        rw [x, show ρ 6 = ρ 7 by omega]
        exact z
      · exact Or.inr q
  exact ⟨nB, qB (key.1) (nB)⟩
def t_nfb_2 : KT := ((0, 0, 0, 0), [(2, 0, 31, 0), (1, 1, 0, 0), (1, 2, 0, 0), (1, 3, 0, 0), (1, 4, 0, 0), (2, 5, 32, 0), (2, 6, 34, 0), (1, 7, 0, 0), (1, 8, 0, 0), (1, 9, 0, 0), (1, 10, 0, 0), (1, 11, 0, 0)], [(0, 0), (-2147483648, 2147483647), (-2147483648, 2147483647), (-2147483648, 2147483647), (0, 287), (0, 0), (0, 0), (0, 20735), (-2147483648, 2147483647), (-2147483648, 2147483647), (-2147483648, 2147483647), (-2147483648, 2147483647)], [(785, [(2, 0, 31, 0), (1, 1, 0, 0), (1, 2, 0, 0), (1, 3, 0, 0), (1, 4, 0, 0)]), (11, [(2, 0, 31, 0), (0, 0, 0, 3), (2, 5, 32, 0)]), (10, [(2, 5, 32, 0), (1, 4, 0, 0), (1, 7, 0, 0)]), (11, [(2, 0, 31, 0), (0, 0, 0, 5), (2, 6, 34, 0)]), (26, [(1, 7, 0, 0), (0, 0, 0, 144), (1, 8, 0, 0)]), (27, [(1, 7, 0, 0), (0, 0, 0, 144), (1, 9, 0, 0)]), (10, [(2, 6, 34, 0), (1, 8, 0, 0), (1, 10, 0, 0)]), (10, [(2, 6, 34, 0), (1, 9, 0, 0), (1, 11, 0, 0)]), (6, [(1, 10, 0, 0), (1, 11, 0, 0)]), (6, [(1, 11, 0, 0), (1, 10, 0, 0)])], (0, 0, 0), [], [], ([], [(785, [(2, 0, 31, 0), (1, 1, 0, 0), (1, 2, 0, 0), (1, 3, 0, 0), (1, 4, 0, 1)])]), ([], []))
set_option maxRecDepth 100000 in
theorem l_nfb_2 (g : GG) : LOK Yt (PSt g) t_nfb_2 := by
  intro ρ α Γ M as hT hB hA hP
  have g0 : Γ (α 0) = 31 := tyAt hA (i := 0) rfl
  have b1 : -2147483648 ≤ ρ 1 ∧ ρ 1 ≤ 2147483647 := hB 1
  have b2 : -2147483648 ≤ ρ 2 ∧ ρ 2 ≤ 2147483647 := hB 2
  have b3 : -2147483648 ≤ ρ 3 ∧ ρ 3 ≤ 2147483647 := hB 3
  have b4 : 0 ≤ ρ 4 ∧ ρ 4 ≤ 287 := hB 4
  have g5 : Γ (α 5) = 32 := tyAt hA (i := 5) rfl
  have g6 : Γ (α 6) = 34 := tyAt hA (i := 6) rfl
  have b7 : 0 ≤ ρ 7 ∧ ρ 7 ≤ 20735 := hB 7
  have b8 : -2147483648 ≤ ρ 8 ∧ ρ 8 ≤ 2147483647 := hB 8
  have b9 : -2147483648 ≤ ρ 9 ∧ ρ 9 ≤ 2147483647 := hB 9
  have b10 : -2147483648 ≤ ρ 10 ∧ ρ 10 ≤ 2147483647 := hB 10
  have b11 : -2147483648 ≤ ρ 11 ∧ ρ 11 ≤ 2147483647 := hB 11
  have h0 : Γ (α 0) = 31 ∧ (∀ q ∈ ([([], 2, 3), ([(3, 32)], 0, 288), ([(4, 33)], 0, 288), ([(5, 34)], 0, 144)] : VSP), wkT Γ M (α 0) q.1) ∧ Q785 g (vsv M (α 0) ([], 2, 3)) (vsv M (α 0) ([(3, 32)], 0, 288)) (vsv M (α 0) ([(4, 33)], 0, 288)) (vsv M (α 0) ([(5, 34)], 0, 144)) (ρ 1 + 0) (ρ 2 + 0) (ρ 3 + 0) (ρ 4 + 0) := hP _ (List.mem_of_getElem? (i := 0) rfl)
  have h1 : 0 ≤ (3 : Int) ∧ M.2.2.2.1 (α 0) (3 : Int).toNat = some (α 5) := hP _ (List.mem_of_getElem? (i := 1) rfl)
  have h2 : 0 ≤ (ρ 4 + 0 : Int) ∧ M.2.2.2.2 (α 5) (ρ 4 + 0 : Int).toNat = ρ 7 + 0 := hP _ (List.mem_of_getElem? (i := 2) rfl)
  have h3 : 0 ≤ (5 : Int) ∧ M.2.2.2.1 (α 0) (5 : Int).toNat = some (α 6) := hP _ (List.mem_of_getElem? (i := 3) rfl)
  have h4 : ρ 8 + 0 = wI ((ρ 7 + 0 : Int).tdiv (144)) := hP _ (List.mem_of_getElem? (i := 4) rfl)
  have h5 : ρ 9 + 0 = (ρ 7 + 0 : Int).tmod (144) := hP _ (List.mem_of_getElem? (i := 5) rfl)
  have h6 : 0 ≤ (ρ 8 + 0 : Int) ∧ M.2.2.2.2 (α 6) (ρ 8 + 0 : Int).toNat = ρ 10 + 0 := hP _ (List.mem_of_getElem? (i := 6) rfl)
  have h7 : 0 ≤ (ρ 9 + 0 : Int) ∧ M.2.2.2.2 (α 6) (ρ 9 + 0 : Int).toNat = ρ 11 + 0 := hP _ (List.mem_of_getElem? (i := 7) rfl)
  have h8 : ρ 10 + 0 ≤ ρ 11 + 0 := hP _ (List.mem_of_getElem? (i := 8) rfl)
  have h9 : ρ 11 + 0 ≤ ρ 10 + 0 := hP _ (List.mem_of_getElem? (i := 9) rfl)
  try simp only [Int.add_zero] at h0 h1 h2 h3 h4 h5 h6 h7 h8 h9
  have key : (Γ (α 0) = 31 ∧ (∀ q ∈ ([([], 2, 3), ([(3, 32)], 0, 288), ([(4, 33)], 0, 288), ([(5, 34)], 0, 144)] : VSP), wkT Γ M (α 0) q.1) ∧ Q785 g (vsv M (α 0) ([], 2, 3)) (vsv M (α 0) ([(3, 32)], 0, 288)) (vsv M (α 0) ([(4, 33)], 0, 288)) (vsv M (α 0) ([(5, 34)], 0, 144)) (ρ 1 + 0) (ρ 2 + 0) (ρ 3 + 0) (ρ 4 + 1)) ∧ True := by
    try simp only [Int.add_zero]
    obtain ⟨-, -, p0⟩ := h0
    dsimp only [Q785] at p0
    have e1 : M.2.2.2.1 (α 0) 3 = some (α 5) := h1.2
    have e2 : M.2.2.2.2 (α 5) (ρ 4).toNat = ρ 7 := h2.2
    have e3 : M.2.2.2.1 (α 0) 5 = some (α 6) := h3.2
    have e6 : M.2.2.2.2 (α 6) (ρ 8).toNat = ρ 10 := h6.2
    have e7 : M.2.2.2.2 (α 6) (ρ 9).toNat = ρ 11 := h7.2
    have nx : ∀ {P : Nat → Prop}, (∀ j : Nat, (j : Int) < ρ 4 → P j) → P (ρ 4).toNat → ∀ j : Nat, (j : Int) < ρ 4 + 1 → P j := fun h q j hj => by
      by_cases e : (j : Int) = ρ 4
      · rw [show j = (ρ 4).toNat by omega]
        exact q
      · exact h j (by omega)
    have h4 : ρ 8 = ρ 7 / 144 := by
      rw [Int.tdiv_eq_ediv_of_nonneg (by omega), wI_id (by unfold inI; omega)] at h4
      exact h4
    have h5 : ρ 9 = ρ 7 % 144 := by
      rw [Int.tmod_eq_emod_of_nonneg (by omega)] at h5
      exact h5
    refine ⟨⟨g0, pic1 hT g0 (by decide) (by decide), ?_⟩, trivial⟩
    · dsimp only [Q785]
      have x : (vsv M (α 0) ([(3, 32)], 0, 288)) (ρ 4).toNat = ρ 7 := (vs1 e1 (Nat.zero_le _) (by omega)).trans e2
      rcases p0 with ⟨q1, q2, q3⟩ | q
      · refine Or.inl ⟨q1, q2, nx q3 ?_⟩
        rw [x]
        have u : (vsv M (α 0) ([(5, 34)], 0, 144)) (ρ 7 / 144).toNat = ρ 10 := by
          rw [← h4]
          exact (vs1 e3 (Nat.zero_le _) (by omega)).trans e6
        have v : (vsv M (α 0) ([(5, 34)], 0, 144)) (ρ 7 % 144).toNat = ρ 11 := by
          rw [← h5]
          exact (vs1 e3 (Nat.zero_le _) (by omega)).trans e7
        rw [u, v]
        omega
      · exact Or.inr q
  exact ⟨nB, qB (key.1) (nB)⟩
def t_nfb_3 : KT := ((0, 0, 0, 0), [(2, 0, 31, 0), (1, 1, 0, 0), (2, 2, 32, 0), (2, 3, 34, 0), (1, 4, 0, 0), (1, 5, 0, 0), (1, 6, 0, 0), (1, 7, 0, 0), (1, 8, 0, 0)], [(0, 0), (0, 287), (0, 0), (0, 0), (0, 20735), (-2147483648, 2147483647), (-2147483648, 2147483647), (-2147483648, 2147483647), (-2147483648, 2147483647)], [(11, [(2, 0, 31, 0), (0, 0, 0, 3), (2, 2, 32, 0)]), (10, [(2, 2, 32, 0), (1, 1, 0, 0), (1, 4, 0, 0)]), (11, [(2, 0, 31, 0), (0, 0, 0, 5), (2, 3, 34, 0)]), (26, [(1, 4, 0, 0), (0, 0, 0, 144), (1, 5, 0, 0)]), (27, [(1, 4, 0, 0), (0, 0, 0, 144), (1, 6, 0, 0)]), (10, [(2, 3, 34, 0), (1, 5, 0, 0), (1, 7, 0, 0)]), (10, [(2, 3, 34, 0), (1, 6, 0, 0), (1, 8, 0, 0)]), (99, [(1, 7, 0, 0), (1, 8, 0, 0), (0, 0, 0, 0)])], (0, 0, 0), [], [], ([], [(787, [(2, 0, 31, 0), (1, 1, 0, 0)])]), ([], []))
set_option maxRecDepth 100000 in
theorem l_nfb_3 (g : GG) : LOK Yt (PSt g) t_nfb_3 := by
  intro ρ α Γ M as hT hB hA hP
  have g0 : Γ (α 0) = 31 := tyAt hA (i := 0) rfl
  have b1 : 0 ≤ ρ 1 ∧ ρ 1 ≤ 287 := hB 1
  have g2 : Γ (α 2) = 32 := tyAt hA (i := 2) rfl
  have g3 : Γ (α 3) = 34 := tyAt hA (i := 3) rfl
  have b4 : 0 ≤ ρ 4 ∧ ρ 4 ≤ 20735 := hB 4
  have b5 : -2147483648 ≤ ρ 5 ∧ ρ 5 ≤ 2147483647 := hB 5
  have b6 : -2147483648 ≤ ρ 6 ∧ ρ 6 ≤ 2147483647 := hB 6
  have b7 : -2147483648 ≤ ρ 7 ∧ ρ 7 ≤ 2147483647 := hB 7
  have b8 : -2147483648 ≤ ρ 8 ∧ ρ 8 ≤ 2147483647 := hB 8
  have h0 : 0 ≤ (3 : Int) ∧ M.2.2.2.1 (α 0) (3 : Int).toNat = some (α 2) := hP _ (List.mem_of_getElem? (i := 0) rfl)
  have h1 : 0 ≤ (ρ 1 + 0 : Int) ∧ M.2.2.2.2 (α 2) (ρ 1 + 0 : Int).toNat = ρ 4 + 0 := hP _ (List.mem_of_getElem? (i := 1) rfl)
  have h2 : 0 ≤ (5 : Int) ∧ M.2.2.2.1 (α 0) (5 : Int).toNat = some (α 3) := hP _ (List.mem_of_getElem? (i := 2) rfl)
  have h3 : ρ 5 + 0 = wI ((ρ 4 + 0 : Int).tdiv (144)) := hP _ (List.mem_of_getElem? (i := 3) rfl)
  have h4 : ρ 6 + 0 = (ρ 4 + 0 : Int).tmod (144) := hP _ (List.mem_of_getElem? (i := 4) rfl)
  have h5 : 0 ≤ (ρ 5 + 0 : Int) ∧ M.2.2.2.2 (α 3) (ρ 5 + 0 : Int).toNat = ρ 7 + 0 := hP _ (List.mem_of_getElem? (i := 5) rfl)
  have h6 : 0 ≤ (ρ 6 + 0 : Int) ∧ M.2.2.2.2 (α 3) (ρ 6 + 0 : Int).toNat = ρ 8 + 0 := hP _ (List.mem_of_getElem? (i := 6) rfl)
  have h7 : (ρ 7 + 0 : Int) ≠ ρ 8 + 0 := hP _ (List.mem_of_getElem? (i := 7) rfl)
  try simp only [Int.add_zero] at h0 h1 h2 h3 h4 h5 h6 h7
  have key : (Γ (α 0) = 31 ∧ (∀ q ∈ ([([(3, 32)], 0, 288), ([(5, 34)], 0, 144)] : VSP), wkT Γ M (α 0) q.1) ∧ Q787 g (vsv M (α 0) ([(3, 32)], 0, 288)) (vsv M (α 0) ([(5, 34)], 0, 144)) (ρ 1 + 0)) ∧ True := by
    try simp only [Int.add_zero]
    have e0 : M.2.2.2.1 (α 0) 3 = some (α 2) := h0.2
    have e1 : M.2.2.2.2 (α 2) (ρ 1).toNat = ρ 4 := h1.2
    have e2 : M.2.2.2.1 (α 0) 5 = some (α 3) := h2.2
    have e5 : M.2.2.2.2 (α 3) (ρ 5).toNat = ρ 7 := h5.2
    have e6 : M.2.2.2.2 (α 3) (ρ 6).toNat = ρ 8 := h6.2
    have h3 : ρ 5 = ρ 4 / 144 := by
      rw [Int.tdiv_eq_ediv_of_nonneg (by omega), wI_id (by unfold inI; omega)] at h3
      exact h3
    have h4 : ρ 6 = ρ 4 % 144 := by
      rw [Int.tmod_eq_emod_of_nonneg (by omega)] at h4
      exact h4
    refine ⟨⟨g0, pic1 hT g0 (by decide) (by decide), ?_⟩, trivial⟩
    · dsimp only [Q787]
      have x : (vsv M (α 0) ([(3, 32)], 0, 288)) (ρ 1).toNat = ρ 4 := (vs1 e0 (Nat.zero_le _) (by omega)).trans e1
      rw [x]
      have u : (vsv M (α 0) ([(5, 34)], 0, 144)) (ρ 4 / 144).toNat = ρ 7 := by
        rw [← h3]
        exact (vs1 e2 (Nat.zero_le _) (by omega)).trans e5
      have v : (vsv M (α 0) ([(5, 34)], 0, 144)) (ρ 4 % 144).toNat = ρ 8 := by
        rw [← h4]
        exact (vs1 e2 (Nat.zero_le _) (by omega)).trans e6
      rw [u, v]
      exact h7
  exact ⟨nB, qB (key.1) (nB)⟩
def t_nfb_4 : KT := ((0, 0, 0, 0), [(2, 0, 31, 0), (1, 1, 0, 0), (2, 2, 32, 0), (1, 3, 0, 0), (1, 4, 0, 0), (1, 5, 0, 0)], [(0, 0), (0, 287), (0, 0), (-2147483648, 2147483647), (0, 288), (0, 288)], [(771, [(2, 0, 31, 0)]), (773, [(2, 0, 31, 0), (1, 1, 0, 0), (1, 3, 0, 0), (1, 4, 0, 0)]), (11, [(2, 0, 31, 0), (0, 0, 0, 3), (2, 2, 32, 0)]), (10, [(2, 2, 32, 0), (1, 1, 0, 0), (1, 3, 0, 0)]), (10, [(2, 0, 31, 0), (0, 0, 0, 2), (1, 5, 0, 0)]), (21, [(1, 1, 0, 0), (1, 5, 0, 0)])], (0, 0, 0), [], [], ([], [(775, [(2, 0, 31, 0), (1, 1, 0, 0), (1, 4, 0, 0)]), (21, [(1, 1, 0, 0), (1, 5, 0, 0)])]), ([], []))
set_option maxRecDepth 100000 in
theorem l_nfb_4 (g : GG) : LOK Yt (PSt g) t_nfb_4 := by
  intro ρ α Γ M as hT hB hA hP
  have g0 : Γ (α 0) = 31 := tyAt hA (i := 0) rfl
  have b1 : 0 ≤ ρ 1 ∧ ρ 1 ≤ 287 := hB 1
  have g2 : Γ (α 2) = 32 := tyAt hA (i := 2) rfl
  have b3 : -2147483648 ≤ ρ 3 ∧ ρ 3 ≤ 2147483647 := hB 3
  have b4 : 0 ≤ ρ 4 ∧ ρ 4 ≤ 288 := hB 4
  have b5 : 0 ≤ ρ 5 ∧ ρ 5 ≤ 288 := hB 5
  have h0 : Γ (α 0) = 31 ∧ (∀ q ∈ ([([], 2, 3), ([(4, 33)], 0, 288)] : VSP), wkT Γ M (α 0) q.1) ∧ Q771 g (vsv M (α 0) ([], 2, 3)) (vsv M (α 0) ([(4, 33)], 0, 288))  := hP _ (List.mem_of_getElem? (i := 0) rfl)
  have h1 : Γ (α 0) = 31 ∧ (∀ q ∈ ([([], 2, 3), ([(3, 32)], 0, 288)] : VSP), wkT Γ M (α 0) q.1) ∧ Q773 g (vsv M (α 0) ([], 2, 3)) (vsv M (α 0) ([(3, 32)], 0, 288)) (ρ 1 + 0) (ρ 3 + 0) (ρ 4 + 0) := hP _ (List.mem_of_getElem? (i := 1) rfl)
  have h2 : 0 ≤ (3 : Int) ∧ M.2.2.2.1 (α 0) (3 : Int).toNat = some (α 2) := hP _ (List.mem_of_getElem? (i := 2) rfl)
  have h3 : 0 ≤ (ρ 1 + 0 : Int) ∧ M.2.2.2.2 (α 2) (ρ 1 + 0 : Int).toNat = ρ 3 + 0 := hP _ (List.mem_of_getElem? (i := 3) rfl)
  have h4 : 0 ≤ (2 : Int) ∧ M.2.2.2.2 (α 0) (2 : Int).toNat = ρ 5 + 0 := hP _ (List.mem_of_getElem? (i := 4) rfl)
  have h5 : ρ 1 + 0 < ρ 5 + 0 := hP _ (List.mem_of_getElem? (i := 5) rfl)
  try simp only [Int.add_zero] at h0 h1 h2 h3 h4 h5
  have key : (Γ (α 0) = 31 ∧ (∀ q ∈ ([([(4, 33)], 0, 288)] : VSP), wkT Γ M (α 0) q.1) ∧ Q775 g (vsv M (α 0) ([(4, 33)], 0, 288)) (ρ 1 + 0) (ρ 4 + 0)) ∧ (ρ 1 + 0 < ρ 5 + 0) ∧ True := by
    try simp only [Int.add_zero]
    obtain ⟨-, -, p0⟩ := h0
    dsimp only [Q771] at p0
    obtain ⟨-, -, p1⟩ := h1
    dsimp only [Q773] at p1
    have e2 : M.2.2.2.1 (α 0) 3 = some (α 2) := h2.2
    have e3 : M.2.2.2.2 (α 2) (ρ 1).toNat = ρ 3 := h3.2
    have e4 : M.2.2.2.2 (α 0) 2 = ρ 5 := h4.2
    have h5 : ρ 1 < ρ 5 := h5
    have c2 : (vsv M (α 0) ([], 2, 3)) 2 = ρ 5 := (vs0 (by decide) (by decide)).trans e4
    refine ⟨⟨g0, pic1 hT g0 (by decide) (by decide), ?_⟩, ?_, trivial⟩
    · dsimp only [Q775]
      have x : (vsv M (α 0) ([(3, 32)], 0, 288)) (ρ 1).toNat = ρ 3 := (vs1 e2 (Nat.zero_le _) (by omega)).trans e3
      have lt := p1.2 (by rw [c2]; omega) x
      have z := p1.1.2 (ρ 4 - 1).toNat (by omega) (by omega)
      rw [c2] at z
      exact ⟨by omega, fun s hs => p0 s (by rw [c2]; omega)⟩
    · exact h5
  exact ⟨nB, qB (key.1) (qB (key.2.1) (nB))⟩
def t_nfb_n : KT := ((0, 0, 0, 0), [(2, 0, 31, 0), (1, 1, 0, 0), (1, 2, 0, 0), (1, 3, 0, 0), (1, 4, 0, 0), (1, 5, 0, 0), (1, 6, 0, 0)], [(0, 0), (-2147483648, 2147483647), (-2147483648, 2147483647), (-2147483648, 2147483647), (0, 287), (0, 288), (1, 2147483647)], [(785, [(2, 0, 31, 0), (1, 1, 0, 0), (1, 2, 0, 0), (1, 3, 0, 0), (1, 4, 0, 0)]), (6, [(1, 6, 0, 0), (1, 2, 0, 0)])], (0, 0, 0), [], [], ([], [(785, [(2, 0, 31, 0), (1, 1, 0, 0), (1, 2, 0, 0), (1, 3, 0, 0), (1, 4, 0, 1)])]), ([], []))
set_option maxRecDepth 100000 in
theorem l_nfb_n (g : GG) : LOK Yt (PSt g) t_nfb_n := by
  intro ρ α Γ M as hT hB hA hP
  have g0 : Γ (α 0) = 31 := tyAt hA (i := 0) rfl
  have b1 : -2147483648 ≤ ρ 1 ∧ ρ 1 ≤ 2147483647 := hB 1
  have b2 : -2147483648 ≤ ρ 2 ∧ ρ 2 ≤ 2147483647 := hB 2
  have b3 : -2147483648 ≤ ρ 3 ∧ ρ 3 ≤ 2147483647 := hB 3
  have b4 : 0 ≤ ρ 4 ∧ ρ 4 ≤ 287 := hB 4
  have b5 : 0 ≤ ρ 5 ∧ ρ 5 ≤ 288 := hB 5
  have b6 : 1 ≤ ρ 6 ∧ ρ 6 ≤ 2147483647 := hB 6
  have h0 : Γ (α 0) = 31 ∧ (∀ q ∈ ([([], 2, 3), ([(3, 32)], 0, 288), ([(4, 33)], 0, 288), ([(5, 34)], 0, 144)] : VSP), wkT Γ M (α 0) q.1) ∧ Q785 g (vsv M (α 0) ([], 2, 3)) (vsv M (α 0) ([(3, 32)], 0, 288)) (vsv M (α 0) ([(4, 33)], 0, 288)) (vsv M (α 0) ([(5, 34)], 0, 144)) (ρ 1 + 0) (ρ 2 + 0) (ρ 3 + 0) (ρ 4 + 0) := hP _ (List.mem_of_getElem? (i := 0) rfl)
  have h1 : ρ 6 + 0 ≤ ρ 2 + 0 := hP _ (List.mem_of_getElem? (i := 1) rfl)
  try simp only [Int.add_zero] at h0 h1
  have key : (Γ (α 0) = 31 ∧ (∀ q ∈ ([([], 2, 3), ([(3, 32)], 0, 288), ([(4, 33)], 0, 288), ([(5, 34)], 0, 144)] : VSP), wkT Γ M (α 0) q.1) ∧ Q785 g (vsv M (α 0) ([], 2, 3)) (vsv M (α 0) ([(3, 32)], 0, 288)) (vsv M (α 0) ([(4, 33)], 0, 288)) (vsv M (α 0) ([(5, 34)], 0, 144)) (ρ 1 + 0) (ρ 2 + 0) (ρ 3 + 0) (ρ 4 + 1)) ∧ True := by
    try simp only [Int.add_zero]
    obtain ⟨-, -, p0⟩ := h0
    dsimp only [Q785] at p0
    have h1 : ρ 6 ≤ ρ 2 := h1
    refine ⟨⟨g0, pic1 hT g0 (by decide) (by decide), ?_⟩, trivial⟩
    · dsimp only [Q785]
      rcases p0 with ⟨q1, q2, q3⟩ | q
      · omega
      · exact Or.inr q
  exact ⟨nB, qB (key.1) (nB)⟩
def t_nfb_c : KT := ((0, 0, 0, 0), [(2, 0, 31, 0), (1, 1, 0, 0), (1, 2, 0, 0), (1, 3, 0, 0)], [(0, 0), (0, 287), (0, 288), (-2147483648, 2147483647)], [(776, [(2, 0, 31, 0), (1, 1, 0, 0), (1, 2, 0, 0)]), (10, [(2, 0, 31, 0), (0, 0, 0, 1), (1, 3, 0, 0)])], (0, 0, 0), [], [], ([(3, 1, 2147483647)], []), ([], []))
set_option maxRecDepth 100000 in
theorem l_nfb_c (g : GG) : LOK Yt (PSt g) t_nfb_c := by
  intro ρ α Γ M as hT hB hA hP
  have g0 : Γ (α 0) = 31 := tyAt hA (i := 0) rfl
  have b1 : 0 ≤ ρ 1 ∧ ρ 1 ≤ 287 := hB 1
  have b2 : 0 ≤ ρ 2 ∧ ρ 2 ≤ 288 := hB 2
  have b3 : -2147483648 ≤ ρ 3 ∧ ρ 3 ≤ 2147483647 := hB 3
  have h0 : Γ (α 0) = 31 ∧ (∀ q ∈ ([([], 0, 1), ([], 1, 2), ([(4, 33)], 0, 288)] : VSP), wkT Γ M (α 0) q.1) ∧ Q776 g (vsv M (α 0) ([], 0, 1)) (vsv M (α 0) ([], 1, 2)) (vsv M (α 0) ([(4, 33)], 0, 288)) (ρ 1 + 0) (ρ 2 + 0) := hP _ (List.mem_of_getElem? (i := 0) rfl)
  have h1 : 0 ≤ (1 : Int) ∧ M.2.2.2.2 (α 0) (1 : Int).toNat = ρ 3 + 0 := hP _ (List.mem_of_getElem? (i := 1) rfl)
  try simp only [Int.add_zero] at h0 h1
  have key : (1 ≤ ρ 3 ∧ ρ 3 ≤ 2147483647) ∧ True := by
    try simp only [Int.add_zero]
    obtain ⟨-, -, p0⟩ := h0
    dsimp only [Q776] at p0
    have e1 : M.2.2.2.2 (α 0) 1 = ρ 3 := h1.2
    refine ⟨?_, trivial⟩
    · rw [← (vs0 (by decide) (by decide) : (vsv M (α 0) ([], 1, 2)) 1 = _).trans e1]
      have := p0.1
      have c := (vs0 (by decide) (by decide) : (vsv M (α 0) ([], 1, 2)) 1 = _).trans e1
      omega
  exact ⟨qB (key.1) (nB), nB⟩
def t_nfb_e : KT := ((0, 0, 0, 0), [(2, 0, 31, 0), (1, 1, 0, 0), (1, 2, 0, 0), (1, 3, 0, 0), (1, 4, 0, 0), (1, 5, 0, 0)], [(0, 0), (-2147483648, 2147483647), (-2147483648, 2147483647), (-2147483648, 2147483647), (0, 288), (0, 288)], [(785, [(2, 0, 31, 0), (1, 1, 0, 0), (1, 2, 0, 0), (1, 3, 0, 0), (1, 4, 0, 0)]), (10, [(2, 0, 31, 0), (0, 0, 0, 2), (1, 5, 0, 0)]), (6, [(1, 5, 0, 0), (1, 4, 0, 0)]), (10, [(2, 0, 31, 0), (0, 0, 0, 0), (1, 3, 0, 0)])], (0, 0, 0), [], [], ([], [(783, [(2, 0, 31, 0), (1, 1, 0, 0)])]), ([], []))
set_option maxRecDepth 100000 in
theorem l_nfb_e (g : GG) : LOK Yt (PSt g) t_nfb_e := by
  intro ρ α Γ M as hT hB hA hP
  have g0 : Γ (α 0) = 31 := tyAt hA (i := 0) rfl
  have b1 : -2147483648 ≤ ρ 1 ∧ ρ 1 ≤ 2147483647 := hB 1
  have b2 : -2147483648 ≤ ρ 2 ∧ ρ 2 ≤ 2147483647 := hB 2
  have b3 : -2147483648 ≤ ρ 3 ∧ ρ 3 ≤ 2147483647 := hB 3
  have b4 : 0 ≤ ρ 4 ∧ ρ 4 ≤ 288 := hB 4
  have b5 : 0 ≤ ρ 5 ∧ ρ 5 ≤ 288 := hB 5
  have h0 : Γ (α 0) = 31 ∧ (∀ q ∈ ([([], 2, 3), ([(3, 32)], 0, 288), ([(4, 33)], 0, 288), ([(5, 34)], 0, 144)] : VSP), wkT Γ M (α 0) q.1) ∧ Q785 g (vsv M (α 0) ([], 2, 3)) (vsv M (α 0) ([(3, 32)], 0, 288)) (vsv M (α 0) ([(4, 33)], 0, 288)) (vsv M (α 0) ([(5, 34)], 0, 144)) (ρ 1 + 0) (ρ 2 + 0) (ρ 3 + 0) (ρ 4 + 0) := hP _ (List.mem_of_getElem? (i := 0) rfl)
  have h1 : 0 ≤ (2 : Int) ∧ M.2.2.2.2 (α 0) (2 : Int).toNat = ρ 5 + 0 := hP _ (List.mem_of_getElem? (i := 1) rfl)
  have h2 : ρ 5 + 0 ≤ ρ 4 + 0 := hP _ (List.mem_of_getElem? (i := 2) rfl)
  have h3 : 0 ≤ (0 : Int) ∧ M.2.2.2.2 (α 0) (0 : Int).toNat = ρ 3 + 0 := hP _ (List.mem_of_getElem? (i := 3) rfl)
  try simp only [Int.add_zero] at h0 h1 h2 h3
  have key : (Γ (α 0) = 31 ∧ (∀ q ∈ ([([], 0, 1), ([], 2, 3), ([(3, 32)], 0, 288), ([(4, 33)], 0, 288), ([(5, 34)], 0, 144)] : VSP), wkT Γ M (α 0) q.1) ∧ Q783 g (vsv M (α 0) ([], 0, 1)) (vsv M (α 0) ([], 2, 3)) (vsv M (α 0) ([(3, 32)], 0, 288)) (vsv M (α 0) ([(4, 33)], 0, 288)) (vsv M (α 0) ([(5, 34)], 0, 144)) (ρ 1 + 0)) ∧ True := by
    try simp only [Int.add_zero]
    obtain ⟨-, -, p0⟩ := h0
    dsimp only [Q785] at p0
    have e1 : M.2.2.2.2 (α 0) 2 = ρ 5 := h1.2
    have e3 : M.2.2.2.2 (α 0) 0 = ρ 3 := h3.2
    have c2 : (vsv M (α 0) ([], 2, 3)) 2 = ρ 5 := (vs0 (by decide) (by decide)).trans e1
    have h2 : ρ 5 ≤ ρ 4 := h2
    refine ⟨⟨g0, pic1 hT g0 (by decide) (by decide), ?_⟩, trivial⟩
    · dsimp only [Q783]
      have c0 : (vsv M (α 0) ([], 0, 1)) 0 = ρ 3 := (vs0 (by decide) (by decide)).trans e3
      rw [c0]
      rcases p0 with ⟨q1, q2, q3⟩ | q
      · exact Or.inl ⟨q1, fun j hj => q3 j (by rw [c2] at hj; omega)⟩
      · exact Or.inr q
  exact ⟨nB, qB (key.1) (nB)⟩
def t_nfb_s : KT := ((0, 0, 0, 0), [(2, 0, 31, 0), (1, 1, 0, 0), (1, 2, 0, 0), (2, 3, 32, 0), (1, 4, 0, 0), (1, 5, 0, 0), (1, 6, 0, 0), (1, 7, 0, 0)], [(0, 0), (0, 287), (0, 288), (0, 0), (-2147483648, 2147483647), (-2147483648, 2147483647), (-2147483648, 2147483647), (0, 288)], [(776, [(2, 0, 31, 0), (1, 1, 0, 0), (1, 2, 0, 0)]), (773, [(2, 0, 31, 0), (1, 1, 0, 0), (1, 4, 0, 0), (1, 2, 0, 0)]), (787, [(2, 0, 31, 0), (1, 1, 0, 0)]), (11, [(2, 0, 31, 0), (0, 0, 0, 3), (2, 3, 32, 0)]), (10, [(2, 3, 32, 0), (1, 1, 0, 0), (1, 4, 0, 0)]), (10, [(2, 0, 31, 0), (0, 0, 0, 0), (1, 6, 0, 0)]), (10, [(2, 0, 31, 0), (0, 0, 0, 2), (1, 7, 0, 0)]), (21, [(1, 1, 0, 0), (1, 7, 0, 0)])], (0, 0, 0), [], [], ([], [(785, [(2, 0, 31, 0), (1, 1, 0, 0), (1, 5, 0, 0), (1, 6, 0, 0), (1, 1, 0, 1)])]), ([], []))
set_option maxRecDepth 100000 in
theorem l_nfb_s (g : GG) : LOK Yt (PSt g) t_nfb_s := by
  intro ρ α Γ M as hT hB hA hP
  have g0 : Γ (α 0) = 31 := tyAt hA (i := 0) rfl
  have b1 : 0 ≤ ρ 1 ∧ ρ 1 ≤ 287 := hB 1
  have b2 : 0 ≤ ρ 2 ∧ ρ 2 ≤ 288 := hB 2
  have g3 : Γ (α 3) = 32 := tyAt hA (i := 3) rfl
  have b4 : -2147483648 ≤ ρ 4 ∧ ρ 4 ≤ 2147483647 := hB 4
  have b5 : -2147483648 ≤ ρ 5 ∧ ρ 5 ≤ 2147483647 := hB 5
  have b6 : -2147483648 ≤ ρ 6 ∧ ρ 6 ≤ 2147483647 := hB 6
  have b7 : 0 ≤ ρ 7 ∧ ρ 7 ≤ 288 := hB 7
  have h0 : Γ (α 0) = 31 ∧ (∀ q ∈ ([([], 0, 1), ([], 1, 2), ([(4, 33)], 0, 288)] : VSP), wkT Γ M (α 0) q.1) ∧ Q776 g (vsv M (α 0) ([], 0, 1)) (vsv M (α 0) ([], 1, 2)) (vsv M (α 0) ([(4, 33)], 0, 288)) (ρ 1 + 0) (ρ 2 + 0) := hP _ (List.mem_of_getElem? (i := 0) rfl)
  have h1 : Γ (α 0) = 31 ∧ (∀ q ∈ ([([], 2, 3), ([(3, 32)], 0, 288)] : VSP), wkT Γ M (α 0) q.1) ∧ Q773 g (vsv M (α 0) ([], 2, 3)) (vsv M (α 0) ([(3, 32)], 0, 288)) (ρ 1 + 0) (ρ 4 + 0) (ρ 2 + 0) := hP _ (List.mem_of_getElem? (i := 1) rfl)
  have h2 : Γ (α 0) = 31 ∧ (∀ q ∈ ([([(3, 32)], 0, 288), ([(5, 34)], 0, 144)] : VSP), wkT Γ M (α 0) q.1) ∧ Q787 g (vsv M (α 0) ([(3, 32)], 0, 288)) (vsv M (α 0) ([(5, 34)], 0, 144)) (ρ 1 + 0) := hP _ (List.mem_of_getElem? (i := 2) rfl)
  have h3 : 0 ≤ (3 : Int) ∧ M.2.2.2.1 (α 0) (3 : Int).toNat = some (α 3) := hP _ (List.mem_of_getElem? (i := 3) rfl)
  have h4 : 0 ≤ (ρ 1 + 0 : Int) ∧ M.2.2.2.2 (α 3) (ρ 1 + 0 : Int).toNat = ρ 4 + 0 := hP _ (List.mem_of_getElem? (i := 4) rfl)
  have h5 : 0 ≤ (0 : Int) ∧ M.2.2.2.2 (α 0) (0 : Int).toNat = ρ 6 + 0 := hP _ (List.mem_of_getElem? (i := 5) rfl)
  have h6 : 0 ≤ (2 : Int) ∧ M.2.2.2.2 (α 0) (2 : Int).toNat = ρ 7 + 0 := hP _ (List.mem_of_getElem? (i := 6) rfl)
  have h7 : ρ 1 + 0 < ρ 7 + 0 := hP _ (List.mem_of_getElem? (i := 7) rfl)
  try simp only [Int.add_zero] at h0 h1 h2 h3 h4 h5 h6 h7
  have key : (Γ (α 0) = 31 ∧ (∀ q ∈ ([([], 2, 3), ([(3, 32)], 0, 288), ([(4, 33)], 0, 288), ([(5, 34)], 0, 144)] : VSP), wkT Γ M (α 0) q.1) ∧ Q785 g (vsv M (α 0) ([], 2, 3)) (vsv M (α 0) ([(3, 32)], 0, 288)) (vsv M (α 0) ([(4, 33)], 0, 288)) (vsv M (α 0) ([(5, 34)], 0, 144)) (ρ 1 + 0) (ρ 5 + 0) (ρ 6 + 0) (ρ 1 + 1)) ∧ True := by
    try simp only [Int.add_zero]
    obtain ⟨-, -, p0⟩ := h0
    dsimp only [Q776] at p0
    obtain ⟨-, -, p1⟩ := h1
    dsimp only [Q773] at p1
    obtain ⟨-, -, p2⟩ := h2
    dsimp only [Q787] at p2
    have e3 : M.2.2.2.1 (α 0) 3 = some (α 3) := h3.2
    have e4 : M.2.2.2.2 (α 3) (ρ 1).toNat = ρ 4 := h4.2
    have e5 : M.2.2.2.2 (α 0) 0 = ρ 6 := h5.2
    have e6 : M.2.2.2.2 (α 0) 2 = ρ 7 := h6.2
    have c2 : (vsv M (α 0) ([], 2, 3)) 2 = ρ 7 := (vs0 (by decide) (by decide)).trans e6
    have h7 : ρ 1 < ρ 7 := h7
    refine ⟨⟨g0, pic1 hT g0 (by decide) (by decide), ?_⟩, trivial⟩
    · dsimp only [Q785]
      have x : (vsv M (α 0) ([(3, 32)], 0, 288)) (ρ 1).toNat = ρ 4 := (vs1 e3 (Nat.zero_le _) (by omega)).trans e4
      have c0 : (vsv M (α 0) ([], 0, 1)) 0 = ρ 6 := (vs0 (by decide) (by decide)).trans e5
      obtain ⟨j, ⟨j1, j2⟩, j3⟩ := p0.2
      have z := p1.1.2 j j1 j2
      rw [c0] at j3
      exact Or.inr ⟨⟨⟨b1.1, by rw [c2]; omega⟩, p2⟩, j, z.1, by rw [x]; exact z.2, j3.symm⟩
  exact ⟨nB, qB (key.1) (nB)⟩
def t_ncl_v : KT := ((0, 0, 0, 0), [(2, 0, 110, 0), (2, 1, 1, 0), (1, 2, 0, 0), (1, 3, 0, 0), (1, 4, 0, 0), (2, 5, 111, 0), (2, 6, 113, 0), (1, 7, 0, 0), (1, 8, 0, 0), (1, 9, 0, 0), (1, 10, 0, 0), (1, 11, 0, 0)], [(0, 0), (0, 0), (0, 143), (-4000000, 4000000), (0, 143), (0, 0), (0, 0), (-2147483648, 2147483647), (-2147483648, 2147483647), (255, 255), (-9223372036854775808, 9223372036854775807), (-9223372036854775808, 9223372036854775807)], [(799, [(2, 0, 110, 0), (2, 1, 1, 0), (1, 2, 0, 0)]), (2, [(2, 1, 1, 0), (1, 4, 0, 0)]), (11, [(2, 0, 110, 0), (0, 0, 0, 4), (2, 5, 111, 0)]), (10, [(2, 5, 111, 0), (1, 4, 0, 0), (1, 7, 0, 0)]), (11, [(2, 0, 110, 0), (0, 0, 0, 6), (2, 6, 113, 0)]), (10, [(2, 6, 113, 0), (1, 4, 0, 0), (1, 8, 0, 0)]), (6, [(1, 8, 0, 0), (1, 2, 0, 0)]), (6, [(1, 2, 0, 0), (1, 8, 0, 0)]), (712, [(1, 3, 0, 0), (1, 9, 0, 0), (1, 10, 0, 0)]), (710, [(1, 7, 0, 0), (1, 10, 0, 0), (1, 11, 0, 0)])], (0, 0, 0), [], [], ([], [(780, [(1, 11, 0, 0)])]), ([], []))
set_option maxRecDepth 100000 in
theorem l_ncl_v (g : GG) : LOK Yt (PSt g) t_ncl_v := by
  intro ρ α Γ M as hT hB hA hP
  have g0 : Γ (α 0) = 110 := tyAt hA (i := 0) rfl
  have g1 : Γ (α 1) = 1 := tyAt hA (i := 1) rfl
  have b2 : 0 ≤ ρ 2 ∧ ρ 2 ≤ 143 := hB 2
  have b3 : -4000000 ≤ ρ 3 ∧ ρ 3 ≤ 4000000 := hB 3
  have b4 : 0 ≤ ρ 4 ∧ ρ 4 ≤ 143 := hB 4
  have g5 : Γ (α 5) = 111 := tyAt hA (i := 5) rfl
  have g6 : Γ (α 6) = 113 := tyAt hA (i := 6) rfl
  have b7 : -2147483648 ≤ ρ 7 ∧ ρ 7 ≤ 2147483647 := hB 7
  have b8 : -2147483648 ≤ ρ 8 ∧ ρ 8 ≤ 2147483647 := hB 8
  have b9 : 255 ≤ ρ 9 ∧ ρ 9 ≤ 255 := hB 9
  have b10 : -9223372036854775808 ≤ ρ 10 ∧ ρ 10 ≤ 9223372036854775807 := hB 10
  have b11 : -9223372036854775808 ≤ ρ 11 ∧ ρ 11 ≤ 9223372036854775807 := hB 11
  have h0 : Γ (α 0) = 110 ∧ (∀ q ∈ ([([(4, 111)], 0, 144), ([(6, 113)], 0, 144)] : VSP), wkT Γ M (α 0) q.1) ∧ Γ (α 1) = 1 ∧ (∀ q ∈ ([([], 0, 2)] : VSP), wkT Γ M (α 1) q.1) ∧ Q799 g (vsv M (α 0) ([(4, 111)], 0, 144)) (vsv M (α 0) ([(6, 113)], 0, 144)) (vsv M (α 1) ([], 0, 2)) (ρ 2 + 0) := hP _ (List.mem_of_getElem? (i := 0) rfl)
  have h1 : Γ (α 1) = 1 ∧ 0 ≤ ρ 4 + 0 ∧ ρ 4 + 0 < M.2.2.2.2 (α 1) 0 * M.2.2.2.2 (α 1) 1 := hP _ (List.mem_of_getElem? (i := 1) rfl)
  have h2 : 0 ≤ (4 : Int) ∧ M.2.2.2.1 (α 0) (4 : Int).toNat = some (α 5) := hP _ (List.mem_of_getElem? (i := 2) rfl)
  have h3 : 0 ≤ (ρ 4 + 0 : Int) ∧ M.2.2.2.2 (α 5) (ρ 4 + 0 : Int).toNat = ρ 7 + 0 := hP _ (List.mem_of_getElem? (i := 3) rfl)
  have h4 : 0 ≤ (6 : Int) ∧ M.2.2.2.1 (α 0) (6 : Int).toNat = some (α 6) := hP _ (List.mem_of_getElem? (i := 4) rfl)
  have h5 : 0 ≤ (ρ 4 + 0 : Int) ∧ M.2.2.2.2 (α 6) (ρ 4 + 0 : Int).toNat = ρ 8 + 0 := hP _ (List.mem_of_getElem? (i := 5) rfl)
  have h6 : ρ 8 + 0 ≤ ρ 2 + 0 := hP _ (List.mem_of_getElem? (i := 6) rfl)
  have h7 : ρ 2 + 0 ≤ ρ 8 + 0 := hP _ (List.mem_of_getElem? (i := 7) rfl)
  have h8 : (ρ 10 + 0 : Int) = wL ((ρ 3 + 0 : Int) * (ρ 9 + 0 : Int)) := hP _ (List.mem_of_getElem? (i := 8) rfl)
  have h9 : (ρ 11 + 0 : Int) = wL ((ρ 7 + 0 : Int) + (ρ 10 + 0 : Int)) := hP _ (List.mem_of_getElem? (i := 9) rfl)
  try simp only [Int.add_zero] at h0 h1 h2 h3 h4 h5 h6 h7 h8 h9
  have key : (-2147483648 ≤ (ρ 11 + 0 : Int) ∧ (ρ 11 + 0 : Int) ≤ 2147483647) ∧ True := by
    try simp only [Int.add_zero]
    have dm1 := cdim hT g1
    have rc1 := rc_bd dm1.1 dm1.2
    obtain ⟨-, -, -, -, p0⟩ := h0
    dsimp only [Q799] at p0
    have e2 : M.2.2.2.1 (α 0) 4 = some (α 5) := h2.2
    have e3 : M.2.2.2.2 (α 5) (ρ 4).toNat = ρ 7 := h3.2
    have e4 : M.2.2.2.1 (α 0) 6 = some (α 6) := h4.2
    have e5 : M.2.2.2.2 (α 6) (ρ 4).toNat = ρ 8 := h5.2
    have m0 : (vsv M (α 1) ([], 0, 2)) 0 = M.2.2.2.2 (α 1) 0 := vs0 (by decide) (by decide)
    have m1 : (vsv M (α 1) ([], 0, 2)) 1 = M.2.2.2.2 (α 1) 1 := vs0 (by decide) (by decide)
    have h6 : ρ 8 ≤ ρ 2 := h6
    have h7 : ρ 2 ≤ ρ 8 := h7
    refine ⟨?_, trivial⟩
    · have h1 := h1.2.2
      rw [← m0, ← m1] at h1
      have hh : (vsv M (α 0) ([(4, 111)], 0, 144)) (ρ 4).toNat = ρ 7 := (vs1 e2 (Nat.zero_le _) (by omega)).trans e3
      have hs : (vsv M (α 0) ([(6, 113)], 0, 144)) (ρ 4).toNat = ρ 8 := (vs1 e4 (Nat.zero_le _) (by omega)).trans e5
      have := p0 (ρ 4).toNat (by omega) (by omega)
      have e9 : ρ 9 = 255 := by omega
      rw [e9, wL_id (by unfold inL; omega)] at h8
      rw [wL_id (by unfold inL; omega)] at h9
      exact ⟨by omega, by omega⟩
  exact ⟨nB, qB (key.1) (nB)⟩
def t_ncl_lo : KT := ((0, 0, 0, 0), [(1, 0, 0, 0), (1, 1, 0, 0), (1, 2, 0, 0)], [(-9223372036854775808, 9223372036854775807), (-2147483648, -2147483648), (-2147483648, 2147483647)], [(715, [(1, 0, 0, 0), (1, 1, 0, 0), (1, 2, 0, 0)]), (780, [(1, 0, 0, 0)])], (0, 0, 0), [], [], ([(2, 0, 1)], []), ([], []))
set_option maxRecDepth 100000 in
theorem l_ncl_lo (g : GG) : LOK Yt (PSt g) t_ncl_lo := by
  intro ρ α Γ M as hT hB hA hP
  have b0 : -9223372036854775808 ≤ ρ 0 ∧ ρ 0 ≤ 9223372036854775807 := hB 0
  have b1 : -2147483648 ≤ ρ 1 ∧ ρ 1 ≤ -2147483648 := hB 1
  have b2 : -2147483648 ≤ ρ 2 ∧ ρ 2 ≤ 2147483647 := hB 2
  have h0 : (ρ 2 + 0 : Int) = lCm (ρ 0 + 0 : Int) (ρ 1 + 0 : Int) := hP _ (List.mem_of_getElem? (i := 0) rfl)
  have h1 : -2147483648 ≤ (ρ 0 + 0 : Int) ∧ (ρ 0 + 0 : Int) ≤ 2147483647 := hP _ (List.mem_of_getElem? (i := 1) rfl)
  try simp only [Int.add_zero] at h0 h1
  have key : (0 ≤ ρ 2 ∧ ρ 2 ≤ 1) ∧ True := by
    try simp only [Int.add_zero]
    refine ⟨?_, trivial⟩
    · unfold lCm at h0
      split at h0
      · omega
      · split at h0 <;> omega
  exact ⟨qB (key.1) (nB), nB⟩
def t_ncl_hi : KT := ((0, 0, 0, 0), [(1, 0, 0, 0), (1, 1, 0, 0), (1, 2, 0, 0)], [(-9223372036854775808, 9223372036854775807), (2147483647, 2147483647), (-2147483648, 2147483647)], [(715, [(1, 0, 0, 0), (1, 1, 0, 0), (1, 2, 0, 0)]), (780, [(1, 0, 0, 0)])], (0, 0, 0), [], [], ([(2, -1, 0)], []), ([], []))
set_option maxRecDepth 100000 in
theorem l_ncl_hi (g : GG) : LOK Yt (PSt g) t_ncl_hi := by
  intro ρ α Γ M as hT hB hA hP
  have b0 : -9223372036854775808 ≤ ρ 0 ∧ ρ 0 ≤ 9223372036854775807 := hB 0
  have b1 : 2147483647 ≤ ρ 1 ∧ ρ 1 ≤ 2147483647 := hB 1
  have b2 : -2147483648 ≤ ρ 2 ∧ ρ 2 ≤ 2147483647 := hB 2
  have h0 : (ρ 2 + 0 : Int) = lCm (ρ 0 + 0 : Int) (ρ 1 + 0 : Int) := hP _ (List.mem_of_getElem? (i := 0) rfl)
  have h1 : -2147483648 ≤ (ρ 0 + 0 : Int) ∧ (ρ 0 + 0 : Int) ≤ 2147483647 := hP _ (List.mem_of_getElem? (i := 1) rfl)
  try simp only [Int.add_zero] at h0 h1
  have key : (-1 ≤ ρ 2 ∧ ρ 2 ≤ 0) ∧ True := by
    try simp only [Int.add_zero]
    refine ⟨?_, trivial⟩
    · unfold lCm at h0
      split at h0
      · omega
      · split at h0 <;> omega
  exact ⟨qB (key.1) (nB), nB⟩
def t_nrs_0 : KT := ((0, 0, 0, 0), [(2, 0, 110, 0), (2, 1, 1, 0), (1, 2, 0, 0), (1, 3, 0, 0)], [(0, 0), (0, 0), (0, 143), (-4000000, 4000000)], [(795, [(2, 0, 110, 0), (2, 1, 1, 0), (1, 2, 0, 0), (1, 3, 0, 0)])], (0, 0, 0), [], [], ([], [(796, [(2, 0, 110, 0), (2, 1, 1, 0), (1, 2, 0, 0), (1, 3, 0, 0), (0, 0, 0, 0)])]), ([], []))
set_option maxRecDepth 100000 in
theorem l_nrs_0 (g : GG) : LOK Yt (PSt g) t_nrs_0 := by
  intro ρ α Γ M as hT hB hA hP
  have g0 : Γ (α 0) = 110 := tyAt hA (i := 0) rfl
  have g1 : Γ (α 1) = 1 := tyAt hA (i := 1) rfl
  have b2 : 0 ≤ ρ 2 ∧ ρ 2 ≤ 143 := hB 2
  have b3 : -4000000 ≤ ρ 3 ∧ ρ 3 ≤ 4000000 := hB 3
  have h0 : Γ (α 0) = 110 ∧ (∀ q ∈ ([([(4, 111)], 0, 144), ([(6, 113)], 0, 144)] : VSP), wkT Γ M (α 0) q.1) ∧ Γ (α 1) = 1 ∧ (∀ q ∈ ([([], 0, 2)] : VSP), wkT Γ M (α 1) q.1) ∧ Q795 g (vsv M (α 0) ([(4, 111)], 0, 144)) (vsv M (α 0) ([(6, 113)], 0, 144)) (vsv M (α 1) ([], 0, 2)) (ρ 2 + 0) (ρ 3 + 0) := hP _ (List.mem_of_getElem? (i := 0) rfl)
  try simp only [Int.add_zero] at h0
  have key : (Γ (α 0) = 110 ∧ (∀ q ∈ ([([(4, 111)], 0, 144), ([(6, 113)], 0, 144)] : VSP), wkT Γ M (α 0) q.1) ∧ Γ (α 1) = 1 ∧ (∀ q ∈ ([([], 0, 2)] : VSP), wkT Γ M (α 1) q.1) ∧ Q796 g (vsv M (α 0) ([(4, 111)], 0, 144)) (vsv M (α 0) ([(6, 113)], 0, 144)) (vsv M (α 1) ([], 0, 2)) (ρ 2 + 0) (ρ 3 + 0) (0)) ∧ True := by
    try simp only [Int.add_zero]
    have dm1 := cdim hT g1
    have rc1 := rc_bd dm1.1 dm1.2
    obtain ⟨-, -, -, -, p0⟩ := h0
    dsimp only [Q795] at p0
    refine ⟨⟨g0, pic1 hT g0 (by decide) (by decide), g1, pic1 hT g1 (by decide) (by decide), ?_⟩, trivial⟩
    · dsimp only [Q796]
      intro p hp
      rw [p0 p hp]
      have : ((vsv M (α 0) ([(6, 113)], 0, 144)) p < ρ 2 ∨ (vsv M (α 0) ([(6, 113)], 0, 144)) p = ρ 2 ∧ (p : Int) < 0) ↔ (vsv M (α 0) ([(6, 113)], 0, 144)) p < ρ 2 := by omega
      simp only [this]
  exact ⟨nB, qB (key.1) (nB)⟩
def t_nrs_1 : KT := ((0, 0, 0, 0), [(2, 0, 110, 0), (2, 1, 1, 0), (1, 2, 0, 0), (1, 3, 0, 0), (1, 4, 0, 0), (2, 5, 111, 0), (2, 6, 113, 0), (1, 7, 0, 0), (1, 8, 0, 0)], [(0, 0), (0, 0), (0, 143), (-4000000, 4000000), (0, 143), (0, 0), (0, 0), (-2147483648, 2147483647), (-2147483648, 2147483647)], [(796, [(2, 0, 110, 0), (2, 1, 1, 0), (1, 2, 0, 0), (1, 3, 0, 0), (1, 4, 0, 0)]), (11, [(2, 0, 110, 0), (0, 0, 0, 4), (2, 5, 111, 0)]), (10, [(2, 5, 111, 0), (1, 4, 0, 0), (1, 7, 0, 0)]), (11, [(2, 0, 110, 0), (0, 0, 0, 6), (2, 6, 113, 0)]), (10, [(2, 6, 113, 0), (1, 4, 0, 0), (1, 8, 0, 0)]), (6, [(1, 8, 0, 0), (1, 2, 0, 0)]), (6, [(1, 2, 0, 0), (1, 8, 0, 0)]), (2, [(2, 1, 1, 0), (1, 4, 0, 0)])], (0, 0, 0), [], [], ([], [(635, [(2, 5, 111, 0), (1, 4, 0, 0), (2, 0, 110, 0), (2, 1, 1, 0), (1, 2, 0, 0), (1, 3, 0, 0), (1, 7, 0, 0)])]), ([], []))
set_option maxRecDepth 100000 in
theorem l_nrs_1 (g : GG) : LOK Yt (PSt g) t_nrs_1 := by
  intro ρ α Γ M as hT hB hA hP
  have g0 : Γ (α 0) = 110 := tyAt hA (i := 0) rfl
  have g1 : Γ (α 1) = 1 := tyAt hA (i := 1) rfl
  have b2 : 0 ≤ ρ 2 ∧ ρ 2 ≤ 143 := hB 2
  have b3 : -4000000 ≤ ρ 3 ∧ ρ 3 ≤ 4000000 := hB 3
  have b4 : 0 ≤ ρ 4 ∧ ρ 4 ≤ 143 := hB 4
  have g5 : Γ (α 5) = 111 := tyAt hA (i := 5) rfl
  have g6 : Γ (α 6) = 113 := tyAt hA (i := 6) rfl
  have b7 : -2147483648 ≤ ρ 7 ∧ ρ 7 ≤ 2147483647 := hB 7
  have b8 : -2147483648 ≤ ρ 8 ∧ ρ 8 ≤ 2147483647 := hB 8
  have h0 : Γ (α 0) = 110 ∧ (∀ q ∈ ([([(4, 111)], 0, 144), ([(6, 113)], 0, 144)] : VSP), wkT Γ M (α 0) q.1) ∧ Γ (α 1) = 1 ∧ (∀ q ∈ ([([], 0, 2)] : VSP), wkT Γ M (α 1) q.1) ∧ Q796 g (vsv M (α 0) ([(4, 111)], 0, 144)) (vsv M (α 0) ([(6, 113)], 0, 144)) (vsv M (α 1) ([], 0, 2)) (ρ 2 + 0) (ρ 3 + 0) (ρ 4 + 0) := hP _ (List.mem_of_getElem? (i := 0) rfl)
  have h1 : 0 ≤ (4 : Int) ∧ M.2.2.2.1 (α 0) (4 : Int).toNat = some (α 5) := hP _ (List.mem_of_getElem? (i := 1) rfl)
  have h2 : 0 ≤ (ρ 4 + 0 : Int) ∧ M.2.2.2.2 (α 5) (ρ 4 + 0 : Int).toNat = ρ 7 + 0 := hP _ (List.mem_of_getElem? (i := 2) rfl)
  have h3 : 0 ≤ (6 : Int) ∧ M.2.2.2.1 (α 0) (6 : Int).toNat = some (α 6) := hP _ (List.mem_of_getElem? (i := 3) rfl)
  have h4 : 0 ≤ (ρ 4 + 0 : Int) ∧ M.2.2.2.2 (α 6) (ρ 4 + 0 : Int).toNat = ρ 8 + 0 := hP _ (List.mem_of_getElem? (i := 4) rfl)
  have h5 : ρ 8 + 0 ≤ ρ 2 + 0 := hP _ (List.mem_of_getElem? (i := 5) rfl)
  have h6 : ρ 2 + 0 ≤ ρ 8 + 0 := hP _ (List.mem_of_getElem? (i := 6) rfl)
  have h7 : Γ (α 1) = 1 ∧ 0 ≤ ρ 4 + 0 ∧ ρ 4 + 0 < M.2.2.2.2 (α 1) 0 * M.2.2.2.2 (α 1) 1 := hP _ (List.mem_of_getElem? (i := 7) rfl)
  try simp only [Int.add_zero] at h0 h1 h2 h3 h4 h5 h6 h7
  have key : (Γ (α 5) = 111 ∧ wlk M (α 0) [(4, 111)] = (α 5) ∧ wkT Γ M (α 0) [(4, 111)] ∧ Γ (α 0) = 110 ∧ (∀ q ∈ ([([(6, 113)], 0, 144)] : VSP), wkT Γ M (α 0) q.1) ∧ Γ (α 1) = 1 ∧ (∀ q ∈ ([([], 0, 2)] : VSP), wkT Γ M (α 1) q.1) ∧ Q635 g (hcl [vi (ρ 4 + 0)] (clp [(0, 144)] (M.2.2.2.2 (α 5)))) (ρ 4 + 0) (vsv M (α 0) ([(6, 113)], 0, 144)) (vsv M (α 1) ([], 0, 2)) (ρ 2 + 0) (ρ 3 + 0) (ρ 7 + 0)) ∧ True := by
    try simp only [Int.add_zero]
    have dm1 := cdim hT g1
    have rc1 := rc_bd dm1.1 dm1.2
    obtain ⟨-, -, -, -, p0⟩ := h0
    dsimp only [Q796] at p0
    have e1 : M.2.2.2.1 (α 0) 4 = some (α 5) := h1.2
    have e2 : M.2.2.2.2 (α 5) (ρ 4).toNat = ρ 7 := h2.2
    have e3 : M.2.2.2.1 (α 0) 6 = some (α 6) := h3.2
    have e4 : M.2.2.2.2 (α 6) (ρ 4).toNat = ρ 8 := h4.2
    have m0 : (vsv M (α 1) ([], 0, 2)) 0 = M.2.2.2.2 (α 1) 0 := vs0 (by decide) (by decide)
    have m1 : (vsv M (α 1) ([], 0, 2)) 1 = M.2.2.2.2 (α 1) 1 := vs0 (by decide) (by decide)
    have h5 : ρ 8 ≤ ρ 2 := h5
    have h6 : ρ 2 ≤ ρ 8 := h6
    have h7 := h7.2.2
    rw [← m0, ← m1] at h7
    refine ⟨⟨g5, (fl_eq e1), wk1 e1 g5, g0, pic1 hT g0 (by decide) (by decide), g1, pic1 hT g1 (by decide) (by decide), ?_⟩, trivial⟩
    · dsimp only [Q635]
      have hh : (vsv M (α 0) ([(4, 111)], 0, 144)) (ρ 4).toNat = ρ 7 := (vs1 e1 (Nat.zero_le _) (by omega)).trans e2
      have hs : (vsv M (α 0) ([(6, 113)], 0, 144)) (ρ 4).toNat = ρ 8 := (vs1 e3 (Nat.zero_le _) (by omega)).trans e4
      refine ⟨⟨⟨b4.1, by omega⟩, by omega, ?_⟩, fun p hp hne => ?_⟩
      · have := p0 (ρ 4).toNat (by omega)
        rw [if_neg (by omega)] at this
        omega
      · have := p0 p hp
        rw [hcl1 hne, ← vsv1 (t := 111) e1]
        exact this
  exact ⟨nB, qB (key.1) (nB)⟩
def t_nrs_2 : KT := ((0, 0, 0, 0), [(2, 0, 110, 0), (2, 1, 1, 0), (1, 2, 0, 0), (1, 3, 0, 0), (1, 4, 0, 0), (2, 5, 111, 0), (1, 6, 0, 0), (1, 7, 0, 0), (1, 8, 0, 0), (1, 9, 0, 0)], [(0, 0), (0, 0), (0, 143), (-4000000, 4000000), (0, 143), (0, 0), (-2147483648, 2147483647), (-2147483648, 2147483647), (-2147483648, 2147483647), (255, 255)], [(635, [(2, 5, 111, 0), (1, 4, 0, 0), (2, 0, 110, 0), (2, 1, 1, 0), (1, 2, 0, 0), (1, 3, 0, 0), (1, 6, 0, 0)]), (11, [(2, 0, 110, 0), (0, 0, 0, 4), (2, 5, 111, 0)]), (10, [(2, 5, 111, 0), (1, 4, 0, 0), (1, 8, 0, 0)]), (25, [(1, 3, 0, 0), (1, 9, 0, 0), (1, 7, 0, 0)]), (23, [(1, 6, 0, 0), (1, 7, 0, 0), (1, 8, 0, 0)]), (793, [(2, 1, 1, 0)]), (794, [(1, 2, 0, 0)])], (0, 0, 0), [], [], ([], [(796, [(2, 0, 110, 0), (2, 1, 1, 0), (1, 2, 0, 0), (1, 3, 0, 0), (1, 4, 0, 1)])]), ([], []))
set_option maxRecDepth 100000 in
theorem l_nrs_2 (g : GG) : LOK Yt (PSt g) t_nrs_2 := by
  intro ρ α Γ M as hT hB hA hP
  have g0 : Γ (α 0) = 110 := tyAt hA (i := 0) rfl
  have g1 : Γ (α 1) = 1 := tyAt hA (i := 1) rfl
  have b2 : 0 ≤ ρ 2 ∧ ρ 2 ≤ 143 := hB 2
  have b3 : -4000000 ≤ ρ 3 ∧ ρ 3 ≤ 4000000 := hB 3
  have b4 : 0 ≤ ρ 4 ∧ ρ 4 ≤ 143 := hB 4
  have g5 : Γ (α 5) = 111 := tyAt hA (i := 5) rfl
  have b6 : -2147483648 ≤ ρ 6 ∧ ρ 6 ≤ 2147483647 := hB 6
  have b7 : -2147483648 ≤ ρ 7 ∧ ρ 7 ≤ 2147483647 := hB 7
  have b8 : -2147483648 ≤ ρ 8 ∧ ρ 8 ≤ 2147483647 := hB 8
  have b9 : 255 ≤ ρ 9 ∧ ρ 9 ≤ 255 := hB 9
  have h0 : Γ (α 5) = 111 ∧ wlk M (α 0) [(4, 111)] = (α 5) ∧ wkT Γ M (α 0) [(4, 111)] ∧ Γ (α 0) = 110 ∧ (∀ q ∈ ([([(6, 113)], 0, 144)] : VSP), wkT Γ M (α 0) q.1) ∧ Γ (α 1) = 1 ∧ (∀ q ∈ ([([], 0, 2)] : VSP), wkT Γ M (α 1) q.1) ∧ Q635 g (hcl [vi (ρ 4 + 0)] (clp [(0, 144)] (M.2.2.2.2 (α 5)))) (ρ 4 + 0) (vsv M (α 0) ([(6, 113)], 0, 144)) (vsv M (α 1) ([], 0, 2)) (ρ 2 + 0) (ρ 3 + 0) (ρ 6 + 0) := hP _ (List.mem_of_getElem? (i := 0) rfl)
  have h1 : 0 ≤ (4 : Int) ∧ M.2.2.2.1 (α 0) (4 : Int).toNat = some (α 5) := hP _ (List.mem_of_getElem? (i := 1) rfl)
  have h2 : 0 ≤ (ρ 4 + 0 : Int) ∧ M.2.2.2.2 (α 5) (ρ 4 + 0 : Int).toNat = ρ 8 + 0 := hP _ (List.mem_of_getElem? (i := 2) rfl)
  have h3 : ρ 7 + 0 = wI ((ρ 3 + 0) * (ρ 9 + 0)) := hP _ (List.mem_of_getElem? (i := 3) rfl)
  have h4 : ρ 8 + 0 = wI ((ρ 6 + 0) + (ρ 7 + 0)) := hP _ (List.mem_of_getElem? (i := 4) rfl)
  have h5 : Γ (α 1) = 1 ∧ (∀ q ∈ ([([], 0, 2)] : VSP), wkT Γ M (α 1) q.1) ∧ Q793 g (vsv M (α 1) ([], 0, 2))  := hP _ (List.mem_of_getElem? (i := 5) rfl)
  have h6 : zI g (ρ 2 + 0 : Int).toNat = 1 := hP _ (List.mem_of_getElem? (i := 6) rfl)
  try simp only [Int.add_zero] at h0 h1 h2 h3 h4 h5 h6
  have key : (Γ (α 0) = 110 ∧ (∀ q ∈ ([([(4, 111)], 0, 144), ([(6, 113)], 0, 144)] : VSP), wkT Γ M (α 0) q.1) ∧ Γ (α 1) = 1 ∧ (∀ q ∈ ([([], 0, 2)] : VSP), wkT Γ M (α 1) q.1) ∧ Q796 g (vsv M (α 0) ([(4, 111)], 0, 144)) (vsv M (α 0) ([(6, 113)], 0, 144)) (vsv M (α 1) ([], 0, 2)) (ρ 2 + 0) (ρ 3 + 0) (ρ 4 + 1)) ∧ True := by
    try simp only [Int.add_zero]
    have dm1 := cdim hT g1
    have rc1 := rc_bd dm1.1 dm1.2
    obtain ⟨-, -, -, -, -, -, -, p0⟩ := h0
    dsimp only [Q635] at p0
    have e1 : M.2.2.2.1 (α 0) 4 = some (α 5) := h1.2
    have e2 : M.2.2.2.2 (α 5) (ρ 4).toNat = ρ 8 := h2.2
    obtain ⟨-, -, p5⟩ := h5
    dsimp only [Q793] at p5
    have m0 : (vsv M (α 1) ([], 0, 2)) 0 = M.2.2.2.2 (α 1) 0 := vs0 (by decide) (by decide)
    have m1 : (vsv M (α 1) ([], 0, 2)) 1 = M.2.2.2.2 (α 1) 1 := vs0 (by decide) (by decide)
    have h6 : zI g (ρ 2).toNat = 1 := h6
    refine ⟨⟨g0, pic1 hT g0 (by decide) (by decide), g1, pic1 hT g1 (by decide) (by decide), ?_⟩, trivial⟩
    · dsimp only [Q796]
      obtain ⟨⟨⟨i1, i2⟩, i3, i4⟩, ho⟩ := p0
      have zb := p5 (ρ 4).toNat (by omega)
      have e9 : ρ 9 = 255 := by omega
      rw [e9, wI_id (by unfold inI; omega)] at h3
      rw [wI_id (by unfold inI; omega)] at h4
      have hh : (vsv M (α 0) ([(4, 111)], 0, 144)) (ρ 4).toNat = ρ 8 := (vs1 e1 (Nat.zero_le _) (by omega)).trans e2
      intro p hp
      by_cases q : (p : Int) = ρ 4
      · have : p = (ρ 4).toNat := by omega
        subst this
        rw [i3, if_pos ⟨h6, Or.inr ⟨rfl, by omega⟩⟩, hh]
        omega
      · have z := ho p hp q
        rw [hcl1 q, ← vsv1 (t := 111) e1] at z
        rw [z]
        have : ((vsv M (α 0) ([(6, 113)], 0, 144)) p < ρ 2 ∨ (vsv M (α 0) ([(6, 113)], 0, 144)) p = ρ 2 ∧ (p : Int) < ρ 4) ↔ ((vsv M (α 0) ([(6, 113)], 0, 144)) p < ρ 2 ∨ (vsv M (α 0) ([(6, 113)], 0, 144)) p = ρ 2 ∧ (p : Int) < ρ 4 + 1) := by omega
        simp only [this]
  exact ⟨nB, qB (key.1) (nB)⟩
def t_nrs_3 : KT := ((0, 0, 0, 0), [(2, 0, 110, 0), (2, 1, 1, 0), (1, 2, 0, 0), (1, 3, 0, 0), (1, 4, 0, 0), (2, 5, 113, 0), (1, 6, 0, 0)], [(0, 0), (0, 0), (0, 143), (-4000000, 4000000), (0, 143), (0, 0), (-2147483648, 2147483647)], [(796, [(2, 0, 110, 0), (2, 1, 1, 0), (1, 2, 0, 0), (1, 3, 0, 0), (1, 4, 0, 0)]), (11, [(2, 0, 110, 0), (0, 0, 0, 6), (2, 5, 113, 0)]), (10, [(2, 5, 113, 0), (1, 4, 0, 0), (1, 6, 0, 0)]), (99, [(1, 6, 0, 0), (1, 2, 0, 0), (0, 0, 0, 0)])], (0, 0, 0), [], [], ([], [(796, [(2, 0, 110, 0), (2, 1, 1, 0), (1, 2, 0, 0), (1, 3, 0, 0), (1, 4, 0, 1)])]), ([], []))
set_option maxRecDepth 100000 in
theorem l_nrs_3 (g : GG) : LOK Yt (PSt g) t_nrs_3 := by
  intro ρ α Γ M as hT hB hA hP
  have g0 : Γ (α 0) = 110 := tyAt hA (i := 0) rfl
  have g1 : Γ (α 1) = 1 := tyAt hA (i := 1) rfl
  have b2 : 0 ≤ ρ 2 ∧ ρ 2 ≤ 143 := hB 2
  have b3 : -4000000 ≤ ρ 3 ∧ ρ 3 ≤ 4000000 := hB 3
  have b4 : 0 ≤ ρ 4 ∧ ρ 4 ≤ 143 := hB 4
  have g5 : Γ (α 5) = 113 := tyAt hA (i := 5) rfl
  have b6 : -2147483648 ≤ ρ 6 ∧ ρ 6 ≤ 2147483647 := hB 6
  have h0 : Γ (α 0) = 110 ∧ (∀ q ∈ ([([(4, 111)], 0, 144), ([(6, 113)], 0, 144)] : VSP), wkT Γ M (α 0) q.1) ∧ Γ (α 1) = 1 ∧ (∀ q ∈ ([([], 0, 2)] : VSP), wkT Γ M (α 1) q.1) ∧ Q796 g (vsv M (α 0) ([(4, 111)], 0, 144)) (vsv M (α 0) ([(6, 113)], 0, 144)) (vsv M (α 1) ([], 0, 2)) (ρ 2 + 0) (ρ 3 + 0) (ρ 4 + 0) := hP _ (List.mem_of_getElem? (i := 0) rfl)
  have h1 : 0 ≤ (6 : Int) ∧ M.2.2.2.1 (α 0) (6 : Int).toNat = some (α 5) := hP _ (List.mem_of_getElem? (i := 1) rfl)
  have h2 : 0 ≤ (ρ 4 + 0 : Int) ∧ M.2.2.2.2 (α 5) (ρ 4 + 0 : Int).toNat = ρ 6 + 0 := hP _ (List.mem_of_getElem? (i := 2) rfl)
  have h3 : (ρ 6 + 0 : Int) ≠ ρ 2 + 0 := hP _ (List.mem_of_getElem? (i := 3) rfl)
  try simp only [Int.add_zero] at h0 h1 h2 h3
  have key : (Γ (α 0) = 110 ∧ (∀ q ∈ ([([(4, 111)], 0, 144), ([(6, 113)], 0, 144)] : VSP), wkT Γ M (α 0) q.1) ∧ Γ (α 1) = 1 ∧ (∀ q ∈ ([([], 0, 2)] : VSP), wkT Γ M (α 1) q.1) ∧ Q796 g (vsv M (α 0) ([(4, 111)], 0, 144)) (vsv M (α 0) ([(6, 113)], 0, 144)) (vsv M (α 1) ([], 0, 2)) (ρ 2 + 0) (ρ 3 + 0) (ρ 4 + 1)) ∧ True := by
    try simp only [Int.add_zero]
    have dm1 := cdim hT g1
    have rc1 := rc_bd dm1.1 dm1.2
    obtain ⟨-, -, -, -, p0⟩ := h0
    dsimp only [Q796] at p0
    have e1 : M.2.2.2.1 (α 0) 6 = some (α 5) := h1.2
    have e2 : M.2.2.2.2 (α 5) (ρ 4).toNat = ρ 6 := h2.2
    refine ⟨⟨g0, pic1 hT g0 (by decide) (by decide), g1, pic1 hT g1 (by decide) (by decide), ?_⟩, trivial⟩
    · dsimp only [Q796]
      have hs : (vsv M (α 0) ([(6, 113)], 0, 144)) (ρ 4).toNat = ρ 6 := (vs1 e1 (Nat.zero_le _) (by omega)).trans e2
      intro p hp
      rw [p0 p hp]
      have : ((vsv M (α 0) ([(6, 113)], 0, 144)) p < ρ 2 ∨ (vsv M (α 0) ([(6, 113)], 0, 144)) p = ρ 2 ∧ (p : Int) < ρ 4) ↔ ((vsv M (α 0) ([(6, 113)], 0, 144)) p < ρ 2 ∨ (vsv M (α 0) ([(6, 113)], 0, 144)) p = ρ 2 ∧ (p : Int) < ρ 4 + 1) := by
        by_cases q : (p : Int) = ρ 4
        · rw [show p = (ρ 4).toNat by omega, hs]
          have h3 : ρ 6 ≠ ρ 2 := h3
          omega
        · omega
      simp only [this]
  exact ⟨nB, qB (key.1) (nB)⟩
def t_nrs_4 : KT := ((0, 0, 0, 0), [(2, 0, 110, 0), (2, 1, 1, 0), (1, 2, 0, 0), (1, 3, 0, 0), (1, 4, 0, 0), (1, 5, 0, 0)], [(0, 0), (0, 0), (0, 143), (-4000000, 4000000), (0, 144), (0, 144)], [(796, [(2, 0, 110, 0), (2, 1, 1, 0), (1, 2, 0, 0), (1, 3, 0, 0), (1, 4, 0, 0)]), (5, [(2, 1, 1, 0), (1, 5, 0, 0)]), (6, [(1, 5, 0, 0), (1, 4, 0, 0)])], (0, 0, 0), [], [], ([], [(795, [(2, 0, 110, 0), (2, 1, 1, 0), (1, 2, 0, 1), (1, 3, 0, 0)])]), ([], []))
set_option maxRecDepth 100000 in
theorem l_nrs_4 (g : GG) : LOK Yt (PSt g) t_nrs_4 := by
  intro ρ α Γ M as hT hB hA hP
  have g0 : Γ (α 0) = 110 := tyAt hA (i := 0) rfl
  have g1 : Γ (α 1) = 1 := tyAt hA (i := 1) rfl
  have b2 : 0 ≤ ρ 2 ∧ ρ 2 ≤ 143 := hB 2
  have b3 : -4000000 ≤ ρ 3 ∧ ρ 3 ≤ 4000000 := hB 3
  have b4 : 0 ≤ ρ 4 ∧ ρ 4 ≤ 144 := hB 4
  have b5 : 0 ≤ ρ 5 ∧ ρ 5 ≤ 144 := hB 5
  have h0 : Γ (α 0) = 110 ∧ (∀ q ∈ ([([(4, 111)], 0, 144), ([(6, 113)], 0, 144)] : VSP), wkT Γ M (α 0) q.1) ∧ Γ (α 1) = 1 ∧ (∀ q ∈ ([([], 0, 2)] : VSP), wkT Γ M (α 1) q.1) ∧ Q796 g (vsv M (α 0) ([(4, 111)], 0, 144)) (vsv M (α 0) ([(6, 113)], 0, 144)) (vsv M (α 1) ([], 0, 2)) (ρ 2 + 0) (ρ 3 + 0) (ρ 4 + 0) := hP _ (List.mem_of_getElem? (i := 0) rfl)
  have h1 : Γ (α 1) = 1 ∧ ρ 5 + 0 = M.2.2.2.2 (α 1) 0 * M.2.2.2.2 (α 1) 1 := hP _ (List.mem_of_getElem? (i := 1) rfl)
  have h2 : ρ 5 + 0 ≤ ρ 4 + 0 := hP _ (List.mem_of_getElem? (i := 2) rfl)
  try simp only [Int.add_zero] at h0 h1 h2
  have key : (Γ (α 0) = 110 ∧ (∀ q ∈ ([([(4, 111)], 0, 144), ([(6, 113)], 0, 144)] : VSP), wkT Γ M (α 0) q.1) ∧ Γ (α 1) = 1 ∧ (∀ q ∈ ([([], 0, 2)] : VSP), wkT Γ M (α 1) q.1) ∧ Q795 g (vsv M (α 0) ([(4, 111)], 0, 144)) (vsv M (α 0) ([(6, 113)], 0, 144)) (vsv M (α 1) ([], 0, 2)) (ρ 2 + 1) (ρ 3 + 0)) ∧ True := by
    try simp only [Int.add_zero]
    have dm1 := cdim hT g1
    have rc1 := rc_bd dm1.1 dm1.2
    obtain ⟨-, -, -, -, p0⟩ := h0
    dsimp only [Q796] at p0
    have m0 : (vsv M (α 1) ([], 0, 2)) 0 = M.2.2.2.2 (α 1) 0 := vs0 (by decide) (by decide)
    have m1 : (vsv M (α 1) ([], 0, 2)) 1 = M.2.2.2.2 (α 1) 1 := vs0 (by decide) (by decide)
    have h2 : ρ 5 ≤ ρ 4 := h2
    refine ⟨⟨g0, pic1 hT g0 (by decide) (by decide), g1, pic1 hT g1 (by decide) (by decide), ?_⟩, trivial⟩
    · dsimp only [Q795]
      have h1 := h1.2
      rw [← m0, ← m1] at h1
      intro p hp
      rw [p0 p hp]
      have : ((vsv M (α 0) ([(6, 113)], 0, 144)) p < ρ 2 ∨ (vsv M (α 0) ([(6, 113)], 0, 144)) p = ρ 2 ∧ (p : Int) < ρ 4) ↔ (vsv M (α 0) ([(6, 113)], 0, 144)) p < ρ 2 + 1 := by omega
      simp only [this]
  exact ⟨nB, qB (key.1) (nB)⟩
def t_nlg_0 : KT := ((0, 0, 0, 0), [(2, 0, 31, 0), (2, 1, 1, 0), (2, 2, 110, 0), (1, 3, 0, 0), (1, 4, 0, 0), (1, 5, 0, 0), (1, 6, 0, 0)], [(0, 0), (0, 0), (0, 0), (0, 143), (-2147483648, 2147483647), (-2147483648, 2147483647), (-2147483648, 2147483647)], [(790, [(2, 0, 31, 0), (2, 1, 1, 0), (2, 2, 110, 0), (1, 4, 0, 0), (1, 5, 0, 0), (1, 6, 0, 0), (1, 3, 0, 0)]), (797, [(2, 2, 110, 0)]), (798, [(2, 0, 31, 0), (1, 3, 0, 0)])], (0, 0, 0), [], [], ([], [(791, [(2, 0, 31, 0), (2, 1, 1, 0), (2, 2, 110, 0), (1, 4, 0, 0), (1, 5, 0, 0), (1, 6, 0, 0), (1, 3, 0, 0)]), (792, [(2, 0, 31, 0), (2, 2, 110, 0), (2, 1, 1, 0), (0, 0, 0, 0)]), (793, [(2, 1, 1, 0)])]), ([], []))
set_option maxRecDepth 100000 in
theorem l_nlg_0 (g : GG) : LOK Yt (PSt g) t_nlg_0 := by
  intro ρ α Γ M as hT hB hA hP
  have g0 : Γ (α 0) = 31 := tyAt hA (i := 0) rfl
  have g1 : Γ (α 1) = 1 := tyAt hA (i := 1) rfl
  have g2 : Γ (α 2) = 110 := tyAt hA (i := 2) rfl
  have b3 : 0 ≤ ρ 3 ∧ ρ 3 ≤ 143 := hB 3
  have b4 : -2147483648 ≤ ρ 4 ∧ ρ 4 ≤ 2147483647 := hB 4
  have b5 : -2147483648 ≤ ρ 5 ∧ ρ 5 ≤ 2147483647 := hB 5
  have b6 : -2147483648 ≤ ρ 6 ∧ ρ 6 ≤ 2147483647 := hB 6
  have h0 : Γ (α 0) = 31 ∧ (∀ q ∈ ([([], 0, 1), ([(5, 34)], 0, 144)] : VSP), wkT Γ M (α 0) q.1) ∧ Γ (α 1) = 1 ∧ (∀ q ∈ ([([], 0, 2), ([(2, 2)], 0, 144)] : VSP), wkT Γ M (α 1) q.1) ∧ Γ (α 2) = 110 ∧ (∀ q ∈ ([([], 2, 3), ([], 3, 4), ([(4, 111)], 0, 144), ([(5, 112)], 0, 144), ([(6, 113)], 0, 144), ([(7, 114)], 0, 144), ([(8, 115)], 0, 144)] : VSP), wkT Γ M (α 2) q.1) ∧ Q790 g (vsv M (α 0) ([], 0, 1)) (vsv M (α 0) ([(5, 34)], 0, 144)) (vsv M (α 1) ([], 0, 2)) (vsv M (α 1) ([(2, 2)], 0, 144)) (vsv M (α 2) ([], 2, 3)) (vsv M (α 2) ([], 3, 4)) (vsv M (α 2) ([(4, 111)], 0, 144)) (vsv M (α 2) ([(5, 112)], 0, 144)) (vsv M (α 2) ([(6, 113)], 0, 144)) (vsv M (α 2) ([(7, 114)], 0, 144)) (vsv M (α 2) ([(8, 115)], 0, 144)) (ρ 4 + 0) (ρ 5 + 0) (ρ 6 + 0) (ρ 3 + 0) := hP _ (List.mem_of_getElem? (i := 0) rfl)
  have h1 : Γ (α 2) = 110 ∧ (∀ q ∈ ([([(4, 111)], 0, 144)] : VSP), wkT Γ M (α 2) q.1) ∧ Q797 g (vsv M (α 2) ([(4, 111)], 0, 144))  := hP _ (List.mem_of_getElem? (i := 1) rfl)
  have h2 : Γ (α 0) = 31 ∧ (∀ q ∈ ([([(5, 34)], 0, 144)] : VSP), wkT Γ M (α 0) q.1) ∧ Q798 g (vsv M (α 0) ([(5, 34)], 0, 144)) (ρ 3 + 0) := hP _ (List.mem_of_getElem? (i := 2) rfl)
  try simp only [Int.add_zero] at h0 h1 h2
  have key : (Γ (α 0) = 31 ∧ (∀ q ∈ ([([], 0, 1), ([(5, 34)], 0, 144)] : VSP), wkT Γ M (α 0) q.1) ∧ Γ (α 1) = 1 ∧ (∀ q ∈ ([([], 0, 2), ([(2, 2)], 0, 144)] : VSP), wkT Γ M (α 1) q.1) ∧ Γ (α 2) = 110 ∧ (∀ q ∈ ([([], 2, 3), ([], 3, 4), ([(5, 112)], 0, 144), ([(6, 113)], 0, 144), ([(7, 114)], 0, 144), ([(8, 115)], 0, 144)] : VSP), wkT Γ M (α 2) q.1) ∧ Q791 g (vsv M (α 0) ([], 0, 1)) (vsv M (α 0) ([(5, 34)], 0, 144)) (vsv M (α 1) ([], 0, 2)) (vsv M (α 1) ([(2, 2)], 0, 144)) (vsv M (α 2) ([], 2, 3)) (vsv M (α 2) ([], 3, 4)) (vsv M (α 2) ([(5, 112)], 0, 144)) (vsv M (α 2) ([(6, 113)], 0, 144)) (vsv M (α 2) ([(7, 114)], 0, 144)) (vsv M (α 2) ([(8, 115)], 0, 144)) (ρ 4 + 0) (ρ 5 + 0) (ρ 6 + 0) (ρ 3 + 0)) ∧ (Γ (α 0) = 31 ∧ (∀ q ∈ ([([], 0, 1)] : VSP), wkT Γ M (α 0) q.1) ∧ Γ (α 2) = 110 ∧ (∀ q ∈ ([([(4, 111)], 0, 144), ([(6, 113)], 0, 144)] : VSP), wkT Γ M (α 2) q.1) ∧ Γ (α 1) = 1 ∧ (∀ q ∈ ([([], 0, 2)] : VSP), wkT Γ M (α 1) q.1) ∧ Q792 g (vsv M (α 0) ([], 0, 1)) (vsv M (α 2) ([(4, 111)], 0, 144)) (vsv M (α 2) ([(6, 113)], 0, 144)) (vsv M (α 1) ([], 0, 2)) (0)) ∧ (Γ (α 1) = 1 ∧ (∀ q ∈ ([([], 0, 2)] : VSP), wkT Γ M (α 1) q.1) ∧ Q793 g (vsv M (α 1) ([], 0, 2)) ) ∧ True := by
    try simp only [Int.add_zero]
    have dm1 := cdim hT g1
    have rc1 := rc_bd dm1.1 dm1.2
    obtain ⟨-, -, -, -, -, -, p0⟩ := h0
    dsimp only [Q790] at p0
    obtain ⟨-, -, p1⟩ := h1
    dsimp only [Q797] at p1
    obtain ⟨-, -, p2⟩ := h2
    dsimp only [Q798] at p2
    obtain ⟨s1, s2, a, b, hab, ht, h4⟩ := p0
    have hl := lk_lt (by omega) hab
    have lad := s1.1.2
    refine ⟨⟨g0, pic1 hT g0 (by decide) (by decide), g1, pic1 hT g1 (by decide) (by decide), g2, pic1 hT g2 (by decide) (by decide), ?_⟩, ⟨g0, pic1 hT g0 (by decide) (by decide), g2, pic1 hT g2 (by decide) (by decide), g1, pic1 hT g1 (by decide) (by decide), ?_⟩, ⟨g1, pic1 hT g1 (by decide) (by decide), ?_⟩, trivial⟩
    · dsimp only [Q791]
      exact ⟨sI_c (by omega) s1 (fun p hp => p1 p (by omega)) (fun _ _ => rfl) (by omega), s2, a, b, hab, by rw [p1 a (by omega), p1 b (by omega)]; exact ht, h4⟩
    · dsimp only [Q792]
      intro p hp
      have : ¬ (zI g ((vsv M (α 2) ([(6, 113)], 0, 144)) p).toNat = 1 ∧ (vsv M (α 2) ([(6, 113)], 0, 144)) p < 0) := fun q => by
        have := (s1.1.1.2.1 p hp (flK_laid (by omega) s1.1.1 (by omega) p hp)).1
        omega
      rw [if_neg this, p1 p (by omega)]
      omega
    · dsimp only [Q793]
      intro p hp
      have := s1.2.2.2.1 p hp
      rw [p1 p (by omega)]
      omega
  exact ⟨nB, qB (key.1) (qB (key.2.1) (qB (key.2.2.1) (nB)))⟩
def t_nlg_c : KT := ((0, 0, 0, 0), [(2, 0, 31, 0), (2, 1, 1, 0), (2, 2, 110, 0), (1, 3, 0, 0), (1, 4, 0, 0), (1, 5, 0, 0), (1, 6, 0, 0), (1, 7, 0, 0), (1, 8, 0, 0)], [(0, 0), (0, 0), (0, 0), (0, 143), (0, 143), (-2147483648, 2147483647), (-2147483648, 2147483647), (-2147483648, 2147483647), (-2147483648, 2147483647)], [(791, [(2, 0, 31, 0), (2, 1, 1, 0), (2, 2, 110, 0), (1, 6, 0, 0), (1, 7, 0, 0), (1, 8, 0, 0), (1, 3, 0, 0)]), (792, [(2, 0, 31, 0), (2, 2, 110, 0), (2, 1, 1, 0), (1, 4, 0, 0)]), (10, [(2, 0, 31, 0), (0, 0, 0, 0), (1, 5, 0, 0)])], (0, 0, 0), [], [], ([(5, -4000000, 4000000)], [(799, [(2, 2, 110, 0), (2, 1, 1, 0), (1, 4, 0, 0)])]), ([], []))
set_option maxRecDepth 100000 in
theorem l_nlg_c (g : GG) : LOK Yt (PSt g) t_nlg_c := by
  intro ρ α Γ M as hT hB hA hP
  have g0 : Γ (α 0) = 31 := tyAt hA (i := 0) rfl
  have g1 : Γ (α 1) = 1 := tyAt hA (i := 1) rfl
  have g2 : Γ (α 2) = 110 := tyAt hA (i := 2) rfl
  have b3 : 0 ≤ ρ 3 ∧ ρ 3 ≤ 143 := hB 3
  have b4 : 0 ≤ ρ 4 ∧ ρ 4 ≤ 143 := hB 4
  have b5 : -2147483648 ≤ ρ 5 ∧ ρ 5 ≤ 2147483647 := hB 5
  have b6 : -2147483648 ≤ ρ 6 ∧ ρ 6 ≤ 2147483647 := hB 6
  have b7 : -2147483648 ≤ ρ 7 ∧ ρ 7 ≤ 2147483647 := hB 7
  have b8 : -2147483648 ≤ ρ 8 ∧ ρ 8 ≤ 2147483647 := hB 8
  have h0 : Γ (α 0) = 31 ∧ (∀ q ∈ ([([], 0, 1), ([(5, 34)], 0, 144)] : VSP), wkT Γ M (α 0) q.1) ∧ Γ (α 1) = 1 ∧ (∀ q ∈ ([([], 0, 2), ([(2, 2)], 0, 144)] : VSP), wkT Γ M (α 1) q.1) ∧ Γ (α 2) = 110 ∧ (∀ q ∈ ([([], 2, 3), ([], 3, 4), ([(5, 112)], 0, 144), ([(6, 113)], 0, 144), ([(7, 114)], 0, 144), ([(8, 115)], 0, 144)] : VSP), wkT Γ M (α 2) q.1) ∧ Q791 g (vsv M (α 0) ([], 0, 1)) (vsv M (α 0) ([(5, 34)], 0, 144)) (vsv M (α 1) ([], 0, 2)) (vsv M (α 1) ([(2, 2)], 0, 144)) (vsv M (α 2) ([], 2, 3)) (vsv M (α 2) ([], 3, 4)) (vsv M (α 2) ([(5, 112)], 0, 144)) (vsv M (α 2) ([(6, 113)], 0, 144)) (vsv M (α 2) ([(7, 114)], 0, 144)) (vsv M (α 2) ([(8, 115)], 0, 144)) (ρ 6 + 0) (ρ 7 + 0) (ρ 8 + 0) (ρ 3 + 0) := hP _ (List.mem_of_getElem? (i := 0) rfl)
  have h1 : Γ (α 0) = 31 ∧ (∀ q ∈ ([([], 0, 1)] : VSP), wkT Γ M (α 0) q.1) ∧ Γ (α 2) = 110 ∧ (∀ q ∈ ([([(4, 111)], 0, 144), ([(6, 113)], 0, 144)] : VSP), wkT Γ M (α 2) q.1) ∧ Γ (α 1) = 1 ∧ (∀ q ∈ ([([], 0, 2)] : VSP), wkT Γ M (α 1) q.1) ∧ Q792 g (vsv M (α 0) ([], 0, 1)) (vsv M (α 2) ([(4, 111)], 0, 144)) (vsv M (α 2) ([(6, 113)], 0, 144)) (vsv M (α 1) ([], 0, 2)) (ρ 4 + 0) := hP _ (List.mem_of_getElem? (i := 1) rfl)
  have h2 : 0 ≤ (0 : Int) ∧ M.2.2.2.2 (α 0) (0 : Int).toNat = ρ 5 + 0 := hP _ (List.mem_of_getElem? (i := 2) rfl)
  try simp only [Int.add_zero] at h0 h1 h2
  have key : (-4000000 ≤ ρ 5 ∧ ρ 5 ≤ 4000000) ∧ (Γ (α 2) = 110 ∧ (∀ q ∈ ([([(4, 111)], 0, 144), ([(6, 113)], 0, 144)] : VSP), wkT Γ M (α 2) q.1) ∧ Γ (α 1) = 1 ∧ (∀ q ∈ ([([], 0, 2)] : VSP), wkT Γ M (α 1) q.1) ∧ Q799 g (vsv M (α 2) ([(4, 111)], 0, 144)) (vsv M (α 2) ([(6, 113)], 0, 144)) (vsv M (α 1) ([], 0, 2)) (ρ 4 + 0)) ∧ True := by
    try simp only [Int.add_zero]
    have dm1 := cdim hT g1
    have rc1 := rc_bd dm1.1 dm1.2
    obtain ⟨-, -, -, -, -, -, p0⟩ := h0
    dsimp only [Q791] at p0
    obtain ⟨-, -, -, -, -, -, p1⟩ := h1
    dsimp only [Q792] at p1
    have e2 : M.2.2.2.2 (α 0) 0 = ρ 5 := h2.2
    obtain ⟨s1, s2, a, b, hab, ht, h4⟩ := p0
    have hl := lk_lt (by omega) hab
    have c0 : (vsv M (α 0) ([], 0, 1)) 0 = ρ 5 := (vs0 (by decide) (by decide)).trans e2
    refine ⟨?_, ⟨g2, pic1 hT g2 (by decide) (by decide), g1, pic1 hT g1 (by decide) (by decide), ?_⟩, trivial⟩
    · have x := s1.2.2.2.1 a hl.1
      have y := s1.2.2.2.1 b hl.2.1
      have z : -127 ≤ stA (vsv M (α 1) ([(2, 2)], 0, 144)) a b ∧ stA (vsv M (α 1) ([(2, 2)], 0, 144)) a b ≤ 127 := wr_bd0 _
      rw [c0] at ht
      omega
    · dsimp only [Q799]
      intro p hp hq
      have x := s1.2.2.2.1 p hp
      rw [p1 p hp, if_neg (by omega)]
      omega
  exact ⟨qB (key.1) (nB), qB (key.2.1) (nB)⟩
def t_nlg_r0 : KT := ((0, 0, 0, 0), [(2, 0, 31, 0), (2, 1, 1, 0), (2, 2, 110, 0), (1, 3, 0, 0), (1, 4, 0, 0), (1, 5, 0, 0), (2, 6, 34, 0), (1, 7, 0, 0)], [(0, 0), (0, 0), (0, 0), (0, 143), (0, 143), (-2147483648, 2147483647), (0, 0), (-2147483648, 2147483647)], [(792, [(2, 0, 31, 0), (2, 2, 110, 0), (2, 1, 1, 0), (1, 4, 0, 0)]), (10, [(2, 0, 31, 0), (0, 0, 0, 0), (1, 5, 0, 0)]), (798, [(2, 0, 31, 0), (1, 3, 0, 0)]), (11, [(2, 0, 31, 0), (0, 0, 0, 5), (2, 6, 34, 0)]), (10, [(2, 6, 34, 0), (1, 4, 0, 0), (1, 7, 0, 0)]), (6, [(1, 7, 0, 0), (1, 3, 0, 0)]), (6, [(1, 3, 0, 0), (1, 7, 0, 0)])], (0, 0, 0), [], [], ([], [(795, [(2, 2, 110, 0), (2, 1, 1, 0), (1, 4, 0, 0), (1, 5, 0, 0)]), (794, [(1, 4, 0, 0)])]), ([], []))
set_option maxRecDepth 100000 in
theorem l_nlg_r0 (g : GG) : LOK Yt (PSt g) t_nlg_r0 := by
  intro ρ α Γ M as hT hB hA hP
  have g0 : Γ (α 0) = 31 := tyAt hA (i := 0) rfl
  have g1 : Γ (α 1) = 1 := tyAt hA (i := 1) rfl
  have g2 : Γ (α 2) = 110 := tyAt hA (i := 2) rfl
  have b3 : 0 ≤ ρ 3 ∧ ρ 3 ≤ 143 := hB 3
  have b4 : 0 ≤ ρ 4 ∧ ρ 4 ≤ 143 := hB 4
  have b5 : -2147483648 ≤ ρ 5 ∧ ρ 5 ≤ 2147483647 := hB 5
  have g6 : Γ (α 6) = 34 := tyAt hA (i := 6) rfl
  have b7 : -2147483648 ≤ ρ 7 ∧ ρ 7 ≤ 2147483647 := hB 7
  have h0 : Γ (α 0) = 31 ∧ (∀ q ∈ ([([], 0, 1)] : VSP), wkT Γ M (α 0) q.1) ∧ Γ (α 2) = 110 ∧ (∀ q ∈ ([([(4, 111)], 0, 144), ([(6, 113)], 0, 144)] : VSP), wkT Γ M (α 2) q.1) ∧ Γ (α 1) = 1 ∧ (∀ q ∈ ([([], 0, 2)] : VSP), wkT Γ M (α 1) q.1) ∧ Q792 g (vsv M (α 0) ([], 0, 1)) (vsv M (α 2) ([(4, 111)], 0, 144)) (vsv M (α 2) ([(6, 113)], 0, 144)) (vsv M (α 1) ([], 0, 2)) (ρ 4 + 0) := hP _ (List.mem_of_getElem? (i := 0) rfl)
  have h1 : 0 ≤ (0 : Int) ∧ M.2.2.2.2 (α 0) (0 : Int).toNat = ρ 5 + 0 := hP _ (List.mem_of_getElem? (i := 1) rfl)
  have h2 : Γ (α 0) = 31 ∧ (∀ q ∈ ([([(5, 34)], 0, 144)] : VSP), wkT Γ M (α 0) q.1) ∧ Q798 g (vsv M (α 0) ([(5, 34)], 0, 144)) (ρ 3 + 0) := hP _ (List.mem_of_getElem? (i := 2) rfl)
  have h3 : 0 ≤ (5 : Int) ∧ M.2.2.2.1 (α 0) (5 : Int).toNat = some (α 6) := hP _ (List.mem_of_getElem? (i := 3) rfl)
  have h4 : 0 ≤ (ρ 4 + 0 : Int) ∧ M.2.2.2.2 (α 6) (ρ 4 + 0 : Int).toNat = ρ 7 + 0 := hP _ (List.mem_of_getElem? (i := 4) rfl)
  have h5 : ρ 7 + 0 ≤ ρ 3 + 0 := hP _ (List.mem_of_getElem? (i := 5) rfl)
  have h6 : ρ 3 + 0 ≤ ρ 7 + 0 := hP _ (List.mem_of_getElem? (i := 6) rfl)
  try simp only [Int.add_zero] at h0 h1 h2 h3 h4 h5 h6
  have key : (Γ (α 2) = 110 ∧ (∀ q ∈ ([([(4, 111)], 0, 144), ([(6, 113)], 0, 144)] : VSP), wkT Γ M (α 2) q.1) ∧ Γ (α 1) = 1 ∧ (∀ q ∈ ([([], 0, 2)] : VSP), wkT Γ M (α 1) q.1) ∧ Q795 g (vsv M (α 2) ([(4, 111)], 0, 144)) (vsv M (α 2) ([(6, 113)], 0, 144)) (vsv M (α 1) ([], 0, 2)) (ρ 4 + 0) (ρ 5 + 0)) ∧ (zI g (ρ 4 + 0 : Int).toNat = 1) ∧ True := by
    try simp only [Int.add_zero]
    have dm1 := cdim hT g1
    have rc1 := rc_bd dm1.1 dm1.2
    obtain ⟨-, -, -, -, -, -, p0⟩ := h0
    dsimp only [Q792] at p0
    have e1 : M.2.2.2.2 (α 0) 0 = ρ 5 := h1.2
    obtain ⟨-, -, p2⟩ := h2
    dsimp only [Q798] at p2
    have e3 : M.2.2.2.1 (α 0) 5 = some (α 6) := h3.2
    have e4 : M.2.2.2.2 (α 6) (ρ 4).toNat = ρ 7 := h4.2
    have c0 : (vsv M (α 0) ([], 0, 1)) 0 = ρ 5 := (vs0 (by decide) (by decide)).trans e1
    have h5 : ρ 7 ≤ ρ 3 := h5
    have h6 : ρ 3 ≤ ρ 7 := h6
    refine ⟨⟨g2, pic1 hT g2 (by decide) (by decide), g1, pic1 hT g1 (by decide) (by decide), ?_⟩, ?_, trivial⟩
    · dsimp only [Q795]
      rw [c0] at p0
      exact p0
    · have u : (vsv M (α 0) ([(5, 34)], 0, 144)) (ρ 4).toNat = ρ 7 := (vs1 e3 (Nat.zero_le _) (by omega)).trans e4
      show zI g (ρ 4).toNat = 1
      rw [p2 (ρ 4).toNat (by omega), u, if_pos (by omega)]
  exact ⟨nB, qB (key.1) (qB (key.2.1) (nB))⟩
def t_nlg_r : KT := ((0, 0, 0, 0), [(2, 0, 31, 0), (2, 1, 1, 0), (2, 2, 110, 0), (1, 3, 0, 0), (1, 4, 0, 0), (1, 5, 0, 0)], [(0, 0), (0, 0), (0, 0), (0, 143), (0, 143), (-2147483648, 2147483647)], [(795, [(2, 2, 110, 0), (2, 1, 1, 0), (1, 4, 0, 1), (1, 5, 0, 0)]), (10, [(2, 0, 31, 0), (0, 0, 0, 0), (1, 5, 0, 0)])], (0, 0, 0), [], [], ([], [(792, [(2, 0, 31, 0), (2, 2, 110, 0), (2, 1, 1, 0), (1, 4, 0, 1)])]), ([], []))
set_option maxRecDepth 100000 in
theorem l_nlg_r (g : GG) : LOK Yt (PSt g) t_nlg_r := by
  intro ρ α Γ M as hT hB hA hP
  have g0 : Γ (α 0) = 31 := tyAt hA (i := 0) rfl
  have g1 : Γ (α 1) = 1 := tyAt hA (i := 1) rfl
  have g2 : Γ (α 2) = 110 := tyAt hA (i := 2) rfl
  have b3 : 0 ≤ ρ 3 ∧ ρ 3 ≤ 143 := hB 3
  have b4 : 0 ≤ ρ 4 ∧ ρ 4 ≤ 143 := hB 4
  have b5 : -2147483648 ≤ ρ 5 ∧ ρ 5 ≤ 2147483647 := hB 5
  have h0 : Γ (α 2) = 110 ∧ (∀ q ∈ ([([(4, 111)], 0, 144), ([(6, 113)], 0, 144)] : VSP), wkT Γ M (α 2) q.1) ∧ Γ (α 1) = 1 ∧ (∀ q ∈ ([([], 0, 2)] : VSP), wkT Γ M (α 1) q.1) ∧ Q795 g (vsv M (α 2) ([(4, 111)], 0, 144)) (vsv M (α 2) ([(6, 113)], 0, 144)) (vsv M (α 1) ([], 0, 2)) (ρ 4 + 1) (ρ 5 + 0) := hP _ (List.mem_of_getElem? (i := 0) rfl)
  have h1 : 0 ≤ (0 : Int) ∧ M.2.2.2.2 (α 0) (0 : Int).toNat = ρ 5 + 0 := hP _ (List.mem_of_getElem? (i := 1) rfl)
  try simp only [Int.add_zero] at h0 h1
  have key : (Γ (α 0) = 31 ∧ (∀ q ∈ ([([], 0, 1)] : VSP), wkT Γ M (α 0) q.1) ∧ Γ (α 2) = 110 ∧ (∀ q ∈ ([([(4, 111)], 0, 144), ([(6, 113)], 0, 144)] : VSP), wkT Γ M (α 2) q.1) ∧ Γ (α 1) = 1 ∧ (∀ q ∈ ([([], 0, 2)] : VSP), wkT Γ M (α 1) q.1) ∧ Q792 g (vsv M (α 0) ([], 0, 1)) (vsv M (α 2) ([(4, 111)], 0, 144)) (vsv M (α 2) ([(6, 113)], 0, 144)) (vsv M (α 1) ([], 0, 2)) (ρ 4 + 1)) ∧ True := by
    try simp only [Int.add_zero]
    have dm1 := cdim hT g1
    have rc1 := rc_bd dm1.1 dm1.2
    obtain ⟨-, -, -, -, p0⟩ := h0
    dsimp only [Q795] at p0
    have e1 : M.2.2.2.2 (α 0) 0 = ρ 5 := h1.2
    have c0 : (vsv M (α 0) ([], 0, 1)) 0 = ρ 5 := (vs0 (by decide) (by decide)).trans e1
    refine ⟨⟨g0, pic1 hT g0 (by decide) (by decide), g2, pic1 hT g2 (by decide) (by decide), g1, pic1 hT g1 (by decide) (by decide), ?_⟩, trivial⟩
    · dsimp only [Q792]
      rw [c0]
      exact p0
  exact ⟨nB, qB (key.1) (nB)⟩
def t_nlg_n : KT := ((0, 0, 0, 0), [(2, 0, 31, 0), (2, 1, 1, 0), (2, 2, 110, 0), (1, 3, 0, 0), (1, 4, 0, 0), (2, 5, 34, 0), (1, 6, 0, 0)], [(0, 0), (0, 0), (0, 0), (0, 143), (0, 143), (0, 0), (-2147483648, 2147483647)], [(792, [(2, 0, 31, 0), (2, 2, 110, 0), (2, 1, 1, 0), (1, 4, 0, 0)]), (798, [(2, 0, 31, 0), (1, 3, 0, 0)]), (11, [(2, 0, 31, 0), (0, 0, 0, 5), (2, 5, 34, 0)]), (10, [(2, 5, 34, 0), (1, 4, 0, 0), (1, 6, 0, 0)]), (99, [(1, 6, 0, 0), (1, 3, 0, 0), (0, 0, 0, 0)])], (0, 0, 0), [], [], ([], [(792, [(2, 0, 31, 0), (2, 2, 110, 0), (2, 1, 1, 0), (1, 4, 0, 1)])]), ([], []))
set_option maxRecDepth 100000 in
theorem l_nlg_n (g : GG) : LOK Yt (PSt g) t_nlg_n := by
  intro ρ α Γ M as hT hB hA hP
  have g0 : Γ (α 0) = 31 := tyAt hA (i := 0) rfl
  have g1 : Γ (α 1) = 1 := tyAt hA (i := 1) rfl
  have g2 : Γ (α 2) = 110 := tyAt hA (i := 2) rfl
  have b3 : 0 ≤ ρ 3 ∧ ρ 3 ≤ 143 := hB 3
  have b4 : 0 ≤ ρ 4 ∧ ρ 4 ≤ 143 := hB 4
  have g5 : Γ (α 5) = 34 := tyAt hA (i := 5) rfl
  have b6 : -2147483648 ≤ ρ 6 ∧ ρ 6 ≤ 2147483647 := hB 6
  have h0 : Γ (α 0) = 31 ∧ (∀ q ∈ ([([], 0, 1)] : VSP), wkT Γ M (α 0) q.1) ∧ Γ (α 2) = 110 ∧ (∀ q ∈ ([([(4, 111)], 0, 144), ([(6, 113)], 0, 144)] : VSP), wkT Γ M (α 2) q.1) ∧ Γ (α 1) = 1 ∧ (∀ q ∈ ([([], 0, 2)] : VSP), wkT Γ M (α 1) q.1) ∧ Q792 g (vsv M (α 0) ([], 0, 1)) (vsv M (α 2) ([(4, 111)], 0, 144)) (vsv M (α 2) ([(6, 113)], 0, 144)) (vsv M (α 1) ([], 0, 2)) (ρ 4 + 0) := hP _ (List.mem_of_getElem? (i := 0) rfl)
  have h1 : Γ (α 0) = 31 ∧ (∀ q ∈ ([([(5, 34)], 0, 144)] : VSP), wkT Γ M (α 0) q.1) ∧ Q798 g (vsv M (α 0) ([(5, 34)], 0, 144)) (ρ 3 + 0) := hP _ (List.mem_of_getElem? (i := 1) rfl)
  have h2 : 0 ≤ (5 : Int) ∧ M.2.2.2.1 (α 0) (5 : Int).toNat = some (α 5) := hP _ (List.mem_of_getElem? (i := 2) rfl)
  have h3 : 0 ≤ (ρ 4 + 0 : Int) ∧ M.2.2.2.2 (α 5) (ρ 4 + 0 : Int).toNat = ρ 6 + 0 := hP _ (List.mem_of_getElem? (i := 3) rfl)
  have h4 : (ρ 6 + 0 : Int) ≠ ρ 3 + 0 := hP _ (List.mem_of_getElem? (i := 4) rfl)
  try simp only [Int.add_zero] at h0 h1 h2 h3 h4
  have key : (Γ (α 0) = 31 ∧ (∀ q ∈ ([([], 0, 1)] : VSP), wkT Γ M (α 0) q.1) ∧ Γ (α 2) = 110 ∧ (∀ q ∈ ([([(4, 111)], 0, 144), ([(6, 113)], 0, 144)] : VSP), wkT Γ M (α 2) q.1) ∧ Γ (α 1) = 1 ∧ (∀ q ∈ ([([], 0, 2)] : VSP), wkT Γ M (α 1) q.1) ∧ Q792 g (vsv M (α 0) ([], 0, 1)) (vsv M (α 2) ([(4, 111)], 0, 144)) (vsv M (α 2) ([(6, 113)], 0, 144)) (vsv M (α 1) ([], 0, 2)) (ρ 4 + 1)) ∧ True := by
    try simp only [Int.add_zero]
    have dm1 := cdim hT g1
    have rc1 := rc_bd dm1.1 dm1.2
    obtain ⟨-, -, -, -, -, -, p0⟩ := h0
    dsimp only [Q792] at p0
    obtain ⟨-, -, p1⟩ := h1
    dsimp only [Q798] at p1
    have e2 : M.2.2.2.1 (α 0) 5 = some (α 5) := h2.2
    have e3 : M.2.2.2.2 (α 5) (ρ 4).toNat = ρ 6 := h3.2
    refine ⟨⟨g0, pic1 hT g0 (by decide) (by decide), g2, pic1 hT g2 (by decide) (by decide), g1, pic1 hT g1 (by decide) (by decide), ?_⟩, trivial⟩
    · dsimp only [Q792]
      have u : (vsv M (α 0) ([(5, 34)], 0, 144)) (ρ 4).toNat = ρ 6 := (vs1 e2 (Nat.zero_le _) (by omega)).trans e3
      have z : zI g (ρ 4).toNat ≠ 1 := by
        rw [p1 (ρ 4).toNat (by omega), u, if_neg h4]
        omega
      intro p hp
      rw [p0 p hp]
      have : (zI g ((vsv M (α 2) ([(6, 113)], 0, 144)) p).toNat = 1 ∧ (vsv M (α 2) ([(6, 113)], 0, 144)) p < ρ 4) ↔ (zI g ((vsv M (α 2) ([(6, 113)], 0, 144)) p).toNat = 1 ∧ (vsv M (α 2) ([(6, 113)], 0, 144)) p < ρ 4 + 1) := by
        by_cases q : (vsv M (α 2) ([(6, 113)], 0, 144)) p = ρ 4
        · rw [q]
          exact ⟨fun w => absurd w.1 z, fun w => absurd w.1 z⟩
        · omega
      simp only [this]
  exact ⟨nB, qB (key.1) (nB)⟩
def t_nlg_e : KT := ((0, 0, 0, 0), [(2, 0, 31, 0), (2, 1, 1, 0), (2, 2, 110, 0), (1, 3, 0, 0), (1, 4, 0, 0), (1, 5, 0, 0), (1, 6, 0, 0), (1, 7, 0, 0), (1, 8, 0, 0)], [(0, 0), (0, 0), (0, 0), (0, 143), (0, 144), (-2147483648, 2147483647), (-2147483648, 2147483647), (-2147483648, 2147483647), (0, 144)], [(791, [(2, 0, 31, 0), (2, 1, 1, 0), (2, 2, 110, 0), (1, 5, 0, 0), (1, 6, 0, 0), (1, 7, 0, 0), (1, 3, 0, 0)]), (792, [(2, 0, 31, 0), (2, 2, 110, 0), (2, 1, 1, 0), (1, 4, 0, 0)]), (798, [(2, 0, 31, 0), (1, 3, 0, 0)]), (10, [(2, 2, 110, 0), (0, 0, 0, 3), (1, 8, 0, 0)]), (6, [(1, 8, 0, 0), (1, 4, 0, 0)])], (0, 0, 0), [], [], ([], [(788, [(2, 0, 31, 0), (2, 1, 1, 0), (2, 2, 110, 0), (1, 5, 0, 0), (1, 6, 0, 0), (1, 7, 0, 0), (1, 3, 0, 0)])]), ([], []))
set_option maxRecDepth 100000 in
theorem l_nlg_e (g : GG) : LOK Yt (PSt g) t_nlg_e := by
  intro ρ α Γ M as hT hB hA hP
  have g0 : Γ (α 0) = 31 := tyAt hA (i := 0) rfl
  have g1 : Γ (α 1) = 1 := tyAt hA (i := 1) rfl
  have g2 : Γ (α 2) = 110 := tyAt hA (i := 2) rfl
  have b3 : 0 ≤ ρ 3 ∧ ρ 3 ≤ 143 := hB 3
  have b4 : 0 ≤ ρ 4 ∧ ρ 4 ≤ 144 := hB 4
  have b5 : -2147483648 ≤ ρ 5 ∧ ρ 5 ≤ 2147483647 := hB 5
  have b6 : -2147483648 ≤ ρ 6 ∧ ρ 6 ≤ 2147483647 := hB 6
  have b7 : -2147483648 ≤ ρ 7 ∧ ρ 7 ≤ 2147483647 := hB 7
  have b8 : 0 ≤ ρ 8 ∧ ρ 8 ≤ 144 := hB 8
  have h0 : Γ (α 0) = 31 ∧ (∀ q ∈ ([([], 0, 1), ([(5, 34)], 0, 144)] : VSP), wkT Γ M (α 0) q.1) ∧ Γ (α 1) = 1 ∧ (∀ q ∈ ([([], 0, 2), ([(2, 2)], 0, 144)] : VSP), wkT Γ M (α 1) q.1) ∧ Γ (α 2) = 110 ∧ (∀ q ∈ ([([], 2, 3), ([], 3, 4), ([(5, 112)], 0, 144), ([(6, 113)], 0, 144), ([(7, 114)], 0, 144), ([(8, 115)], 0, 144)] : VSP), wkT Γ M (α 2) q.1) ∧ Q791 g (vsv M (α 0) ([], 0, 1)) (vsv M (α 0) ([(5, 34)], 0, 144)) (vsv M (α 1) ([], 0, 2)) (vsv M (α 1) ([(2, 2)], 0, 144)) (vsv M (α 2) ([], 2, 3)) (vsv M (α 2) ([], 3, 4)) (vsv M (α 2) ([(5, 112)], 0, 144)) (vsv M (α 2) ([(6, 113)], 0, 144)) (vsv M (α 2) ([(7, 114)], 0, 144)) (vsv M (α 2) ([(8, 115)], 0, 144)) (ρ 5 + 0) (ρ 6 + 0) (ρ 7 + 0) (ρ 3 + 0) := hP _ (List.mem_of_getElem? (i := 0) rfl)
  have h1 : Γ (α 0) = 31 ∧ (∀ q ∈ ([([], 0, 1)] : VSP), wkT Γ M (α 0) q.1) ∧ Γ (α 2) = 110 ∧ (∀ q ∈ ([([(4, 111)], 0, 144), ([(6, 113)], 0, 144)] : VSP), wkT Γ M (α 2) q.1) ∧ Γ (α 1) = 1 ∧ (∀ q ∈ ([([], 0, 2)] : VSP), wkT Γ M (α 1) q.1) ∧ Q792 g (vsv M (α 0) ([], 0, 1)) (vsv M (α 2) ([(4, 111)], 0, 144)) (vsv M (α 2) ([(6, 113)], 0, 144)) (vsv M (α 1) ([], 0, 2)) (ρ 4 + 0) := hP _ (List.mem_of_getElem? (i := 1) rfl)
  have h2 : Γ (α 0) = 31 ∧ (∀ q ∈ ([([(5, 34)], 0, 144)] : VSP), wkT Γ M (α 0) q.1) ∧ Q798 g (vsv M (α 0) ([(5, 34)], 0, 144)) (ρ 3 + 0) := hP _ (List.mem_of_getElem? (i := 2) rfl)
  have h3 : 0 ≤ (3 : Int) ∧ M.2.2.2.2 (α 2) (3 : Int).toNat = ρ 8 + 0 := hP _ (List.mem_of_getElem? (i := 3) rfl)
  have h4 : ρ 8 + 0 ≤ ρ 4 + 0 := hP _ (List.mem_of_getElem? (i := 4) rfl)
  try simp only [Int.add_zero] at h0 h1 h2 h3 h4
  have key : (Γ (α 0) = 31 ∧ (∀ q ∈ ([([(5, 34)], 0, 144)] : VSP), wkT Γ M (α 0) q.1) ∧ Γ (α 1) = 1 ∧ (∀ q ∈ ([([], 0, 2), ([(2, 2)], 0, 144)] : VSP), wkT Γ M (α 1) q.1) ∧ Γ (α 2) = 110 ∧ (∀ q ∈ ([([], 2, 3), ([], 3, 4), ([(4, 111)], 0, 144), ([(5, 112)], 0, 144), ([(6, 113)], 0, 144), ([(7, 114)], 0, 144), ([(8, 115)], 0, 144)] : VSP), wkT Γ M (α 2) q.1) ∧ Q788 g (vsv M (α 0) ([(5, 34)], 0, 144)) (vsv M (α 1) ([], 0, 2)) (vsv M (α 1) ([(2, 2)], 0, 144)) (vsv M (α 2) ([], 2, 3)) (vsv M (α 2) ([], 3, 4)) (vsv M (α 2) ([(4, 111)], 0, 144)) (vsv M (α 2) ([(5, 112)], 0, 144)) (vsv M (α 2) ([(6, 113)], 0, 144)) (vsv M (α 2) ([(7, 114)], 0, 144)) (vsv M (α 2) ([(8, 115)], 0, 144)) (ρ 5 + 0) (ρ 6 + 0) (ρ 7 + 0) (ρ 3 + 0)) ∧ True := by
    try simp only [Int.add_zero]
    have dm1 := cdim hT g1
    have rc1 := rc_bd dm1.1 dm1.2
    obtain ⟨-, -, -, -, -, -, p0⟩ := h0
    dsimp only [Q791] at p0
    obtain ⟨-, -, -, -, -, -, p1⟩ := h1
    dsimp only [Q792] at p1
    obtain ⟨-, -, p2⟩ := h2
    dsimp only [Q798] at p2
    have e3 : M.2.2.2.2 (α 2) 3 = ρ 8 := h3.2
    obtain ⟨s1, s2, a, b, hab, ht, ex, ey, ne⟩ := p0
    have lad := s1.1.2
    have h4 : ρ 8 ≤ ρ 4 := h4
    refine ⟨⟨g0, pic1 hT g0 (by decide) (by decide), g1, pic1 hT g1 (by decide) (by decide), g2, pic1 hT g2 (by decide) (by decide), ?_⟩, trivial⟩
    · dsimp only [Q788]
      have l3 : (vsv M (α 2) ([], 3, 4)) 3 = ρ 8 := (vs0 (by decide) (by decide)).trans e3
      intro sg2 hs
      have k0 := s1.1.1.1.1
      refine sI_next (by omega) (by omega) (by omega) s1 hab ht (by rw [ex, ey]; exact ne) (fun p hp => ?_) (fun i hi => by rw [ex, ey]; exact hs i hi)
      have sk := (s1.1.1.2.1 p hp (flK_laid (by omega) s1.1.1 (by omega) p hp)).1
      rw [p1 p hp, p2 ((vsv M (α 2) ([(6, 113)], 0, 144)) p).toNat (by omega), ey]
      by_cases q : (vsv M (α 0) ([(5, 34)], 0, 144)) ((vsv M (α 2) ([(6, 113)], 0, 144)) p).toNat = ρ 3
      · rw [if_pos q, if_pos ⟨rfl, by omega⟩, if_pos q]
      · rw [if_neg q, if_neg (fun w => absurd w.1 (by decide)), if_neg q]
  exact ⟨nB, qB (key.1) (nB)⟩
def t_nun_1 : KT := ((0, 0, 0, 0), [(2, 0, 31, 0), (2, 1, 110, 0), (1, 2, 0, 0), (1, 3, 0, 0), (1, 4, 0, 0), (1, 5, 0, 0), (1, 6, 0, 0), (2, 7, 34, 0), (1, 8, 0, 0)], [(0, 0), (0, 0), (0, 143), (0, 143), (0, 143), (-2147483648, 2147483647), (-2147483648, 2147483647), (0, 0), (-2147483648, 2147483647)], [(789, [(2, 0, 31, 0), (2, 1, 110, 0), (1, 4, 0, 0), (1, 2, 0, 0), (1, 3, 0, 0), (1, 5, 0, 0), (1, 6, 0, 0)]), (11, [(2, 0, 31, 0), (0, 0, 0, 5), (2, 7, 34, 0)]), (10, [(2, 7, 34, 0), (1, 4, 0, 0), (1, 8, 0, 0)]), (6, [(1, 8, 0, 0), (1, 3, 0, 0)]), (6, [(1, 3, 0, 0), (1, 8, 0, 0)])], (0, 0, 0), [], [], ([], [(641, [(2, 7, 34, 0), (1, 4, 0, 0), (2, 0, 31, 0), (2, 1, 110, 0), (1, 2, 0, 0), (1, 3, 0, 0), (1, 5, 0, 0), (1, 6, 0, 0)])]), ([], []))
set_option maxRecDepth 100000 in
theorem l_nun_1 (g : GG) : LOK Yt (PSt g) t_nun_1 := by
  intro ρ α Γ M as hT hB hA hP
  have g0 : Γ (α 0) = 31 := tyAt hA (i := 0) rfl
  have g1 : Γ (α 1) = 110 := tyAt hA (i := 1) rfl
  have b2 : 0 ≤ ρ 2 ∧ ρ 2 ≤ 143 := hB 2
  have b3 : 0 ≤ ρ 3 ∧ ρ 3 ≤ 143 := hB 3
  have b4 : 0 ≤ ρ 4 ∧ ρ 4 ≤ 143 := hB 4
  have b5 : -2147483648 ≤ ρ 5 ∧ ρ 5 ≤ 2147483647 := hB 5
  have b6 : -2147483648 ≤ ρ 6 ∧ ρ 6 ≤ 2147483647 := hB 6
  have g7 : Γ (α 7) = 34 := tyAt hA (i := 7) rfl
  have b8 : -2147483648 ≤ ρ 8 ∧ ρ 8 ≤ 2147483647 := hB 8
  have h0 : Γ (α 0) = 31 ∧ (∀ q ∈ ([([(5, 34)], 0, 144)] : VSP), wkT Γ M (α 0) q.1) ∧ Γ (α 1) = 110 ∧ (∀ q ∈ ([([], 2, 3), ([], 3, 4), ([(4, 111)], 0, 144), ([(5, 112)], 0, 144), ([(6, 113)], 0, 144), ([(7, 114)], 0, 144), ([(8, 115)], 0, 144)] : VSP), wkT Γ M (α 1) q.1) ∧ Q789 g (vsv M (α 0) ([(5, 34)], 0, 144)) (vsv M (α 1) ([], 2, 3)) (vsv M (α 1) ([], 3, 4)) (vsv M (α 1) ([(4, 111)], 0, 144)) (vsv M (α 1) ([(5, 112)], 0, 144)) (vsv M (α 1) ([(6, 113)], 0, 144)) (vsv M (α 1) ([(7, 114)], 0, 144)) (vsv M (α 1) ([(8, 115)], 0, 144)) (ρ 4 + 0) (ρ 2 + 0) (ρ 3 + 0) (ρ 5 + 0) (ρ 6 + 0) := hP _ (List.mem_of_getElem? (i := 0) rfl)
  have h1 : 0 ≤ (5 : Int) ∧ M.2.2.2.1 (α 0) (5 : Int).toNat = some (α 7) := hP _ (List.mem_of_getElem? (i := 1) rfl)
  have h2 : 0 ≤ (ρ 4 + 0 : Int) ∧ M.2.2.2.2 (α 7) (ρ 4 + 0 : Int).toNat = ρ 8 + 0 := hP _ (List.mem_of_getElem? (i := 2) rfl)
  have h3 : ρ 8 + 0 ≤ ρ 3 + 0 := hP _ (List.mem_of_getElem? (i := 3) rfl)
  have h4 : ρ 3 + 0 ≤ ρ 8 + 0 := hP _ (List.mem_of_getElem? (i := 4) rfl)
  try simp only [Int.add_zero] at h0 h1 h2 h3 h4
  have key : (Γ (α 7) = 34 ∧ wlk M (α 0) [(5, 34)] = (α 7) ∧ wkT Γ M (α 0) [(5, 34)] ∧ Γ (α 0) = 31 ∧ (∀ q ∈ ([] : VSP), wkT Γ M (α 0) q.1) ∧ Γ (α 1) = 110 ∧ (∀ q ∈ ([([], 2, 3), ([], 3, 4), ([(4, 111)], 0, 144), ([(5, 112)], 0, 144), ([(6, 113)], 0, 144), ([(7, 114)], 0, 144), ([(8, 115)], 0, 144)] : VSP), wkT Γ M (α 1) q.1) ∧ Q641 g (hcl [vi (ρ 4 + 0)] (clp [(0, 144)] (M.2.2.2.2 (α 7)))) (ρ 4 + 0) (vsv M (α 1) ([], 2, 3)) (vsv M (α 1) ([], 3, 4)) (vsv M (α 1) ([(4, 111)], 0, 144)) (vsv M (α 1) ([(5, 112)], 0, 144)) (vsv M (α 1) ([(6, 113)], 0, 144)) (vsv M (α 1) ([(7, 114)], 0, 144)) (vsv M (α 1) ([(8, 115)], 0, 144)) (ρ 2 + 0) (ρ 3 + 0) (ρ 5 + 0) (ρ 6 + 0)) ∧ True := by
    try simp only [Int.add_zero]
    obtain ⟨-, -, -, -, p0⟩ := h0
    dsimp only [Q789] at p0
    have e1 : M.2.2.2.1 (α 0) 5 = some (α 7) := h1.2
    have e2 : M.2.2.2.2 (α 7) (ρ 4).toNat = ρ 8 := h2.2
    have h3 : ρ 8 ≤ ρ 3 := h3
    have h4 : ρ 3 ≤ ρ 8 := h4
    refine ⟨⟨g7, (fl_eq e1), wk1 e1 g7, g0, pic1 hT g0 (by decide) (by decide), g1, pic1 hT g1 (by decide) (by decide), ?_⟩, trivial⟩
    · dsimp only [Q641]
      have u : (vsv M (α 0) ([(5, 34)], 0, 144)) (ρ 4).toNat = ρ 8 := (vs1 e1 (Nat.zero_le _) (by omega)).trans e2
      refine ⟨b4.1, fun sg2 hs => p0 sg2 fun j hj => ?_⟩
      rw [hs j hj]
      by_cases q : (j : Int) < ρ 4
      · rw [if_pos q, if_pos q, hcl1 (by omega), ← vsv1 (t := 34) e1]
      · rw [if_neg q, if_neg q]
        by_cases w : (j : Int) = ρ 4
        · rw [if_pos w, show j = (ρ 4).toNat by omega, u, if_pos (by omega)]
        · rw [if_neg w, hcl1 w, ← vsv1 (t := 34) e1]
  exact ⟨nB, qB (key.1) (nB)⟩
def t_nun_2 : KT := ((0, 0, 0, 0), [(2, 0, 31, 0), (2, 1, 110, 0), (1, 2, 0, 0), (1, 3, 0, 0), (1, 4, 0, 0), (1, 5, 0, 0), (1, 6, 0, 0), (2, 7, 34, 0)], [(0, 0), (0, 0), (0, 143), (0, 143), (0, 143), (-2147483648, 2147483647), (-2147483648, 2147483647), (0, 0)], [(641, [(2, 7, 34, 0), (1, 4, 0, 0), (2, 0, 31, 0), (2, 1, 110, 0), (1, 2, 0, 0), (1, 3, 0, 0), (1, 5, 0, 0), (1, 6, 0, 0)]), (11, [(2, 0, 31, 0), (0, 0, 0, 5), (2, 7, 34, 0)]), (10, [(2, 7, 34, 0), (1, 4, 0, 0), (1, 2, 0, 0)])], (0, 0, 0), [], [], ([], [(789, [(2, 0, 31, 0), (2, 1, 110, 0), (1, 4, 0, 1), (1, 2, 0, 0), (1, 3, 0, 0), (1, 5, 0, 0), (1, 6, 0, 0)])]), ([], []))
set_option maxRecDepth 100000 in
theorem l_nun_2 (g : GG) : LOK Yt (PSt g) t_nun_2 := by
  intro ρ α Γ M as hT hB hA hP
  have g0 : Γ (α 0) = 31 := tyAt hA (i := 0) rfl
  have g1 : Γ (α 1) = 110 := tyAt hA (i := 1) rfl
  have b2 : 0 ≤ ρ 2 ∧ ρ 2 ≤ 143 := hB 2
  have b3 : 0 ≤ ρ 3 ∧ ρ 3 ≤ 143 := hB 3
  have b4 : 0 ≤ ρ 4 ∧ ρ 4 ≤ 143 := hB 4
  have b5 : -2147483648 ≤ ρ 5 ∧ ρ 5 ≤ 2147483647 := hB 5
  have b6 : -2147483648 ≤ ρ 6 ∧ ρ 6 ≤ 2147483647 := hB 6
  have g7 : Γ (α 7) = 34 := tyAt hA (i := 7) rfl
  have h0 : Γ (α 7) = 34 ∧ wlk M (α 0) [(5, 34)] = (α 7) ∧ wkT Γ M (α 0) [(5, 34)] ∧ Γ (α 0) = 31 ∧ (∀ q ∈ ([] : VSP), wkT Γ M (α 0) q.1) ∧ Γ (α 1) = 110 ∧ (∀ q ∈ ([([], 2, 3), ([], 3, 4), ([(4, 111)], 0, 144), ([(5, 112)], 0, 144), ([(6, 113)], 0, 144), ([(7, 114)], 0, 144), ([(8, 115)], 0, 144)] : VSP), wkT Γ M (α 1) q.1) ∧ Q641 g (hcl [vi (ρ 4 + 0)] (clp [(0, 144)] (M.2.2.2.2 (α 7)))) (ρ 4 + 0) (vsv M (α 1) ([], 2, 3)) (vsv M (α 1) ([], 3, 4)) (vsv M (α 1) ([(4, 111)], 0, 144)) (vsv M (α 1) ([(5, 112)], 0, 144)) (vsv M (α 1) ([(6, 113)], 0, 144)) (vsv M (α 1) ([(7, 114)], 0, 144)) (vsv M (α 1) ([(8, 115)], 0, 144)) (ρ 2 + 0) (ρ 3 + 0) (ρ 5 + 0) (ρ 6 + 0) := hP _ (List.mem_of_getElem? (i := 0) rfl)
  have h1 : 0 ≤ (5 : Int) ∧ M.2.2.2.1 (α 0) (5 : Int).toNat = some (α 7) := hP _ (List.mem_of_getElem? (i := 1) rfl)
  have h2 : 0 ≤ (ρ 4 + 0 : Int) ∧ M.2.2.2.2 (α 7) (ρ 4 + 0 : Int).toNat = ρ 2 + 0 := hP _ (List.mem_of_getElem? (i := 2) rfl)
  try simp only [Int.add_zero] at h0 h1 h2
  have key : (Γ (α 0) = 31 ∧ (∀ q ∈ ([([(5, 34)], 0, 144)] : VSP), wkT Γ M (α 0) q.1) ∧ Γ (α 1) = 110 ∧ (∀ q ∈ ([([], 2, 3), ([], 3, 4), ([(4, 111)], 0, 144), ([(5, 112)], 0, 144), ([(6, 113)], 0, 144), ([(7, 114)], 0, 144), ([(8, 115)], 0, 144)] : VSP), wkT Γ M (α 1) q.1) ∧ Q789 g (vsv M (α 0) ([(5, 34)], 0, 144)) (vsv M (α 1) ([], 2, 3)) (vsv M (α 1) ([], 3, 4)) (vsv M (α 1) ([(4, 111)], 0, 144)) (vsv M (α 1) ([(5, 112)], 0, 144)) (vsv M (α 1) ([(6, 113)], 0, 144)) (vsv M (α 1) ([(7, 114)], 0, 144)) (vsv M (α 1) ([(8, 115)], 0, 144)) (ρ 4 + 1) (ρ 2 + 0) (ρ 3 + 0) (ρ 5 + 0) (ρ 6 + 0)) ∧ True := by
    try simp only [Int.add_zero]
    obtain ⟨-, -, -, -, -, -, -, p0⟩ := h0
    dsimp only [Q641] at p0
    have e1 : M.2.2.2.1 (α 0) 5 = some (α 7) := h1.2
    have e2 : M.2.2.2.2 (α 7) (ρ 4).toNat = ρ 2 := h2.2
    refine ⟨⟨g0, pic1 hT g0 (by decide) (by decide), g1, pic1 hT g1 (by decide) (by decide), ?_⟩, trivial⟩
    · dsimp only [Q789]
      have u : (vsv M (α 0) ([(5, 34)], 0, 144)) (ρ 4).toNat = ρ 2 := (vs1 e1 (Nat.zero_le _) (by omega)).trans e2
      refine fun sg2 hs => p0.2 sg2 fun j hj => ?_
      rw [hs j hj]
      by_cases q : (j : Int) < ρ 4
      · rw [if_pos q, if_pos (by omega), hcl1 (by omega), ← vsv1 (t := 34) e1]
      · rw [if_neg q]
        by_cases w : (j : Int) = ρ 4
        · rw [if_pos w, if_pos (by omega), show j = (ρ 4).toNat by omega, u]
        · rw [if_neg w, if_neg (by omega), hcl1 w, ← vsv1 (t := 34) e1]
  exact ⟨nB, qB (key.1) (nB)⟩
def t_nun_3 : KT := ((0, 0, 0, 0), [(2, 0, 31, 0), (2, 1, 110, 0), (1, 2, 0, 0), (1, 3, 0, 0), (1, 4, 0, 0), (1, 5, 0, 0), (1, 6, 0, 0), (2, 7, 34, 0), (1, 8, 0, 0)], [(0, 0), (0, 0), (0, 143), (0, 143), (0, 143), (-2147483648, 2147483647), (-2147483648, 2147483647), (0, 0), (-2147483648, 2147483647)], [(789, [(2, 0, 31, 0), (2, 1, 110, 0), (1, 4, 0, 0), (1, 2, 0, 0), (1, 3, 0, 0), (1, 5, 0, 0), (1, 6, 0, 0)]), (11, [(2, 0, 31, 0), (0, 0, 0, 5), (2, 7, 34, 0)]), (10, [(2, 7, 34, 0), (1, 4, 0, 0), (1, 8, 0, 0)]), (99, [(1, 8, 0, 0), (1, 3, 0, 0), (0, 0, 0, 0)])], (0, 0, 0), [], [], ([], [(789, [(2, 0, 31, 0), (2, 1, 110, 0), (1, 4, 0, 1), (1, 2, 0, 0), (1, 3, 0, 0), (1, 5, 0, 0), (1, 6, 0, 0)])]), ([], []))
set_option maxRecDepth 100000 in
theorem l_nun_3 (g : GG) : LOK Yt (PSt g) t_nun_3 := by
  intro ρ α Γ M as hT hB hA hP
  have g0 : Γ (α 0) = 31 := tyAt hA (i := 0) rfl
  have g1 : Γ (α 1) = 110 := tyAt hA (i := 1) rfl
  have b2 : 0 ≤ ρ 2 ∧ ρ 2 ≤ 143 := hB 2
  have b3 : 0 ≤ ρ 3 ∧ ρ 3 ≤ 143 := hB 3
  have b4 : 0 ≤ ρ 4 ∧ ρ 4 ≤ 143 := hB 4
  have b5 : -2147483648 ≤ ρ 5 ∧ ρ 5 ≤ 2147483647 := hB 5
  have b6 : -2147483648 ≤ ρ 6 ∧ ρ 6 ≤ 2147483647 := hB 6
  have g7 : Γ (α 7) = 34 := tyAt hA (i := 7) rfl
  have b8 : -2147483648 ≤ ρ 8 ∧ ρ 8 ≤ 2147483647 := hB 8
  have h0 : Γ (α 0) = 31 ∧ (∀ q ∈ ([([(5, 34)], 0, 144)] : VSP), wkT Γ M (α 0) q.1) ∧ Γ (α 1) = 110 ∧ (∀ q ∈ ([([], 2, 3), ([], 3, 4), ([(4, 111)], 0, 144), ([(5, 112)], 0, 144), ([(6, 113)], 0, 144), ([(7, 114)], 0, 144), ([(8, 115)], 0, 144)] : VSP), wkT Γ M (α 1) q.1) ∧ Q789 g (vsv M (α 0) ([(5, 34)], 0, 144)) (vsv M (α 1) ([], 2, 3)) (vsv M (α 1) ([], 3, 4)) (vsv M (α 1) ([(4, 111)], 0, 144)) (vsv M (α 1) ([(5, 112)], 0, 144)) (vsv M (α 1) ([(6, 113)], 0, 144)) (vsv M (α 1) ([(7, 114)], 0, 144)) (vsv M (α 1) ([(8, 115)], 0, 144)) (ρ 4 + 0) (ρ 2 + 0) (ρ 3 + 0) (ρ 5 + 0) (ρ 6 + 0) := hP _ (List.mem_of_getElem? (i := 0) rfl)
  have h1 : 0 ≤ (5 : Int) ∧ M.2.2.2.1 (α 0) (5 : Int).toNat = some (α 7) := hP _ (List.mem_of_getElem? (i := 1) rfl)
  have h2 : 0 ≤ (ρ 4 + 0 : Int) ∧ M.2.2.2.2 (α 7) (ρ 4 + 0 : Int).toNat = ρ 8 + 0 := hP _ (List.mem_of_getElem? (i := 2) rfl)
  have h3 : (ρ 8 + 0 : Int) ≠ ρ 3 + 0 := hP _ (List.mem_of_getElem? (i := 3) rfl)
  try simp only [Int.add_zero] at h0 h1 h2 h3
  have key : (Γ (α 0) = 31 ∧ (∀ q ∈ ([([(5, 34)], 0, 144)] : VSP), wkT Γ M (α 0) q.1) ∧ Γ (α 1) = 110 ∧ (∀ q ∈ ([([], 2, 3), ([], 3, 4), ([(4, 111)], 0, 144), ([(5, 112)], 0, 144), ([(6, 113)], 0, 144), ([(7, 114)], 0, 144), ([(8, 115)], 0, 144)] : VSP), wkT Γ M (α 1) q.1) ∧ Q789 g (vsv M (α 0) ([(5, 34)], 0, 144)) (vsv M (α 1) ([], 2, 3)) (vsv M (α 1) ([], 3, 4)) (vsv M (α 1) ([(4, 111)], 0, 144)) (vsv M (α 1) ([(5, 112)], 0, 144)) (vsv M (α 1) ([(6, 113)], 0, 144)) (vsv M (α 1) ([(7, 114)], 0, 144)) (vsv M (α 1) ([(8, 115)], 0, 144)) (ρ 4 + 1) (ρ 2 + 0) (ρ 3 + 0) (ρ 5 + 0) (ρ 6 + 0)) ∧ True := by
    try simp only [Int.add_zero]
    obtain ⟨-, -, -, -, p0⟩ := h0
    dsimp only [Q789] at p0
    have e1 : M.2.2.2.1 (α 0) 5 = some (α 7) := h1.2
    have e2 : M.2.2.2.2 (α 7) (ρ 4).toNat = ρ 8 := h2.2
    refine ⟨⟨g0, pic1 hT g0 (by decide) (by decide), g1, pic1 hT g1 (by decide) (by decide), ?_⟩, trivial⟩
    · dsimp only [Q789]
      have u : (vsv M (α 0) ([(5, 34)], 0, 144)) (ρ 4).toNat = ρ 8 := (vs1 e1 (Nat.zero_le _) (by omega)).trans e2
      refine fun sg2 hs => p0 sg2 fun j hj => ?_
      rw [hs j hj]
      by_cases q : (j : Int) < ρ 4
      · rw [if_pos q, if_pos (by omega)]
      · rw [if_neg q]
        by_cases w : (j : Int) = ρ 4
        · rw [if_pos (by omega), show j = (ρ 4).toNat by omega, u, if_neg h3]
        · rw [if_neg (by omega)]
  exact ⟨nB, qB (key.1) (nB)⟩
def t_nun_e : KT := ((0, 0, 0, 0), [(2, 0, 31, 0), (2, 1, 110, 0), (1, 2, 0, 0), (1, 3, 0, 0), (1, 4, 0, 0), (1, 5, 0, 0), (1, 6, 0, 0), (1, 7, 0, 0)], [(0, 0), (0, 0), (0, 143), (0, 143), (0, 144), (-2147483648, 2147483647), (-2147483648, 2147483647), (0, 144)], [(789, [(2, 0, 31, 0), (2, 1, 110, 0), (1, 4, 0, 0), (1, 2, 0, 0), (1, 3, 0, 0), (1, 5, 0, 0), (1, 6, 0, 0)]), (10, [(2, 1, 110, 0), (0, 0, 0, 3), (1, 7, 0, 0)]), (6, [(1, 7, 0, 0), (1, 4, 0, 0)])], (0, 0, 0), [], [], ([], [(784, [(2, 0, 31, 0), (2, 1, 110, 0), (1, 5, 0, 0), (1, 6, 0, 0)])]), ([], []))
set_option maxRecDepth 100000 in
theorem l_nun_e (g : GG) : LOK Yt (PSt g) t_nun_e := by
  intro ρ α Γ M as hT hB hA hP
  have g0 : Γ (α 0) = 31 := tyAt hA (i := 0) rfl
  have g1 : Γ (α 1) = 110 := tyAt hA (i := 1) rfl
  have b2 : 0 ≤ ρ 2 ∧ ρ 2 ≤ 143 := hB 2
  have b3 : 0 ≤ ρ 3 ∧ ρ 3 ≤ 143 := hB 3
  have b4 : 0 ≤ ρ 4 ∧ ρ 4 ≤ 144 := hB 4
  have b5 : -2147483648 ≤ ρ 5 ∧ ρ 5 ≤ 2147483647 := hB 5
  have b6 : -2147483648 ≤ ρ 6 ∧ ρ 6 ≤ 2147483647 := hB 6
  have b7 : 0 ≤ ρ 7 ∧ ρ 7 ≤ 144 := hB 7
  have h0 : Γ (α 0) = 31 ∧ (∀ q ∈ ([([(5, 34)], 0, 144)] : VSP), wkT Γ M (α 0) q.1) ∧ Γ (α 1) = 110 ∧ (∀ q ∈ ([([], 2, 3), ([], 3, 4), ([(4, 111)], 0, 144), ([(5, 112)], 0, 144), ([(6, 113)], 0, 144), ([(7, 114)], 0, 144), ([(8, 115)], 0, 144)] : VSP), wkT Γ M (α 1) q.1) ∧ Q789 g (vsv M (α 0) ([(5, 34)], 0, 144)) (vsv M (α 1) ([], 2, 3)) (vsv M (α 1) ([], 3, 4)) (vsv M (α 1) ([(4, 111)], 0, 144)) (vsv M (α 1) ([(5, 112)], 0, 144)) (vsv M (α 1) ([(6, 113)], 0, 144)) (vsv M (α 1) ([(7, 114)], 0, 144)) (vsv M (α 1) ([(8, 115)], 0, 144)) (ρ 4 + 0) (ρ 2 + 0) (ρ 3 + 0) (ρ 5 + 0) (ρ 6 + 0) := hP _ (List.mem_of_getElem? (i := 0) rfl)
  have h1 : 0 ≤ (3 : Int) ∧ M.2.2.2.2 (α 1) (3 : Int).toNat = ρ 7 + 0 := hP _ (List.mem_of_getElem? (i := 1) rfl)
  have h2 : ρ 7 + 0 ≤ ρ 4 + 0 := hP _ (List.mem_of_getElem? (i := 2) rfl)
  try simp only [Int.add_zero] at h0 h1 h2
  have key : (Γ (α 0) = 31 ∧ (∀ q ∈ ([([(5, 34)], 0, 144)] : VSP), wkT Γ M (α 0) q.1) ∧ Γ (α 1) = 110 ∧ (∀ q ∈ ([([], 2, 3), ([], 3, 4), ([(4, 111)], 0, 144), ([(5, 112)], 0, 144), ([(6, 113)], 0, 144), ([(7, 114)], 0, 144), ([(8, 115)], 0, 144)] : VSP), wkT Γ M (α 1) q.1) ∧ Q784 g (vsv M (α 0) ([(5, 34)], 0, 144)) (vsv M (α 1) ([], 2, 3)) (vsv M (α 1) ([], 3, 4)) (vsv M (α 1) ([(4, 111)], 0, 144)) (vsv M (α 1) ([(5, 112)], 0, 144)) (vsv M (α 1) ([(6, 113)], 0, 144)) (vsv M (α 1) ([(7, 114)], 0, 144)) (vsv M (α 1) ([(8, 115)], 0, 144)) (ρ 5 + 0) (ρ 6 + 0)) ∧ True := by
    try simp only [Int.add_zero]
    obtain ⟨-, -, -, -, p0⟩ := h0
    dsimp only [Q789] at p0
    have e1 : M.2.2.2.2 (α 1) 3 = ρ 7 := h1.2
    have h2 : ρ 7 ≤ ρ 4 := h2
    refine ⟨⟨g0, pic1 hT g0 (by decide) (by decide), g1, pic1 hT g1 (by decide) (by decide), ?_⟩, trivial⟩
    · dsimp only [Q784]
      have l3 : (vsv M (α 1) ([], 3, 4)) 3 = ρ 7 := (vs0 (by decide) (by decide)).trans e1
      exact p0 _ fun j hj => by rw [if_pos (by omega)]
  exact ⟨nB, qB (key.1) (nB)⟩
def t_nua_g0 : KT := ((0, 0, 0, 0), [(2, 0, 31, 0)], [(0, 0)], [], (0, 0, 0), [], [], ([], [(782, [(2, 0, 31, 0), (0, 0, 0, 0)])]), ([], []))
set_option maxRecDepth 100000 in
theorem l_nua_g0 (g : GG) : LOK Yt (PSt g) t_nua_g0 := by
  intro ρ α Γ M as hT hB hA hP
  have g0 : Γ (α 0) = 31 := tyAt hA (i := 0) rfl
  have key : (Γ (α 0) = 31 ∧ (∀ q ∈ ([([(5, 34)], 0, 144)] : VSP), wkT Γ M (α 0) q.1) ∧ Q782 g (vsv M (α 0) ([(5, 34)], 0, 144)) (0)) ∧ True := by
    try simp only [Int.add_zero]
    refine ⟨⟨g0, pic1 hT g0 (by decide) (by decide), ?_⟩, trivial⟩
    · dsimp only [Q782]
      exact fun j hj => by omega
  exact ⟨nB, qB (key.1) (nB)⟩
def t_nua_g1 : KT := ((0, 0, 0, 0), [(2, 0, 31, 0), (1, 1, 0, 0), (2, 2, 34, 0)], [(0, 0), (0, 143), (0, 0)], [(782, [(2, 0, 31, 0), (1, 1, 0, 0)]), (11, [(2, 0, 31, 0), (0, 0, 0, 5), (2, 2, 34, 0)])], (0, 0, 0), [], [], ([], [(640, [(2, 2, 34, 0), (1, 1, 0, 0), (2, 0, 31, 0)])]), ([], []))
set_option maxRecDepth 100000 in
theorem l_nua_g1 (g : GG) : LOK Yt (PSt g) t_nua_g1 := by
  intro ρ α Γ M as hT hB hA hP
  have g0 : Γ (α 0) = 31 := tyAt hA (i := 0) rfl
  have b1 : 0 ≤ ρ 1 ∧ ρ 1 ≤ 143 := hB 1
  have g2 : Γ (α 2) = 34 := tyAt hA (i := 2) rfl
  have h0 : Γ (α 0) = 31 ∧ (∀ q ∈ ([([(5, 34)], 0, 144)] : VSP), wkT Γ M (α 0) q.1) ∧ Q782 g (vsv M (α 0) ([(5, 34)], 0, 144)) (ρ 1 + 0) := hP _ (List.mem_of_getElem? (i := 0) rfl)
  have h1 : 0 ≤ (5 : Int) ∧ M.2.2.2.1 (α 0) (5 : Int).toNat = some (α 2) := hP _ (List.mem_of_getElem? (i := 1) rfl)
  try simp only [Int.add_zero] at h0 h1
  have key : (Γ (α 2) = 34 ∧ wlk M (α 0) [(5, 34)] = (α 2) ∧ wkT Γ M (α 0) [(5, 34)] ∧ Γ (α 0) = 31 ∧ (∀ q ∈ ([] : VSP), wkT Γ M (α 0) q.1) ∧ Q640 g (hcl [vi (ρ 1 + 0)] (clp [(0, 144)] (M.2.2.2.2 (α 2)))) (ρ 1 + 0)  ) ∧ True := by
    try simp only [Int.add_zero]
    obtain ⟨-, -, p0⟩ := h0
    dsimp only [Q782] at p0
    have e1 : M.2.2.2.1 (α 0) 5 = some (α 2) := h1.2
    refine ⟨⟨g2, (fl_eq e1), wk1 e1 g2, g0, pic1 hT g0 (by decide) (by decide), ?_⟩, trivial⟩
    · dsimp only [Q640]
      exact fun j hj => by rw [hcl1 (by omega), ← vsv1 (t := 34) e1]; exact p0 j hj
  exact ⟨nB, qB (key.1) (nB)⟩
def t_nua_g2 : KT := ((0, 0, 0, 0), [(2, 0, 31, 0), (1, 1, 0, 0), (2, 2, 34, 0)], [(0, 0), (0, 143), (0, 0)], [(640, [(2, 2, 34, 0), (1, 1, 0, 0), (2, 0, 31, 0)]), (11, [(2, 0, 31, 0), (0, 0, 0, 5), (2, 2, 34, 0)]), (10, [(2, 2, 34, 0), (1, 1, 0, 0), (1, 1, 0, 0)])], (0, 0, 0), [], [], ([], [(782, [(2, 0, 31, 0), (1, 1, 0, 1)])]), ([], []))
set_option maxRecDepth 100000 in
theorem l_nua_g2 (g : GG) : LOK Yt (PSt g) t_nua_g2 := by
  intro ρ α Γ M as hT hB hA hP
  have g0 : Γ (α 0) = 31 := tyAt hA (i := 0) rfl
  have b1 : 0 ≤ ρ 1 ∧ ρ 1 ≤ 143 := hB 1
  have g2 : Γ (α 2) = 34 := tyAt hA (i := 2) rfl
  have h0 : Γ (α 2) = 34 ∧ wlk M (α 0) [(5, 34)] = (α 2) ∧ wkT Γ M (α 0) [(5, 34)] ∧ Γ (α 0) = 31 ∧ (∀ q ∈ ([] : VSP), wkT Γ M (α 0) q.1) ∧ Q640 g (hcl [vi (ρ 1 + 0)] (clp [(0, 144)] (M.2.2.2.2 (α 2)))) (ρ 1 + 0)   := hP _ (List.mem_of_getElem? (i := 0) rfl)
  have h1 : 0 ≤ (5 : Int) ∧ M.2.2.2.1 (α 0) (5 : Int).toNat = some (α 2) := hP _ (List.mem_of_getElem? (i := 1) rfl)
  have h2 : 0 ≤ (ρ 1 + 0 : Int) ∧ M.2.2.2.2 (α 2) (ρ 1 + 0 : Int).toNat = ρ 1 + 0 := hP _ (List.mem_of_getElem? (i := 2) rfl)
  try simp only [Int.add_zero] at h0 h1 h2
  have key : (Γ (α 0) = 31 ∧ (∀ q ∈ ([([(5, 34)], 0, 144)] : VSP), wkT Γ M (α 0) q.1) ∧ Q782 g (vsv M (α 0) ([(5, 34)], 0, 144)) (ρ 1 + 1)) ∧ True := by
    try simp only [Int.add_zero]
    obtain ⟨-, -, -, -, -, p0⟩ := h0
    dsimp only [Q640] at p0
    have e1 : M.2.2.2.1 (α 0) 5 = some (α 2) := h1.2
    have e2 : M.2.2.2.2 (α 2) (ρ 1).toNat = ρ 1 := h2.2
    refine ⟨⟨g0, pic1 hT g0 (by decide) (by decide), ?_⟩, trivial⟩
    · dsimp only [Q782]
      have u : (vsv M (α 0) ([(5, 34)], 0, 144)) (ρ 1).toNat = ρ 1 := (vs1 e1 (Nat.zero_le _) (by omega)).trans e2
      intro j hj
      by_cases w : (j : Int) = ρ 1
      · rw [show j = (ρ 1).toNat by omega, u]
        omega
      · have := p0 j (by omega)
        rw [hcl1 w, ← vsv1 (t := 34) e1] at this
        exact this
  exact ⟨nB, qB (key.1) (nB)⟩
def t_nua_l : KT := ((0, 0, 0, 0), [(2, 0, 110, 0), (1, 1, 0, 0)], [(0, 0), (-2147483648, 2147483647)], [(10, [(2, 0, 110, 0), (0, 0, 0, 3), (1, 1, 0, 0)])], (0, 0, 0), [], [], ([], [(761, [(2, 0, 110, 0), (1, 1, 0, 0)])]), ([], []))
set_option maxRecDepth 100000 in
theorem l_nua_l (g : GG) : LOK Yt (PSt g) t_nua_l := by
  intro ρ α Γ M as hT hB hA hP
  have g0 : Γ (α 0) = 110 := tyAt hA (i := 0) rfl
  have b1 : -2147483648 ≤ ρ 1 ∧ ρ 1 ≤ 2147483647 := hB 1
  have h0 : 0 ≤ (3 : Int) ∧ M.2.2.2.2 (α 0) (3 : Int).toNat = ρ 1 + 0 := hP _ (List.mem_of_getElem? (i := 0) rfl)
  try simp only [Int.add_zero] at h0
  have key : (Γ (α 0) = 110 ∧ (∀ q ∈ ([([], 3, 4)] : VSP), wkT Γ M (α 0) q.1) ∧ Q761 g (vsv M (α 0) ([], 3, 4)) (ρ 1 + 0)) ∧ True := by
    try simp only [Int.add_zero]
    have e0 : M.2.2.2.2 (α 0) 3 = ρ 1 := h0.2
    refine ⟨⟨g0, pic1 hT g0 (by decide) (by decide), ?_⟩, trivial⟩
    · dsimp only [Q761]
      exact (vs0 (by decide) (by decide)).trans e0
  exact ⟨nB, qB (key.1) (nB)⟩
def t_nua_0 : KT := ((0, 0, 0, 0), [(2, 0, 31, 0), (2, 1, 1, 0), (2, 2, 110, 0), (1, 3, 0, 0), (1, 4, 0, 0)], [(0, 0), (0, 0), (0, 0), (0, 144), (0, 144)], [(765, [(2, 1, 1, 0), (2, 2, 110, 0)]), (782, [(2, 0, 31, 0), (1, 3, 0, 0)]), (761, [(2, 2, 110, 0), (1, 4, 0, 0)]), (6, [(1, 4, 0, 0), (1, 3, 0, 0)])], (0, 0, 0), [], [], ([], [(767, [(2, 0, 31, 0), (2, 1, 1, 0), (2, 2, 110, 0), (1, 4, 0, 0), (0, 0, 0, 1)])]), ([], []))
set_option maxRecDepth 100000 in
theorem l_nua_0 (g : GG) : LOK Yt (PSt g) t_nua_0 := by
  intro ρ α Γ M as hT hB hA hP
  have g0 : Γ (α 0) = 31 := tyAt hA (i := 0) rfl
  have g1 : Γ (α 1) = 1 := tyAt hA (i := 1) rfl
  have g2 : Γ (α 2) = 110 := tyAt hA (i := 2) rfl
  have b3 : 0 ≤ ρ 3 ∧ ρ 3 ≤ 144 := hB 3
  have b4 : 0 ≤ ρ 4 ∧ ρ 4 ≤ 144 := hB 4
  have h0 : Γ (α 1) = 1 ∧ (∀ q ∈ ([([], 0, 2), ([(2, 2)], 0, 144)] : VSP), wkT Γ M (α 1) q.1) ∧ Γ (α 2) = 110 ∧ (∀ q ∈ ([([], 2, 3), ([], 3, 4), ([(4, 111)], 0, 144), ([(5, 112)], 0, 144), ([(6, 113)], 0, 144), ([(7, 114)], 0, 144), ([(8, 115)], 0, 144)] : VSP), wkT Γ M (α 2) q.1) ∧ Q765 g (vsv M (α 1) ([], 0, 2)) (vsv M (α 1) ([(2, 2)], 0, 144)) (vsv M (α 2) ([], 2, 3)) (vsv M (α 2) ([], 3, 4)) (vsv M (α 2) ([(4, 111)], 0, 144)) (vsv M (α 2) ([(5, 112)], 0, 144)) (vsv M (α 2) ([(6, 113)], 0, 144)) (vsv M (α 2) ([(7, 114)], 0, 144)) (vsv M (α 2) ([(8, 115)], 0, 144))  := hP _ (List.mem_of_getElem? (i := 0) rfl)
  have h1 : Γ (α 0) = 31 ∧ (∀ q ∈ ([([(5, 34)], 0, 144)] : VSP), wkT Γ M (α 0) q.1) ∧ Q782 g (vsv M (α 0) ([(5, 34)], 0, 144)) (ρ 3 + 0) := hP _ (List.mem_of_getElem? (i := 1) rfl)
  have h2 : Γ (α 2) = 110 ∧ (∀ q ∈ ([([], 3, 4)] : VSP), wkT Γ M (α 2) q.1) ∧ Q761 g (vsv M (α 2) ([], 3, 4)) (ρ 4 + 0) := hP _ (List.mem_of_getElem? (i := 2) rfl)
  have h3 : ρ 4 + 0 ≤ ρ 3 + 0 := hP _ (List.mem_of_getElem? (i := 3) rfl)
  try simp only [Int.add_zero] at h0 h1 h2 h3
  have key : (Γ (α 0) = 31 ∧ (∀ q ∈ ([([(5, 34)], 0, 144)] : VSP), wkT Γ M (α 0) q.1) ∧ Γ (α 1) = 1 ∧ (∀ q ∈ ([([], 0, 2), ([(2, 2)], 0, 144)] : VSP), wkT Γ M (α 1) q.1) ∧ Γ (α 2) = 110 ∧ (∀ q ∈ ([([], 2, 3), ([], 3, 4), ([(4, 111)], 0, 144), ([(5, 112)], 0, 144), ([(6, 113)], 0, 144), ([(7, 114)], 0, 144), ([(8, 115)], 0, 144)] : VSP), wkT Γ M (α 2) q.1) ∧ Q767 g (vsv M (α 0) ([(5, 34)], 0, 144)) (vsv M (α 1) ([], 0, 2)) (vsv M (α 1) ([(2, 2)], 0, 144)) (vsv M (α 2) ([], 2, 3)) (vsv M (α 2) ([], 3, 4)) (vsv M (α 2) ([(4, 111)], 0, 144)) (vsv M (α 2) ([(5, 112)], 0, 144)) (vsv M (α 2) ([(6, 113)], 0, 144)) (vsv M (α 2) ([(7, 114)], 0, 144)) (vsv M (α 2) ([(8, 115)], 0, 144)) (ρ 4 + 0) (1)) ∧ True := by
    try simp only [Int.add_zero]
    have dm1 := cdim hT g1
    have rc1 := rc_bd dm1.1 dm1.2
    obtain ⟨-, -, -, -, p0⟩ := h0
    dsimp only [Q765] at p0
    obtain ⟨-, -, p1⟩ := h1
    dsimp only [Q782] at p1
    obtain ⟨-, -, p2⟩ := h2
    dsimp only [Q761] at p2
    have h3 : ρ 4 ≤ ρ 3 := h3
    refine ⟨⟨g0, pic1 hT g0 (by decide) (by decide), g1, pic1 hT g1 (by decide) (by decide), g2, pic1 hT g2 (by decide) (by decide), ?_⟩, trivial⟩
    · dsimp only [Q767]
      rw [← p2]
      exact sI_0 (by omega) (by omega) (by omega) p0.1.1 p0.1.2 p0.2 fun i hi => p1 i (by omega)
  exact ⟨nB, qB (key.1) (nB)⟩
def t_nua_1 : KT := ((0, 0, 0, 0), [(2, 0, 31, 0), (2, 1, 1, 0), (2, 2, 110, 0), (1, 3, 0, 0), (1, 4, 0, 0), (1, 5, 0, 0)], [(0, 0), (0, 0), (0, 0), (-2147483648, 2147483647), (1, 144), (0, 144)], [(767, [(2, 0, 31, 0), (2, 1, 1, 0), (2, 2, 110, 0), (1, 3, 0, 0), (1, 4, 0, 0)]), (10, [(2, 2, 110, 0), (0, 0, 0, 3), (1, 5, 0, 0)]), (21, [(1, 4, 0, 0), (1, 5, 0, 0)]), (760, [(2, 1, 1, 0)])], (0, 0, 0), [], [], ([(3, 2, 144), (4, 1, 80)], [(768, [(2, 1, 1, 0), (2, 2, 110, 0)])]), ([], []))
set_option maxRecDepth 100000 in
theorem l_nua_1 (g : GG) : LOK Yt (PSt g) t_nua_1 := by
  intro ρ α Γ M as hT hB hA hP
  have g0 : Γ (α 0) = 31 := tyAt hA (i := 0) rfl
  have g1 : Γ (α 1) = 1 := tyAt hA (i := 1) rfl
  have g2 : Γ (α 2) = 110 := tyAt hA (i := 2) rfl
  have b3 : -2147483648 ≤ ρ 3 ∧ ρ 3 ≤ 2147483647 := hB 3
  have b4 : 1 ≤ ρ 4 ∧ ρ 4 ≤ 144 := hB 4
  have b5 : 0 ≤ ρ 5 ∧ ρ 5 ≤ 144 := hB 5
  have h0 : Γ (α 0) = 31 ∧ (∀ q ∈ ([([(5, 34)], 0, 144)] : VSP), wkT Γ M (α 0) q.1) ∧ Γ (α 1) = 1 ∧ (∀ q ∈ ([([], 0, 2), ([(2, 2)], 0, 144)] : VSP), wkT Γ M (α 1) q.1) ∧ Γ (α 2) = 110 ∧ (∀ q ∈ ([([], 2, 3), ([], 3, 4), ([(4, 111)], 0, 144), ([(5, 112)], 0, 144), ([(6, 113)], 0, 144), ([(7, 114)], 0, 144), ([(8, 115)], 0, 144)] : VSP), wkT Γ M (α 2) q.1) ∧ Q767 g (vsv M (α 0) ([(5, 34)], 0, 144)) (vsv M (α 1) ([], 0, 2)) (vsv M (α 1) ([(2, 2)], 0, 144)) (vsv M (α 2) ([], 2, 3)) (vsv M (α 2) ([], 3, 4)) (vsv M (α 2) ([(4, 111)], 0, 144)) (vsv M (α 2) ([(5, 112)], 0, 144)) (vsv M (α 2) ([(6, 113)], 0, 144)) (vsv M (α 2) ([(7, 114)], 0, 144)) (vsv M (α 2) ([(8, 115)], 0, 144)) (ρ 3 + 0) (ρ 4 + 0) := hP _ (List.mem_of_getElem? (i := 0) rfl)
  have h1 : 0 ≤ (3 : Int) ∧ M.2.2.2.2 (α 2) (3 : Int).toNat = ρ 5 + 0 := hP _ (List.mem_of_getElem? (i := 1) rfl)
  have h2 : ρ 4 + 0 < ρ 5 + 0 := hP _ (List.mem_of_getElem? (i := 2) rfl)
  have h3 : Γ (α 1) = 1 ∧ (∀ q ∈ ([([], 0, 2)] : VSP), wkT Γ M (α 1) q.1) ∧ Q760 g (vsv M (α 1) ([], 0, 2))  := hP _ (List.mem_of_getElem? (i := 3) rfl)
  try simp only [Int.add_zero] at h0 h1 h2 h3
  have key : (2 ≤ ρ 3 ∧ ρ 3 ≤ 144) ∧ (1 ≤ ρ 4 ∧ ρ 4 ≤ 80) ∧ (Γ (α 1) = 1 ∧ (∀ q ∈ ([([], 0, 2), ([(2, 2)], 0, 144)] : VSP), wkT Γ M (α 1) q.1) ∧ Γ (α 2) = 110 ∧ (∀ q ∈ ([([(4, 111)], 0, 144), ([(6, 113)], 0, 144)] : VSP), wkT Γ M (α 2) q.1) ∧ Q768 g (vsv M (α 1) ([], 0, 2)) (vsv M (α 1) ([(2, 2)], 0, 144)) (vsv M (α 2) ([(4, 111)], 0, 144)) (vsv M (α 2) ([(6, 113)], 0, 144)) ) ∧ True := by
    try simp only [Int.add_zero]
    have dm1 := cdim hT g1
    have rc1 := rc_bd dm1.1 dm1.2
    obtain ⟨-, -, -, -, -, -, p0⟩ := h0
    dsimp only [Q767] at p0
    have e1 : M.2.2.2.2 (α 2) 3 = ρ 5 := h1.2
    obtain ⟨-, -, p3⟩ := h3
    dsimp only [Q760] at p3
    have r81 : (vsv M (α 1) ([], 0, 2)) 0 * (vsv M (α 1) ([], 0, 2)) 1 ≤ 9 * 9 := Int.mul_le_mul p3.1 p3.2 (by omega) (by decide)
    have s1 := p0
    have lad := s1.1.2
    have k0 := s1.1.1.1.1
    have lr := s1.2.1.2
    have h2 : ρ 4 < ρ 5 := h2
    have l3 : (vsv M (α 2) ([], 3, 4)) 3 = ρ 5 := (vs0 (by decide) (by decide)).trans e1
    refine ⟨?_, ?_, ⟨g1, pic1 hT g1 (by decide) (by decide), g2, pic1 hT g2 (by decide) (by decide), ?_⟩, trivial⟩
    · omega
    · omega
    · dsimp only [Q768]
      intro p hp
      have f := (s1.1.1.2.1 p hp (flK_laid (by omega) s1.1.1 (by omega) p hp)).2.2.1
      have bd := s1.2.2.2.1 p hp
      exact ⟨f, by omega, by omega⟩
  exact ⟨qB (key.1) (qB (key.2.1) (nB)), qB (key.2.2.1) (nB)⟩
def t_nua_2 : KT := ((0, 0, 0, 0), [(2, 0, 31, 0), (2, 1, 1, 0), (2, 2, 110, 0)], [(0, 0), (0, 0), (0, 0)], [(770, [(2, 0, 31, 0), (2, 1, 1, 0), (2, 2, 110, 0)]), (768, [(2, 1, 1, 0), (2, 2, 110, 0)])], (0, 0, 0), [], [], ([], [(771, [(2, 0, 31, 0)])]), ([], []))
set_option maxRecDepth 100000 in
theorem l_nua_2 (g : GG) : LOK Yt (PSt g) t_nua_2 := by
  intro ρ α Γ M as hT hB hA hP
  have g0 : Γ (α 0) = 31 := tyAt hA (i := 0) rfl
  have g1 : Γ (α 1) = 1 := tyAt hA (i := 1) rfl
  have g2 : Γ (α 2) = 110 := tyAt hA (i := 2) rfl
  have h0 : Γ (α 0) = 31 ∧ (∀ q ∈ ([([], 2, 3), ([(3, 32)], 0, 288), ([(4, 33)], 0, 288)] : VSP), wkT Γ M (α 0) q.1) ∧ Γ (α 1) = 1 ∧ (∀ q ∈ ([([], 0, 2), ([(2, 2)], 0, 144)] : VSP), wkT Γ M (α 1) q.1) ∧ Γ (α 2) = 110 ∧ (∀ q ∈ ([([(4, 111)], 0, 144), ([(6, 113)], 0, 144)] : VSP), wkT Γ M (α 2) q.1) ∧ Q770 g (vsv M (α 0) ([], 2, 3)) (vsv M (α 0) ([(3, 32)], 0, 288)) (vsv M (α 0) ([(4, 33)], 0, 288)) (vsv M (α 1) ([], 0, 2)) (vsv M (α 1) ([(2, 2)], 0, 144)) (vsv M (α 2) ([(4, 111)], 0, 144)) (vsv M (α 2) ([(6, 113)], 0, 144))  := hP _ (List.mem_of_getElem? (i := 0) rfl)
  have h1 : Γ (α 1) = 1 ∧ (∀ q ∈ ([([], 0, 2), ([(2, 2)], 0, 144)] : VSP), wkT Γ M (α 1) q.1) ∧ Γ (α 2) = 110 ∧ (∀ q ∈ ([([(4, 111)], 0, 144), ([(6, 113)], 0, 144)] : VSP), wkT Γ M (α 2) q.1) ∧ Q768 g (vsv M (α 1) ([], 0, 2)) (vsv M (α 1) ([(2, 2)], 0, 144)) (vsv M (α 2) ([(4, 111)], 0, 144)) (vsv M (α 2) ([(6, 113)], 0, 144))  := hP _ (List.mem_of_getElem? (i := 1) rfl)
  try simp only [Int.add_zero] at h0 h1
  have key : (Γ (α 0) = 31 ∧ (∀ q ∈ ([([], 2, 3), ([(4, 33)], 0, 288)] : VSP), wkT Γ M (α 0) q.1) ∧ Q771 g (vsv M (α 0) ([], 2, 3)) (vsv M (α 0) ([(4, 33)], 0, 288)) ) ∧ True := by
    try simp only [Int.add_zero]
    have dm1 := cdim hT g1
    have rc1 := rc_bd dm1.1 dm1.2
    obtain ⟨-, -, -, -, -, -, p0⟩ := h0
    dsimp only [Q770] at p0
    obtain ⟨-, -, -, -, p1⟩ := h1
    dsimp only [Q768] at p1
    refine ⟨⟨g0, pic1 hT g0 (by decide) (by decide), ?_⟩, trivial⟩
    · dsimp only [Q771]
      obtain ⟨e, -, q1, q2, q3⟩ := p0
      intro s hs
      obtain ⟨a, b, x1, -, -, x4⟩ := q2 s hs
      have hl := lk_lt (by omega) x1
      have A := p1 a hl.1
      have B := p1 b hl.2.1
      have z : -127 ≤ stA (vsv M (α 1) ([(2, 2)], 0, 144)) a b ∧ stA (vsv M (α 1) ([(2, 2)], 0, 144)) a b ≤ 127 := wr_bd0 _
      omega
  exact ⟨nB, qB (key.1) (nB)⟩
def t_nua_3 : KT := ((0, 0, 0, 0), [(2, 0, 31, 0), (2, 1, 1, 0), (2, 2, 110, 0), (1, 3, 0, 0), (1, 4, 0, 0), (1, 5, 0, 0), (1, 6, 0, 0)], [(0, 0), (0, 0), (0, 0), (-2147483648, 2147483647), (-2147483648, 2147483647), (-1, -1), (0, 144)], [(767, [(2, 0, 31, 0), (2, 1, 1, 0), (2, 2, 110, 0), (1, 3, 0, 0), (1, 4, 0, 0)]), (783, [(2, 0, 31, 0), (1, 5, 0, 0)]), (770, [(2, 0, 31, 0), (2, 1, 1, 0), (2, 2, 110, 0)]), (10, [(2, 2, 110, 0), (0, 0, 0, 3), (1, 6, 0, 0)]), (21, [(1, 4, 0, 0), (1, 6, 0, 0)])], (0, 0, 0), [], [], ([(5, 1, 0)], []), ([], []))
set_option maxRecDepth 100000 in
theorem l_nua_3 (g : GG) : LOK Yt (PSt g) t_nua_3 := by
  intro ρ α Γ M as hT hB hA hP
  have g0 : Γ (α 0) = 31 := tyAt hA (i := 0) rfl
  have g1 : Γ (α 1) = 1 := tyAt hA (i := 1) rfl
  have g2 : Γ (α 2) = 110 := tyAt hA (i := 2) rfl
  have b3 : -2147483648 ≤ ρ 3 ∧ ρ 3 ≤ 2147483647 := hB 3
  have b4 : -2147483648 ≤ ρ 4 ∧ ρ 4 ≤ 2147483647 := hB 4
  have b5 : -1 ≤ ρ 5 ∧ ρ 5 ≤ -1 := hB 5
  have b6 : 0 ≤ ρ 6 ∧ ρ 6 ≤ 144 := hB 6
  have h0 : Γ (α 0) = 31 ∧ (∀ q ∈ ([([(5, 34)], 0, 144)] : VSP), wkT Γ M (α 0) q.1) ∧ Γ (α 1) = 1 ∧ (∀ q ∈ ([([], 0, 2), ([(2, 2)], 0, 144)] : VSP), wkT Γ M (α 1) q.1) ∧ Γ (α 2) = 110 ∧ (∀ q ∈ ([([], 2, 3), ([], 3, 4), ([(4, 111)], 0, 144), ([(5, 112)], 0, 144), ([(6, 113)], 0, 144), ([(7, 114)], 0, 144), ([(8, 115)], 0, 144)] : VSP), wkT Γ M (α 2) q.1) ∧ Q767 g (vsv M (α 0) ([(5, 34)], 0, 144)) (vsv M (α 1) ([], 0, 2)) (vsv M (α 1) ([(2, 2)], 0, 144)) (vsv M (α 2) ([], 2, 3)) (vsv M (α 2) ([], 3, 4)) (vsv M (α 2) ([(4, 111)], 0, 144)) (vsv M (α 2) ([(5, 112)], 0, 144)) (vsv M (α 2) ([(6, 113)], 0, 144)) (vsv M (α 2) ([(7, 114)], 0, 144)) (vsv M (α 2) ([(8, 115)], 0, 144)) (ρ 3 + 0) (ρ 4 + 0) := hP _ (List.mem_of_getElem? (i := 0) rfl)
  have h1 : Γ (α 0) = 31 ∧ (∀ q ∈ ([([], 0, 1), ([], 2, 3), ([(3, 32)], 0, 288), ([(4, 33)], 0, 288), ([(5, 34)], 0, 144)] : VSP), wkT Γ M (α 0) q.1) ∧ Q783 g (vsv M (α 0) ([], 0, 1)) (vsv M (α 0) ([], 2, 3)) (vsv M (α 0) ([(3, 32)], 0, 288)) (vsv M (α 0) ([(4, 33)], 0, 288)) (vsv M (α 0) ([(5, 34)], 0, 144)) (ρ 5 + 0) := hP _ (List.mem_of_getElem? (i := 1) rfl)
  have h2 : Γ (α 0) = 31 ∧ (∀ q ∈ ([([], 2, 3), ([(3, 32)], 0, 288), ([(4, 33)], 0, 288)] : VSP), wkT Γ M (α 0) q.1) ∧ Γ (α 1) = 1 ∧ (∀ q ∈ ([([], 0, 2), ([(2, 2)], 0, 144)] : VSP), wkT Γ M (α 1) q.1) ∧ Γ (α 2) = 110 ∧ (∀ q ∈ ([([(4, 111)], 0, 144), ([(6, 113)], 0, 144)] : VSP), wkT Γ M (α 2) q.1) ∧ Q770 g (vsv M (α 0) ([], 2, 3)) (vsv M (α 0) ([(3, 32)], 0, 288)) (vsv M (α 0) ([(4, 33)], 0, 288)) (vsv M (α 1) ([], 0, 2)) (vsv M (α 1) ([(2, 2)], 0, 144)) (vsv M (α 2) ([(4, 111)], 0, 144)) (vsv M (α 2) ([(6, 113)], 0, 144))  := hP _ (List.mem_of_getElem? (i := 2) rfl)
  have h3 : 0 ≤ (3 : Int) ∧ M.2.2.2.2 (α 2) (3 : Int).toNat = ρ 6 + 0 := hP _ (List.mem_of_getElem? (i := 3) rfl)
  have h4 : ρ 4 + 0 < ρ 6 + 0 := hP _ (List.mem_of_getElem? (i := 4) rfl)
  try simp only [Int.add_zero] at h0 h1 h2 h3 h4
  have key : (1 ≤ ρ 5 ∧ ρ 5 ≤ 0) ∧ True := by
    try simp only [Int.add_zero]
    have dm1 := cdim hT g1
    have rc1 := rc_bd dm1.1 dm1.2
    obtain ⟨-, -, -, -, -, -, p0⟩ := h0
    dsimp only [Q767] at p0
    obtain ⟨-, -, p1⟩ := h1
    dsimp only [Q783] at p1
    obtain ⟨-, -, -, -, -, -, p2⟩ := h2
    dsimp only [Q770] at p2
    have e3 : M.2.2.2.2 (α 2) 3 = ρ 6 := h3.2
    have lr := p0.2.1.2
    have lad := p0.1.2
    have k0 := p0.1.1.1.1
    have h4 : ρ 4 < ρ 6 := h4
    have l3 : (vsv M (α 2) ([], 3, 4)) 3 = ρ 6 := (vs0 (by decide) (by decide)).trans e3
    refine ⟨?_, trivial⟩
    · exfalso
      rcases p1 with ⟨-, q⟩ | q
      · obtain ⟨e, e1, e2⟩ := sI_more (by omega) (by omega) p0 (by omega)
        obtain ⟨e0, f0, f1, f2, f3⟩ := p2
        have tl := tip_lt (by omega) e1
        have la := flK_laid (by omega) p0.1.1 (by omega)
        have hp := (p0.1.1.2.1 ((e : Int) / 2).toNat (by omega) (la _ (by omega))).1
        have hq := (p0.1.1.2.1 (tipI ((vsv M (α 1) ([], 0, 2)) 1) e).toNat (by omega) (la _ (by omega))).1
        have y := e1.2.1
        obtain ⟨s, s1, s2⟩ := f3 e (by omega) e1 (la _ (by omega)) (la _ (by omega)) (fun w => e2 (by rw [w]))
        have z := q s s1
        rw [s2] at z
        unfold prE at z
        split at z
        · rw [show ∀ a b : Int, 0 ≤ b → b < 144 → (144 * a + b) / 144 = a from fun a b h1 h2 => by omega, show ∀ a b : Int, 0 ≤ b → b < 144 → (144 * a + b) % 144 = b from fun a b h1 h2 => by omega] at z
          · exact e2 z
          all_goals omega
        · rw [show ∀ a b : Int, 0 ≤ b → b < 144 → (144 * a + b) / 144 = a from fun a b h1 h2 => by omega, show ∀ a b : Int, 0 ≤ b → b < 144 → (144 * a + b) % 144 = b from fun a b h1 h2 => by omega] at z
          · exact e2 z.symm
          all_goals omega
      · omega
  exact ⟨qB (key.1) (nB), nB⟩
def t_nua_4 : KT := ((0, 0, 0, 0), [(2, 0, 31, 0), (2, 1, 1, 0), (2, 2, 110, 0), (1, 3, 0, 0), (1, 4, 0, 0), (1, 5, 0, 0), (2, 6, 32, 0), (2, 7, 34, 0), (1, 8, 0, 0), (1, 9, 0, 0), (1, 10, 0, 0), (1, 11, 0, 0), (1, 12, 0, 0)], [(0, 0), (0, 0), (0, 0), (2, 144), (1, 80), (0, 287), (0, 0), (0, 0), (0, 20735), (-2147483648, 2147483647), (-2147483648, 2147483647), (0, 143), (0, 143)], [(767, [(2, 0, 31, 0), (2, 1, 1, 0), (2, 2, 110, 0), (1, 3, 0, 0), (1, 4, 0, 0)]), (783, [(2, 0, 31, 0), (1, 5, 0, 0)]), (770, [(2, 0, 31, 0), (2, 1, 1, 0), (2, 2, 110, 0)]), (11, [(2, 0, 31, 0), (0, 0, 0, 3), (2, 6, 32, 0)]), (10, [(2, 6, 32, 0), (1, 5, 0, 0), (1, 8, 0, 0)]), (11, [(2, 0, 31, 0), (0, 0, 0, 5), (2, 7, 34, 0)]), (26, [(1, 8, 0, 0), (0, 0, 0, 144), (1, 9, 0, 0)]), (10, [(2, 7, 34, 0), (1, 9, 0, 0), (1, 11, 0, 0)]), (27, [(1, 8, 0, 0), (0, 0, 0, 144), (1, 10, 0, 0)]), (10, [(2, 7, 34, 0), (1, 10, 0, 0), (1, 12, 0, 0)])], (0, 0, 0), [], [], ([], [(790, [(2, 0, 31, 0), (2, 1, 1, 0), (2, 2, 110, 0), (1, 3, 0, 0), (1, 4, 0, 0), (1, 11, 0, 0), (1, 12, 0, 0)]), (990, [(2, 0, 31, 0), (1, 3, 0, 0), (1, 4, 0, 0), (1, 11, 0, 0)])]), ([], []))
set_option maxRecDepth 100000 in
theorem l_nua_4 (g : GG) : LOK Yt (PSt g) t_nua_4 := by
  intro ρ α Γ M as hT hB hA hP
  have g0 : Γ (α 0) = 31 := tyAt hA (i := 0) rfl
  have g1 : Γ (α 1) = 1 := tyAt hA (i := 1) rfl
  have g2 : Γ (α 2) = 110 := tyAt hA (i := 2) rfl
  have b3 : 2 ≤ ρ 3 ∧ ρ 3 ≤ 144 := hB 3
  have b4 : 1 ≤ ρ 4 ∧ ρ 4 ≤ 80 := hB 4
  have b5 : 0 ≤ ρ 5 ∧ ρ 5 ≤ 287 := hB 5
  have g6 : Γ (α 6) = 32 := tyAt hA (i := 6) rfl
  have g7 : Γ (α 7) = 34 := tyAt hA (i := 7) rfl
  have b8 : 0 ≤ ρ 8 ∧ ρ 8 ≤ 20735 := hB 8
  have b9 : -2147483648 ≤ ρ 9 ∧ ρ 9 ≤ 2147483647 := hB 9
  have b10 : -2147483648 ≤ ρ 10 ∧ ρ 10 ≤ 2147483647 := hB 10
  have b11 : 0 ≤ ρ 11 ∧ ρ 11 ≤ 143 := hB 11
  have b12 : 0 ≤ ρ 12 ∧ ρ 12 ≤ 143 := hB 12
  have h0 : Γ (α 0) = 31 ∧ (∀ q ∈ ([([(5, 34)], 0, 144)] : VSP), wkT Γ M (α 0) q.1) ∧ Γ (α 1) = 1 ∧ (∀ q ∈ ([([], 0, 2), ([(2, 2)], 0, 144)] : VSP), wkT Γ M (α 1) q.1) ∧ Γ (α 2) = 110 ∧ (∀ q ∈ ([([], 2, 3), ([], 3, 4), ([(4, 111)], 0, 144), ([(5, 112)], 0, 144), ([(6, 113)], 0, 144), ([(7, 114)], 0, 144), ([(8, 115)], 0, 144)] : VSP), wkT Γ M (α 2) q.1) ∧ Q767 g (vsv M (α 0) ([(5, 34)], 0, 144)) (vsv M (α 1) ([], 0, 2)) (vsv M (α 1) ([(2, 2)], 0, 144)) (vsv M (α 2) ([], 2, 3)) (vsv M (α 2) ([], 3, 4)) (vsv M (α 2) ([(4, 111)], 0, 144)) (vsv M (α 2) ([(5, 112)], 0, 144)) (vsv M (α 2) ([(6, 113)], 0, 144)) (vsv M (α 2) ([(7, 114)], 0, 144)) (vsv M (α 2) ([(8, 115)], 0, 144)) (ρ 3 + 0) (ρ 4 + 0) := hP _ (List.mem_of_getElem? (i := 0) rfl)
  have h1 : Γ (α 0) = 31 ∧ (∀ q ∈ ([([], 0, 1), ([], 2, 3), ([(3, 32)], 0, 288), ([(4, 33)], 0, 288), ([(5, 34)], 0, 144)] : VSP), wkT Γ M (α 0) q.1) ∧ Q783 g (vsv M (α 0) ([], 0, 1)) (vsv M (α 0) ([], 2, 3)) (vsv M (α 0) ([(3, 32)], 0, 288)) (vsv M (α 0) ([(4, 33)], 0, 288)) (vsv M (α 0) ([(5, 34)], 0, 144)) (ρ 5 + 0) := hP _ (List.mem_of_getElem? (i := 1) rfl)
  have h2 : Γ (α 0) = 31 ∧ (∀ q ∈ ([([], 2, 3), ([(3, 32)], 0, 288), ([(4, 33)], 0, 288)] : VSP), wkT Γ M (α 0) q.1) ∧ Γ (α 1) = 1 ∧ (∀ q ∈ ([([], 0, 2), ([(2, 2)], 0, 144)] : VSP), wkT Γ M (α 1) q.1) ∧ Γ (α 2) = 110 ∧ (∀ q ∈ ([([(4, 111)], 0, 144), ([(6, 113)], 0, 144)] : VSP), wkT Γ M (α 2) q.1) ∧ Q770 g (vsv M (α 0) ([], 2, 3)) (vsv M (α 0) ([(3, 32)], 0, 288)) (vsv M (α 0) ([(4, 33)], 0, 288)) (vsv M (α 1) ([], 0, 2)) (vsv M (α 1) ([(2, 2)], 0, 144)) (vsv M (α 2) ([(4, 111)], 0, 144)) (vsv M (α 2) ([(6, 113)], 0, 144))  := hP _ (List.mem_of_getElem? (i := 2) rfl)
  have h3 : 0 ≤ (3 : Int) ∧ M.2.2.2.1 (α 0) (3 : Int).toNat = some (α 6) := hP _ (List.mem_of_getElem? (i := 3) rfl)
  have h4 : 0 ≤ (ρ 5 + 0 : Int) ∧ M.2.2.2.2 (α 6) (ρ 5 + 0 : Int).toNat = ρ 8 + 0 := hP _ (List.mem_of_getElem? (i := 4) rfl)
  have h5 : 0 ≤ (5 : Int) ∧ M.2.2.2.1 (α 0) (5 : Int).toNat = some (α 7) := hP _ (List.mem_of_getElem? (i := 5) rfl)
  have h6 : ρ 9 + 0 = wI ((ρ 8 + 0 : Int).tdiv (144)) := hP _ (List.mem_of_getElem? (i := 6) rfl)
  have h7 : 0 ≤ (ρ 9 + 0 : Int) ∧ M.2.2.2.2 (α 7) (ρ 9 + 0 : Int).toNat = ρ 11 + 0 := hP _ (List.mem_of_getElem? (i := 7) rfl)
  have h8 : ρ 10 + 0 = (ρ 8 + 0 : Int).tmod (144) := hP _ (List.mem_of_getElem? (i := 8) rfl)
  have h9 : 0 ≤ (ρ 10 + 0 : Int) ∧ M.2.2.2.2 (α 7) (ρ 10 + 0 : Int).toNat = ρ 12 + 0 := hP _ (List.mem_of_getElem? (i := 9) rfl)
  try simp only [Int.add_zero] at h0 h1 h2 h3 h4 h5 h6 h7 h8 h9
  have key : (Γ (α 0) = 31 ∧ (∀ q ∈ ([([], 0, 1), ([(5, 34)], 0, 144)] : VSP), wkT Γ M (α 0) q.1) ∧ Γ (α 1) = 1 ∧ (∀ q ∈ ([([], 0, 2), ([(2, 2)], 0, 144)] : VSP), wkT Γ M (α 1) q.1) ∧ Γ (α 2) = 110 ∧ (∀ q ∈ ([([], 2, 3), ([], 3, 4), ([(4, 111)], 0, 144), ([(5, 112)], 0, 144), ([(6, 113)], 0, 144), ([(7, 114)], 0, 144), ([(8, 115)], 0, 144)] : VSP), wkT Γ M (α 2) q.1) ∧ Q790 g (vsv M (α 0) ([], 0, 1)) (vsv M (α 0) ([(5, 34)], 0, 144)) (vsv M (α 1) ([], 0, 2)) (vsv M (α 1) ([(2, 2)], 0, 144)) (vsv M (α 2) ([], 2, 3)) (vsv M (α 2) ([], 3, 4)) (vsv M (α 2) ([(4, 111)], 0, 144)) (vsv M (α 2) ([(5, 112)], 0, 144)) (vsv M (α 2) ([(6, 113)], 0, 144)) (vsv M (α 2) ([(7, 114)], 0, 144)) (vsv M (α 2) ([(8, 115)], 0, 144)) (ρ 3 + 0) (ρ 4 + 0) (ρ 11 + 0) (ρ 12 + 0)) ∧ (Γ (α 0) = 31 ∧ (∀ q ∈ ([] : VSP), wkT Γ M (α 0) q.1) ∧ Q990 g  (ρ 3 + 0) (ρ 4 + 0) (ρ 11 + 0)) ∧ True := by
    try simp only [Int.add_zero]
    have dm1 := cdim hT g1
    have rc1 := rc_bd dm1.1 dm1.2
    obtain ⟨-, -, -, -, -, -, p0⟩ := h0
    dsimp only [Q767] at p0
    obtain ⟨-, -, p1⟩ := h1
    dsimp only [Q783] at p1
    obtain ⟨-, -, -, -, -, -, p2⟩ := h2
    dsimp only [Q770] at p2
    have e3 : M.2.2.2.1 (α 0) 3 = some (α 6) := h3.2
    have e4 : M.2.2.2.2 (α 6) (ρ 5).toNat = ρ 8 := h4.2
    have e5 : M.2.2.2.1 (α 0) 5 = some (α 7) := h5.2
    have e7 : M.2.2.2.2 (α 7) (ρ 9).toNat = ρ 11 := h7.2
    have e9 : M.2.2.2.2 (α 7) (ρ 10).toNat = ρ 12 := h9.2
    rcases p1 with ⟨q, -⟩ | ⟨⟨q1, q2⟩, j, j1, j2, j3⟩
    · omega
    obtain ⟨e0, f0, f1, f2, f3⟩ := p2
    obtain ⟨a, b, x1, x2, x3, x4⟩ := f2 j j1
    have x : (vsv M (α 0) ([(3, 32)], 0, 288)) (ρ 5).toNat = ρ 8 := (vs1 e3 (Nat.zero_le _) (by omega)).trans e4
    rw [Int.tdiv_eq_ediv_of_nonneg (by omega), wI_id (by unfold inI; omega)] at h6
    rw [Int.tmod_eq_emod_of_nonneg (by omega)] at h8
    have h6 : ρ 9 = ρ 8 / 144 := h6
    have h8 : ρ 10 = ρ 8 % 144 := h8
    have u : (vsv M (α 0) ([(5, 34)], 0, 144)) (ρ 8 / 144).toNat = ρ 11 := by
      rw [← h6]
      exact (vs1 e5 (Nat.zero_le _) (by omega)).trans e7
    have v : (vsv M (α 0) ([(5, 34)], 0, 144)) (ρ 8 % 144).toNat = ρ 12 := by
      rw [← h8]
      exact (vs1 e5 (Nat.zero_le _) (by omega)).trans e9
    have hv : ρ 8 = 144 * (vsv M (α 2) ([(6, 113)], 0, 144)) a + (vsv M (α 2) ([(6, 113)], 0, 144)) b := by rw [← x, ← j2]; exact x3
    refine ⟨⟨g0, pic1 hT g0 (by decide) (by decide), g1, pic1 hT g1 (by decide) (by decide), g2, pic1 hT g2 (by decide) (by decide), ?_⟩, ⟨g0, pic1 hT g0 (by decide) (by decide), ?_⟩, trivial⟩
    · dsimp only [Q790]
      refine ⟨p0, by omega, a, b, x1, ?_, ?_, ?_, ?_⟩
      · rw [← j3]
        exact x4
      · rw [← u, hv]
        congr 1
        omega
      · rw [← v, hv]
        congr 1
        omega
      · rw [← u, ← v, ← x]
        exact q2
    · dsimp only [Q990]
      exact ⟨rfl, rfl, rfl⟩
  exact ⟨nB, qB (key.1) (qB (key.2.1) (nB))⟩
def t_nua_5 : KT := ((0, 0, 0, 0), [(2, 0, 31, 0), (2, 1, 1, 0), (2, 2, 110, 0), (1, 3, 0, 0), (1, 4, 0, 0), (1, 5, 0, 0), (1, 6, 0, 0)], [(0, 0), (0, 0), (0, 0), (2, 144), (1, 80), (0, 143), (0, 143)], [(788, [(2, 0, 31, 0), (2, 1, 1, 0), (2, 2, 110, 0), (1, 3, 0, 0), (1, 4, 0, 0), (1, 5, 0, 0), (1, 6, 0, 0)]), (786, [(2, 1, 1, 0)])], (0, 0, 0), [], [], ([], [(789, [(2, 0, 31, 0), (2, 2, 110, 0), (0, 0, 0, 0), (1, 5, 0, 0), (1, 6, 0, 0), (1, 3, 0, -1), (1, 4, 0, 1)]), (991, [(2, 0, 31, 0), (1, 3, 0, -1), (1, 4, 0, 1)])]), ([], []))
set_option maxRecDepth 100000 in
theorem l_nua_5 (g : GG) : LOK Yt (PSt g) t_nua_5 := by
  intro ρ α Γ M as hT hB hA hP
  have g0 : Γ (α 0) = 31 := tyAt hA (i := 0) rfl
  have g1 : Γ (α 1) = 1 := tyAt hA (i := 1) rfl
  have g2 : Γ (α 2) = 110 := tyAt hA (i := 2) rfl
  have b3 : 2 ≤ ρ 3 ∧ ρ 3 ≤ 144 := hB 3
  have b4 : 1 ≤ ρ 4 ∧ ρ 4 ≤ 80 := hB 4
  have b5 : 0 ≤ ρ 5 ∧ ρ 5 ≤ 143 := hB 5
  have b6 : 0 ≤ ρ 6 ∧ ρ 6 ≤ 143 := hB 6
  have h0 : Γ (α 0) = 31 ∧ (∀ q ∈ ([([(5, 34)], 0, 144)] : VSP), wkT Γ M (α 0) q.1) ∧ Γ (α 1) = 1 ∧ (∀ q ∈ ([([], 0, 2), ([(2, 2)], 0, 144)] : VSP), wkT Γ M (α 1) q.1) ∧ Γ (α 2) = 110 ∧ (∀ q ∈ ([([], 2, 3), ([], 3, 4), ([(4, 111)], 0, 144), ([(5, 112)], 0, 144), ([(6, 113)], 0, 144), ([(7, 114)], 0, 144), ([(8, 115)], 0, 144)] : VSP), wkT Γ M (α 2) q.1) ∧ Q788 g (vsv M (α 0) ([(5, 34)], 0, 144)) (vsv M (α 1) ([], 0, 2)) (vsv M (α 1) ([(2, 2)], 0, 144)) (vsv M (α 2) ([], 2, 3)) (vsv M (α 2) ([], 3, 4)) (vsv M (α 2) ([(4, 111)], 0, 144)) (vsv M (α 2) ([(5, 112)], 0, 144)) (vsv M (α 2) ([(6, 113)], 0, 144)) (vsv M (α 2) ([(7, 114)], 0, 144)) (vsv M (α 2) ([(8, 115)], 0, 144)) (ρ 3 + 0) (ρ 4 + 0) (ρ 5 + 0) (ρ 6 + 0) := hP _ (List.mem_of_getElem? (i := 0) rfl)
  have h1 : Γ (α 1) = 1 ∧ (∀ q ∈ ([([], 0, 2), ([(2, 2)], 0, 144)] : VSP), wkT Γ M (α 1) q.1) ∧ Q786 g (vsv M (α 1) ([], 0, 2)) (vsv M (α 1) ([(2, 2)], 0, 144))  := hP _ (List.mem_of_getElem? (i := 1) rfl)
  try simp only [Int.add_zero] at h0 h1
  have key : (Γ (α 0) = 31 ∧ (∀ q ∈ ([([(5, 34)], 0, 144)] : VSP), wkT Γ M (α 0) q.1) ∧ Γ (α 2) = 110 ∧ (∀ q ∈ ([([], 2, 3), ([], 3, 4), ([(4, 111)], 0, 144), ([(5, 112)], 0, 144), ([(6, 113)], 0, 144), ([(7, 114)], 0, 144), ([(8, 115)], 0, 144)] : VSP), wkT Γ M (α 2) q.1) ∧ Q789 g (vsv M (α 0) ([(5, 34)], 0, 144)) (vsv M (α 2) ([], 2, 3)) (vsv M (α 2) ([], 3, 4)) (vsv M (α 2) ([(4, 111)], 0, 144)) (vsv M (α 2) ([(5, 112)], 0, 144)) (vsv M (α 2) ([(6, 113)], 0, 144)) (vsv M (α 2) ([(7, 114)], 0, 144)) (vsv M (α 2) ([(8, 115)], 0, 144)) (0) (ρ 5 + 0) (ρ 6 + 0) (ρ 3 + (-1)) (ρ 4 + 1)) ∧ (Γ (α 0) = 31 ∧ (∀ q ∈ ([] : VSP), wkT Γ M (α 0) q.1) ∧ Q991 g  (ρ 3 + (-1)) (ρ 4 + 1)) ∧ True := by
    try simp only [Int.add_zero]
    have dm1 := cdim hT g1
    have rc1 := rc_bd dm1.1 dm1.2
    obtain ⟨-, -, -, -, -, -, p0⟩ := h0
    dsimp only [Q788] at p0
    obtain ⟨-, -, p1⟩ := h1
    dsimp only [Q786] at p1
    refine ⟨⟨g0, pic1 hT g0 (by decide) (by decide), g2, pic1 hT g2 (by decide) (by decide), ?_⟩, ⟨g0, pic1 hT g0 (by decide) (by decide), ?_⟩, trivial⟩
    · dsimp only [Q789]
      obtain ⟨⟨t1, t2⟩, t3⟩ := p1
      rw [t1, t2, t3] at p0
      intro sg2 hs
      exact p0 sg2 fun j hj => by rw [hs j hj, if_neg (by omega)]
    · dsimp only [Q991]
      exact ⟨rfl, rfl⟩
  exact ⟨nB, qB (key.1) (qB (key.2.1) (nB))⟩
def t_nua_6 : KT := ((0, 0, 0, 0), [(2, 0, 31, 0), (2, 1, 1, 0), (2, 2, 110, 0), (1, 3, 0, 0), (1, 4, 0, 0)], [(0, 0), (0, 0), (0, 0), (-2147483648, 2147483647), (-2147483648, 2147483647)], [(784, [(2, 0, 31, 0), (2, 2, 110, 0), (1, 3, 0, 0), (1, 4, 0, 0)]), (786, [(2, 1, 1, 0)])], (0, 0, 0), [], [], ([], [(767, [(2, 0, 31, 0), (2, 1, 1, 0), (2, 2, 110, 0), (1, 3, 0, 0), (1, 4, 0, 0)])]), ([], []))
set_option maxRecDepth 100000 in
theorem l_nua_6 (g : GG) : LOK Yt (PSt g) t_nua_6 := by
  intro ρ α Γ M as hT hB hA hP
  have g0 : Γ (α 0) = 31 := tyAt hA (i := 0) rfl
  have g1 : Γ (α 1) = 1 := tyAt hA (i := 1) rfl
  have g2 : Γ (α 2) = 110 := tyAt hA (i := 2) rfl
  have b3 : -2147483648 ≤ ρ 3 ∧ ρ 3 ≤ 2147483647 := hB 3
  have b4 : -2147483648 ≤ ρ 4 ∧ ρ 4 ≤ 2147483647 := hB 4
  have h0 : Γ (α 0) = 31 ∧ (∀ q ∈ ([([(5, 34)], 0, 144)] : VSP), wkT Γ M (α 0) q.1) ∧ Γ (α 2) = 110 ∧ (∀ q ∈ ([([], 2, 3), ([], 3, 4), ([(4, 111)], 0, 144), ([(5, 112)], 0, 144), ([(6, 113)], 0, 144), ([(7, 114)], 0, 144), ([(8, 115)], 0, 144)] : VSP), wkT Γ M (α 2) q.1) ∧ Q784 g (vsv M (α 0) ([(5, 34)], 0, 144)) (vsv M (α 2) ([], 2, 3)) (vsv M (α 2) ([], 3, 4)) (vsv M (α 2) ([(4, 111)], 0, 144)) (vsv M (α 2) ([(5, 112)], 0, 144)) (vsv M (α 2) ([(6, 113)], 0, 144)) (vsv M (α 2) ([(7, 114)], 0, 144)) (vsv M (α 2) ([(8, 115)], 0, 144)) (ρ 3 + 0) (ρ 4 + 0) := hP _ (List.mem_of_getElem? (i := 0) rfl)
  have h1 : Γ (α 1) = 1 ∧ (∀ q ∈ ([([], 0, 2), ([(2, 2)], 0, 144)] : VSP), wkT Γ M (α 1) q.1) ∧ Q786 g (vsv M (α 1) ([], 0, 2)) (vsv M (α 1) ([(2, 2)], 0, 144))  := hP _ (List.mem_of_getElem? (i := 1) rfl)
  try simp only [Int.add_zero] at h0 h1
  have key : (Γ (α 0) = 31 ∧ (∀ q ∈ ([([(5, 34)], 0, 144)] : VSP), wkT Γ M (α 0) q.1) ∧ Γ (α 1) = 1 ∧ (∀ q ∈ ([([], 0, 2), ([(2, 2)], 0, 144)] : VSP), wkT Γ M (α 1) q.1) ∧ Γ (α 2) = 110 ∧ (∀ q ∈ ([([], 2, 3), ([], 3, 4), ([(4, 111)], 0, 144), ([(5, 112)], 0, 144), ([(6, 113)], 0, 144), ([(7, 114)], 0, 144), ([(8, 115)], 0, 144)] : VSP), wkT Γ M (α 2) q.1) ∧ Q767 g (vsv M (α 0) ([(5, 34)], 0, 144)) (vsv M (α 1) ([], 0, 2)) (vsv M (α 1) ([(2, 2)], 0, 144)) (vsv M (α 2) ([], 2, 3)) (vsv M (α 2) ([], 3, 4)) (vsv M (α 2) ([(4, 111)], 0, 144)) (vsv M (α 2) ([(5, 112)], 0, 144)) (vsv M (α 2) ([(6, 113)], 0, 144)) (vsv M (α 2) ([(7, 114)], 0, 144)) (vsv M (α 2) ([(8, 115)], 0, 144)) (ρ 3 + 0) (ρ 4 + 0)) ∧ True := by
    try simp only [Int.add_zero]
    have dm1 := cdim hT g1
    have rc1 := rc_bd dm1.1 dm1.2
    obtain ⟨-, -, -, -, p0⟩ := h0
    dsimp only [Q784] at p0
    obtain ⟨-, -, p1⟩ := h1
    dsimp only [Q786] at p1
    refine ⟨⟨g0, pic1 hT g0 (by decide) (by decide), g1, pic1 hT g1 (by decide) (by decide), g2, pic1 hT g2 (by decide) (by decide), ?_⟩, trivial⟩
    · dsimp only [Q767]
      obtain ⟨⟨t1, t2⟩, t3⟩ := p1
      rw [t1, t2, t3]
      exact p0
  exact ⟨nB, qB (key.1) (nB)⟩
def t_nua_7 : KT := ((0, 0, 0, 0), [(2, 0, 31, 0), (2, 1, 1, 0), (2, 2, 110, 0), (1, 3, 0, 0), (1, 4, 0, 0), (1, 5, 0, 0)], [(0, 0), (0, 0), (0, 0), (-2147483648, 2147483647), (1, 144), (0, 144)], [(767, [(2, 0, 31, 0), (2, 1, 1, 0), (2, 2, 110, 0), (1, 3, 0, 0), (1, 4, 0, 0)]), (10, [(2, 2, 110, 0), (0, 0, 0, 3), (1, 5, 0, 0)]), (6, [(1, 5, 0, 0), (1, 4, 0, 0)]), (760, [(2, 1, 1, 0)])], (0, 0, 0), [], [], ([(3, 1, 1)], [(766, [(2, 1, 1, 0), (2, 2, 110, 0)])]), ([], []))
set_option maxRecDepth 100000 in
theorem l_nua_7 (g : GG) : LOK Yt (PSt g) t_nua_7 := by
  intro ρ α Γ M as hT hB hA hP
  have g0 : Γ (α 0) = 31 := tyAt hA (i := 0) rfl
  have g1 : Γ (α 1) = 1 := tyAt hA (i := 1) rfl
  have g2 : Γ (α 2) = 110 := tyAt hA (i := 2) rfl
  have b3 : -2147483648 ≤ ρ 3 ∧ ρ 3 ≤ 2147483647 := hB 3
  have b4 : 1 ≤ ρ 4 ∧ ρ 4 ≤ 144 := hB 4
  have b5 : 0 ≤ ρ 5 ∧ ρ 5 ≤ 144 := hB 5
  have h0 : Γ (α 0) = 31 ∧ (∀ q ∈ ([([(5, 34)], 0, 144)] : VSP), wkT Γ M (α 0) q.1) ∧ Γ (α 1) = 1 ∧ (∀ q ∈ ([([], 0, 2), ([(2, 2)], 0, 144)] : VSP), wkT Γ M (α 1) q.1) ∧ Γ (α 2) = 110 ∧ (∀ q ∈ ([([], 2, 3), ([], 3, 4), ([(4, 111)], 0, 144), ([(5, 112)], 0, 144), ([(6, 113)], 0, 144), ([(7, 114)], 0, 144), ([(8, 115)], 0, 144)] : VSP), wkT Γ M (α 2) q.1) ∧ Q767 g (vsv M (α 0) ([(5, 34)], 0, 144)) (vsv M (α 1) ([], 0, 2)) (vsv M (α 1) ([(2, 2)], 0, 144)) (vsv M (α 2) ([], 2, 3)) (vsv M (α 2) ([], 3, 4)) (vsv M (α 2) ([(4, 111)], 0, 144)) (vsv M (α 2) ([(5, 112)], 0, 144)) (vsv M (α 2) ([(6, 113)], 0, 144)) (vsv M (α 2) ([(7, 114)], 0, 144)) (vsv M (α 2) ([(8, 115)], 0, 144)) (ρ 3 + 0) (ρ 4 + 0) := hP _ (List.mem_of_getElem? (i := 0) rfl)
  have h1 : 0 ≤ (3 : Int) ∧ M.2.2.2.2 (α 2) (3 : Int).toNat = ρ 5 + 0 := hP _ (List.mem_of_getElem? (i := 1) rfl)
  have h2 : ρ 5 + 0 ≤ ρ 4 + 0 := hP _ (List.mem_of_getElem? (i := 2) rfl)
  have h3 : Γ (α 1) = 1 ∧ (∀ q ∈ ([([], 0, 2)] : VSP), wkT Γ M (α 1) q.1) ∧ Q760 g (vsv M (α 1) ([], 0, 2))  := hP _ (List.mem_of_getElem? (i := 3) rfl)
  try simp only [Int.add_zero] at h0 h1 h2 h3
  have key : (1 ≤ ρ 3 ∧ ρ 3 ≤ 1) ∧ (Γ (α 1) = 1 ∧ (∀ q ∈ ([([], 0, 2), ([(2, 2)], 0, 144)] : VSP), wkT Γ M (α 1) q.1) ∧ Γ (α 2) = 110 ∧ (∀ q ∈ ([([], 2, 3), ([], 3, 4), ([(4, 111)], 0, 144), ([(5, 112)], 0, 144), ([(6, 113)], 0, 144), ([(7, 114)], 0, 144), ([(8, 115)], 0, 144)] : VSP), wkT Γ M (α 2) q.1) ∧ Q766 g (vsv M (α 1) ([], 0, 2)) (vsv M (α 1) ([(2, 2)], 0, 144)) (vsv M (α 2) ([], 2, 3)) (vsv M (α 2) ([], 3, 4)) (vsv M (α 2) ([(4, 111)], 0, 144)) (vsv M (α 2) ([(5, 112)], 0, 144)) (vsv M (α 2) ([(6, 113)], 0, 144)) (vsv M (α 2) ([(7, 114)], 0, 144)) (vsv M (α 2) ([(8, 115)], 0, 144)) ) ∧ True := by
    try simp only [Int.add_zero]
    have dm1 := cdim hT g1
    have rc1 := rc_bd dm1.1 dm1.2
    obtain ⟨-, -, -, -, -, -, p0⟩ := h0
    dsimp only [Q767] at p0
    have e1 : M.2.2.2.2 (α 2) 3 = ρ 5 := h1.2
    obtain ⟨-, -, p3⟩ := h3
    dsimp only [Q760] at p3
    have r81 : (vsv M (α 1) ([], 0, 2)) 0 * (vsv M (α 1) ([], 0, 2)) 1 ≤ 9 * 9 := Int.mul_le_mul p3.1 p3.2 (by omega) (by decide)
    have lad := p0.1.2
    have k0 := p0.1.1.1.1
    have lr := p0.2.1.2
    have h2 : ρ 5 ≤ ρ 4 := h2
    have la := flK_laid (by omega) p0.1.1 (by omega)
    have sk := (p0.1.1.2.1 0 (by omega) (la 0 (by omega))).1
    have l1 : 1 ≤ ρ 3 := by
      apply Classical.byContradiction
      intro q
      obtain ⟨j, j1, j2, j3⟩ := p0.2.1.1.1 ((vsv M (α 2) ([(6, 113)], 0, 144)) 0).toNat (by omega)
      have z := sm_le (f := fun i => if (vsv M (α 0) ([(5, 34)], 0, 144)) i = (i : Int) then (1 : Int) else 0) (fun i => by by_cases w : (vsv M (α 0) ([(5, 34)], 0, 144)) i = (i : Int); exact Int.le_trans (by decide) (Int.le_of_eq (if_pos w).symm); exact Int.le_of_eq (if_neg w).symm) ((vsv M (α 2) ([], 3, 4)) 3).toNat j (by omega)
      rw [p0.2.1.1.2] at z
      have z2 : (if (vsv M (α 0) ([(5, 34)], 0, 144)) j = (j : Int) then (1 : Int) else 0) = 1 := if_pos j3
      omega
    have l3 : (vsv M (α 2) ([], 3, 4)) 3 = ρ 5 := (vs0 (by decide) (by decide)).trans e1
    refine ⟨?_, ⟨g1, pic1 hT g1 (by decide) (by decide), g2, pic1 hT g2 (by decide) (by decide), ?_⟩, trivial⟩
    · omega
    · dsimp only [Q766]
      refine ⟨p0.1, fun p hp => ?_, fun P hP => sI_one (by omega) (by omega) p0 (by omega) hP⟩
      have bd := p0.2.2.2.1 p hp
      omega
  exact ⟨qB (key.1) (nB), qB (key.2.1) (nB)⟩
