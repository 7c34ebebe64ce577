/-! what facts tell of one another -/
def t_row : KT := ((0, 0, 0, 0), [(2, 0, 1, 0), (1, 1, 0, 0), (1, 2, 0, 0), (1, 3, 0, 0)], [(0, 0), (0, 2147483647), (-2147483648, 2147483647), (-2147483648, 2147483647)], [(26, [(1, 1, 0, 0), (1, 2, 0, 0), (1, 3, 0, 0)]), (10, [(2, 0, 1, 0), (0, 0, 0, 1), (1, 2, 0, 0)])], (0, 0, 0), [], [], ([], [(71, [(2, 0, 1, 0), (1, 1, 0, 0), (1, 3, 0, 0)])]), ([], []))
theorem l_row (g : Nat) : LOK Yt (PSt g) t_row := by
  intro ρ α Γ M as hT hB hA hP
  have g0 : Γ (α 0) = 1 := tyAt hA (i := 0) rfl
  have b1 : 0 ≤ ρ 1 ∧ ρ 1 ≤ 2147483647 := hB 1
  have b2 : -2147483648 ≤ ρ 2 ∧ ρ 2 ≤ 2147483647 := hB 2
  have b3 : -2147483648 ≤ ρ 3 ∧ ρ 3 ≤ 2147483647 := hB 3
  have h0 : ρ 3 + 0 = wI ((ρ 1 + 0 : Int).tdiv (ρ 2 + 0)) := hP _ (List.mem_of_getElem? (i := 0) rfl)
  have h1 : 0 ≤ (1 : Int) ∧ M.2.2.2.2 (α 0) (1 : Int).toNat = ρ 2 + 0 := hP _ (List.mem_of_getElem? (i := 1) rfl)
  try simp only [Int.add_zero] at h0 h1
  have key : (Γ (α 0) = 1 ∧ ρ 3 + 0 = (ρ 1 + 0) / M.2.2.2.2 (α 0) 1) ∧ True := by
    try simp only [Int.add_zero]
    obtain ⟨-, hc⟩ := ch_dims hT g0
    have e : M.2.2.2.2 (α 0) 1 = ρ 2 := h1.2
    rw [e] at hc ⊢
    obtain ⟨d1, d2, d3, d4, d5, d6, d7⟩ := dm b1.1 (show 0 < ρ 2 by omega)
    rw [d1] at h0
    rw [wI_id (by unfold inI; omega)] at h0
    exact ⟨⟨g0, h0⟩, trivial⟩
  exact ⟨nB, qB (key.1) (nB)⟩
def t_col : KT := ((0, 0, 0, 0), [(2, 0, 1, 0), (1, 1, 0, 0), (1, 2, 0, 0), (1, 3, 0, 0)], [(0, 0), (0, 2147483647), (-2147483648, 2147483647), (-2147483648, 2147483647)], [(27, [(1, 1, 0, 0), (1, 2, 0, 0), (1, 3, 0, 0)]), (10, [(2, 0, 1, 0), (0, 0, 0, 1), (1, 2, 0, 0)])], (0, 0, 0), [], [], ([], [(72, [(2, 0, 1, 0), (1, 1, 0, 0), (1, 3, 0, 0)])]), ([], []))
theorem l_col (g : Nat) : LOK Yt (PSt g) t_col := by
  intro ρ α Γ M as hT hB hA hP
  have g0 : Γ (α 0) = 1 := tyAt hA (i := 0) rfl
  have b1 : 0 ≤ ρ 1 ∧ ρ 1 ≤ 2147483647 := hB 1
  have b2 : -2147483648 ≤ ρ 2 ∧ ρ 2 ≤ 2147483647 := hB 2
  have b3 : -2147483648 ≤ ρ 3 ∧ ρ 3 ≤ 2147483647 := hB 3
  have h0 : ρ 3 + 0 = (ρ 1 + 0 : Int).tmod (ρ 2 + 0) := hP _ (List.mem_of_getElem? (i := 0) rfl)
  have h1 : 0 ≤ (1 : Int) ∧ M.2.2.2.2 (α 0) (1 : Int).toNat = ρ 2 + 0 := hP _ (List.mem_of_getElem? (i := 1) rfl)
  try simp only [Int.add_zero] at h0 h1
  have key : (Γ (α 0) = 1 ∧ ρ 3 + 0 = (ρ 1 + 0) % M.2.2.2.2 (α 0) 1) ∧ True := by
    try simp only [Int.add_zero]
    obtain ⟨-, hc⟩ := ch_dims hT g0
    have e : M.2.2.2.2 (α 0) 1 = ρ 2 := h1.2
    rw [e] at hc ⊢
    obtain ⟨d1, d2, d3, d4, d5, d6, d7⟩ := dm b1.1 (show 0 < ρ 2 by omega)
    rw [d2] at h0
    exact ⟨⟨g0, h0⟩, trivial⟩
  exact ⟨nB, qB (key.1) (nB)⟩
def t_rowp : KT := ((0, 0, 0, 0), [(2, 0, 1, 0), (1, 1, 0, 0), (1, 2, 0, 0)], [(0, 0), (0, 143), (-2147483648, 2147483647)], [(2, [(2, 0, 1, 0), (1, 1, 0, 0)]), (71, [(2, 0, 1, 0), (1, 1, 0, 0), (1, 2, 0, 0)])], (0, 0, 0), [], [], ([(2, 0, 11)], []), ([], []))
theorem l_rowp (g : Nat) : LOK Yt (PSt g) t_rowp := by
  intro ρ α Γ M as hT hB hA hP
  have g0 : Γ (α 0) = 1 := tyAt hA (i := 0) rfl
  have b1 : 0 ≤ ρ 1 ∧ ρ 1 ≤ 143 := hB 1
  have b2 : -2147483648 ≤ ρ 2 ∧ ρ 2 ≤ 2147483647 := hB 2
  have h0 : Γ (α 0) = 1 ∧ 0 ≤ ρ 1 + 0 ∧ ρ 1 + 0 < M.2.2.2.2 (α 0) 0 * M.2.2.2.2 (α 0) 1 := hP _ (List.mem_of_getElem? (i := 0) rfl)
  have h1 : Γ (α 0) = 1 ∧ ρ 2 + 0 = (ρ 1 + 0) / M.2.2.2.2 (α 0) 1 := hP _ (List.mem_of_getElem? (i := 1) rfl)
  try simp only [Int.add_zero] at h0 h1
  have key : (0 ≤ ρ 2 ∧ ρ 2 ≤ 11) ∧ True := by
    try simp only [Int.add_zero]
    obtain ⟨hr, hc⟩ := ch_dims hT g0
    have := row_lt (show 0 < M.2.2.2.2 (α 0) 1 by omega) h0.2.2
    have h2 := (dm h0.2.1 (show 0 < M.2.2.2.2 (α 0) 1 by omega)).2.2.2.2.2.1
    rw [← h1.2] at this h2
    exact ⟨⟨h2, by omega⟩, trivial⟩
  exact ⟨qB (key.1) (nB), nB⟩
def t_edh : KT := ((0, 0, 0, 0), [(2, 0, 1, 0), (1, 1, 0, 0), (1, 2, 0, 0), (1, 3, 0, 0), (1, 4, 0, 0), (1, 5, 0, 0), (1, 6, 0, 0), (1, 7, 0, 0)], [(0, 0), (0, 287), (-2147483648, 2147483647), (0, 0), (-2147483648, 2147483647), (-2147483648, 2147483647), (-2147483648, 2147483647), (-2147483648, 2147483647)], [(26, [(1, 1, 0, 0), (0, 0, 0, 2), (1, 2, 0, 0)]), (27, [(1, 1, 0, 0), (0, 0, 0, 2), (1, 3, 0, 0)]), (72, [(2, 0, 1, 0), (1, 2, 0, 0), (1, 4, 0, 0)]), (21, [(1, 4, 0, 0), (1, 5, 0, -1)]), (10, [(2, 0, 1, 0), (0, 0, 0, 1), (1, 5, 0, 0)]), (5, [(2, 0, 1, 0), (1, 6, 0, 0)]), (25, [(0, 0, 0, 2), (1, 6, 0, 0), (1, 7, 0, 0)]), (21, [(1, 1, 0, 0), (1, 7, 0, 0)])], (0, 0, 0), [], [], ([], [(3, [(2, 0, 1, 0), (1, 1, 0, 0)])]), ([], []))
theorem l_edh (g : Nat) : LOK Yt (PSt g) t_edh := by
  intro ρ α Γ M as hT hB hA hP
  have g0 : Γ (α 0) = 1 := tyAt hA (i := 0) rfl
  have b1 : 0 ≤ ρ 1 ∧ ρ 1 ≤ 287 := hB 1
  have b2 : -2147483648 ≤ ρ 2 ∧ ρ 2 ≤ 2147483647 := hB 2
  have b3 : 0 ≤ ρ 3 ∧ ρ 3 ≤ 0 := hB 3
  have b4 : -2147483648 ≤ ρ 4 ∧ ρ 4 ≤ 2147483647 := hB 4
  have b5 : -2147483648 ≤ ρ 5 ∧ ρ 5 ≤ 2147483647 := hB 5
  have b6 : -2147483648 ≤ ρ 6 ∧ ρ 6 ≤ 2147483647 := hB 6
  have b7 : -2147483648 ≤ ρ 7 ∧ ρ 7 ≤ 2147483647 := hB 7
  have h0 : ρ 2 + 0 = wI ((ρ 1 + 0 : Int).tdiv (2)) := hP _ (List.mem_of_getElem? (i := 0) rfl)
  have h1 : ρ 3 + 0 = (ρ 1 + 0 : Int).tmod (2) := hP _ (List.mem_of_getElem? (i := 1) rfl)
  have h2 : Γ (α 0) = 1 ∧ ρ 4 + 0 = (ρ 2 + 0) % M.2.2.2.2 (α 0) 1 := hP _ (List.mem_of_getElem? (i := 2) rfl)
  have h3 : ρ 4 + 0 < ρ 5 + (-1) := hP _ (List.mem_of_getElem? (i := 3) rfl)
  have h4 : 0 ≤ (1 : Int) ∧ M.2.2.2.2 (α 0) (1 : Int).toNat = ρ 5 + 0 := hP _ (List.mem_of_getElem? (i := 4) rfl)
  have h5 : Γ (α 0) = 1 ∧ ρ 6 + 0 = M.2.2.2.2 (α 0) 0 * M.2.2.2.2 (α 0) 1 := hP _ (List.mem_of_getElem? (i := 5) rfl)
  have h6 : ρ 7 + 0 = wI ((2) * (ρ 6 + 0)) := hP _ (List.mem_of_getElem? (i := 6) rfl)
  have h7 : ρ 1 + 0 < ρ 7 + 0 := hP _ (List.mem_of_getElem? (i := 7) rfl)
  try simp only [Int.add_zero] at h0 h1 h2 h3 h4 h5 h6 h7
  have key : (Γ (α 0) = 1 ∧ edP (M.2.2.2.2 (α 0) 0) (M.2.2.2.2 (α 0) 1) (ρ 1 + 0)) ∧ True := by
    try simp only [Int.add_zero]
    obtain ⟨hr, hc⟩ := ch_dims hT g0
    have hrc := rc_bd hr hc
    obtain ⟨d1, d2, d3, d4, d5, d6, d7⟩ := dm (p := ρ 1) b1.1 (show (0 : Int) < 2 by decide)
    rw [d1] at h0
    rw [wI_id (by unfold inI; omega)] at h0
    rw [d2] at h1
    have h6 := h6
    rw [h5.2] at h6
    rw [wI_id (by unfold inI; omega)] at h6
    
    have e : M.2.2.2.2 (α 0) 1 = ρ 5 := h4.2
    have h2 := h2.2
    rw [h0, e] at h2
    rw [e] at h6 ⊢
    refine ⟨⟨g0, b1.1, by omega, fun _ => by rw [← h2]; omega, fun hn => absurd (show ρ 1 % 2 = 0 by omega) hn⟩, trivial⟩
  exact ⟨nB, qB (key.1) (nB)⟩
def t_edv : KT := ((0, 0, 0, 0), [(2, 0, 1, 0), (1, 1, 0, 0), (1, 2, 0, 0), (1, 3, 0, 0), (1, 4, 0, 0), (1, 5, 0, 0), (1, 6, 0, 0), (1, 7, 0, 0)], [(0, 0), (0, 287), (-2147483648, 2147483647), (1, 1), (-2147483648, 2147483647), (-2147483648, 2147483647), (-2147483648, 2147483647), (-2147483648, 2147483647)], [(26, [(1, 1, 0, 0), (0, 0, 0, 2), (1, 2, 0, 0)]), (27, [(1, 1, 0, 0), (0, 0, 0, 2), (1, 3, 0, 0)]), (71, [(2, 0, 1, 0), (1, 2, 0, 0), (1, 4, 0, 0)]), (21, [(1, 4, 0, 0), (1, 5, 0, -1)]), (10, [(2, 0, 1, 0), (0, 0, 0, 0), (1, 5, 0, 0)]), (5, [(2, 0, 1, 0), (1, 6, 0, 0)]), (25, [(0, 0, 0, 2), (1, 6, 0, 0), (1, 7, 0, 0)]), (21, [(1, 1, 0, 0), (1, 7, 0, 0)])], (0, 0, 0), [], [], ([], [(3, [(2, 0, 1, 0), (1, 1, 0, 0)])]), ([], []))
theorem l_edv (g : Nat) : LOK Yt (PSt g) t_edv := by
  intro ρ α Γ M as hT hB hA hP
  have g0 : Γ (α 0) = 1 := tyAt hA (i := 0) rfl
  have b1 : 0 ≤ ρ 1 ∧ ρ 1 ≤ 287 := hB 1
  have b2 : -2147483648 ≤ ρ 2 ∧ ρ 2 ≤ 2147483647 := hB 2
  have b3 : 1 ≤ ρ 3 ∧ ρ 3 ≤ 1 := hB 3
  have b4 : -2147483648 ≤ ρ 4 ∧ ρ 4 ≤ 2147483647 := hB 4
  have b5 : -2147483648 ≤ ρ 5 ∧ ρ 5 ≤ 2147483647 := hB 5
  have b6 : -2147483648 ≤ ρ 6 ∧ ρ 6 ≤ 2147483647 := hB 6
  have b7 : -2147483648 ≤ ρ 7 ∧ ρ 7 ≤ 2147483647 := hB 7
  have h0 : ρ 2 + 0 = wI ((ρ 1 + 0 : Int).tdiv (2)) := hP _ (List.mem_of_getElem? (i := 0) rfl)
  have h1 : ρ 3 + 0 = (ρ 1 + 0 : Int).tmod (2) := hP _ (List.mem_of_getElem? (i := 1) rfl)
  have h2 : Γ (α 0) = 1 ∧ ρ 4 + 0 = (ρ 2 + 0) / M.2.2.2.2 (α 0) 1 := hP _ (List.mem_of_getElem? (i := 2) rfl)
  have h3 : ρ 4 + 0 < ρ 5 + (-1) := hP _ (List.mem_of_getElem? (i := 3) rfl)
  have h4 : 0 ≤ (0 : Int) ∧ M.2.2.2.2 (α 0) (0 : Int).toNat = ρ 5 + 0 := hP _ (List.mem_of_getElem? (i := 4) rfl)
  have h5 : Γ (α 0) = 1 ∧ ρ 6 + 0 = M.2.2.2.2 (α 0) 0 * M.2.2.2.2 (α 0) 1 := hP _ (List.mem_of_getElem? (i := 5) rfl)
  have h6 : ρ 7 + 0 = wI ((2) * (ρ 6 + 0)) := hP _ (List.mem_of_getElem? (i := 6) rfl)
  have h7 : ρ 1 + 0 < ρ 7 + 0 := hP _ (List.mem_of_getElem? (i := 7) rfl)
  try simp only [Int.add_zero] at h0 h1 h2 h3 h4 h5 h6 h7
  have key : (Γ (α 0) = 1 ∧ edP (M.2.2.2.2 (α 0) 0) (M.2.2.2.2 (α 0) 1) (ρ 1 + 0)) ∧ True := by
    try simp only [Int.add_zero]
    obtain ⟨hr, hc⟩ := ch_dims hT g0
    have hrc := rc_bd hr hc
    obtain ⟨d1, d2, d3, d4, d5, d6, d7⟩ := dm (p := ρ 1) b1.1 (show (0 : Int) < 2 by decide)
    rw [d1] at h0
    rw [wI_id (by unfold inI; omega)] at h0
    rw [d2] at h1
    have h6 := h6
    rw [h5.2] at h6
    rw [wI_id (by unfold inI; omega)] at h6
    
    have e : M.2.2.2.2 (α 0) 0 = ρ 5 := h4.2
    have h2 := h2.2
    rw [h0] at h2
    rw [e] at h6 ⊢
    refine ⟨⟨g0, b1.1, by omega, fun hn => absurd hn (show ¬ ρ 1 % 2 = 0 by omega), fun _ => by rw [← h2]; omega⟩, trivial⟩
  exact ⟨nB, qB (key.1) (nB)⟩
def t_ring : KT := ((0, 0, 0, 0), [(2, 0, 1, 0), (1, 1, 0, 0), (1, 2, 0, 0), (1, 3, 0, 0), (1, 4, 0, 0), (1, 5, 0, 0)], [(0, 0), (0, 143), (-2147483648, 2147483647), (-2147483648, 2147483647), (-2147483648, 2147483647), (-2147483648, 2147483647)], [(2, [(2, 0, 1, 0), (1, 1, 0, 0)]), (71, [(2, 0, 1, 0), (1, 1, 0, 0), (1, 2, 0, 0)]), (21, [(1, 2, 0, 0), (1, 3, 0, -1)]), (10, [(2, 0, 1, 0), (0, 0, 0, 0), (1, 3, 0, 0)]), (72, [(2, 0, 1, 0), (1, 1, 0, 0), (1, 4, 0, 0)]), (21, [(1, 4, 0, 0), (1, 5, 0, -1)]), (10, [(2, 0, 1, 0), (0, 0, 0, 1), (1, 5, 0, 0)])], (0, 0, 0), [], [], ([], [(4, [(2, 0, 1, 0), (1, 1, 0, 0)])]), ([], []))
theorem l_ring (g : Nat) : LOK Yt (PSt g) t_ring := by
  intro ρ α Γ M as hT hB hA hP
  have g0 : Γ (α 0) = 1 := tyAt hA (i := 0) rfl
  have b1 : 0 ≤ ρ 1 ∧ ρ 1 ≤ 143 := hB 1
  have b2 : -2147483648 ≤ ρ 2 ∧ ρ 2 ≤ 2147483647 := hB 2
  have b3 : -2147483648 ≤ ρ 3 ∧ ρ 3 ≤ 2147483647 := hB 3
  have b4 : -2147483648 ≤ ρ 4 ∧ ρ 4 ≤ 2147483647 := hB 4
  have b5 : -2147483648 ≤ ρ 5 ∧ ρ 5 ≤ 2147483647 := hB 5
  have h0 : Γ (α 0) = 1 ∧ 0 ≤ ρ 1 + 0 ∧ ρ 1 + 0 < M.2.2.2.2 (α 0) 0 * M.2.2.2.2 (α 0) 1 := hP _ (List.mem_of_getElem? (i := 0) rfl)
  have h1 : Γ (α 0) = 1 ∧ ρ 2 + 0 = (ρ 1 + 0) / M.2.2.2.2 (α 0) 1 := hP _ (List.mem_of_getElem? (i := 1) rfl)
  have h2 : ρ 2 + 0 < ρ 3 + (-1) := hP _ (List.mem_of_getElem? (i := 2) rfl)
  have h3 : 0 ≤ (0 : Int) ∧ M.2.2.2.2 (α 0) (0 : Int).toNat = ρ 3 + 0 := hP _ (List.mem_of_getElem? (i := 3) rfl)
  have h4 : Γ (α 0) = 1 ∧ ρ 4 + 0 = (ρ 1 + 0) % M.2.2.2.2 (α 0) 1 := hP _ (List.mem_of_getElem? (i := 4) rfl)
  have h5 : ρ 4 + 0 < ρ 5 + (-1) := hP _ (List.mem_of_getElem? (i := 5) rfl)
  have h6 : 0 ≤ (1 : Int) ∧ M.2.2.2.2 (α 0) (1 : Int).toNat = ρ 5 + 0 := hP _ (List.mem_of_getElem? (i := 6) rfl)
  try simp only [Int.add_zero] at h0 h1 h2 h3 h4 h5 h6
  have key : (Γ (α 0) = 1 ∧ rgP (M.2.2.2.2 (α 0) 0) (M.2.2.2.2 (α 0) 1) (ρ 1 + 0)) ∧ True := by
    try simp only [Int.add_zero]
    have e0 : M.2.2.2.2 (α 0) 0 = ρ 3 := h3.2
    have e1 : M.2.2.2.2 (α 0) 1 = ρ 5 := h6.2
    have h1 := h1.2
    have h4 := h4.2
    have h0 := h0.2
    rw [e1] at h1 h4
    rw [e0, e1] at h0 ⊢
    exact ⟨⟨g0, h0.1, h0.2, by rw [← h1]; omega, by rw [← h4]; omega⟩, trivial⟩
  exact ⟨nB, qB (key.1) (nB)⟩
def t_tip0 : KT := ((0, 0, 0, 0), [(2, 0, 1, 0), (1, 1, 0, 0), (1, 2, 0, 0), (1, 3, 0, 0)], [(0, 0), (0, 287), (0, 0), (-2147483648, 2147483647)], [(3, [(2, 0, 1, 0), (1, 1, 0, 0)]), (27, [(1, 1, 0, 0), (0, 0, 0, 2), (1, 2, 0, 0)]), (26, [(1, 1, 0, 0), (0, 0, 0, 2), (1, 3, 0, -1)])], (0, 0, 0), [], [], ([(3, 0, 143)], [(2, [(2, 0, 1, 0), (1, 3, 0, 0)])]), ([], []))
theorem l_tip0 (g : Nat) : LOK Yt (PSt g) t_tip0 := by
  intro ρ α Γ M as hT hB hA hP
  have g0 : Γ (α 0) = 1 := tyAt hA (i := 0) rfl
  have b1 : 0 ≤ ρ 1 ∧ ρ 1 ≤ 287 := hB 1
  have b2 : 0 ≤ ρ 2 ∧ ρ 2 ≤ 0 := hB 2
  have b3 : -2147483648 ≤ ρ 3 ∧ ρ 3 ≤ 2147483647 := hB 3
  have h0 : Γ (α 0) = 1 ∧ edP (M.2.2.2.2 (α 0) 0) (M.2.2.2.2 (α 0) 1) (ρ 1 + 0) := hP _ (List.mem_of_getElem? (i := 0) rfl)
  have h1 : ρ 2 + 0 = (ρ 1 + 0 : Int).tmod (2) := hP _ (List.mem_of_getElem? (i := 1) rfl)
  have h2 : ρ 3 + (-1) = wI ((ρ 1 + 0 : Int).tdiv (2)) := hP _ (List.mem_of_getElem? (i := 2) rfl)
  try simp only [Int.add_zero] at h0 h1 h2
  have key : (0 ≤ ρ 3 ∧ ρ 3 ≤ 143) ∧ (Γ (α 0) = 1 ∧ 0 ≤ ρ 3 + 0 ∧ ρ 3 + 0 < M.2.2.2.2 (α 0) 0 * M.2.2.2.2 (α 0) 1) ∧ True := by
    try simp only [Int.add_zero]
    obtain ⟨hr, hc⟩ := ch_dims hT g0
    have hrc := rc_bd hr hc
    obtain ⟨d1, d2, d3, d4, d5, d6, d7⟩ := dm (p := ρ 1) b1.1 (show (0 : Int) < 2 by decide)
    rw [d1] at h2
    rw [wI_id (by unfold inI; omega)] at h2
    rw [d2] at h1
    obtain ⟨-, -, x2, x3, -⟩ := h0
    have x3 := x3 (by omega)
    obtain ⟨-, -, y3, y4, y5, y6, -⟩ := dm (p := ρ 1 / 2) d6 (show 0 < M.2.2.2.2 (α 0) 1 by omega)
    have y7 := row_lt (r := M.2.2.2.2 (α 0) 0) (p := ρ 1 / 2) (show 0 < M.2.2.2.2 (α 0) 1 by omega) (by omega)
    have l := low_lt (k := 0) d6 (show 0 < M.2.2.2.2 (α 0) 1 by omega) (show ρ 1 / 2 / M.2.2.2.2 (α 0) 1 ≤ M.2.2.2.2 (α 0) 0 - 1 - 0 by omega) (by decide)
    exact ⟨⟨by omega, by omega⟩, ⟨g0, by omega, by omega⟩, trivial⟩
  exact ⟨qB (key.1) (nB), qB (key.2.1) (nB)⟩
def t_tip1 : KT := ((0, 0, 0, 0), [(2, 0, 1, 0), (1, 1, 0, 0), (1, 2, 0, 0), (1, 3, 0, 0), (1, 4, 0, 0), (1, 5, 0, 0)], [(0, 0), (0, 287), (1, 1), (-2147483648, 2147483647), (-2147483648, 2147483647), (-2147483648, 2147483647)], [(3, [(2, 0, 1, 0), (1, 1, 0, 0)]), (27, [(1, 1, 0, 0), (0, 0, 0, 2), (1, 2, 0, 0)]), (26, [(1, 1, 0, 0), (0, 0, 0, 2), (1, 3, 0, 0)]), (23, [(1, 3, 0, 0), (1, 4, 0, 0), (1, 5, 0, 0)]), (10, [(2, 0, 1, 0), (0, 0, 0, 1), (1, 4, 0, 0)])], (0, 0, 0), [], [], ([(5, 0, 143)], [(2, [(2, 0, 1, 0), (1, 5, 0, 0)])]), ([], []))
theorem l_tip1 (g : Nat) : LOK Yt (PSt g) t_tip1 := by
  intro ρ α Γ M as hT hB hA hP
  have g0 : Γ (α 0) = 1 := tyAt hA (i := 0) rfl
  have b1 : 0 ≤ ρ 1 ∧ ρ 1 ≤ 287 := hB 1
  have b2 : 1 ≤ ρ 2 ∧ ρ 2 ≤ 1 := hB 2
  have b3 : -2147483648 ≤ ρ 3 ∧ ρ 3 ≤ 2147483647 := hB 3
  have b4 : -2147483648 ≤ ρ 4 ∧ ρ 4 ≤ 2147483647 := hB 4
  have b5 : -2147483648 ≤ ρ 5 ∧ ρ 5 ≤ 2147483647 := hB 5
  have h0 : Γ (α 0) = 1 ∧ edP (M.2.2.2.2 (α 0) 0) (M.2.2.2.2 (α 0) 1) (ρ 1 + 0) := hP _ (List.mem_of_getElem? (i := 0) rfl)
  have h1 : ρ 2 + 0 = (ρ 1 + 0 : Int).tmod (2) := hP _ (List.mem_of_getElem? (i := 1) rfl)
  have h2 : ρ 3 + 0 = wI ((ρ 1 + 0 : Int).tdiv (2)) := hP _ (List.mem_of_getElem? (i := 2) rfl)
  have h3 : ρ 5 + 0 = wI ((ρ 3 + 0) + (ρ 4 + 0)) := hP _ (List.mem_of_getElem? (i := 3) rfl)
  have h4 : 0 ≤ (1 : Int) ∧ M.2.2.2.2 (α 0) (1 : Int).toNat = ρ 4 + 0 := hP _ (List.mem_of_getElem? (i := 4) rfl)
  try simp only [Int.add_zero] at h0 h1 h2 h3 h4
  have key : (0 ≤ ρ 5 ∧ ρ 5 ≤ 143) ∧ (Γ (α 0) = 1 ∧ 0 ≤ ρ 5 + 0 ∧ ρ 5 + 0 < M.2.2.2.2 (α 0) 0 * M.2.2.2.2 (α 0) 1) ∧ True := by
    try simp only [Int.add_zero]
    obtain ⟨hr, hc⟩ := ch_dims hT g0
    have hrc := rc_bd hr hc
    have e : M.2.2.2.2 (α 0) 1 = ρ 4 := h4.2
    obtain ⟨d1, d2, d3, d4, d5, d6, d7⟩ := dm (p := ρ 1) b1.1 (show (0 : Int) < 2 by decide)
    rw [d1] at h2
    rw [wI_id (by unfold inI; omega)] at h2
    rw [d2] at h1
    rw [e] at h0 hc hrc ⊢
    rw [wI_id (by unfold inI; omega)] at h3
    obtain ⟨-, -, x2, -, x3⟩ := h0
    have x3 := x3 (by omega)
    obtain ⟨-, -, y3, y4, y5, y6, -⟩ := dm (p := ρ 1 / 2) d6 (show 0 < ρ 4 by omega)
    have l := low_lt (k := 1) d6 (show 0 < ρ 4 by omega) (show ρ 1 / 2 / ρ 4 ≤ M.2.2.2.2 (α 0) 0 - 1 - 1 by omega) (by decide)
    exact ⟨⟨by omega, by omega⟩, ⟨g0, by omega, by omega⟩, trivial⟩
  exact ⟨qB (key.1) (nB), qB (key.2.1) (nB)⟩
def t_b0 : KT := ((0, 0, 0, 0), [(2, 0, 1, 0), (1, 1, 0, 0), (1, 2, 0, 0), (1, 3, 0, 0), (1, 4, 0, 0)], [(0, 0), (0, 143), (0, 0), (-2147483648, 2147483647), (-2147483648, 2147483647)], [(2, [(2, 0, 1, 0), (1, 1, 0, 0)]), (6, [(1, 3, 0, 0), (1, 1, 0, 0)]), (10, [(2, 0, 1, 0), (0, 0, 0, 1), (1, 3, 0, 0)]), (24, [(1, 1, 0, 0), (1, 3, 0, 0), (1, 4, 0, 0)])], (0, 0, 0), [], [], ([(4, 0, 143)], [(15, [(2, 0, 1, 0), (1, 4, 0, 0)]), (17, [(2, 0, 1, 0), (1, 1, 0, 0), (1, 2, 0, 0), (1, 4, 0, 0)])]), ([], []))
theorem l_b0 (g : Nat) : LOK Yt (PSt g) t_b0 := by
  intro ρ α Γ M as hT hB hA hP
  have g0 : Γ (α 0) = 1 := tyAt hA (i := 0) rfl
  have b1 : 0 ≤ ρ 1 ∧ ρ 1 ≤ 143 := hB 1
  have b2 : 0 ≤ ρ 2 ∧ ρ 2 ≤ 0 := hB 2
  have b3 : -2147483648 ≤ ρ 3 ∧ ρ 3 ≤ 2147483647 := hB 3
  have b4 : -2147483648 ≤ ρ 4 ∧ ρ 4 ≤ 2147483647 := hB 4
  have h0 : Γ (α 0) = 1 ∧ 0 ≤ ρ 1 + 0 ∧ ρ 1 + 0 < M.2.2.2.2 (α 0) 0 * M.2.2.2.2 (α 0) 1 := hP _ (List.mem_of_getElem? (i := 0) rfl)
  have h1 : ρ 3 + 0 ≤ ρ 1 + 0 := hP _ (List.mem_of_getElem? (i := 1) rfl)
  have h2 : 0 ≤ (1 : Int) ∧ M.2.2.2.2 (α 0) (1 : Int).toNat = ρ 3 + 0 := hP _ (List.mem_of_getElem? (i := 2) rfl)
  have h3 : ρ 4 + 0 = wI ((ρ 1 + 0) - (ρ 3 + 0)) := hP _ (List.mem_of_getElem? (i := 3) rfl)
  try simp only [Int.add_zero] at h0 h1 h2 h3
  have key : (0 ≤ ρ 4 ∧ ρ 4 ≤ 143) ∧ (Γ (α 0) = 1 ∧ (ρ 4 + 0 = -1 ∨ isPx (M.2.2.2.2 (α 0) 0) (M.2.2.2.2 (α 0) 1) (ρ 4 + 0))) ∧ (Γ (α 0) = 1 ∧ (ρ 4 + 0 ≠ -1 → nbP (M.2.2.2.2 (α 0) 0) (M.2.2.2.2 (α 0) 1) (ρ 1 + 0) (ρ 2 + 0))) ∧ True := by
    try simp only [Int.add_zero]
    obtain ⟨hr, hc⟩ := ch_dims hT g0
    have e : M.2.2.2.2 (α 0) 1 = ρ 3 := h2.2
    rw [e] at h0 hc ⊢
    rw [wI_id (by unfold inI; omega)] at h3
    exact ⟨⟨by omega, by omega⟩, ⟨g0, Or.inr ⟨by omega, by omega⟩⟩, ⟨g0, fun _ => ⟨fun _ => by omega, fun h => by omega, fun h => by omega, fun h => by omega⟩⟩, trivial⟩
  exact ⟨qB (key.1) (nB), qB (key.2.1) (qB (key.2.2.1) (nB))⟩
def t_bn : KT := ((0, 0, 0, 0), [(2, 0, 1, 0), (1, 1, 0, 0), (1, 2, 0, 0), (1, 3, 0, 0)], [(0, 0), (0, 143), (0, 3), (-1, -1)], [], (0, 0, 0), [], [], ([], [(15, [(2, 0, 1, 0), (1, 3, 0, 0)]), (17, [(2, 0, 1, 0), (1, 1, 0, 0), (1, 2, 0, 0), (1, 3, 0, 0)])]), ([], []))
theorem l_bn (g : Nat) : LOK Yt (PSt g) t_bn := by
  intro ρ α Γ M as hT hB hA hP
  have g0 : Γ (α 0) = 1 := tyAt hA (i := 0) rfl
  have b1 : 0 ≤ ρ 1 ∧ ρ 1 ≤ 143 := hB 1
  have b2 : 0 ≤ ρ 2 ∧ ρ 2 ≤ 3 := hB 2
  have b3 : -1 ≤ ρ 3 ∧ ρ 3 ≤ -1 := hB 3
  have key : (Γ (α 0) = 1 ∧ (ρ 3 + 0 = -1 ∨ isPx (M.2.2.2.2 (α 0) 0) (M.2.2.2.2 (α 0) 1) (ρ 3 + 0))) ∧ (Γ (α 0) = 1 ∧ (ρ 3 + 0 ≠ -1 → nbP (M.2.2.2.2 (α 0) 0) (M.2.2.2.2 (α 0) 1) (ρ 1 + 0) (ρ 2 + 0))) ∧ True := by
    try simp only [Int.add_zero]
    exact ⟨⟨g0, Or.inl (by omega)⟩, ⟨g0, fun h => absurd (show ρ 3 = -1 by omega) h⟩, trivial⟩
  exact ⟨nB, qB (key.1) (qB (key.2.1) (nB))⟩
def t_b1 : KT := ((0, 0, 0, 0), [(2, 0, 1, 0), (1, 1, 0, 0), (1, 2, 0, 0), (1, 3, 0, 0)], [(0, 0), (0, 143), (1, 1), (1, 143)], [(2, [(2, 0, 1, 0), (1, 1, 0, 0)]), (72, [(2, 0, 1, 0), (1, 1, 0, 0), (1, 3, 0, 0)])], (0, 0, 0), [], [], ([(1, 1, 143)], [(15, [(2, 0, 1, 0), (1, 1, 0, -1)]), (17, [(2, 0, 1, 0), (1, 1, 0, 0), (1, 2, 0, 0), (1, 1, 0, -1)])]), ([], []))
theorem l_b1 (g : Nat) : LOK Yt (PSt g) t_b1 := by
  intro ρ α Γ M as hT hB hA hP
  have g0 : Γ (α 0) = 1 := tyAt hA (i := 0) rfl
  have b1 : 0 ≤ ρ 1 ∧ ρ 1 ≤ 143 := hB 1
  have b2 : 1 ≤ ρ 2 ∧ ρ 2 ≤ 1 := hB 2
  have b3 : 1 ≤ ρ 3 ∧ ρ 3 ≤ 143 := hB 3
  have h0 : Γ (α 0) = 1 ∧ 0 ≤ ρ 1 + 0 ∧ ρ 1 + 0 < M.2.2.2.2 (α 0) 0 * M.2.2.2.2 (α 0) 1 := hP _ (List.mem_of_getElem? (i := 0) rfl)
  have h1 : Γ (α 0) = 1 ∧ ρ 3 + 0 = (ρ 1 + 0) % M.2.2.2.2 (α 0) 1 := hP _ (List.mem_of_getElem? (i := 1) rfl)
  try simp only [Int.add_zero] at h0 h1
  have key : (1 ≤ ρ 1 ∧ ρ 1 ≤ 143) ∧ (Γ (α 0) = 1 ∧ (ρ 1 + (-1) = -1 ∨ isPx (M.2.2.2.2 (α 0) 0) (M.2.2.2.2 (α 0) 1) (ρ 1 + (-1)))) ∧ (Γ (α 0) = 1 ∧ (ρ 1 + (-1) ≠ -1 → nbP (M.2.2.2.2 (α 0) 0) (M.2.2.2.2 (α 0) 1) (ρ 1 + 0) (ρ 2 + 0))) ∧ True := by
    try simp only [Int.add_zero]
    obtain ⟨hr, hc⟩ := ch_dims hT g0
    obtain ⟨-, -, y3, y4, y5, y6, y7⟩ := dm (p := ρ 1) b1.1 (show 0 < M.2.2.2.2 (α 0) 1 by omega)
    have hp : 1 ≤ ρ 1 := by
      by_cases h : ρ 1 = 0
      · rw [h, Int.zero_emod] at h1
        omega
      · omega
    exact ⟨⟨hp, b1.2⟩, ⟨g0, Or.inr ⟨by omega, by omega⟩⟩, ⟨g0, fun _ => ⟨fun h => by omega, fun _ => by rw [← h1.2]; omega, fun h => by omega, fun h => by omega⟩⟩, trivial⟩
  exact ⟨qB (key.1) (nB), qB (key.2.1) (qB (key.2.2.1) (nB))⟩
def t_b2 : KT := ((0, 0, 0, 0), [(2, 0, 1, 0), (1, 1, 0, 0), (1, 2, 0, 0), (1, 3, 0, 0), (1, 4, 0, 0)], [(0, 0), (0, 143), (2, 2), (-2147483648, 2147483647), (-2147483648, 2147483647)], [(2, [(2, 0, 1, 0), (1, 1, 0, 0)]), (72, [(2, 0, 1, 0), (1, 1, 0, 0), (1, 3, 0, 0)]), (21, [(1, 3, 0, 0), (1, 4, 0, -1)]), (10, [(2, 0, 1, 0), (0, 0, 0, 1), (1, 4, 0, 0)])], (0, 0, 0), [], [], ([(1, 0, 142)], [(15, [(2, 0, 1, 0), (1, 1, 0, 1)]), (17, [(2, 0, 1, 0), (1, 1, 0, 0), (1, 2, 0, 0), (1, 1, 0, 1)])]), ([], []))
theorem l_b2 (g : Nat) : LOK Yt (PSt g) t_b2 := by
  intro ρ α Γ M as hT hB hA hP
  have g0 : Γ (α 0) = 1 := tyAt hA (i := 0) rfl
  have b1 : 0 ≤ ρ 1 ∧ ρ 1 ≤ 143 := hB 1
  have b2 : 2 ≤ ρ 2 ∧ ρ 2 ≤ 2 := hB 2
  have b3 : -2147483648 ≤ ρ 3 ∧ ρ 3 ≤ 2147483647 := hB 3
  have b4 : -2147483648 ≤ ρ 4 ∧ ρ 4 ≤ 2147483647 := hB 4
  have h0 : Γ (α 0) = 1 ∧ 0 ≤ ρ 1 + 0 ∧ ρ 1 + 0 < M.2.2.2.2 (α 0) 0 * M.2.2.2.2 (α 0) 1 := hP _ (List.mem_of_getElem? (i := 0) rfl)
  have h1 : Γ (α 0) = 1 ∧ ρ 3 + 0 = (ρ 1 + 0) % M.2.2.2.2 (α 0) 1 := hP _ (List.mem_of_getElem? (i := 1) rfl)
  have h2 : ρ 3 + 0 < ρ 4 + (-1) := hP _ (List.mem_of_getElem? (i := 2) rfl)
  have h3 : 0 ≤ (1 : Int) ∧ M.2.2.2.2 (α 0) (1 : Int).toNat = ρ 4 + 0 := hP _ (List.mem_of_getElem? (i := 3) rfl)
  try simp only [Int.add_zero] at h0 h1 h2 h3
  have key : (0 ≤ ρ 1 ∧ ρ 1 ≤ 142) ∧ (Γ (α 0) = 1 ∧ (ρ 1 + 1 = -1 ∨ isPx (M.2.2.2.2 (α 0) 0) (M.2.2.2.2 (α 0) 1) (ρ 1 + 1))) ∧ (Γ (α 0) = 1 ∧ (ρ 1 + 1 ≠ -1 → nbP (M.2.2.2.2 (α 0) 0) (M.2.2.2.2 (α 0) 1) (ρ 1 + 0) (ρ 2 + 0))) ∧ True := by
    try simp only [Int.add_zero]
    obtain ⟨hr, hc⟩ := ch_dims hT g0
    have hrc := rc_bd hr hc
    have e : M.2.2.2.2 (α 0) 1 = ρ 4 := h3.2
    rw [e] at h0 h1 hc hrc ⊢
    obtain ⟨-, -, y3, y4, y5, y6, y7⟩ := dm (p := ρ 1) b1.1 (show 0 < ρ 4 by omega)
    have z := row_lt (show 0 < ρ 4 by omega) h0.2.2
    have l := low_lt (k := 0) b1.1 (show 0 < ρ 4 by omega) (show ρ 1 / ρ 4 ≤ M.2.2.2.2 (α 0) 0 - 1 - 0 by omega) (by decide)
    exact ⟨⟨b1.1, by omega⟩, ⟨g0, Or.inr ⟨by omega, by omega⟩⟩, ⟨g0, fun _ => ⟨fun h => by omega, fun h => by omega, fun _ => by rw [← h1.2]; omega, fun h1 h2 h3 => by omega⟩⟩, trivial⟩
  exact ⟨qB (key.1) (nB), qB (key.2.1) (qB (key.2.2.1) (nB))⟩
def t_b3 : KT := ((0, 0, 0, 0), [(2, 0, 1, 0), (1, 1, 0, 0), (1, 2, 0, 0), (1, 3, 0, 0), (1, 4, 0, 0), (1, 5, 0, 0), (1, 6, 0, 0)], [(0, 0), (0, 143), (3, 3), (-2147483648, 2147483647), (-2147483648, 2147483647), (-2147483648, 2147483647), (-2147483648, 2147483647)], [(2, [(2, 0, 1, 0), (1, 1, 0, 0)]), (71, [(2, 0, 1, 0), (1, 1, 0, 0), (1, 3, 0, 0)]), (21, [(1, 3, 0, 0), (1, 4, 0, -1)]), (10, [(2, 0, 1, 0), (0, 0, 0, 0), (1, 4, 0, 0)]), (10, [(2, 0, 1, 0), (0, 0, 0, 1), (1, 5, 0, 0)]), (23, [(1, 1, 0, 0), (1, 5, 0, 0), (1, 6, 0, 0)])], (0, 0, 0), [], [], ([(6, 0, 143)], [(15, [(2, 0, 1, 0), (1, 6, 0, 0)]), (17, [(2, 0, 1, 0), (1, 1, 0, 0), (1, 2, 0, 0), (1, 6, 0, 0)])]), ([], []))
theorem l_b3 (g : Nat) : LOK Yt (PSt g) t_b3 := by
  intro ρ α Γ M as hT hB hA hP
  have g0 : Γ (α 0) = 1 := tyAt hA (i := 0) rfl
  have b1 : 0 ≤ ρ 1 ∧ ρ 1 ≤ 143 := hB 1
  have b2 : 3 ≤ ρ 2 ∧ ρ 2 ≤ 3 := hB 2
  have b3 : -2147483648 ≤ ρ 3 ∧ ρ 3 ≤ 2147483647 := hB 3
  have b4 : -2147483648 ≤ ρ 4 ∧ ρ 4 ≤ 2147483647 := hB 4
  have b5 : -2147483648 ≤ ρ 5 ∧ ρ 5 ≤ 2147483647 := hB 5
  have b6 : -2147483648 ≤ ρ 6 ∧ ρ 6 ≤ 2147483647 := hB 6
  have h0 : Γ (α 0) = 1 ∧ 0 ≤ ρ 1 + 0 ∧ ρ 1 + 0 < M.2.2.2.2 (α 0) 0 * M.2.2.2.2 (α 0) 1 := hP _ (List.mem_of_getElem? (i := 0) rfl)
  have h1 : Γ (α 0) = 1 ∧ ρ 3 + 0 = (ρ 1 + 0) / M.2.2.2.2 (α 0) 1 := hP _ (List.mem_of_getElem? (i := 1) rfl)
  have h2 : ρ 3 + 0 < ρ 4 + (-1) := hP _ (List.mem_of_getElem? (i := 2) rfl)
  have h3 : 0 ≤ (0 : Int) ∧ M.2.2.2.2 (α 0) (0 : Int).toNat = ρ 4 + 0 := hP _ (List.mem_of_getElem? (i := 3) rfl)
  have h4 : 0 ≤ (1 : Int) ∧ M.2.2.2.2 (α 0) (1 : Int).toNat = ρ 5 + 0 := hP _ (List.mem_of_getElem? (i := 4) rfl)
  have h5 : ρ 6 + 0 = wI ((ρ 1 + 0) + (ρ 5 + 0)) := hP _ (List.mem_of_getElem? (i := 5) rfl)
  try simp only [Int.add_zero] at h0 h1 h2 h3 h4 h5
  have key : (0 ≤ ρ 6 ∧ ρ 6 ≤ 143) ∧ (Γ (α 0) = 1 ∧ (ρ 6 + 0 = -1 ∨ isPx (M.2.2.2.2 (α 0) 0) (M.2.2.2.2 (α 0) 1) (ρ 6 + 0))) ∧ (Γ (α 0) = 1 ∧ (ρ 6 + 0 ≠ -1 → nbP (M.2.2.2.2 (α 0) 0) (M.2.2.2.2 (α 0) 1) (ρ 1 + 0) (ρ 2 + 0))) ∧ True := by
    try simp only [Int.add_zero]
    obtain ⟨hr, hc⟩ := ch_dims hT g0
    have hrc := rc_bd hr hc
    have e : M.2.2.2.2 (α 0) 1 = ρ 5 := h4.2
    have e0 : M.2.2.2.2 (α 0) 0 = ρ 4 := h3.2
    rw [e] at h1
    rw [e, e0] at h0 hrc ⊢
    rw [e] at hc
    rw [e0] at hr
    obtain ⟨-, -, y3, y4, y5, y6, y7⟩ := dm (p := ρ 1) b1.1 (show 0 < ρ 5 by omega)
    rw [wI_id (by unfold inI; omega)] at h5
    have l := low_lt (r := ρ 4) (k := 1) b1.1 (show 0 < ρ 5 by omega) (show ρ 1 / ρ 5 ≤ ρ 4 - 1 - 1 by have := h1.2; omega) (by decide)
    exact ⟨⟨by omega, by omega⟩, ⟨g0, Or.inr ⟨by omega, by omega⟩⟩, ⟨g0, fun _ => ⟨fun h => by omega, fun h => by omega, fun h => by omega, fun _ _ _ => by rw [← h1.2]; omega⟩⟩, trivial⟩
  exact ⟨qB (key.1) (nB), qB (key.2.1) (qB (key.2.2.1) (nB))⟩
def t_e0 : KT := ((0, 0, 0, 0), [(2, 0, 1, 0), (1, 1, 0, 0), (1, 2, 0, 0), (1, 3, 0, 0), (1, 4, 0, 0)], [(0, 0), (0, 143), (0, 0), (-2147483648, 2147483647), (-2147483648, 2147483647)], [(16, [(2, 0, 1, 0), (1, 1, 0, 0), (1, 2, 0, 0)]), (10, [(2, 0, 1, 0), (0, 0, 0, 1), (1, 3, 0, 0)]), (24, [(1, 1, 0, 0), (1, 3, 0, 0), (1, 4, 0, 0)])], (0, 0, 0), [], [], ([(4, 0, 143)], []), ([], []))
theorem l_e0 (g : Nat) : LOK Yt (PSt g) t_e0 := by
  intro ρ α Γ M as hT hB hA hP
  have g0 : Γ (α 0) = 1 := tyAt hA (i := 0) rfl
  have b1 : 0 ≤ ρ 1 ∧ ρ 1 ≤ 143 := hB 1
  have b2 : 0 ≤ ρ 2 ∧ ρ 2 ≤ 0 := hB 2
  have b3 : -2147483648 ≤ ρ 3 ∧ ρ 3 ≤ 2147483647 := hB 3
  have b4 : -2147483648 ≤ ρ 4 ∧ ρ 4 ≤ 2147483647 := hB 4
  have h0 : Γ (α 0) = 1 ∧ nbP (M.2.2.2.2 (α 0) 0) (M.2.2.2.2 (α 0) 1) (ρ 1 + 0) (ρ 2 + 0) := hP _ (List.mem_of_getElem? (i := 0) rfl)
  have h1 : 0 ≤ (1 : Int) ∧ M.2.2.2.2 (α 0) (1 : Int).toNat = ρ 3 + 0 := hP _ (List.mem_of_getElem? (i := 1) rfl)
  have h2 : ρ 4 + 0 = wI ((ρ 1 + 0) - (ρ 3 + 0)) := hP _ (List.mem_of_getElem? (i := 2) rfl)
  try simp only [Int.add_zero] at h0 h1 h2
  have key : (0 ≤ ρ 4 ∧ ρ 4 ≤ 143) ∧ True := by
    try simp only [Int.add_zero]
    obtain ⟨hr, hc⟩ := ch_dims hT g0
    have e : M.2.2.2.2 (α 0) 1 = ρ 3 := h1.2
    rw [e] at h0 hc
    rw [wI_id (by unfold inI; omega)] at h2
    have := h0.2.1 (by omega)
    exact ⟨⟨by omega, by omega⟩, trivial⟩
  exact ⟨qB (key.1) (nB), nB⟩
def t_e1 : KT := ((0, 0, 0, 0), [(2, 0, 1, 0), (1, 1, 0, 0), (1, 2, 0, 0)], [(0, 0), (0, 143), (1, 1)], [(16, [(2, 0, 1, 0), (1, 1, 0, 0), (1, 2, 0, 0)])], (0, 0, 0), [], [], ([(1, 1, 143)], []), ([], []))
theorem l_e1 (g : Nat) : LOK Yt (PSt g) t_e1 := by
  intro ρ α Γ M as hT hB hA hP
  have g0 : Γ (α 0) = 1 := tyAt hA (i := 0) rfl
  have b1 : 0 ≤ ρ 1 ∧ ρ 1 ≤ 143 := hB 1
  have b2 : 1 ≤ ρ 2 ∧ ρ 2 ≤ 1 := hB 2
  have h0 : Γ (α 0) = 1 ∧ nbP (M.2.2.2.2 (α 0) 0) (M.2.2.2.2 (α 0) 1) (ρ 1 + 0) (ρ 2 + 0) := hP _ (List.mem_of_getElem? (i := 0) rfl)
  try simp only [Int.add_zero] at h0
  have key : (1 ≤ ρ 1 ∧ ρ 1 ≤ 143) ∧ True := by
    try simp only [Int.add_zero]
    obtain ⟨hr, hc⟩ := ch_dims hT g0
    have h1 := h0.2.2.1 (by omega)
    have hp : 1 ≤ ρ 1 := by
      by_cases h : ρ 1 = 0
      · rw [h, Int.zero_emod] at h1
        omega
      · omega
    exact ⟨⟨hp, b1.2⟩, trivial⟩
  exact ⟨qB (key.1) (nB), nB⟩
def t_c0 : KT := ((0, 0, 0, 0), [(2, 0, 1, 0), (1, 1, 0, 0)], [(0, 0), (0, 143)], [(4, [(2, 0, 1, 0), (1, 1, 0, 0)])], (0, 0, 0), [], [], ([(1, 0, 140)], []), ([], []))
theorem l_c0 (g : Nat) : LOK Yt (PSt g) t_c0 := by
  intro ρ α Γ M as hT hB hA hP
  have g0 : Γ (α 0) = 1 := tyAt hA (i := 0) rfl
  have b1 : 0 ≤ ρ 1 ∧ ρ 1 ≤ 143 := hB 1
  have h0 : Γ (α 0) = 1 ∧ rgP (M.2.2.2.2 (α 0) 0) (M.2.2.2.2 (α 0) 1) (ρ 1 + 0) := hP _ (List.mem_of_getElem? (i := 0) rfl)
  try simp only [Int.add_zero] at h0
  have key : (0 ≤ ρ 1 ∧ ρ 1 ≤ 140) ∧ True := by
    try simp only [Int.add_zero]
    obtain ⟨hr, hc⟩ := ch_dims hT g0
    have hrc := rc_bd hr hc
    obtain ⟨-, x0, x1, x2, x3⟩ := h0
    have l := low_lt (r := M.2.2.2.2 (α 0) 0) (k := 1) x0 (show 0 < M.2.2.2.2 (α 0) 1 by omega) (by omega) (by decide)
    exact ⟨⟨x0, by omega⟩, trivial⟩
  exact ⟨qB (key.1) (nB), nB⟩
def t_c1 : KT := ((0, 0, 0, 0), [(2, 0, 1, 0), (1, 1, 0, 0), (1, 2, 0, 0), (1, 3, 0, 0)], [(0, 0), (0, 143), (-2147483648, 2147483647), (-2147483648, 2147483647)], [(4, [(2, 0, 1, 0), (1, 1, 0, 0)]), (23, [(1, 1, 0, 0), (1, 2, 0, 0), (1, 3, 0, 0)]), (10, [(2, 0, 1, 0), (0, 0, 0, 1), (1, 2, 0, 0)])], (0, 0, 0), [], [], ([(3, 0, 142)], []), ([], []))
theorem l_c1 (g : Nat) : LOK Yt (PSt g) t_c1 := by
  intro ρ α Γ M as hT hB hA hP
  have g0 : Γ (α 0) = 1 := tyAt hA (i := 0) rfl
  have b1 : 0 ≤ ρ 1 ∧ ρ 1 ≤ 143 := hB 1
  have b2 : -2147483648 ≤ ρ 2 ∧ ρ 2 ≤ 2147483647 := hB 2
  have b3 : -2147483648 ≤ ρ 3 ∧ ρ 3 ≤ 2147483647 := hB 3
  have h0 : Γ (α 0) = 1 ∧ rgP (M.2.2.2.2 (α 0) 0) (M.2.2.2.2 (α 0) 1) (ρ 1 + 0) := hP _ (List.mem_of_getElem? (i := 0) rfl)
  have h1 : ρ 3 + 0 = wI ((ρ 1 + 0) + (ρ 2 + 0)) := hP _ (List.mem_of_getElem? (i := 1) rfl)
  have h2 : 0 ≤ (1 : Int) ∧ M.2.2.2.2 (α 0) (1 : Int).toNat = ρ 2 + 0 := hP _ (List.mem_of_getElem? (i := 2) rfl)
  try simp only [Int.add_zero] at h0 h1 h2
  have key : (0 ≤ ρ 3 ∧ ρ 3 ≤ 142) ∧ True := by
    try simp only [Int.add_zero]
    obtain ⟨hr, hc⟩ := ch_dims hT g0
    have hrc := rc_bd hr hc
    have e : M.2.2.2.2 (α 0) 1 = ρ 2 := h2.2
    rw [e] at h0 hc hrc
    rw [wI_id (by unfold inI; omega)] at h1
    obtain ⟨-, x0, x1, x2, x3⟩ := h0
    have l := low_lt (r := M.2.2.2.2 (α 0) 0) (k := 1) x0 (show 0 < ρ 2 by omega) (by omega) (by decide)
    exact ⟨⟨by omega, by omega⟩, trivial⟩
  exact ⟨qB (key.1) (nB), nB⟩
