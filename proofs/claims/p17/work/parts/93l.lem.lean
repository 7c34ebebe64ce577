/-! what facts of the reference tell of one another -/
def t_mcol : KT := ((0, 0, 0, 0), [(2, 0, 40, 0), (2, 1, 41, 0), (1, 2, 0, 0)], [(0, 0), (0, 0), (-2147483648, 2147483647)], [(11, [(2, 0, 40, 0), (0, 0, 0, 1), (2, 1, 41, 0)]), (10, [(2, 1, 41, 0), (0, 0, 0, 1), (1, 2, 0, -4)])], (0, 0, 0), [], [], ([], [(8, [(2, 0, 40, 0), (1, 2, 0, 0)])]), ([], []))
set_option maxRecDepth 100000 in
theorem l_mcol (g : GG) : LOK Yt (PSt g) t_mcol := by
  intro ρ α Γ M as hT hB hA hP
  have g0 : Γ (α 0) = 40 := tyAt hA (i := 0) rfl
  have g1 : Γ (α 1) = 41 := tyAt hA (i := 1) rfl
  have b2 : -2147483648 ≤ ρ 2 ∧ ρ 2 ≤ 2147483647 := hB 2
  have h0 : 0 ≤ (1 : Int) ∧ M.2.2.2.1 (α 0) (1 : Int).toNat = some (α 1) := hP _ (List.mem_of_getElem? (i := 0) rfl)
  have h1 : 0 ≤ (1 : Int) ∧ M.2.2.2.2 (α 1) (1 : Int).toNat = ρ 2 + (-4) := hP _ (List.mem_of_getElem? (i := 1) rfl)
  try simp only [Int.add_zero] at h0 h1
  have key : (nwE Γ M (α 0) fun r c => ρ 2 + 0 = c) ∧ True := by
    try simp only [Int.add_zero]
    have e : M.2.2.2.2 (α 1) 1 = ρ 2 + (-4) := h1.2
    exact ⟨⟨g0, α 1, h0.2, g1, by omega⟩, trivial⟩
  exact ⟨nB, qB (key.1) (nB)⟩
def t_mrow : KT := ((0, 0, 0, 0), [(2, 0, 40, 0), (2, 1, 41, 0), (1, 2, 0, 0)], [(0, 0), (0, 0), (-2147483648, 2147483647)], [(11, [(2, 0, 40, 0), (0, 0, 0, 1), (2, 1, 41, 0)]), (10, [(2, 1, 41, 0), (0, 0, 0, 0), (1, 2, 0, -4)])], (0, 0, 0), [], [], ([], [(93, [(2, 0, 40, 0), (1, 2, 0, 0)])]), ([], []))
set_option maxRecDepth 100000 in
theorem l_mrow (g : GG) : LOK Yt (PSt g) t_mrow := by
  intro ρ α Γ M as hT hB hA hP
  have g0 : Γ (α 0) = 40 := tyAt hA (i := 0) rfl
  have g1 : Γ (α 1) = 41 := tyAt hA (i := 1) rfl
  have b2 : -2147483648 ≤ ρ 2 ∧ ρ 2 ≤ 2147483647 := hB 2
  have h0 : 0 ≤ (1 : Int) ∧ M.2.2.2.1 (α 0) (1 : Int).toNat = some (α 1) := hP _ (List.mem_of_getElem? (i := 0) rfl)
  have h1 : 0 ≤ (0 : Int) ∧ M.2.2.2.2 (α 1) (0 : Int).toNat = ρ 2 + (-4) := hP _ (List.mem_of_getElem? (i := 1) rfl)
  try simp only [Int.add_zero] at h0 h1
  have key : (nwE Γ M (α 0) fun r c => ρ 2 + 0 = r) ∧ True := by
    try simp only [Int.add_zero]
    have e : M.2.2.2.2 (α 1) 0 = ρ 2 + (-4) := h1.2
    exact ⟨⟨g0, α 1, h0.2, g1, by omega⟩, trivial⟩
  exact ⟨nB, qB (key.1) (nB)⟩
def t_mman : KT := ((0, 0, 0, 0), [(2, 0, 40, 0), (1, 1, 0, 0), (1, 2, 0, 0), (1, 3, 0, 0)], [(0, 0), (2, 12), (2, 12), (-2147483648, 2147483647)], [(93, [(2, 0, 40, 0), (1, 1, 0, 0)]), (8, [(2, 0, 40, 0), (1, 2, 0, 0)]), (25, [(1, 1, 0, 0), (1, 2, 0, 0), (1, 3, 0, 0)])], (0, 0, 0), [], [], ([(3, 4, 144)], [(94, [(2, 0, 40, 0), (1, 3, 0, 0)])]), ([], []))
set_option maxRecDepth 100000 in
theorem l_mman (g : GG) : LOK Yt (PSt g) t_mman := by
  intro ρ α Γ M as hT hB hA hP
  have g0 : Γ (α 0) = 40 := tyAt hA (i := 0) rfl
  have b1 : 2 ≤ ρ 1 ∧ ρ 1 ≤ 12 := hB 1
  have b2 : 2 ≤ ρ 2 ∧ ρ 2 ≤ 12 := hB 2
  have b3 : -2147483648 ≤ ρ 3 ∧ ρ 3 ≤ 2147483647 := hB 3
  have h0 : nwE Γ M (α 0) fun r c => ρ 1 + 0 = r := hP _ (List.mem_of_getElem? (i := 0) rfl)
  have h1 : nwE Γ M (α 0) fun r c => ρ 2 + 0 = c := hP _ (List.mem_of_getElem? (i := 1) rfl)
  have h2 : ρ 3 + 0 = wI ((ρ 1 + 0) * (ρ 2 + 0)) := hP _ (List.mem_of_getElem? (i := 2) rfl)
  try simp only [Int.add_zero] at h0 h1 h2
  have key : (4 ≤ ρ 3 ∧ ρ 3 ≤ 144) ∧ (nwE Γ M (α 0) fun r c => ρ 3 + 0 = r * c) ∧ True := by
    try simp only [Int.add_zero]
    have l := rc_bd b1 b2
    rw [wI_id (by unfold inI; omega)] at h2
    exact ⟨by omega, (h0.and h1).imp fun r c q => by rw [← q.1, ← q.2]; exact h2, trivial⟩
  exact ⟨qB (key.1) (nB), qB (key.2.1) (nB)⟩
def t_mpx : KT := ((0, 0, 0, 0), [(2, 0, 40, 0), (1, 1, 0, 0), (1, 2, 0, 0)], [(0, 0), (0, 2147483647), (-2147483648, 2147483647)], [(94, [(2, 0, 40, 0), (1, 2, 0, 0)]), (21, [(1, 1, 0, 0), (1, 2, 0, 0)])], (0, 0, 0), [], [], ([(1, 0, 143)], [(95, [(2, 0, 40, 0), (1, 1, 0, 0)])]), ([], []))
set_option maxRecDepth 100000 in
theorem l_mpx (g : GG) : LOK Yt (PSt g) t_mpx := by
  intro ρ α Γ M as hT hB hA hP
  have g0 : Γ (α 0) = 40 := tyAt hA (i := 0) rfl
  have b1 : 0 ≤ ρ 1 ∧ ρ 1 ≤ 2147483647 := hB 1
  have b2 : -2147483648 ≤ ρ 2 ∧ ρ 2 ≤ 2147483647 := hB 2
  have h0 : nwE Γ M (α 0) fun r c => ρ 2 + 0 = r * c := hP _ (List.mem_of_getElem? (i := 0) rfl)
  have h1 : ρ 1 + 0 < ρ 2 + 0 := hP _ (List.mem_of_getElem? (i := 1) rfl)
  try simp only [Int.add_zero] at h0 h1
  have key : (0 ≤ ρ 1 ∧ ρ 1 ≤ 143) ∧ (nwE Γ M (α 0) fun r c => isPx r c (ρ 1 + 0)) ∧ True := by
    try simp only [Int.add_zero]
    have e : ρ 1 < 144 := (nw1 hT h0).out fun r c ⟨hr, hc, q⟩ => by have := rc_bd hr hc; omega
    exact ⟨⟨b1.1, by omega⟩, h0.imp fun r c q => ⟨b1.1, by rw [← q]; exact h1⟩, trivial⟩
  exact ⟨qB (key.1) (nB), qB (key.2.1) (nB)⟩
def t_mrw : KT := ((0, 0, 0, 0), [(2, 0, 40, 0), (1, 1, 0, 0), (1, 2, 0, 0), (1, 3, 0, 0)], [(0, 0), (0, 2147483647), (-2147483648, 2147483647), (-2147483648, 2147483647)], [(8, [(2, 0, 40, 0), (1, 2, 0, 0)]), (26, [(1, 1, 0, 0), (1, 2, 0, 0), (1, 3, 0, 0)])], (0, 0, 0), [], [], ([], [(9, [(2, 0, 40, 0), (1, 1, 0, 0), (1, 3, 0, 0)])]), ([], []))
set_option maxRecDepth 100000 in
theorem l_mrw (g : GG) : LOK Yt (PSt g) t_mrw := by
  intro ρ α Γ M as hT hB hA hP
  have g0 : Γ (α 0) = 40 := tyAt hA (i := 0) rfl
  have b1 : 0 ≤ ρ 1 ∧ ρ 1 ≤ 2147483647 := hB 1
  have b2 : -2147483648 ≤ ρ 2 ∧ ρ 2 ≤ 2147483647 := hB 2
  have b3 : -2147483648 ≤ ρ 3 ∧ ρ 3 ≤ 2147483647 := hB 3
  have h0 : nwE Γ M (α 0) fun r c => ρ 2 + 0 = c := hP _ (List.mem_of_getElem? (i := 0) rfl)
  have h1 : ρ 3 + 0 = wI ((ρ 1 + 0 : Int).tdiv (ρ 2 + 0)) := hP _ (List.mem_of_getElem? (i := 1) rfl)
  try simp only [Int.add_zero] at h0 h1
  have key : (nwE Γ M (α 0) fun r c => ρ 3 + 0 = (ρ 1 + 0) / c) ∧ True := by
    try simp only [Int.add_zero]
    exact ⟨(nw1 hT h0).imp fun r c ⟨hr, hc, q⟩ => by
      subst q
      obtain ⟨d1, d2, d3, d4, d5, d6, d7⟩ := dm b1.1 (show 0 < ρ 2 by omega)
      rw [d1] at h1
      rw [wI_id (by unfold inI; omega)] at h1
      exact h1, trivial⟩
  exact ⟨nB, qB (key.1) (nB)⟩
def t_mcl : KT := ((0, 0, 0, 0), [(2, 0, 40, 0), (1, 1, 0, 0), (1, 2, 0, 0), (1, 3, 0, 0)], [(0, 0), (0, 2147483647), (-2147483648, 2147483647), (-2147483648, 2147483647)], [(8, [(2, 0, 40, 0), (1, 2, 0, 0)]), (27, [(1, 1, 0, 0), (1, 2, 0, 0), (1, 3, 0, 0)])], (0, 0, 0), [], [], ([], [(96, [(2, 0, 40, 0), (1, 1, 0, 0), (1, 3, 0, 0)])]), ([], []))
set_option maxRecDepth 100000 in
theorem l_mcl (g : GG) : LOK Yt (PSt g) t_mcl := by
  intro ρ α Γ M as hT hB hA hP
  have g0 : Γ (α 0) = 40 := tyAt hA (i := 0) rfl
  have b1 : 0 ≤ ρ 1 ∧ ρ 1 ≤ 2147483647 := hB 1
  have b2 : -2147483648 ≤ ρ 2 ∧ ρ 2 ≤ 2147483647 := hB 2
  have b3 : -2147483648 ≤ ρ 3 ∧ ρ 3 ≤ 2147483647 := hB 3
  have h0 : nwE Γ M (α 0) fun r c => ρ 2 + 0 = c := hP _ (List.mem_of_getElem? (i := 0) rfl)
  have h1 : ρ 3 + 0 = (ρ 1 + 0 : Int).tmod (ρ 2 + 0) := hP _ (List.mem_of_getElem? (i := 1) rfl)
  try simp only [Int.add_zero] at h0 h1
  have key : (nwE Γ M (α 0) fun r c => ρ 3 + 0 = (ρ 1 + 0) % c) ∧ True := by
    try simp only [Int.add_zero]
    exact ⟨(nw1 hT h0).imp fun r c ⟨hr, hc, q⟩ => by
      subst q
      obtain ⟨d1, d2, d3, d4, d5, d6, d7⟩ := dm b1.1 (show 0 < ρ 2 by omega)
      rw [d2] at h1
      exact h1, trivial⟩
  exact ⟨nB, qB (key.1) (nB)⟩
def t_nbn : KT := ((0, 0, 0, 0), [(2, 0, 40, 0), (1, 1, 0, 0), (1, 2, 0, 0)], [(0, 0), (0, 143), (-2147483648, 2147483647)], [], (0, 0, 0), [], [], ([], [(20, [(2, 0, 40, 0), (1, 1, 0, 0), (1, 2, 0, 0), (0, 0, 0, -1)])]), ([], []))
set_option maxRecDepth 100000 in
theorem l_nbn (g : GG) : LOK Yt (PSt g) t_nbn := by
  intro ρ α Γ M as hT hB hA hP
  have g0 : Γ (α 0) = 40 := tyAt hA (i := 0) rfl
  have b1 : 0 ≤ ρ 1 ∧ ρ 1 ≤ 143 := hB 1
  have b2 : -2147483648 ≤ ρ 2 ∧ ρ 2 ≤ 2147483647 := hB 2
  have key : (nwE Γ M (α 0) fun r c => (-1) ≠ -1 → isPx r c ((-1)) ∧ nbQ r c (ρ 1 + 0) (ρ 2 + 0)) ∧ True := by
    try simp only [Int.add_zero]
    exact ⟨(nw_ex hT g0).imp fun r c _ h => absurd rfl h, trivial⟩
  exact ⟨nB, qB (key.1) (nB)⟩
def t_nb0 : KT := ((0, 0, 0, 0), [(2, 0, 40, 0), (1, 1, 0, 0), (1, 2, 0, 0), (1, 3, 0, 0), (1, 4, 0, 0)], [(0, 0), (0, 143), (0, 0), (-2147483648, 2147483647), (-2147483648, 2147483647)], [(95, [(2, 0, 40, 0), (1, 1, 0, 0)]), (96, [(2, 0, 40, 0), (1, 1, 0, 0), (1, 3, 0, 0)]), (21, [(1, 3, 0, 0), (1, 4, 0, -1)]), (8, [(2, 0, 40, 0), (1, 4, 0, 0)])], (0, 0, 0), [], [], ([(1, 0, 142)], [(20, [(2, 0, 40, 0), (1, 1, 0, 0), (1, 2, 0, 0), (1, 1, 0, 1)])]), ([], []))
set_option maxRecDepth 100000 in
theorem l_nb0 (g : GG) : LOK Yt (PSt g) t_nb0 := by
  intro ρ α Γ M as hT hB hA hP
  have g0 : Γ (α 0) = 40 := tyAt hA (i := 0) rfl
  have b1 : 0 ≤ ρ 1 ∧ ρ 1 ≤ 143 := hB 1
  have b2 : 0 ≤ ρ 2 ∧ ρ 2 ≤ 0 := hB 2
  have b3 : -2147483648 ≤ ρ 3 ∧ ρ 3 ≤ 2147483647 := hB 3
  have b4 : -2147483648 ≤ ρ 4 ∧ ρ 4 ≤ 2147483647 := hB 4
  have h0 : nwE Γ M (α 0) fun r c => isPx r c (ρ 1 + 0) := hP _ (List.mem_of_getElem? (i := 0) rfl)
  have h1 : nwE Γ M (α 0) fun r c => ρ 3 + 0 = (ρ 1 + 0) % c := hP _ (List.mem_of_getElem? (i := 1) rfl)
  have h2 : ρ 3 + 0 < ρ 4 + (-1) := hP _ (List.mem_of_getElem? (i := 2) rfl)
  have h3 : nwE Γ M (α 0) fun r c => ρ 4 + 0 = c := hP _ (List.mem_of_getElem? (i := 3) rfl)
  try simp only [Int.add_zero] at h0 h1 h2 h3
  have key : (0 ≤ ρ 1 ∧ ρ 1 ≤ 142) ∧ (nwE Γ M (α 0) fun r c => ρ 1 + 1 ≠ -1 → isPx r c (ρ 1 + 1) ∧ nbQ r c (ρ 1 + 0) (ρ 2 + 0)) ∧ True := by
    try simp only [Int.add_zero]
    have key2 : nwE Γ M (α 0) fun r c => ρ 1 + 1 < 144 ∧ (isPx r c (ρ 1 + 1) ∧ nbQ r c (ρ 1) (ρ 2)) := (nw1 hT ((h0.and h1).and h3)).imp fun r c ⟨hr, hc, ⟨⟨q1, q2⟩, q3⟩, q4⟩ => by
      subst q4
      obtain ⟨-, -, y3, y4, y5, y6, y7⟩ := dm (p := ρ 1) b1.1 (show 0 < ρ 4 by omega)
      have z := row_lt (show 0 < ρ 4 by omega) q2
      have l := low_lt (k := 0) b1.1 (show 0 < ρ 4 by omega) (show ρ 1 / ρ 4 ≤ r - 1 - 0 by omega) (by decide)
      have hrc := rc_bd hr hc
      exact ⟨by omega, ⟨by omega, by omega⟩, fun _ => by omega, fun h => by omega, fun h => by omega, fun h => by omega⟩
    have e : ρ 1 + 1 < 144 := key2.out fun r c q => q.1
    exact ⟨⟨b1.1, by omega⟩, key2.imp fun r c q _ => q.2, trivial⟩
  exact ⟨qB (key.1) (nB), qB (key.2.1) (nB)⟩
def t_nb1 : KT := ((0, 0, 0, 0), [(2, 0, 40, 0), (1, 1, 0, 0), (1, 2, 0, 0), (1, 3, 0, 0), (1, 4, 0, 0), (1, 5, 0, 0), (1, 6, 0, 0)], [(0, 0), (0, 143), (1, 1), (-2147483648, 2147483647), (-2147483648, 2147483647), (2, 12), (-2147483648, 2147483647)], [(95, [(2, 0, 40, 0), (1, 1, 0, 0)]), (9, [(2, 0, 40, 0), (1, 1, 0, 0), (1, 3, 0, 0)]), (21, [(1, 3, 0, 0), (1, 4, 0, -1)]), (93, [(2, 0, 40, 0), (1, 4, 0, 0)]), (8, [(2, 0, 40, 0), (1, 5, 0, 0)]), (23, [(1, 1, 0, 0), (1, 5, 0, 0), (1, 6, 0, 0)])], (0, 0, 0), [], [], ([(6, 0, 143)], [(20, [(2, 0, 40, 0), (1, 1, 0, 0), (1, 2, 0, 0), (1, 6, 0, 0)])]), ([], []))
set_option maxRecDepth 100000 in
theorem l_nb1 (g : GG) : LOK Yt (PSt g) t_nb1 := by
  intro ρ α Γ M as hT hB hA hP
  have g0 : Γ (α 0) = 40 := tyAt hA (i := 0) rfl
  have b1 : 0 ≤ ρ 1 ∧ ρ 1 ≤ 143 := hB 1
  have b2 : 1 ≤ ρ 2 ∧ ρ 2 ≤ 1 := hB 2
  have b3 : -2147483648 ≤ ρ 3 ∧ ρ 3 ≤ 2147483647 := hB 3
  have b4 : -2147483648 ≤ ρ 4 ∧ ρ 4 ≤ 2147483647 := hB 4
  have b5 : 2 ≤ ρ 5 ∧ ρ 5 ≤ 12 := hB 5
  have b6 : -2147483648 ≤ ρ 6 ∧ ρ 6 ≤ 2147483647 := hB 6
  have h0 : nwE Γ M (α 0) fun r c => isPx r c (ρ 1 + 0) := hP _ (List.mem_of_getElem? (i := 0) rfl)
  have h1 : nwE Γ M (α 0) fun r c => ρ 3 + 0 = (ρ 1 + 0) / c := hP _ (List.mem_of_getElem? (i := 1) rfl)
  have h2 : ρ 3 + 0 < ρ 4 + (-1) := hP _ (List.mem_of_getElem? (i := 2) rfl)
  have h3 : nwE Γ M (α 0) fun r c => ρ 4 + 0 = r := hP _ (List.mem_of_getElem? (i := 3) rfl)
  have h4 : nwE Γ M (α 0) fun r c => ρ 5 + 0 = c := hP _ (List.mem_of_getElem? (i := 4) rfl)
  have h5 : ρ 6 + 0 = wI ((ρ 1 + 0) + (ρ 5 + 0)) := hP _ (List.mem_of_getElem? (i := 5) rfl)
  try simp only [Int.add_zero] at h0 h1 h2 h3 h4 h5
  have key : (0 ≤ ρ 6 ∧ ρ 6 ≤ 143) ∧ (nwE Γ M (α 0) fun r c => ρ 6 + 0 ≠ -1 → isPx r c (ρ 6 + 0) ∧ nbQ r c (ρ 1 + 0) (ρ 2 + 0)) ∧ True := by
    try simp only [Int.add_zero]
    rw [wI_id (by unfold inI; omega)] at h5
    have key2 : nwE Γ M (α 0) fun r c => ρ 6 < 144 ∧ (isPx r c (ρ 6) ∧ nbQ r c (ρ 1) (ρ 2)) := (nw1 hT (((h0.and h1).and h3).and h4)).imp fun r c ⟨hr, hc, ⟨⟨⟨q1, q2⟩, q3⟩, q4⟩, q5⟩ => by
      subst q5
      subst q4
      obtain ⟨-, -, y3, y4, y5, y6, y7⟩ := dm (p := ρ 1) b1.1 (show 0 < ρ 5 by omega)
      have l := low_lt (r := ρ 4) (k := 1) b1.1 (show 0 < ρ 5 by omega) (show ρ 1 / ρ 5 ≤ ρ 4 - 1 - 1 by omega) (by decide)
      have hrc := rc_bd hr hc
      exact ⟨by omega, ⟨by omega, by omega⟩, fun h => by omega, fun _ => by omega, fun h => by omega, fun h => by omega⟩
    have e : ρ 6 < 144 := key2.out fun r c q => q.1
    exact ⟨⟨by omega, by omega⟩, key2.imp fun r c q _ => q.2, trivial⟩
  exact ⟨qB (key.1) (nB), qB (key.2.1) (nB)⟩
def t_nb2 : KT := ((0, 0, 0, 0), [(2, 0, 40, 0), (1, 1, 0, 0), (1, 2, 0, 0), (1, 3, 0, 0)], [(0, 0), (0, 143), (2, 2), (1, 2147483647)], [(95, [(2, 0, 40, 0), (1, 1, 0, 0)]), (96, [(2, 0, 40, 0), (1, 1, 0, 0), (1, 3, 0, 0)])], (0, 0, 0), [], [], ([(1, 1, 143)], [(20, [(2, 0, 40, 0), (1, 1, 0, 0), (1, 2, 0, 0), (1, 1, 0, -1)])]), ([], []))
set_option maxRecDepth 100000 in
theorem l_nb2 (g : GG) : LOK Yt (PSt g) t_nb2 := by
  intro ρ α Γ M as hT hB hA hP
  have g0 : Γ (α 0) = 40 := tyAt hA (i := 0) rfl
  have b1 : 0 ≤ ρ 1 ∧ ρ 1 ≤ 143 := hB 1
  have b2 : 2 ≤ ρ 2 ∧ ρ 2 ≤ 2 := hB 2
  have b3 : 1 ≤ ρ 3 ∧ ρ 3 ≤ 2147483647 := hB 3
  have h0 : nwE Γ M (α 0) fun r c => isPx r c (ρ 1 + 0) := hP _ (List.mem_of_getElem? (i := 0) rfl)
  have h1 : nwE Γ M (α 0) fun r c => ρ 3 + 0 = (ρ 1 + 0) % c := hP _ (List.mem_of_getElem? (i := 1) rfl)
  try simp only [Int.add_zero] at h0 h1
  have key : (1 ≤ ρ 1 ∧ ρ 1 ≤ 143) ∧ (nwE Γ M (α 0) fun r c => ρ 1 + (-1) ≠ -1 → isPx r c (ρ 1 + (-1)) ∧ nbQ r c (ρ 1 + 0) (ρ 2 + 0)) ∧ True := by
    try simp only [Int.add_zero]
    have key2 : nwE Γ M (α 0) fun r c => 1 ≤ ρ 1 ∧ (isPx r c (ρ 1 + (-1)) ∧ nbQ r c (ρ 1) (ρ 2)) := (nw1 hT (h0.and h1)).imp fun r c ⟨hr, hc, ⟨q1, q2⟩, q3⟩ => by
      obtain ⟨-, -, y3, y4, y5, y6, y7⟩ := dm (p := ρ 1) b1.1 (show 0 < c by omega)
      have hp : 1 ≤ ρ 1 := by
        by_cases h : ρ 1 = 0
        · rw [h, Int.zero_emod] at q3
          omega
        · omega
      exact ⟨hp, ⟨by omega, by omega⟩, fun h => by omega, fun h => by omega, fun _ => by omega, fun h => by omega⟩
    have e : 1 ≤ ρ 1 := key2.out fun r c q => q.1
    exact ⟨⟨e, b1.2⟩, key2.imp fun r c q _ => q.2, trivial⟩
  exact ⟨qB (key.1) (nB), qB (key.2.1) (nB)⟩
def t_nb3 : KT := ((0, 0, 0, 0), [(2, 0, 40, 0), (1, 1, 0, 0), (1, 2, 0, 0), (1, 3, 0, 0), (1, 4, 0, 0), (1, 5, 0, 0)], [(0, 0), (0, 143), (3, 3), (1, 2147483647), (2, 12), (-2147483648, 2147483647)], [(95, [(2, 0, 40, 0), (1, 1, 0, 0)]), (9, [(2, 0, 40, 0), (1, 1, 0, 0), (1, 3, 0, 0)]), (8, [(2, 0, 40, 0), (1, 4, 0, 0)]), (24, [(1, 1, 0, 0), (1, 4, 0, 0), (1, 5, 0, 0)])], (0, 0, 0), [], [], ([(5, 0, 143)], [(20, [(2, 0, 40, 0), (1, 1, 0, 0), (1, 2, 0, 0), (1, 5, 0, 0)])]), ([], []))
set_option maxRecDepth 100000 in
theorem l_nb3 (g : GG) : LOK Yt (PSt g) t_nb3 := by
  intro ρ α Γ M as hT hB hA hP
  have g0 : Γ (α 0) = 40 := tyAt hA (i := 0) rfl
  have b1 : 0 ≤ ρ 1 ∧ ρ 1 ≤ 143 := hB 1
  have b2 : 3 ≤ ρ 2 ∧ ρ 2 ≤ 3 := hB 2
  have b3 : 1 ≤ ρ 3 ∧ ρ 3 ≤ 2147483647 := hB 3
  have b4 : 2 ≤ ρ 4 ∧ ρ 4 ≤ 12 := hB 4
  have b5 : -2147483648 ≤ ρ 5 ∧ ρ 5 ≤ 2147483647 := hB 5
  have h0 : nwE Γ M (α 0) fun r c => isPx r c (ρ 1 + 0) := hP _ (List.mem_of_getElem? (i := 0) rfl)
  have h1 : nwE Γ M (α 0) fun r c => ρ 3 + 0 = (ρ 1 + 0) / c := hP _ (List.mem_of_getElem? (i := 1) rfl)
  have h2 : nwE Γ M (α 0) fun r c => ρ 4 + 0 = c := hP _ (List.mem_of_getElem? (i := 2) rfl)
  have h3 : ρ 5 + 0 = wI ((ρ 1 + 0) - (ρ 4 + 0)) := hP _ (List.mem_of_getElem? (i := 3) rfl)
  try simp only [Int.add_zero] at h0 h1 h2 h3
  have key : (0 ≤ ρ 5 ∧ ρ 5 ≤ 143) ∧ (nwE Γ M (α 0) fun r c => ρ 5 + 0 ≠ -1 → isPx r c (ρ 5 + 0) ∧ nbQ r c (ρ 1 + 0) (ρ 2 + 0)) ∧ True := by
    try simp only [Int.add_zero]
    rw [wI_id (by unfold inI; omega)] at h3
    have key2 : nwE Γ M (α 0) fun r c => ρ 4 ≤ ρ 1 ∧ (isPx r c (ρ 5) ∧ nbQ r c (ρ 1) (ρ 2)) := (nw1 hT ((h0.and h1).and h2)).imp fun r c ⟨hr, hc, ⟨⟨q1, q2⟩, q3⟩, q4⟩ => by
      subst q4
      obtain ⟨-, -, y3, y4, y5, y6, y7⟩ := dm (p := ρ 1) b1.1 (show 0 < ρ 4 by omega)
      have l : ρ 4 * 1 ≤ ρ 4 * (ρ 1 / ρ 4) := Int.mul_le_mul_of_nonneg_left (by omega) (by omega)
      exact ⟨by omega, ⟨by omega, by omega⟩, fun h => by omega, fun h => by omega, fun h => by omega, fun _ => by omega⟩
    have e : ρ 4 ≤ ρ 1 := key2.out fun r c q => q.1
    exact ⟨⟨by omega, by omega⟩, key2.imp fun r c q _ => q.2, trivial⟩
  exact ⟨qB (key.1) (nB), qB (key.2.1) (nB)⟩
def t_nbe : KT := ((0, 0, 0, 0), [(2, 0, 40, 0), (1, 1, 0, 0), (1, 2, 0, 0), (1, 3, 0, 0)], [(0, 0), (0, 143), (-2147483648, 2147483647), (0, 2147483647)], [(20, [(2, 0, 40, 0), (1, 1, 0, 0), (1, 2, 0, 0), (1, 3, 0, 0)])], (0, 0, 0), [], [], ([], [(28, [(2, 0, 40, 0), (1, 1, 0, 0), (1, 2, 0, 0)])]), ([], []))
set_option maxRecDepth 100000 in
theorem l_nbe (g : GG) : LOK Yt (PSt g) t_nbe := by
  intro ρ α Γ M as hT hB hA hP
  have g0 : Γ (α 0) = 40 := tyAt hA (i := 0) rfl
  have b1 : 0 ≤ ρ 1 ∧ ρ 1 ≤ 143 := hB 1
  have b2 : -2147483648 ≤ ρ 2 ∧ ρ 2 ≤ 2147483647 := hB 2
  have b3 : 0 ≤ ρ 3 ∧ ρ 3 ≤ 2147483647 := hB 3
  have h0 : nwE Γ M (α 0) fun r c => ρ 3 + 0 ≠ -1 → isPx r c (ρ 3 + 0) ∧ nbQ r c (ρ 1 + 0) (ρ 2 + 0) := hP _ (List.mem_of_getElem? (i := 0) rfl)
  try simp only [Int.add_zero] at h0
  have key : (nwE Γ M (α 0) fun r c => nbQ r c (ρ 1 + 0) (ρ 2 + 0)) ∧ True := by
    try simp only [Int.add_zero]
    exact ⟨h0.imp fun r c q => (q (by omega)).2, trivial⟩
  exact ⟨nB, qB (key.1) (nB)⟩
def t_et2 : KT := ((0, 0, 0, 0), [(2, 0, 40, 0), (1, 1, 0, 0), (1, 2, 0, 0)], [(0, 0), (0, 143), (2, 2)], [(28, [(2, 0, 40, 0), (1, 1, 0, 0), (1, 2, 0, 0)])], (0, 0, 0), [], [], ([(1, 1, 143)], []), ([], []))
set_option maxRecDepth 100000 in
theorem l_et2 (g : GG) : LOK Yt (PSt g) t_et2 := by
  intro ρ α Γ M as hT hB hA hP
  have g0 : Γ (α 0) = 40 := tyAt hA (i := 0) rfl
  have b1 : 0 ≤ ρ 1 ∧ ρ 1 ≤ 143 := hB 1
  have b2 : 2 ≤ ρ 2 ∧ ρ 2 ≤ 2 := hB 2
  have h0 : nwE Γ M (α 0) fun r c => nbQ r c (ρ 1 + 0) (ρ 2 + 0) := hP _ (List.mem_of_getElem? (i := 0) rfl)
  try simp only [Int.add_zero] at h0
  have key : (1 ≤ ρ 1 ∧ ρ 1 ≤ 143) ∧ True := by
    try simp only [Int.add_zero]
    have e : 1 ≤ ρ 1 := (nw1 hT h0).out fun r c ⟨hr, hc, q1, q2, q3, q4⟩ => by
      have q3 := q3 (by omega)
      by_cases h : ρ 1 = 0
      · rw [h, Int.zero_emod] at q3
        omega
      · omega
    exact ⟨⟨e, b1.2⟩, trivial⟩
  exact ⟨qB (key.1) (nB), nB⟩
def t_et3 : KT := ((0, 0, 0, 0), [(2, 0, 40, 0), (1, 1, 0, 0), (1, 2, 0, 0), (1, 3, 0, 0), (1, 4, 0, 0)], [(0, 0), (0, 143), (3, 3), (2, 12), (-2147483648, 2147483647)], [(28, [(2, 0, 40, 0), (1, 1, 0, 0), (1, 2, 0, 0)]), (8, [(2, 0, 40, 0), (1, 3, 0, 0)]), (24, [(1, 1, 0, 0), (1, 3, 0, 0), (1, 4, 0, 0)])], (0, 0, 0), [], [], ([(4, 0, 143)], []), ([], []))
set_option maxRecDepth 100000 in
theorem l_et3 (g : GG) : LOK Yt (PSt g) t_et3 := by
  intro ρ α Γ M as hT hB hA hP
  have g0 : Γ (α 0) = 40 := tyAt hA (i := 0) rfl
  have b1 : 0 ≤ ρ 1 ∧ ρ 1 ≤ 143 := hB 1
  have b2 : 3 ≤ ρ 2 ∧ ρ 2 ≤ 3 := hB 2
  have b3 : 2 ≤ ρ 3 ∧ ρ 3 ≤ 12 := hB 3
  have b4 : -2147483648 ≤ ρ 4 ∧ ρ 4 ≤ 2147483647 := hB 4
  have h0 : nwE Γ M (α 0) fun r c => nbQ r c (ρ 1 + 0) (ρ 2 + 0) := hP _ (List.mem_of_getElem? (i := 0) rfl)
  have h1 : nwE Γ M (α 0) fun r c => ρ 3 + 0 = c := hP _ (List.mem_of_getElem? (i := 1) rfl)
  have h2 : ρ 4 + 0 = wI ((ρ 1 + 0) - (ρ 3 + 0)) := hP _ (List.mem_of_getElem? (i := 2) rfl)
  try simp only [Int.add_zero] at h0 h1 h2
  have key : (0 ≤ ρ 4 ∧ ρ 4 ≤ 143) ∧ True := by
    try simp only [Int.add_zero]
    rw [wI_id (by unfold inI; omega)] at h2
    have e : ρ 3 ≤ ρ 1 := (h0.and h1).out fun r c ⟨⟨q1, q2, q3, q4⟩, q5⟩ => by have := q4 (by omega); omega
    exact ⟨⟨by omega, by omega⟩, trivial⟩
  exact ⟨qB (key.1) (nB), nB⟩
def t_np0 : KT := ((0, 0, 0, 0), [(1, 0, 0, 0), (1, 1, 0, 0)], [(-1, -1), (-2147483648, 2147483647)], [], (0, 0, 0), [], [], ([], [(99, [(1, 0, 0, 0), (1, 1, 0, 0)])]), ([], []))
set_option maxRecDepth 100000 in
theorem l_np0 (g : GG) : LOK Yt (PSt g) t_np0 := by
  intro ρ α Γ M as hT hB hA hP
  have b0 : -1 ≤ ρ 0 ∧ ρ 0 ≤ -1 := hB 0
  have b1 : -2147483648 ≤ ρ 1 ∧ ρ 1 ≤ 2147483647 := hB 1
  have key : ((ρ 0 + 0 : Int) = -1 ∨ 0 ≤ ρ 1 + 0) ∧ True := by
    try simp only [Int.add_zero]
    exact ⟨Or.inl (by omega), trivial⟩
  exact ⟨nB, qB (key.1) (nB)⟩
def t_np1 : KT := ((0, 0, 0, 0), [(1, 0, 0, 0), (1, 1, 0, 0)], [(-2147483648, 2147483647), (0, 2147483647)], [], (0, 0, 0), [], [], ([], [(99, [(1, 0, 0, 0), (1, 1, 0, 0)])]), ([], []))
set_option maxRecDepth 100000 in
theorem l_np1 (g : GG) : LOK Yt (PSt g) t_np1 := by
  intro ρ α Γ M as hT hB hA hP
  have b0 : -2147483648 ≤ ρ 0 ∧ ρ 0 ≤ 2147483647 := hB 0
  have b1 : 0 ≤ ρ 1 ∧ ρ 1 ≤ 2147483647 := hB 1
  have key : ((ρ 0 + 0 : Int) = -1 ∨ 0 ≤ ρ 1 + 0) ∧ True := by
    try simp only [Int.add_zero]
    exact ⟨Or.inr b1.1, trivial⟩
  exact ⟨nB, qB (key.1) (nB)⟩
def t_np2 : KT := ((0, 0, 0, 0), [(1, 0, 0, 0), (1, 1, 0, 0)], [(0, 2147483647), (-2147483648, 2147483647)], [(99, [(1, 0, 0, 0), (1, 1, 0, 0)])], (0, 0, 0), [], [], ([(1, 0, 2147483647)], []), ([], []))
set_option maxRecDepth 100000 in
theorem l_np2 (g : GG) : LOK Yt (PSt g) t_np2 := by
  intro ρ α Γ M as hT hB hA hP
  have b0 : 0 ≤ ρ 0 ∧ ρ 0 ≤ 2147483647 := hB 0
  have b1 : -2147483648 ≤ ρ 1 ∧ ρ 1 ≤ 2147483647 := hB 1
  have h0 : (ρ 0 + 0 : Int) = -1 ∨ 0 ≤ ρ 1 + 0 := hP _ (List.mem_of_getElem? (i := 0) rfl)
  try simp only [Int.add_zero] at h0
  have key : (0 ≤ ρ 1 ∧ ρ 1 ≤ 2147483647) ∧ True := by
    try simp only [Int.add_zero]
    exact ⟨⟨by omega, b1.2⟩, trivial⟩
  exact ⟨qB (key.1) (nB), nB⟩
def t_lebr : KT := ((0, 0, 0, 0), [(1, 0, 0, 0), (1, 1, 0, 0)], [(-2147483648, 2147483647), (0, 143)], [(6, [(1, 0, 0, 0), (1, 1, 0, 0)])], (0, 0, 0), [], [], ([(0, -2147483648, 143)], []), ([], []))
set_option maxRecDepth 100000 in
theorem l_lebr (g : GG) : LOK Yt (PSt g) t_lebr := by
  intro ρ α Γ M as hT hB hA hP
  have b0 : -2147483648 ≤ ρ 0 ∧ ρ 0 ≤ 2147483647 := hB 0
  have b1 : 0 ≤ ρ 1 ∧ ρ 1 ≤ 143 := hB 1
  have h0 : ρ 0 + 0 ≤ ρ 1 + 0 := hP _ (List.mem_of_getElem? (i := 0) rfl)
  try simp only [Int.add_zero] at h0
  have key : (-2147483648 ≤ ρ 0 ∧ ρ 0 ≤ 143) ∧ True := by
    try simp only [Int.add_zero]
    exact ⟨⟨b0.1, by omega⟩, trivial⟩
  exact ⟨qB (key.1) (nB), nB⟩
def t_acto : KT := ((0, 0, 0, 0), [(1, 0, 0, 0), (1, 1, 0, 0), (1, 2, 0, 0), (1, 3, 0, 0), (1, 4, 0, 0)], [(0, 11), (-2147483648, 2147483647), (0, 2313), (-2147483648, 2147483647), (-2147483648, 2147483647)], [(25, [(1, 0, 0, 0), (0, 0, 0, 2314), (1, 1, 0, 0)]), (23, [(1, 1, 0, 0), (1, 2, 0, 0), (1, 3, 0, 0)]), (7, [(0, 0, 0, 41), (1, 2, 0, 0), (1, 4, 0, 0)])], (0, 0, 0), [], [], ([(3, 0, 27767)], [(7, [(0, 0, 0, 43), (1, 3, 0, 0), (1, 4, 0, 0)])]), ([], []))
set_option maxRecDepth 100000 in
theorem l_acto (g : GG) : LOK Yt (PSt g) t_acto := by
  intro ρ α Γ M as hT hB hA hP
  have b0 : 0 ≤ ρ 0 ∧ ρ 0 ≤ 11 := hB 0
  have b1 : -2147483648 ≤ ρ 1 ∧ ρ 1 ≤ 2147483647 := hB 1
  have b2 : 0 ≤ ρ 2 ∧ ρ 2 ≤ 2313 := hB 2
  have b3 : -2147483648 ≤ ρ 3 ∧ ρ 3 ≤ 2147483647 := hB 3
  have b4 : -2147483648 ≤ ρ 4 ∧ ρ 4 ≤ 2147483647 := hB 4
  have h0 : ρ 1 + 0 = wI ((ρ 0 + 0) * (2314)) := hP _ (List.mem_of_getElem? (i := 0) rfl)
  have h1 : ρ 3 + 0 = wI ((ρ 1 + 0) + (ρ 2 + 0)) := hP _ (List.mem_of_getElem? (i := 1) rfl)
  have h2 : 0 ≤ (41 : Int) ∧ ∀ r ∈ (Yt (41 : Int).toNat).2.2.1, (r.1 : Int) ≤ ρ 2 + 0 → ρ 2 + 0 < (r.2.1 : Int) → r.2.2.1 ≤ ρ 4 + 0 ∧ ρ 4 + 0 ≤ r.2.2.2 := hP _ (List.mem_of_getElem? (i := 2) rfl)
  try simp only [Int.add_zero] at h0 h1 h2
  have key : (0 ≤ ρ 3 ∧ ρ 3 ≤ 27767) ∧ (0 ≤ (43 : Int) ∧ ∀ r ∈ (Yt (43 : Int).toNat).2.2.1, (r.1 : Int) ≤ ρ 3 + 0 → ρ 3 + 0 < (r.2.1 : Int) → r.2.2.1 ≤ ρ 4 + 0 ∧ ρ 4 + 0 ≤ r.2.2.2) ∧ True := by
    try simp only [Int.add_zero]
    rw [wI_id (by unfold inI; omega)] at h0
    rw [h0, wI_id (by unfold inI; omega)] at h1
    exact ⟨⟨by omega, by omega⟩, ⟨by decide, ac_to b0 b2 h1 h2.2⟩, trivial⟩
  exact ⟨qB (key.1) (nB), qB (key.2.1) (nB)⟩
def t_acfr0 : KT := ((0, 0, 0, 0), [(1, 0, 0, 0), (1, 1, 0, 0), (1, 2, 0, 0), (1, 3, 0, 0)], [(0, 11), (-2147483648, 2147483647), (0, 2313), (-2147483648, 2147483647)], [(25, [(1, 0, 0, 0), (0, 0, 0, 2314), (1, 1, 0, 0)]), (23, [(1, 1, 0, 0), (1, 2, 0, 0), (1, 3, 0, 0)])], (0, 0, 0), [], [], ([(3, 0, 27767)], []), ([], []))
set_option maxRecDepth 100000 in
theorem l_acfr0 (g : GG) : LOK Yt (PSt g) t_acfr0 := by
  intro ρ α Γ M as hT hB hA hP
  have b0 : 0 ≤ ρ 0 ∧ ρ 0 ≤ 11 := hB 0
  have b1 : -2147483648 ≤ ρ 1 ∧ ρ 1 ≤ 2147483647 := hB 1
  have b2 : 0 ≤ ρ 2 ∧ ρ 2 ≤ 2313 := hB 2
  have b3 : -2147483648 ≤ ρ 3 ∧ ρ 3 ≤ 2147483647 := hB 3
  have h0 : ρ 1 + 0 = wI ((ρ 0 + 0) * (2314)) := hP _ (List.mem_of_getElem? (i := 0) rfl)
  have h1 : ρ 3 + 0 = wI ((ρ 1 + 0) + (ρ 2 + 0)) := hP _ (List.mem_of_getElem? (i := 1) rfl)
  try simp only [Int.add_zero] at h0 h1
  have key : (0 ≤ ρ 3 ∧ ρ 3 ≤ 27767) ∧ True := by
    try simp only [Int.add_zero]
    rw [wI_id (by unfold inI; omega)] at h0
    rw [h0, wI_id (by unfold inI; omega)] at h1
    exact ⟨⟨by omega, by omega⟩, trivial⟩
  exact ⟨qB (key.1) (nB), nB⟩
def t_acfr : KT := ((0, 0, 0, 0), [(1, 0, 0, 0), (1, 1, 0, 0), (1, 2, 0, 0), (1, 3, 0, 0), (1, 4, 0, 0)], [(0, 11), (-2147483648, 2147483647), (0, 2313), (-2147483648, 2147483647), (-2147483648, 2147483647)], [(25, [(1, 0, 0, 0), (0, 0, 0, 2314), (1, 1, 0, 0)]), (23, [(1, 1, 0, 0), (1, 2, 0, 0), (1, 3, 0, 0)]), (7, [(0, 0, 0, 43), (1, 3, 0, 0), (1, 4, 0, 0)])], (0, 0, 0), [], [], ([], [(7, [(0, 0, 0, 41), (1, 2, 0, 0), (1, 4, 0, 0)])]), ([], []))
set_option maxRecDepth 100000 in
theorem l_acfr (g : GG) : LOK Yt (PSt g) t_acfr := by
  intro ρ α Γ M as hT hB hA hP
  have b0 : 0 ≤ ρ 0 ∧ ρ 0 ≤ 11 := hB 0
  have b1 : -2147483648 ≤ ρ 1 ∧ ρ 1 ≤ 2147483647 := hB 1
  have b2 : 0 ≤ ρ 2 ∧ ρ 2 ≤ 2313 := hB 2
  have b3 : -2147483648 ≤ ρ 3 ∧ ρ 3 ≤ 2147483647 := hB 3
  have b4 : -2147483648 ≤ ρ 4 ∧ ρ 4 ≤ 2147483647 := hB 4
  have h0 : ρ 1 + 0 = wI ((ρ 0 + 0) * (2314)) := hP _ (List.mem_of_getElem? (i := 0) rfl)
  have h1 : ρ 3 + 0 = wI ((ρ 1 + 0) + (ρ 2 + 0)) := hP _ (List.mem_of_getElem? (i := 1) rfl)
  have h2 : 0 ≤ (43 : Int) ∧ ∀ r ∈ (Yt (43 : Int).toNat).2.2.1, (r.1 : Int) ≤ ρ 3 + 0 → ρ 3 + 0 < (r.2.1 : Int) → r.2.2.1 ≤ ρ 4 + 0 ∧ ρ 4 + 0 ≤ r.2.2.2 := hP _ (List.mem_of_getElem? (i := 2) rfl)
  try simp only [Int.add_zero] at h0 h1 h2
  have key : (0 ≤ (41 : Int) ∧ ∀ r ∈ (Yt (41 : Int).toNat).2.2.1, (r.1 : Int) ≤ ρ 2 + 0 → ρ 2 + 0 < (r.2.1 : Int) → r.2.2.1 ≤ ρ 4 + 0 ∧ ρ 4 + 0 ≤ r.2.2.2) ∧ True := by
    try simp only [Int.add_zero]
    rw [wI_id (by unfold inI; omega)] at h0
    rw [h0, wI_id (by unfold inI; omega)] at h1
    exact ⟨⟨by decide, ac_from b0 b2 b4 h1 h2.2⟩, trivial⟩
  exact ⟨nB, qB (key.1) (nB)⟩
def t_ml0 : KT := ((0, 0, 0, 0), [(2, 0, 40, 0), (1, 1, 0, 0), (1, 2, 0, 0)], [(0, 0), (0, 1000), (0, 2147483647)], [(77, [(2, 0, 40, 0), (1, 1, 0, 0), (0, 0, 0, 0)]), (78, [(0, 0, 0, 0)]), (10, [(2, 0, 40, 0), (0, 0, 0, 5), (1, 2, 0, 0)])], (0, 0, 0), [], [], ([(2, 0, 999999)], [(59, [(1, 2, 0, 0), (1, 1, 0, 0)])]), ([], []))
set_option maxRecDepth 100000 in
theorem l_ml0 (g : GG) : LOK Yt (PSt g) t_ml0 := by
  intro ρ α Γ M as hT hB hA hP
  have g0 : Γ (α 0) = 40 := tyAt hA (i := 0) rfl
  have b1 : 0 ≤ ρ 1 ∧ ρ 1 ≤ 1000 := hB 1
  have b2 : 0 ≤ ρ 2 ∧ ρ 2 ≤ 2147483647 := hB 2
  have h0 : Γ (α 0) = 40 ∧ M.2.2.2.2 (α 0) 5 ≤ (g.2.1 : Int) + (ρ 1 + 0) := hP _ (List.mem_of_getElem? (i := 0) rfl)
  have h1 : (0 : Int) = 0 ∧ (g.2.1 : Int) ≤ 900000 := hP _ (List.mem_of_getElem? (i := 1) rfl)
  have h2 : 0 ≤ (5 : Int) ∧ M.2.2.2.2 (α 0) (5 : Int).toNat = ρ 2 + 0 := hP _ (List.mem_of_getElem? (i := 2) rfl)
  try simp only [Int.add_zero] at h0 h1 h2
  have key : (0 ≤ ρ 2 ∧ ρ 2 ≤ 999999) ∧ (ρ 2 + 0 ≤ (g.2.1 : Int) + (ρ 1 + 0)) ∧ True := by
    try simp only [Int.add_zero]
    have e : M.2.2.2.2 (α 0) 5 = ρ 2 := h2.2
    have h0 := h0.2
    have h1 : (g.2.1 : Int) ≤ 900000 := (show P78 g [vi 0] Γ M from hP _ (List.mem_of_getElem? (i := 1) rfl)).2
    exact ⟨⟨b2.1, by omega⟩, by omega, trivial⟩
  exact ⟨qB (key.1) (nB), qB (key.2.1) (nB)⟩
def t_ml1 : KT := ((0, 0, 0, 0), [(2, 0, 40, 0), (1, 1, 0, 0), (1, 2, 0, 0)], [(0, 0), (0, 1000), (0, 2147483647)], [(59, [(1, 2, 0, -1), (1, 1, 0, 0)]), (10, [(2, 0, 40, 0), (0, 0, 0, 5), (1, 2, 0, 0)])], (0, 0, 0), [], [], ([], [(77, [(2, 0, 40, 0), (1, 1, 0, 1), (0, 0, 0, 0)])]), ([], []))
set_option maxRecDepth 100000 in
theorem l_ml1 (g : GG) : LOK Yt (PSt g) t_ml1 := by
  intro ρ α Γ M as hT hB hA hP
  have g0 : Γ (α 0) = 40 := tyAt hA (i := 0) rfl
  have b1 : 0 ≤ ρ 1 ∧ ρ 1 ≤ 1000 := hB 1
  have b2 : 0 ≤ ρ 2 ∧ ρ 2 ≤ 2147483647 := hB 2
  have h0 : ρ 2 + (-1) ≤ (g.2.1 : Int) + (ρ 1 + 0) := hP _ (List.mem_of_getElem? (i := 0) rfl)
  have h1 : 0 ≤ (5 : Int) ∧ M.2.2.2.2 (α 0) (5 : Int).toNat = ρ 2 + 0 := hP _ (List.mem_of_getElem? (i := 1) rfl)
  try simp only [Int.add_zero] at h0 h1
  have key : (Γ (α 0) = 40 ∧ M.2.2.2.2 (α 0) 5 ≤ (g.2.1 : Int) + (ρ 1 + 1)) ∧ True := by
    try simp only [Int.add_zero]
    have e : M.2.2.2.2 (α 0) 5 = ρ 2 := h1.2
    exact ⟨⟨g0, by omega⟩, trivial⟩
  exact ⟨nB, qB (key.1) (nB)⟩
def t_mw77 : KT := ((0, 0, 0, 0), [(2, 0, 40, 0), (1, 1, 0, 0)], [(0, 0), (0, 150)], [(77, [(2, 0, 40, 0), (1, 1, 0, 0), (0, 0, 0, 0)])], (0, 0, 0), [], [], ([], [(77, [(2, 0, 40, 0), (0, 0, 0, 150), (0, 0, 0, 0)])]), ([], []))
set_option maxRecDepth 100000 in
theorem l_mw77 (g : GG) : LOK Yt (PSt g) t_mw77 := by
  intro ρ α Γ M as hT hB hA hP
  have g0 : Γ (α 0) = 40 := tyAt hA (i := 0) rfl
  have b1 : 0 ≤ ρ 1 ∧ ρ 1 ≤ 150 := hB 1
  have h0 : Γ (α 0) = 40 ∧ M.2.2.2.2 (α 0) 5 ≤ (g.2.1 : Int) + (ρ 1 + 0) := hP _ (List.mem_of_getElem? (i := 0) rfl)
  try simp only [Int.add_zero] at h0
  have key : (Γ (α 0) = 40 ∧ M.2.2.2.2 (α 0) 5 ≤ (g.2.1 : Int) + (150)) ∧ True := by
    try simp only [Int.add_zero]
    obtain ⟨-, h4⟩ := h0
    exact ⟨⟨g0, by omega⟩, trivial⟩
  exact ⟨nB, qB (key.1) (nB)⟩
def t_r76 : KT := ((0, 0, 0, 0), [(2, 0, 40, 0), (1, 1, 0, 0), (1, 2, 0, 0)], [(0, 0), (0, 2147483647), (-2147483648, 2147483647)], [(95, [(2, 0, 40, 0), (1, 1, 0, 0)]), (9, [(2, 0, 40, 0), (1, 1, 0, 0), (1, 2, 0, 0)])], (0, 0, 0), [], [], ([], [(76, [(2, 0, 40, 0), (1, 2, 0, 0)])]), ([], []))
set_option maxRecDepth 100000 in
theorem l_r76 (g : GG) : LOK Yt (PSt g) t_r76 := by
  intro ρ α Γ M as hT hB hA hP
  have g0 : Γ (α 0) = 40 := tyAt hA (i := 0) rfl
  have b1 : 0 ≤ ρ 1 ∧ ρ 1 ≤ 2147483647 := hB 1
  have b2 : -2147483648 ≤ ρ 2 ∧ ρ 2 ≤ 2147483647 := hB 2
  have h0 : nwE Γ M (α 0) fun r c => isPx r c (ρ 1 + 0) := hP _ (List.mem_of_getElem? (i := 0) rfl)
  have h1 : nwE Γ M (α 0) fun r c => ρ 2 + 0 = (ρ 1 + 0) / c := hP _ (List.mem_of_getElem? (i := 1) rfl)
  try simp only [Int.add_zero] at h0 h1
  have key : (nwE Γ M (α 0) fun r c => ρ 2 + 0 < r) ∧ True := by
    try simp only [Int.add_zero]
    exact ⟨(nw1 hT (h0.and h1)).imp fun r c ⟨hr, hc, ⟨q1, q2⟩, q3⟩ => by
      rw [q3]
      exact row_lt (by omega) q2, trivial⟩
  exact ⟨nB, qB (key.1) (nB)⟩
def t_r76k : KT := ((0, 0, 0, 0), [(2, 0, 40, 0), (1, 1, 0, 0), (1, 2, 0, 0)], [(0, 0), (-2147483648, 2147483647), (-2147483648, 2147483647)], [(21, [(1, 1, 0, 0), (1, 2, 0, 0)]), (93, [(2, 0, 40, 0), (1, 2, 0, 0)])], (0, 0, 0), [], [], ([], [(76, [(2, 0, 40, 0), (1, 1, 0, 0)])]), ([], []))
set_option maxRecDepth 100000 in
theorem l_r76k (g : GG) : LOK Yt (PSt g) t_r76k := by
  intro ρ α Γ M as hT hB hA hP
  have g0 : Γ (α 0) = 40 := tyAt hA (i := 0) rfl
  have b1 : -2147483648 ≤ ρ 1 ∧ ρ 1 ≤ 2147483647 := hB 1
  have b2 : -2147483648 ≤ ρ 2 ∧ ρ 2 ≤ 2147483647 := hB 2
  have h0 : ρ 1 + 0 < ρ 2 + 0 := hP _ (List.mem_of_getElem? (i := 0) rfl)
  have h1 : nwE Γ M (α 0) fun r c => ρ 2 + 0 = r := hP _ (List.mem_of_getElem? (i := 1) rfl)
  try simp only [Int.add_zero] at h0 h1
  have key : (nwE Γ M (α 0) fun r c => ρ 1 + 0 < r) ∧ True := by
    try simp only [Int.add_zero]
    exact ⟨h1.imp fun r c q => by omega, trivial⟩
  exact ⟨nB, qB (key.1) (nB)⟩
def t_r76d : KT := ((0, 0, 0, 0), [(2, 0, 40, 0), (1, 1, 0, 0)], [(0, 0), (-2147483648, 2147483647)], [(76, [(2, 0, 40, 0), (1, 1, 0, 1)])], (0, 0, 0), [], [], ([], [(76, [(2, 0, 40, 0), (1, 1, 0, 0)])]), ([], []))
set_option maxRecDepth 100000 in
theorem l_r76d (g : GG) : LOK Yt (PSt g) t_r76d := by
  intro ρ α Γ M as hT hB hA hP
  have g0 : Γ (α 0) = 40 := tyAt hA (i := 0) rfl
  have b1 : -2147483648 ≤ ρ 1 ∧ ρ 1 ≤ 2147483647 := hB 1
  have h0 : nwE Γ M (α 0) fun r c => ρ 1 + 1 < r := hP _ (List.mem_of_getElem? (i := 0) rfl)
  try simp only [Int.add_zero] at h0
  have key : (nwE Γ M (α 0) fun r c => ρ 1 + 0 < r) ∧ True := by
    try simp only [Int.add_zero]
    exact ⟨h0.imp fun r c q => by omega, trivial⟩
  exact ⟨nB, qB (key.1) (nB)⟩
def t_r76b : KT := ((0, 0, 0, 0), [(2, 0, 40, 0), (1, 1, 0, 0), (1, 2, 0, 0), (1, 3, 0, 0)], [(0, 0), (0, 2147483647), (-2147483648, 2147483647), (-2147483648, 2147483647)], [(95, [(2, 0, 40, 0), (1, 1, 0, 0)]), (9, [(2, 0, 40, 0), (1, 1, 0, 0), (1, 2, 0, 0)]), (21, [(1, 3, 0, 0), (1, 2, 0, 0)])], (0, 0, 0), [], [], ([], [(76, [(2, 0, 40, 0), (1, 3, 0, 1)])]), ([], []))
set_option maxRecDepth 100000 in
theorem l_r76b (g : GG) : LOK Yt (PSt g) t_r76b := by
  intro ρ α Γ M as hT hB hA hP
  have g0 : Γ (α 0) = 40 := tyAt hA (i := 0) rfl
  have b1 : 0 ≤ ρ 1 ∧ ρ 1 ≤ 2147483647 := hB 1
  have b2 : -2147483648 ≤ ρ 2 ∧ ρ 2 ≤ 2147483647 := hB 2
  have b3 : -2147483648 ≤ ρ 3 ∧ ρ 3 ≤ 2147483647 := hB 3
  have h0 : nwE Γ M (α 0) fun r c => isPx r c (ρ 1 + 0) := hP _ (List.mem_of_getElem? (i := 0) rfl)
  have h1 : nwE Γ M (α 0) fun r c => ρ 2 + 0 = (ρ 1 + 0) / c := hP _ (List.mem_of_getElem? (i := 1) rfl)
  have h2 : ρ 3 + 0 < ρ 2 + 0 := hP _ (List.mem_of_getElem? (i := 2) rfl)
  try simp only [Int.add_zero] at h0 h1 h2
  have key : (nwE Γ M (α 0) fun r c => ρ 3 + 1 < r) ∧ True := by
    try simp only [Int.add_zero]
    exact ⟨(nw1 hT (h0.and h1)).imp fun r c ⟨hr, hc, ⟨q1, q2⟩, q3⟩ => by
      have := row_lt (show 0 < c by omega) q2
      omega, trivial⟩
  exact ⟨nB, qB (key.1) (nB)⟩
def t_c21 : KT := ((0, 0, 0, 0), [(2, 0, 40, 0), (1, 1, 0, 0), (1, 2, 0, 0), (1, 3, 0, 0)], [(0, 0), (0, 2147483647), (-2147483648, 2147483647), (-2147483648, 2147483647)], [(96, [(2, 0, 40, 0), (1, 1, 0, 0), (1, 2, 0, 0)]), (8, [(2, 0, 40, 0), (1, 3, 0, 0)])], (0, 0, 0), [], [], ([], [(21, [(1, 2, 0, 0), (1, 3, 0, 0)])]), ([], []))
set_option maxRecDepth 100000 in
theorem l_c21 (g : GG) : LOK Yt (PSt g) t_c21 := by
  intro ρ α Γ M as hT hB hA hP
  have g0 : Γ (α 0) = 40 := tyAt hA (i := 0) rfl
  have b1 : 0 ≤ ρ 1 ∧ ρ 1 ≤ 2147483647 := hB 1
  have b2 : -2147483648 ≤ ρ 2 ∧ ρ 2 ≤ 2147483647 := hB 2
  have b3 : -2147483648 ≤ ρ 3 ∧ ρ 3 ≤ 2147483647 := hB 3
  have h0 : nwE Γ M (α 0) fun r c => ρ 2 + 0 = (ρ 1 + 0) % c := hP _ (List.mem_of_getElem? (i := 0) rfl)
  have h1 : nwE Γ M (α 0) fun r c => ρ 3 + 0 = c := hP _ (List.mem_of_getElem? (i := 1) rfl)
  try simp only [Int.add_zero] at h0 h1
  have key : (ρ 2 + 0 < ρ 3 + 0) ∧ True := by
    try simp only [Int.add_zero]
    exact ⟨(nw1 hT (h0.and h1)).out fun r c ⟨hr, hc, q1, q2⟩ => by
      rw [q1, q2]
      exact Int.emod_lt_of_pos _ (by omega), trivial⟩
  exact ⟨nB, qB (key.1) (nB)⟩
def t_ltd : KT := ((0, 0, 0, 0), [(1, 0, 0, 0), (1, 1, 0, 0)], [(-2147483648, 2147483647), (-2147483648, 2147483647)], [(21, [(1, 0, 0, 1), (1, 1, 0, 0)])], (0, 0, 0), [], [], ([], [(21, [(1, 0, 0, 0), (1, 1, 0, 0)])]), ([], []))
set_option maxRecDepth 100000 in
theorem l_ltd (g : GG) : LOK Yt (PSt g) t_ltd := by
  intro ρ α Γ M as hT hB hA hP
  have b0 : -2147483648 ≤ ρ 0 ∧ ρ 0 ≤ 2147483647 := hB 0
  have b1 : -2147483648 ≤ ρ 1 ∧ ρ 1 ≤ 2147483647 := hB 1
  have h0 : ρ 0 + 1 < ρ 1 + 0 := hP _ (List.mem_of_getElem? (i := 0) rfl)
  try simp only [Int.add_zero] at h0
  have key : (ρ 0 + 0 < ρ 1 + 0) ∧ True := by
    try simp only [Int.add_zero]
    exact ⟨by omega, trivial⟩
  exact ⟨nB, qB (key.1) (nB)⟩
def t_rc : KT := ((0, 0, 0, 0), [(2, 0, 40, 0), (1, 1, 0, 0), (1, 2, 0, 0), (1, 3, 0, 0), (1, 4, 0, 0), (1, 5, 0, 0)], [(0, 0), (-2147483648, 2147483647), (0, 2147483647), (0, 2147483647), (-2147483648, 2147483647), (-2147483648, 2147483647)], [(76, [(2, 0, 40, 0), (1, 2, 0, 0)]), (8, [(2, 0, 40, 0), (1, 1, 0, 0)]), (21, [(1, 3, 0, 0), (1, 1, 0, 0)]), (25, [(1, 2, 0, 0), (1, 1, 0, 0), (1, 4, 0, 0)]), (23, [(1, 4, 0, 0), (1, 3, 0, 0), (1, 5, 0, 0)])], (0, 0, 0), [], [], ([(5, 0, 143)], [(95, [(2, 0, 40, 0), (1, 5, 0, 0)])]), ([], []))
set_option maxRecDepth 100000 in
theorem l_rc (g : GG) : LOK Yt (PSt g) t_rc := by
  intro ρ α Γ M as hT hB hA hP
  have g0 : Γ (α 0) = 40 := tyAt hA (i := 0) rfl
  have b1 : -2147483648 ≤ ρ 1 ∧ ρ 1 ≤ 2147483647 := hB 1
  have b2 : 0 ≤ ρ 2 ∧ ρ 2 ≤ 2147483647 := hB 2
  have b3 : 0 ≤ ρ 3 ∧ ρ 3 ≤ 2147483647 := hB 3
  have b4 : -2147483648 ≤ ρ 4 ∧ ρ 4 ≤ 2147483647 := hB 4
  have b5 : -2147483648 ≤ ρ 5 ∧ ρ 5 ≤ 2147483647 := hB 5
  have h0 : nwE Γ M (α 0) fun r c => ρ 2 + 0 < r := hP _ (List.mem_of_getElem? (i := 0) rfl)
  have h1 : nwE Γ M (α 0) fun r c => ρ 1 + 0 = c := hP _ (List.mem_of_getElem? (i := 1) rfl)
  have h2 : ρ 3 + 0 < ρ 1 + 0 := hP _ (List.mem_of_getElem? (i := 2) rfl)
  have h3 : ρ 4 + 0 = wI ((ρ 2 + 0) * (ρ 1 + 0)) := hP _ (List.mem_of_getElem? (i := 3) rfl)
  have h4 : ρ 5 + 0 = wI ((ρ 4 + 0) + (ρ 3 + 0)) := hP _ (List.mem_of_getElem? (i := 4) rfl)
  try simp only [Int.add_zero] at h0 h1 h2 h3 h4
  have key : (0 ≤ ρ 5 ∧ ρ 5 ≤ 143) ∧ (nwE Γ M (α 0) fun r c => isPx r c (ρ 5 + 0)) ∧ True := by
    try simp only [Int.add_zero]
    have key2 : nwE Γ M (α 0) fun r c => (0 ≤ ρ 5 ∧ ρ 5 ≤ 143) ∧ isPx r c (ρ 5) := (nw1 hT (h0.and h1)).imp fun r c ⟨hr, hc, q1, q2⟩ => by
      subst q2
      have l1 : 0 ≤ ρ 2 * ρ 1 := Int.mul_nonneg b2.1 (by omega)
      have l2 : ρ 2 * ρ 1 ≤ (r - 1) * ρ 1 := Int.mul_le_mul_of_nonneg_right (by omega) (by omega)
      have l3 : (r - 1) * ρ 1 = r * ρ 1 - ρ 1 := by rw [Int.sub_mul, Int.one_mul]
      have hrc := rc_bd hr hc
      have e4 : ρ 4 = ρ 2 * ρ 1 := by rw [h3, wI_id (by unfold inI; omega)]
      have e5 : ρ 5 = ρ 4 + ρ 3 := by rw [h4, wI_id (by unfold inI; omega)]
      exact ⟨⟨by omega, by omega⟩, by omega, by omega⟩
    exact ⟨key2.out fun _ _ q => q.1, key2.imp fun _ _ q => q.2, trivial⟩
  exact ⟨qB (key.1) (nB), qB (key.2.1) (nB)⟩
def t_rc1 : KT := ((0, 0, 0, 0), [(2, 0, 40, 0), (1, 1, 0, 0), (1, 2, 0, 0), (1, 3, 0, 0), (1, 4, 0, 0), (1, 5, 0, 0), (1, 6, 0, 0), (1, 7, 0, 0)], [(0, 0), (-2147483648, 2147483647), (0, 2147483647), (0, 2147483647), (0, 2147483647), (-2147483648, 2147483647), (-2147483648, 2147483647), (-2147483648, 2147483647)], [(76, [(2, 0, 40, 0), (1, 2, 0, 0)]), (8, [(2, 0, 40, 0), (1, 1, 0, 0)]), (96, [(2, 0, 40, 0), (1, 4, 0, 0), (1, 5, 0, 0)]), (21, [(1, 3, 0, 0), (1, 5, 0, 0)]), (25, [(1, 2, 0, 0), (1, 1, 0, 0), (1, 6, 0, 0)]), (23, [(1, 6, 0, 0), (1, 3, 0, 0), (1, 7, 0, 0)])], (0, 0, 0), [], [], ([(7, 0, 142)], []), ([], []))
set_option maxRecDepth 100000 in
theorem l_rc1 (g : GG) : LOK Yt (PSt g) t_rc1 := by
  intro ρ α Γ M as hT hB hA hP
  have g0 : Γ (α 0) = 40 := tyAt hA (i := 0) rfl
  have b1 : -2147483648 ≤ ρ 1 ∧ ρ 1 ≤ 2147483647 := hB 1
  have b2 : 0 ≤ ρ 2 ∧ ρ 2 ≤ 2147483647 := hB 2
  have b3 : 0 ≤ ρ 3 ∧ ρ 3 ≤ 2147483647 := hB 3
  have b4 : 0 ≤ ρ 4 ∧ ρ 4 ≤ 2147483647 := hB 4
  have b5 : -2147483648 ≤ ρ 5 ∧ ρ 5 ≤ 2147483647 := hB 5
  have b6 : -2147483648 ≤ ρ 6 ∧ ρ 6 ≤ 2147483647 := hB 6
  have b7 : -2147483648 ≤ ρ 7 ∧ ρ 7 ≤ 2147483647 := hB 7
  have h0 : nwE Γ M (α 0) fun r c => ρ 2 + 0 < r := hP _ (List.mem_of_getElem? (i := 0) rfl)
  have h1 : nwE Γ M (α 0) fun r c => ρ 1 + 0 = c := hP _ (List.mem_of_getElem? (i := 1) rfl)
  have h2 : nwE Γ M (α 0) fun r c => ρ 5 + 0 = (ρ 4 + 0) % c := hP _ (List.mem_of_getElem? (i := 2) rfl)
  have h3 : ρ 3 + 0 < ρ 5 + 0 := hP _ (List.mem_of_getElem? (i := 3) rfl)
  have h4 : ρ 6 + 0 = wI ((ρ 2 + 0) * (ρ 1 + 0)) := hP _ (List.mem_of_getElem? (i := 4) rfl)
  have h5 : ρ 7 + 0 = wI ((ρ 6 + 0) + (ρ 3 + 0)) := hP _ (List.mem_of_getElem? (i := 5) rfl)
  try simp only [Int.add_zero] at h0 h1 h2 h3 h4 h5
  have key : (0 ≤ ρ 7 ∧ ρ 7 ≤ 142) ∧ True := by
    try simp only [Int.add_zero]
    have key2 : nwE Γ M (α 0) fun r c => (0 ≤ ρ 7 ∧ ρ 7 ≤ 142) := (nw1 hT ((h0.and h1).and h2)).imp fun r c ⟨hr, hc, ⟨q1, q2⟩, q3⟩ => by
      subst q2
      have l0 := Int.emod_lt_of_pos (ρ 4) (show 0 < ρ 1 by omega)
      have l1 : 0 ≤ ρ 2 * ρ 1 := Int.mul_nonneg b2.1 (by omega)
      have l2 : ρ 2 * ρ 1 ≤ (r - 1) * ρ 1 := Int.mul_le_mul_of_nonneg_right (by omega) (by omega)
      have l3 : (r - 1) * ρ 1 = r * ρ 1 - ρ 1 := by rw [Int.sub_mul, Int.one_mul]
      have hrc := rc_bd hr hc
      have e4 : ρ 6 = ρ 2 * ρ 1 := by rw [h4, wI_id (by unfold inI; omega)]
      have e5 : ρ 7 = ρ 6 + ρ 3 := by rw [h5, wI_id (by unfold inI; omega)]
      exact ⟨by omega, by omega⟩
    exact ⟨key2.out fun _ _ q => q, trivial⟩
  exact ⟨qB (key.1) (nB), nB⟩
def t_gs2 : KT := ((0, 0, 0, 0), [(1, 0, 0, 0), (1, 1, 0, 0), (1, 2, 0, 0), (1, 3, 0, 0)], [(-2147483648, 2147483647), (0, 127), (-2147483648, 2147483647), (1, 5)], [(19, [(1, 0, 0, 0), (1, 3, 0, -1)]), (23, [(1, 0, 0, 0), (1, 1, 0, 0), (1, 2, 0, 0)])], (0, 0, 0), [], [], ([(2, 0, 635)], [(19, [(1, 2, 0, 0), (1, 3, 0, 0)])]), ([], []))
set_option maxRecDepth 100000 in
theorem l_gs2 (g : GG) : LOK Yt (PSt g) t_gs2 := by
  intro ρ α Γ M as hT hB hA hP
  have b0 : -2147483648 ≤ ρ 0 ∧ ρ 0 ≤ 2147483647 := hB 0
  have b1 : 0 ≤ ρ 1 ∧ ρ 1 ≤ 127 := hB 1
  have b2 : -2147483648 ≤ ρ 2 ∧ ρ 2 ≤ 2147483647 := hB 2
  have b3 : 1 ≤ ρ 3 ∧ ρ 3 ≤ 5 := hB 3
  have h0 : 0 ≤ (ρ 0 + 0) ∧ (ρ 0 + 0) ≤ 127 * (ρ 3 + (-1)) := hP _ (List.mem_of_getElem? (i := 0) rfl)
  have h1 : ρ 2 + 0 = wI ((ρ 0 + 0) + (ρ 1 + 0)) := hP _ (List.mem_of_getElem? (i := 1) rfl)
  try simp only [Int.add_zero] at h0 h1
  have key : (0 ≤ ρ 2 ∧ ρ 2 ≤ 635) ∧ (0 ≤ (ρ 2 + 0) ∧ (ρ 2 + 0) ≤ 127 * (ρ 3 + 0)) ∧ True := by
    try simp only [Int.add_zero]
    rw [wI_id (by unfold inI; omega)] at h1
    exact ⟨⟨by omega, by omega⟩, ⟨by omega, by omega⟩, trivial⟩
  exact ⟨qB (key.1) (nB), qB (key.2.1) (nB)⟩
def t_rd0 : KT := ((0, 0, 0, 0), [(1, 0, 0, 0), (1, 1, 0, 0), (1, 2, 0, 0)], [(0, 0), (0, 0), (0, 0)], [], (0, 0, 0), [], [], ([], [(14, [(1, 0, 0, 0), (1, 1, 0, 0), (1, 2, 0, 0)])]), ([], []))
set_option maxRecDepth 100000 in
theorem l_rd0 (g : GG) : LOK Yt (PSt g) t_rd0 := by
  intro ρ α Γ M as hT hB hA hP
  have b0 : 0 ≤ ρ 0 ∧ ρ 0 ≤ 0 := hB 0
  have b1 : 0 ≤ ρ 1 ∧ ρ 1 ≤ 0 := hB 1
  have b2 : 0 ≤ ρ 2 ∧ ρ 2 ≤ 0 := hB 2
  have key : (2 * (ρ 0 + 0) ≤ 24 * (ρ 1 + 0) + (ρ 2 + 0)) ∧ True := by
    try simp only [Int.add_zero]
    exact ⟨by omega, trivial⟩
  exact ⟨nB, qB (key.1) (nB)⟩
def t_rd1 : KT := ((0, 0, 0, 0), [(1, 0, 0, 0), (1, 1, 0, 0), (1, 2, 0, 0)], [(-2147483648, 2147483647), (0, 11), (0, 23)], [(14, [(1, 0, 0, 0), (1, 1, 0, 0), (1, 2, 0, 0)])], (0, 0, 0), [], [], ([(0, -2147483648, 143)], []), ([], []))
set_option maxRecDepth 100000 in
theorem l_rd1 (g : GG) : LOK Yt (PSt g) t_rd1 := by
  intro ρ α Γ M as hT hB hA hP
  have b0 : -2147483648 ≤ ρ 0 ∧ ρ 0 ≤ 2147483647 := hB 0
  have b1 : 0 ≤ ρ 1 ∧ ρ 1 ≤ 11 := hB 1
  have b2 : 0 ≤ ρ 2 ∧ ρ 2 ≤ 23 := hB 2
  have h0 : 2 * (ρ 0 + 0) ≤ 24 * (ρ 1 + 0) + (ρ 2 + 0) := hP _ (List.mem_of_getElem? (i := 0) rfl)
  try simp only [Int.add_zero] at h0
  have key : (-2147483648 ≤ ρ 0 ∧ ρ 0 ≤ 143) ∧ True := by
    try simp only [Int.add_zero]
    exact ⟨⟨b0.1, by omega⟩, trivial⟩
  exact ⟨qB (key.1) (nB), nB⟩
def t_rd2 : KT := ((0, 0, 0, 0), [(1, 0, 0, 0), (1, 1, 0, 0), (1, 2, 0, 0), (1, 3, 0, 0)], [(-2147483648, 2147483647), (-2147483648, 2147483647), (0, 2147483647), (1, 1)], [(14, [(1, 0, 0, 0), (1, 1, 0, 0), (1, 2, 0, 0)]), (27, [(1, 2, 0, 0), (0, 0, 0, 2), (1, 3, 0, 0)])], (0, 0, 0), [], [], ([], [(14, [(1, 0, 0, 1), (1, 1, 0, 0), (1, 2, 0, 1)])]), ([], []))
set_option maxRecDepth 100000 in
theorem l_rd2 (g : GG) : LOK Yt (PSt g) t_rd2 := by
  intro ρ α Γ M as hT hB hA hP
  have b0 : -2147483648 ≤ ρ 0 ∧ ρ 0 ≤ 2147483647 := hB 0
  have b1 : -2147483648 ≤ ρ 1 ∧ ρ 1 ≤ 2147483647 := hB 1
  have b2 : 0 ≤ ρ 2 ∧ ρ 2 ≤ 2147483647 := hB 2
  have b3 : 1 ≤ ρ 3 ∧ ρ 3 ≤ 1 := hB 3
  have h0 : 2 * (ρ 0 + 0) ≤ 24 * (ρ 1 + 0) + (ρ 2 + 0) := hP _ (List.mem_of_getElem? (i := 0) rfl)
  have h1 : ρ 3 + 0 = (ρ 2 + 0 : Int).tmod (2) := hP _ (List.mem_of_getElem? (i := 1) rfl)
  try simp only [Int.add_zero] at h0 h1
  have key : (2 * (ρ 0 + 1) ≤ 24 * (ρ 1 + 0) + (ρ 2 + 1)) ∧ True := by
    try simp only [Int.add_zero]
    obtain ⟨d1, d2, d3, d4, d5, d6, d7⟩ := dm b2.1 (show (0 : Int) < 2 by decide)
    rw [d2] at h1
    exact ⟨by omega, trivial⟩
  exact ⟨nB, qB (key.1) (nB)⟩
def t_rd3 : KT := ((0, 0, 0, 0), [(1, 0, 0, 0), (1, 1, 0, 0), (1, 2, 0, 0)], [(-2147483648, 2147483647), (-2147483648, 2147483647), (-2147483648, 2147483647)], [(14, [(1, 0, 0, 0), (1, 1, 0, 0), (1, 2, 0, 0)])], (0, 0, 0), [], [], ([], [(14, [(1, 0, 0, 0), (1, 1, 0, 0), (1, 2, 0, 1)])]), ([], []))
set_option maxRecDepth 100000 in
theorem l_rd3 (g : GG) : LOK Yt (PSt g) t_rd3 := by
  intro ρ α Γ M as hT hB hA hP
  have b0 : -2147483648 ≤ ρ 0 ∧ ρ 0 ≤ 2147483647 := hB 0
  have b1 : -2147483648 ≤ ρ 1 ∧ ρ 1 ≤ 2147483647 := hB 1
  have b2 : -2147483648 ≤ ρ 2 ∧ ρ 2 ≤ 2147483647 := hB 2
  have h0 : 2 * (ρ 0 + 0) ≤ 24 * (ρ 1 + 0) + (ρ 2 + 0) := hP _ (List.mem_of_getElem? (i := 0) rfl)
  try simp only [Int.add_zero] at h0
  have key : (2 * (ρ 0 + 0) ≤ 24 * (ρ 1 + 0) + (ρ 2 + 1)) ∧ True := by
    try simp only [Int.add_zero]
    exact ⟨by omega, trivial⟩
  exact ⟨nB, qB (key.1) (nB)⟩
def t_rd4 : KT := ((0, 0, 0, 0), [(1, 0, 0, 0), (1, 1, 0, 0), (1, 2, 0, 0)], [(-2147483648, 2147483647), (-2147483648, 2147483647), (0, 24)], [(14, [(1, 0, 0, 0), (1, 1, 0, 0), (1, 2, 0, 0)])], (0, 0, 0), [], [], ([], [(14, [(1, 0, 0, 0), (1, 1, 0, 1), (0, 0, 0, 0)])]), ([], []))
set_option maxRecDepth 100000 in
theorem l_rd4 (g : GG) : LOK Yt (PSt g) t_rd4 := by
  intro ρ α Γ M as hT hB hA hP
  have b0 : -2147483648 ≤ ρ 0 ∧ ρ 0 ≤ 2147483647 := hB 0
  have b1 : -2147483648 ≤ ρ 1 ∧ ρ 1 ≤ 2147483647 := hB 1
  have b2 : 0 ≤ ρ 2 ∧ ρ 2 ≤ 24 := hB 2
  have h0 : 2 * (ρ 0 + 0) ≤ 24 * (ρ 1 + 0) + (ρ 2 + 0) := hP _ (List.mem_of_getElem? (i := 0) rfl)
  try simp only [Int.add_zero] at h0
  have key : (2 * (ρ 0 + 0) ≤ 24 * (ρ 1 + 1) + (0)) ∧ True := by
    try simp only [Int.add_zero]
    exact ⟨by omega, trivial⟩
  exact ⟨nB, qB (key.1) (nB)⟩
def t_rd5 : KT := ((0, 0, 0, 0), [(2, 0, 40, 0), (1, 1, 0, 0), (1, 2, 0, 0)], [(0, 0), (2, 12), (2, 12)], [(10, [(2, 0, 40, 0), (0, 0, 0, 20), (1, 1, 0, 0)]), (10, [(2, 0, 40, 0), (0, 0, 0, 21), (1, 2, 0, 0)])], (0, 0, 0), [], [], ([], [(18, [(2, 0, 40, 0), (0, 0, 0, -1), (0, 0, 0, 0)])]), ([], []))
set_option maxRecDepth 100000 in
theorem l_rd5 (g : GG) : LOK Yt (PSt g) t_rd5 := by
  intro ρ α Γ M as hT hB hA hP
  have g0 : Γ (α 0) = 40 := tyAt hA (i := 0) rfl
  have b1 : 2 ≤ ρ 1 ∧ ρ 1 ≤ 12 := hB 1
  have b2 : 2 ≤ ρ 2 ∧ ρ 2 ≤ 12 := hB 2
  have h0 : 0 ≤ (20 : Int) ∧ M.2.2.2.2 (α 0) (20 : Int).toNat = ρ 1 + 0 := hP _ (List.mem_of_getElem? (i := 0) rfl)
  have h1 : 0 ≤ (21 : Int) ∧ M.2.2.2.2 (α 0) (21 : Int).toNat = ρ 2 + 0 := hP _ (List.mem_of_getElem? (i := 1) rfl)
  try simp only [Int.add_zero] at h0 h1
  have key : (Γ (α 0) = 40 ∧ ((-1) = -1 → (2 ≤ M.2.2.2.2 (α 0) 20 ∧ M.2.2.2.2 (α 0) 20 ≤ 12) ∧ 2 ≤ M.2.2.2.2 (α 0) 21 ∧ M.2.2.2.2 (α 0) 21 ≤ 12)) ∧ True := by
    try simp only [Int.add_zero]
    have e : M.2.2.2.2 (α 0) 20 = ρ 1 := h0.2
    have e2 : M.2.2.2.2 (α 0) 21 = ρ 2 := h1.2
    exact ⟨⟨g0, fun _ => by omega⟩, trivial⟩
  exact ⟨nB, qB (key.1) (nB)⟩
def t_rd6 : KT := ((0, 0, 0, 0), [(2, 0, 40, 0), (1, 1, 0, 0)], [(0, 0), (0, 2147483647)], [], (0, 0, 0), [], [], ([], [(18, [(2, 0, 40, 0), (1, 1, 0, 0), (0, 0, 0, 0)])]), ([], []))
set_option maxRecDepth 100000 in
theorem l_rd6 (g : GG) : LOK Yt (PSt g) t_rd6 := by
  intro ρ α Γ M as hT hB hA hP
  have g0 : Γ (α 0) = 40 := tyAt hA (i := 0) rfl
  have b1 : 0 ≤ ρ 1 ∧ ρ 1 ≤ 2147483647 := hB 1
  have key : (Γ (α 0) = 40 ∧ (ρ 1 + 0 = -1 → (2 ≤ M.2.2.2.2 (α 0) 20 ∧ M.2.2.2.2 (α 0) 20 ≤ 12) ∧ 2 ≤ M.2.2.2.2 (α 0) 21 ∧ M.2.2.2.2 (α 0) 21 ≤ 12)) ∧ True := by
    try simp only [Int.add_zero]
    exact ⟨⟨g0, fun _ => by omega⟩, trivial⟩
  exact ⟨nB, qB (key.1) (nB)⟩
def t_rd7 : KT := ((0, 0, 0, 0), [(2, 0, 40, 0), (1, 1, 0, 0), (1, 2, 0, 0)], [(0, 0), (-2147483648, 2147483647), (-2147483648, 2147483647)], [(6, [(1, 1, 0, 0), (1, 2, 0, 0)]), (21, [(1, 2, 0, 0), (1, 1, 0, 0)])], (0, 0, 0), [], [], ([], [(18, [(2, 0, 40, 0), (0, 0, 0, -1), (0, 0, 0, 0)])]), ([], []))
set_option maxRecDepth 100000 in
theorem l_rd7 (g : GG) : LOK Yt (PSt g) t_rd7 := by
  intro ρ α Γ M as hT hB hA hP
  have g0 : Γ (α 0) = 40 := tyAt hA (i := 0) rfl
  have b1 : -2147483648 ≤ ρ 1 ∧ ρ 1 ≤ 2147483647 := hB 1
  have b2 : -2147483648 ≤ ρ 2 ∧ ρ 2 ≤ 2147483647 := hB 2
  have h0 : ρ 1 + 0 ≤ ρ 2 + 0 := hP _ (List.mem_of_getElem? (i := 0) rfl)
  have h1 : ρ 2 + 0 < ρ 1 + 0 := hP _ (List.mem_of_getElem? (i := 1) rfl)
  try simp only [Int.add_zero] at h0 h1
  have key : (Γ (α 0) = 40 ∧ ((-1) = -1 → (2 ≤ M.2.2.2.2 (α 0) 20 ∧ M.2.2.2.2 (α 0) 20 ≤ 12) ∧ 2 ≤ M.2.2.2.2 (α 0) 21 ∧ M.2.2.2.2 (α 0) 21 ≤ 12)) ∧ True := by
    try simp only [Int.add_zero]
    exact ⟨⟨g0, fun _ => by omega⟩, trivial⟩
  exact ⟨nB, qB (key.1) (nB)⟩
def t_rd8 : KT := ((0, 0, 0, 0), [(1, 0, 0, 0), (1, 1, 0, 0)], [(-2147483648, 2147483647), (-2147483648, 2147483647)], [(21, [(1, 0, 0, 0), (1, 1, 0, 0)])], (0, 0, 0), [], [], ([], [(6, [(1, 0, 0, 1), (1, 1, 0, 0)])]), ([], []))
set_option maxRecDepth 100000 in
theorem l_rd8 (g : GG) : LOK Yt (PSt g) t_rd8 := by
  intro ρ α Γ M as hT hB hA hP
  have b0 : -2147483648 ≤ ρ 0 ∧ ρ 0 ≤ 2147483647 := hB 0
  have b1 : -2147483648 ≤ ρ 1 ∧ ρ 1 ≤ 2147483647 := hB 1
  have h0 : ρ 0 + 0 < ρ 1 + 0 := hP _ (List.mem_of_getElem? (i := 0) rfl)
  try simp only [Int.add_zero] at h0
  have key : (ρ 0 + 1 ≤ ρ 1 + 0) ∧ True := by
    try simp only [Int.add_zero]
    exact ⟨by omega, trivial⟩
  exact ⟨nB, qB (key.1) (nB)⟩
def t_rdt : KT := ((0, 0, 0, 0), [(2, 0, 40, 0), (1, 1, 0, 0), (1, 2, 0, 0), (1, 3, 0, 0)], [(0, 0), (-2147483648, 2147483647), (-2147483648, 2147483647), (-1, -1)], [(18, [(2, 0, 40, 0), (1, 3, 0, 0), (0, 0, 0, 0)]), (10, [(2, 0, 40, 0), (0, 0, 0, 20), (1, 1, 0, 0)]), (10, [(2, 0, 40, 0), (0, 0, 0, 21), (1, 2, 0, 0)])], (0, 0, 0), [], [], ([(1, 2, 12), (2, 2, 12)], []), ([], []))
set_option maxRecDepth 100000 in
theorem l_rdt (g : GG) : LOK Yt (PSt g) t_rdt := by
  intro ρ α Γ M as hT hB hA hP
  have g0 : Γ (α 0) = 40 := tyAt hA (i := 0) rfl
  have b1 : -2147483648 ≤ ρ 1 ∧ ρ 1 ≤ 2147483647 := hB 1
  have b2 : -2147483648 ≤ ρ 2 ∧ ρ 2 ≤ 2147483647 := hB 2
  have b3 : -1 ≤ ρ 3 ∧ ρ 3 ≤ -1 := hB 3
  have h0 : Γ (α 0) = 40 ∧ (ρ 3 + 0 = -1 → (2 ≤ M.2.2.2.2 (α 0) 20 ∧ M.2.2.2.2 (α 0) 20 ≤ 12) ∧ 2 ≤ M.2.2.2.2 (α 0) 21 ∧ M.2.2.2.2 (α 0) 21 ≤ 12) := hP _ (List.mem_of_getElem? (i := 0) rfl)
  have h1 : 0 ≤ (20 : Int) ∧ M.2.2.2.2 (α 0) (20 : Int).toNat = ρ 1 + 0 := hP _ (List.mem_of_getElem? (i := 1) rfl)
  have h2 : 0 ≤ (21 : Int) ∧ M.2.2.2.2 (α 0) (21 : Int).toNat = ρ 2 + 0 := hP _ (List.mem_of_getElem? (i := 2) rfl)
  try simp only [Int.add_zero] at h0 h1 h2
  have key : (2 ≤ ρ 1 ∧ ρ 1 ≤ 12) ∧ (2 ≤ ρ 2 ∧ ρ 2 ≤ 12) ∧ True := by
    try simp only [Int.add_zero]
    obtain ⟨-, h⟩ := h0
    have h := h (by omega)
    have e : M.2.2.2.2 (α 0) 20 = ρ 1 := h1.2
    have e2 : M.2.2.2.2 (α 0) 21 = ρ 2 := h2.2
    rw [e, e2] at h
    exact ⟨h.1, h.2, trivial⟩
  exact ⟨qB (key.1) (qB (key.2.1) (nB)), nB⟩
def t_lg : KT := ((0, 0, 0, 0), [(1, 0, 0, 0), (1, 1, 0, 0), (1, 2, 0, 0)], [(0, 2147483647), (-2147483648, 2147483647), (-2147483648, 2147483647)], [(21, [(1, 0, 0, 0), (1, 1, 0, 0)]), (24, [(1, 1, 0, -1), (1, 0, 0, 0), (1, 2, 0, 0)])], (0, 0, 0), [], [], ([(2, 0, 2147483647)], []), ([], []))
set_option maxRecDepth 100000 in
theorem l_lg (g : GG) : LOK Yt (PSt g) t_lg := by
  intro ρ α Γ M as hT hB hA hP
  have b0 : 0 ≤ ρ 0 ∧ ρ 0 ≤ 2147483647 := hB 0
  have b1 : -2147483648 ≤ ρ 1 ∧ ρ 1 ≤ 2147483647 := hB 1
  have b2 : -2147483648 ≤ ρ 2 ∧ ρ 2 ≤ 2147483647 := hB 2
  have h0 : ρ 0 + 0 < ρ 1 + 0 := hP _ (List.mem_of_getElem? (i := 0) rfl)
  have h1 : ρ 2 + 0 = wI ((ρ 1 + (-1)) - (ρ 0 + 0)) := hP _ (List.mem_of_getElem? (i := 1) rfl)
  try simp only [Int.add_zero] at h0 h1
  have key : (0 ≤ ρ 2 ∧ ρ 2 ≤ 2147483647) ∧ True := by
    try simp only [Int.add_zero]
    rw [wI_id (by unfold inI; omega)] at h1
    exact ⟨⟨by omega, by omega⟩, trivial⟩
  exact ⟨qB (key.1) (nB), nB⟩
def t_le0n : KT := ((0, 0, 0, 0), [(1, 0, 0, 0), (1, 1, 0, 0)], [(0, 0), (0, 2147483647)], [], (0, 0, 0), [], [], ([], [(6, [(1, 0, 0, 0), (1, 1, 0, 0)])]), ([], []))
set_option maxRecDepth 100000 in
theorem l_le0n (g : GG) : LOK Yt (PSt g) t_le0n := by
  intro ρ α Γ M as hT hB hA hP
  have b0 : 0 ≤ ρ 0 ∧ ρ 0 ≤ 0 := hB 0
  have b1 : 0 ≤ ρ 1 ∧ ρ 1 ≤ 2147483647 := hB 1
  have key : (ρ 0 + 0 ≤ ρ 1 + 0) ∧ True := by
    try simp only [Int.add_zero]
    exact ⟨by omega, trivial⟩
  exact ⟨nB, qB (key.1) (nB)⟩
def t_medh : KT := ((0, 0, 0, 0), [(2, 0, 40, 0), (1, 1, 0, 0), (1, 2, 0, 0), (1, 3, 0, 0), (1, 4, 0, 0), (1, 5, 0, 0), (1, 6, 0, 0), (1, 7, 0, 0)], [(0, 0), (0, 2147483647), (-2147483648, 2147483647), (-2147483648, 2147483647), (-2147483648, 2147483647), (-2147483648, 2147483647), (-2147483648, 2147483647), (0, 0)], [(26, [(1, 1, 0, 0), (0, 0, 0, 2), (1, 2, 0, 0)]), (27, [(1, 1, 0, 0), (0, 0, 0, 2), (1, 7, 0, 0)]), (96, [(2, 0, 40, 0), (1, 2, 0, 0), (1, 3, 0, 0)]), (21, [(1, 3, 0, 0), (1, 4, 0, -1)]), (8, [(2, 0, 40, 0), (1, 4, 0, 0)]), (94, [(2, 0, 40, 0), (1, 5, 0, 0)]), (25, [(0, 0, 0, 2), (1, 5, 0, 0), (1, 6, 0, 0)]), (21, [(1, 1, 0, 0), (1, 6, 0, 0)])], (0, 0, 0), [], [], ([(1, 0, 287)], [(97, [(2, 0, 40, 0), (1, 1, 0, 0)])]), ([], []))
set_option maxRecDepth 100000 in
theorem l_medh (g : GG) : LOK Yt (PSt g) t_medh := by
  intro ρ α Γ M as hT hB hA hP
  have g0 : Γ (α 0) = 40 := tyAt hA (i := 0) rfl
  have b1 : 0 ≤ ρ 1 ∧ ρ 1 ≤ 2147483647 := hB 1
  have b2 : -2147483648 ≤ ρ 2 ∧ ρ 2 ≤ 2147483647 := hB 2
  have b3 : -2147483648 ≤ ρ 3 ∧ ρ 3 ≤ 2147483647 := hB 3
  have b4 : -2147483648 ≤ ρ 4 ∧ ρ 4 ≤ 2147483647 := hB 4
  have b5 : -2147483648 ≤ ρ 5 ∧ ρ 5 ≤ 2147483647 := hB 5
  have b6 : -2147483648 ≤ ρ 6 ∧ ρ 6 ≤ 2147483647 := hB 6
  have b7 : 0 ≤ ρ 7 ∧ ρ 7 ≤ 0 := hB 7
  have h0 : ρ 2 + 0 = wI ((ρ 1 + 0 : Int).tdiv (2)) := hP _ (List.mem_of_getElem? (i := 0) rfl)
  have h1 : ρ 7 + 0 = (ρ 1 + 0 : Int).tmod (2) := hP _ (List.mem_of_getElem? (i := 1) rfl)
  have h2 : nwE Γ M (α 0) fun r c => ρ 3 + 0 = (ρ 2 + 0) % c := hP _ (List.mem_of_getElem? (i := 2) rfl)
  have h3 : ρ 3 + 0 < ρ 4 + (-1) := hP _ (List.mem_of_getElem? (i := 3) rfl)
  have h4 : nwE Γ M (α 0) fun r c => ρ 4 + 0 = c := hP _ (List.mem_of_getElem? (i := 4) rfl)
  have h5 : nwE Γ M (α 0) fun r c => ρ 5 + 0 = r * c := hP _ (List.mem_of_getElem? (i := 5) rfl)
  have h6 : ρ 6 + 0 = wI ((2) * (ρ 5 + 0)) := hP _ (List.mem_of_getElem? (i := 6) rfl)
  have h7 : ρ 1 + 0 < ρ 6 + 0 := hP _ (List.mem_of_getElem? (i := 7) rfl)
  try simp only [Int.add_zero] at h0 h1 h2 h3 h4 h5 h6 h7
  have key : (0 ≤ ρ 1 ∧ ρ 1 ≤ 287) ∧ (nwE Γ M (α 0) fun r c => edP r c (ρ 1 + 0)) ∧ True := by
    try simp only [Int.add_zero]
    have key2 : nwE Γ M (α 0) fun r c => ρ 1 ≤ 287 ∧ edP r c (ρ 1) := (nw1 hT (((h2.and h4).and h5))).imp fun r c ⟨hr, hc, ⟨q1, q2⟩, q3⟩ => by
      have hrc := rc_bd hr hc
      obtain ⟨d1, d2, d3, d4, d5, d6, d7⟩ := dm (p := ρ 1) b1.1 (show (0 : Int) < 2 by decide)
      have h0 := h0
      have h1 := h1
      have h6 := h6
      rw [d1, wI_id (by unfold inI; omega)] at h0
      rw [d2] at h1
      rw [q3, wI_id (by unfold inI; omega)] at h6
      have q1 := q1
      rw [h0] at q1
      subst q2
      exact ⟨by omega, b1.1, by omega, fun _ => by rw [← q1]; omega, fun hn => absurd (show ρ 1 % 2 = 0 by omega) hn⟩
    exact ⟨⟨b1.1, key2.out fun _ _ q => q.1⟩, key2.imp fun _ _ q => q.2, trivial⟩
  exact ⟨qB (key.1) (nB), qB (key.2.1) (nB)⟩
def t_medv : KT := ((0, 0, 0, 0), [(2, 0, 40, 0), (1, 1, 0, 0), (1, 2, 0, 0), (1, 3, 0, 0), (1, 4, 0, 0), (1, 5, 0, 0), (1, 6, 0, 0), (1, 7, 0, 0)], [(0, 0), (0, 2147483647), (-2147483648, 2147483647), (-2147483648, 2147483647), (-2147483648, 2147483647), (-2147483648, 2147483647), (-2147483648, 2147483647), (1, 1)], [(26, [(1, 1, 0, 0), (0, 0, 0, 2), (1, 2, 0, 0)]), (27, [(1, 1, 0, 0), (0, 0, 0, 2), (1, 7, 0, 0)]), (9, [(2, 0, 40, 0), (1, 2, 0, 0), (1, 3, 0, 0)]), (21, [(1, 3, 0, 0), (1, 4, 0, -1)]), (93, [(2, 0, 40, 0), (1, 4, 0, 0)]), (94, [(2, 0, 40, 0), (1, 5, 0, 0)]), (25, [(0, 0, 0, 2), (1, 5, 0, 0), (1, 6, 0, 0)]), (21, [(1, 1, 0, 0), (1, 6, 0, 0)])], (0, 0, 0), [], [], ([(1, 0, 287)], [(97, [(2, 0, 40, 0), (1, 1, 0, 0)])]), ([], []))
set_option maxRecDepth 100000 in
theorem l_medv (g : GG) : LOK Yt (PSt g) t_medv := by
  intro ρ α Γ M as hT hB hA hP
  have g0 : Γ (α 0) = 40 := tyAt hA (i := 0) rfl
  have b1 : 0 ≤ ρ 1 ∧ ρ 1 ≤ 2147483647 := hB 1
  have b2 : -2147483648 ≤ ρ 2 ∧ ρ 2 ≤ 2147483647 := hB 2
  have b3 : -2147483648 ≤ ρ 3 ∧ ρ 3 ≤ 2147483647 := hB 3
  have b4 : -2147483648 ≤ ρ 4 ∧ ρ 4 ≤ 2147483647 := hB 4
  have b5 : -2147483648 ≤ ρ 5 ∧ ρ 5 ≤ 2147483647 := hB 5
  have b6 : -2147483648 ≤ ρ 6 ∧ ρ 6 ≤ 2147483647 := hB 6
  have b7 : 1 ≤ ρ 7 ∧ ρ 7 ≤ 1 := hB 7
  have h0 : ρ 2 + 0 = wI ((ρ 1 + 0 : Int).tdiv (2)) := hP _ (List.mem_of_getElem? (i := 0) rfl)
  have h1 : ρ 7 + 0 = (ρ 1 + 0 : Int).tmod (2) := hP _ (List.mem_of_getElem? (i := 1) rfl)
  have h2 : nwE Γ M (α 0) fun r c => ρ 3 + 0 = (ρ 2 + 0) / c := hP _ (List.mem_of_getElem? (i := 2) rfl)
  have h3 : ρ 3 + 0 < ρ 4 + (-1) := hP _ (List.mem_of_getElem? (i := 3) rfl)
  have h4 : nwE Γ M (α 0) fun r c => ρ 4 + 0 = r := hP _ (List.mem_of_getElem? (i := 4) rfl)
  have h5 : nwE Γ M (α 0) fun r c => ρ 5 + 0 = r * c := hP _ (List.mem_of_getElem? (i := 5) rfl)
  have h6 : ρ 6 + 0 = wI ((2) * (ρ 5 + 0)) := hP _ (List.mem_of_getElem? (i := 6) rfl)
  have h7 : ρ 1 + 0 < ρ 6 + 0 := hP _ (List.mem_of_getElem? (i := 7) rfl)
  try simp only [Int.add_zero] at h0 h1 h2 h3 h4 h5 h6 h7
  have key : (0 ≤ ρ 1 ∧ ρ 1 ≤ 287) ∧ (nwE Γ M (α 0) fun r c => edP r c (ρ 1 + 0)) ∧ True := by
    try simp only [Int.add_zero]
    have key2 : nwE Γ M (α 0) fun r c => ρ 1 ≤ 287 ∧ edP r c (ρ 1) := (nw1 hT (((h2.and h4).and h5))).imp fun r c ⟨hr, hc, ⟨q1, q2⟩, q3⟩ => by
      have hrc := rc_bd hr hc
      obtain ⟨d1, d2, d3, d4, d5, d6, d7⟩ := dm (p := ρ 1) b1.1 (show (0 : Int) < 2 by decide)
      have h0 := h0
      have h1 := h1
      have h6 := h6
      rw [d1, wI_id (by unfold inI; omega)] at h0
      rw [d2] at h1
      rw [q3, wI_id (by unfold inI; omega)] at h6
      have q1 := q1
      rw [h0] at q1
      subst q2
      exact ⟨by omega, b1.1, by omega, fun hn => absurd hn (show ¬ ρ 1 % 2 = 0 by omega), fun _ => by rw [← q1]; omega⟩
    exact ⟨⟨b1.1, key2.out fun _ _ q => q.1⟩, key2.imp fun _ _ q => q.2, trivial⟩
  exact ⟨qB (key.1) (nB), qB (key.2.1) (nB)⟩
def t_mg0 : KT := ((0, 0, 0, 0), [(2, 0, 40, 0), (1, 1, 0, 0), (1, 2, 0, 0), (1, 3, 0, 0)], [(0, 0), (0, 287), (-2147483648, 2147483647), (0, 0)], [(97, [(2, 0, 40, 0), (1, 1, 0, 0)]), (26, [(1, 1, 0, 0), (0, 0, 0, 2), (1, 2, 0, 0)]), (27, [(1, 1, 0, 0), (0, 0, 0, 2), (1, 3, 0, 0)])], (0, 0, 0), [], [], ([(2, 0, 142)], [(95, [(2, 0, 40, 0), (1, 2, 0, 0)]), (95, [(2, 0, 40, 0), (1, 2, 0, 1)])]), ([], []))
set_option maxRecDepth 100000 in
theorem l_mg0 (g : GG) : LOK Yt (PSt g) t_mg0 := by
  intro ρ α Γ M as hT hB hA hP
  have g0 : Γ (α 0) = 40 := tyAt hA (i := 0) rfl
  have b1 : 0 ≤ ρ 1 ∧ ρ 1 ≤ 287 := hB 1
  have b2 : -2147483648 ≤ ρ 2 ∧ ρ 2 ≤ 2147483647 := hB 2
  have b3 : 0 ≤ ρ 3 ∧ ρ 3 ≤ 0 := hB 3
  have h0 : nwE Γ M (α 0) fun r c => edP r c (ρ 1 + 0) := hP _ (List.mem_of_getElem? (i := 0) rfl)
  have h1 : ρ 2 + 0 = wI ((ρ 1 + 0 : Int).tdiv (2)) := hP _ (List.mem_of_getElem? (i := 1) rfl)
  have h2 : ρ 3 + 0 = (ρ 1 + 0 : Int).tmod (2) := hP _ (List.mem_of_getElem? (i := 2) rfl)
  try simp only [Int.add_zero] at h0 h1 h2
  have key : (0 ≤ ρ 2 ∧ ρ 2 ≤ 142) ∧ (nwE Γ M (α 0) fun r c => isPx r c (ρ 2 + 0)) ∧ (nwE Γ M (α 0) fun r c => isPx r c (ρ 2 + 1)) ∧ True := by
    try simp only [Int.add_zero]
    obtain ⟨d1, d2, d3, d4, d5, d6, d7⟩ := dm (p := ρ 1) b1.1 (show (0 : Int) < 2 by decide)
    rw [d1] at h1
    rw [wI_id (by unfold inI; omega)] at h1
    rw [d2] at h2
    have key2 : nwE Γ M (α 0) fun r c => ρ 2 ≤ 142 ∧ isPx r c (ρ 2) ∧ isPx r c (ρ 2 + 1) := (nw1 hT h0).imp fun r c ⟨hr, hc, x1, x2, x3, _⟩ => by
      have hrc := rc_bd hr hc
      have x3 := x3 (by omega)
      rw [← h1] at x3 d6
      have y7 := row_lt (r := r) (p := ρ 2) (show 0 < c by omega) (by omega)
      have l := low_lt (k := 0) d6 (show 0 < c by omega) (show ρ 2 / c ≤ r - 1 - 0 by omega) (by decide)
      exact ⟨by omega, ⟨by omega, by omega⟩, by omega, by omega⟩
    exact ⟨⟨by omega, key2.out fun _ _ q => q.1⟩, key2.imp fun _ _ q => q.2.1, key2.imp fun _ _ q => q.2.2, trivial⟩
  exact ⟨qB (key.1) (nB), qB (key.2.1) (qB (key.2.2.1) (nB))⟩
def t_mg1 : KT := ((0, 0, 0, 0), [(2, 0, 40, 0), (1, 1, 0, 0), (1, 2, 0, 0), (1, 3, 0, 0), (1, 4, 0, 0), (1, 5, 0, 0)], [(0, 0), (0, 287), (-2147483648, 2147483647), (1, 2147483647), (-2147483648, 2147483647), (-2147483648, 2147483647)], [(97, [(2, 0, 40, 0), (1, 1, 0, 0)]), (26, [(1, 1, 0, 0), (0, 0, 0, 2), (1, 2, 0, 0)]), (27, [(1, 1, 0, 0), (0, 0, 0, 2), (1, 3, 0, 0)]), (8, [(2, 0, 40, 0), (1, 4, 0, 0)]), (23, [(1, 2, 0, 0), (1, 4, 0, 0), (1, 5, 0, 0)])], (0, 0, 0), [], [], ([(5, 0, 143)], [(95, [(2, 0, 40, 0), (1, 5, 0, 0)])]), ([], []))
set_option maxRecDepth 100000 in
theorem l_mg1 (g : GG) : LOK Yt (PSt g) t_mg1 := by
  intro ρ α Γ M as hT hB hA hP
  have g0 : Γ (α 0) = 40 := tyAt hA (i := 0) rfl
  have b1 : 0 ≤ ρ 1 ∧ ρ 1 ≤ 287 := hB 1
  have b2 : -2147483648 ≤ ρ 2 ∧ ρ 2 ≤ 2147483647 := hB 2
  have b3 : 1 ≤ ρ 3 ∧ ρ 3 ≤ 2147483647 := hB 3
  have b4 : -2147483648 ≤ ρ 4 ∧ ρ 4 ≤ 2147483647 := hB 4
  have b5 : -2147483648 ≤ ρ 5 ∧ ρ 5 ≤ 2147483647 := hB 5
  have h0 : nwE Γ M (α 0) fun r c => edP r c (ρ 1 + 0) := hP _ (List.mem_of_getElem? (i := 0) rfl)
  have h1 : ρ 2 + 0 = wI ((ρ 1 + 0 : Int).tdiv (2)) := hP _ (List.mem_of_getElem? (i := 1) rfl)
  have h2 : ρ 3 + 0 = (ρ 1 + 0 : Int).tmod (2) := hP _ (List.mem_of_getElem? (i := 2) rfl)
  have h3 : nwE Γ M (α 0) fun r c => ρ 4 + 0 = c := hP _ (List.mem_of_getElem? (i := 3) rfl)
  have h4 : ρ 5 + 0 = wI ((ρ 2 + 0) + (ρ 4 + 0)) := hP _ (List.mem_of_getElem? (i := 4) rfl)
  try simp only [Int.add_zero] at h0 h1 h2 h3 h4
  have key : (0 ≤ ρ 5 ∧ ρ 5 ≤ 143) ∧ (nwE Γ M (α 0) fun r c => isPx r c (ρ 5 + 0)) ∧ True := by
    try simp only [Int.add_zero]
    obtain ⟨d1, d2, d3, d4, d5, d6, d7⟩ := dm (p := ρ 1) b1.1 (show (0 : Int) < 2 by decide)
    rw [d1] at h1
    rw [wI_id (by unfold inI; omega)] at h1
    rw [d2] at h2
    have key2 : nwE Γ M (α 0) fun r c => (0 ≤ ρ 5 ∧ ρ 5 ≤ 143) ∧ isPx r c (ρ 5) := (nw1 hT (h0.and h3)).imp fun r c ⟨hr, hc, ⟨x1, x2, _, x3⟩, q⟩ => by
      subst q
      have hrc := rc_bd hr hc
      have x3 := x3 (by omega)
      rw [← h1] at x3 d6
      have h4 := h4
      rw [wI_id (by unfold inI; omega)] at h4
      obtain ⟨-, -, y3, y4, y5, y6, y7⟩ := dm (p := ρ 2) d6 (show 0 < ρ 4 by omega)
      have l := low_lt (r := r) (k := 1) d6 (show 0 < ρ 4 by omega) (show ρ 2 / ρ 4 ≤ r - 1 - 1 by omega) (by decide)
      exact ⟨by omega, by omega, by omega⟩
    exact ⟨key2.out fun _ _ q => q.1, key2.imp fun _ _ q => q.2, trivial⟩
  exact ⟨qB (key.1) (nB), qB (key.2.1) (nB)⟩
def t_tn0 : KT := ((0, 0, 0, 0), [(2, 0, 40, 0), (1, 1, 0, 0)], [(0, 0), (0, 0)], [(10, [(2, 0, 40, 0), (0, 0, 0, 9), (1, 1, 0, 0)])], (0, 0, 0), [], [], ([], [(91, [(2, 0, 40, 0)])]), ([], []))
set_option maxRecDepth 100000 in
theorem l_tn0 (g : GG) : LOK Yt (PSt g) t_tn0 := by
  intro ρ α Γ M as hT hB hA hP
  have g0 : Γ (α 0) = 40 := tyAt hA (i := 0) rfl
  have b1 : 0 ≤ ρ 1 ∧ ρ 1 ≤ 0 := hB 1
  have h0 : 0 ≤ (9 : Int) ∧ M.2.2.2.2 (α 0) (9 : Int).toNat = ρ 1 + 0 := hP _ (List.mem_of_getElem? (i := 0) rfl)
  try simp only [Int.add_zero] at h0
  have key : (Γ (α 0) = 40 ∧ ∃ a, M.2.2.2.1 (α 0) 8 = some a ∧ Γ a = 44 ∧ nwE Γ M (α 0) fun r c => ∀ j : Nat, (j : Int) < M.2.2.2.2 (α 0) 9 → isPx r c (M.2.2.2.2 a j)) ∧ True := by
    try simp only [Int.add_zero]
    obtain ⟨a, h1, h2⟩ := tyR hT g0 (by decide) (j := 8) (τ2 := 44) (by decide)
    have e : M.2.2.2.2 (α 0) 9 = ρ 1 := h0.2
    exact ⟨⟨g0, a, h1, h2, (nw_ex hT g0).imp fun r c _ j hj => by omega⟩, trivial⟩
  exact ⟨nB, qB (key.1) (nB)⟩
def t_tn1 : KT := ((0, 0, 0, 0), [(2, 0, 40, 0), (2, 1, 44, 0), (1, 2, 0, 0)], [(0, 0), (0, 0), (-2147483648, 2147483647)], [(91, [(2, 0, 40, 0)]), (11, [(2, 0, 40, 0), (0, 0, 0, 8), (2, 1, 44, 0)]), (10, [(2, 0, 40, 0), (0, 0, 0, 9), (1, 2, 0, 0)])], (0, 0, 0), [], [], ([], [(89, [(2, 1, 44, 0), (1, 2, 0, 0), (2, 0, 40, 0)])]), ([], []))
set_option maxRecDepth 100000 in
theorem l_tn1 (g : GG) : LOK Yt (PSt g) t_tn1 := by
  intro ρ α Γ M as hT hB hA hP
  have g0 : Γ (α 0) = 40 := tyAt hA (i := 0) rfl
  have g1 : Γ (α 1) = 44 := tyAt hA (i := 1) rfl
  have b2 : -2147483648 ≤ ρ 2 ∧ ρ 2 ≤ 2147483647 := hB 2
  have h0 : Γ (α 0) = 40 ∧ ∃ a, M.2.2.2.1 (α 0) 8 = some a ∧ Γ a = 44 ∧ nwE Γ M (α 0) fun r c => ∀ j : Nat, (j : Int) < M.2.2.2.2 (α 0) 9 → isPx r c (M.2.2.2.2 a j) := hP _ (List.mem_of_getElem? (i := 0) rfl)
  have h1 : 0 ≤ (8 : Int) ∧ M.2.2.2.1 (α 0) (8 : Int).toNat = some (α 1) := hP _ (List.mem_of_getElem? (i := 1) rfl)
  have h2 : 0 ≤ (9 : Int) ∧ M.2.2.2.2 (α 0) (9 : Int).toNat = ρ 2 + 0 := hP _ (List.mem_of_getElem? (i := 2) rfl)
  try simp only [Int.add_zero] at h0 h1 h2
  have key : (Γ (α 0) = 40 ∧ M.2.2.2.1 (α 0) 8 = some (α 1) ∧ Γ (α 1) = 44 ∧ M.2.2.2.2 (α 0) 9 = ρ 2 + 0 ∧ nwE Γ M (α 0) fun r c => ∀ j : Nat, (j : Int) < ρ 2 + 0 → isPx r c (M.2.2.2.2 (α 1) j)) ∧ True := by
    try simp only [Int.add_zero]
    obtain ⟨-, a, x1, x2, x3⟩ := h0
    have e1 : M.2.2.2.1 (α 0) 8 = some (α 1) := h1.2
    rw [e1] at x1
    cases x1
    have e : M.2.2.2.2 (α 0) 9 = ρ 2 := h2.2
    exact ⟨⟨g0, e1, x2, e, x3.imp fun r c q j hj => q j (by rw [e]; exact hj)⟩, trivial⟩
  exact ⟨nB, qB (key.1) (nB)⟩
def t_tn2 : KT := ((0, 0, 0, 0), [(2, 0, 40, 0), (2, 1, 44, 0), (1, 2, 0, 0), (1, 3, 0, 0)], [(0, 0), (0, 0), (0, 143), (0, 143)], [(89, [(2, 1, 44, 0), (1, 2, 0, 0), (2, 0, 40, 0)]), (10, [(2, 1, 44, 0), (1, 2, 0, 0), (1, 3, 0, 0)]), (95, [(2, 0, 40, 0), (1, 3, 0, 0)])], (0, 0, 0), [], [], ([], [(90, [(2, 0, 40, 0), (0, 0, 0, 9), (2, 1, 44, 0), (1, 2, 0, 1)])]), ([], []))
set_option maxRecDepth 100000 in
theorem l_tn2 (g : GG) : LOK Yt (PSt g) t_tn2 := by
  intro ρ α Γ M as hT hB hA hP
  have g0 : Γ (α 0) = 40 := tyAt hA (i := 0) rfl
  have g1 : Γ (α 1) = 44 := tyAt hA (i := 1) rfl
  have b2 : 0 ≤ ρ 2 ∧ ρ 2 ≤ 143 := hB 2
  have b3 : 0 ≤ ρ 3 ∧ ρ 3 ≤ 143 := hB 3
  have h0 : Γ (α 0) = 40 ∧ M.2.2.2.1 (α 0) 8 = some (α 1) ∧ Γ (α 1) = 44 ∧ M.2.2.2.2 (α 0) 9 = ρ 2 + 0 ∧ nwE Γ M (α 0) fun r c => ∀ j : Nat, (j : Int) < ρ 2 + 0 → isPx r c (M.2.2.2.2 (α 1) j) := hP _ (List.mem_of_getElem? (i := 0) rfl)
  have h1 : 0 ≤ (ρ 2 + 0 : Int) ∧ M.2.2.2.2 (α 1) (ρ 2 + 0 : Int).toNat = ρ 3 + 0 := hP _ (List.mem_of_getElem? (i := 1) rfl)
  have h2 : nwE Γ M (α 0) fun r c => isPx r c (ρ 3 + 0) := hP _ (List.mem_of_getElem? (i := 2) rfl)
  try simp only [Int.add_zero] at h0 h1 h2
  have key : ((9 : Int) = 9 ∧ ρ 2 + 1 ≤ 144 ∧ Γ (α 0) = 40 ∧ M.2.2.2.1 (α 0) 8 = some (α 1) ∧ Γ (α 1) = 44 ∧ nwE Γ M (α 0) fun r c => ∀ j : Nat, (j : Int) < ρ 2 + 1 → isPx r c (M.2.2.2.2 (α 1) j)) ∧ True := by
    try simp only [Int.add_zero]
    obtain ⟨-, e1, x2, e, x3⟩ := h0
    refine ⟨⟨by trivial, by omega, g0, e1, x2, (x3.and h2).imp fun r c q j hj => ?_⟩, trivial⟩
    by_cases hj2 : (j : Int) < ρ 2
    · exact q.1 j hj2
    · have hq : j = (ρ 2).toNat := by omega
      rw [hq, h1.2]
      exact q.2
  exact ⟨nB, qB (key.1) (nB)⟩
def t_tn3 : KT := ((0, 0, 0, 0), [(2, 0, 40, 0), (2, 1, 44, 0), (1, 2, 0, 0)], [(0, 0), (0, 0), (-2147483648, 2147483647)], [(90, [(2, 0, 40, 0), (0, 0, 0, 9), (2, 1, 44, 0), (1, 2, 0, 0)]), (10, [(2, 0, 40, 0), (0, 0, 0, 9), (1, 2, 0, 0)])], (0, 0, 0), [], [], ([], [(91, [(2, 0, 40, 0)])]), ([], []))
set_option maxRecDepth 100000 in
theorem l_tn3 (g : GG) : LOK Yt (PSt g) t_tn3 := by
  intro ρ α Γ M as hT hB hA hP
  have g0 : Γ (α 0) = 40 := tyAt hA (i := 0) rfl
  have g1 : Γ (α 1) = 44 := tyAt hA (i := 1) rfl
  have b2 : -2147483648 ≤ ρ 2 ∧ ρ 2 ≤ 2147483647 := hB 2
  have h0 : (9 : Int) = 9 ∧ ρ 2 + 0 ≤ 144 ∧ Γ (α 0) = 40 ∧ M.2.2.2.1 (α 0) 8 = some (α 1) ∧ Γ (α 1) = 44 ∧ nwE Γ M (α 0) fun r c => ∀ j : Nat, (j : Int) < ρ 2 + 0 → isPx r c (M.2.2.2.2 (α 1) j) := hP _ (List.mem_of_getElem? (i := 0) rfl)
  have h1 : 0 ≤ (9 : Int) ∧ M.2.2.2.2 (α 0) (9 : Int).toNat = ρ 2 + 0 := hP _ (List.mem_of_getElem? (i := 1) rfl)
  try simp only [Int.add_zero] at h0 h1
  have key : (Γ (α 0) = 40 ∧ ∃ a, M.2.2.2.1 (α 0) 8 = some a ∧ Γ a = 44 ∧ nwE Γ M (α 0) fun r c => ∀ j : Nat, (j : Int) < M.2.2.2.2 (α 0) 9 → isPx r c (M.2.2.2.2 a j)) ∧ True := by
    try simp only [Int.add_zero]
    obtain ⟨-, -, -, e1, x2, x3⟩ := h0
    have e : M.2.2.2.2 (α 0) 9 = ρ 2 := h1.2
    exact ⟨⟨g0, α 1, e1, x2, x3.imp fun r c q j hj => q j (by rw [e] at hj; exact hj)⟩, trivial⟩
  exact ⟨nB, qB (key.1) (nB)⟩
def t_hv : KT := ((0, 0, 0, 0), [(2, 0, 40, 0), (2, 1, 41, 0), (1, 2, 0, 0), (1, 3, 0, 0)], [(0, 0), (0, 0), (0, 143), (-2147483648, 2147483647)], [(11, [(2, 0, 40, 0), (0, 0, 0, 1), (2, 1, 41, 0)]), (10, [(2, 1, 41, 0), (1, 2, 0, 298), (1, 3, 0, 0)])], (0, 0, 0), [], [], ([], [(158, [(2, 0, 40, 0), (1, 2, 0, 0), (1, 3, 0, 0)])]), ([], []))
set_option maxRecDepth 100000 in
theorem l_hv (g : GG) : LOK Yt (PSt g) t_hv := by
  intro ρ α Γ M as hT hB hA hP
  have g0 : Γ (α 0) = 40 := tyAt hA (i := 0) rfl
  have g1 : Γ (α 1) = 41 := tyAt hA (i := 1) rfl
  have b2 : 0 ≤ ρ 2 ∧ ρ 2 ≤ 143 := hB 2
  have b3 : -2147483648 ≤ ρ 3 ∧ ρ 3 ≤ 2147483647 := hB 3
  have h0 : 0 ≤ (1 : Int) ∧ M.2.2.2.1 (α 0) (1 : Int).toNat = some (α 1) := hP _ (List.mem_of_getElem? (i := 0) rfl)
  have h1 : 0 ≤ (ρ 2 + 298 : Int) ∧ M.2.2.2.2 (α 1) (ρ 2 + 298 : Int).toNat = ρ 3 + 0 := hP _ (List.mem_of_getElem? (i := 1) rfl)
  try simp only [Int.add_zero] at h0 h1
  have key : (Γ (α 0) = 40 ∧ tyO Γ M (α 0) [(1, 41, [(298, 442)])] ∧ Q158 g (vw M (α 0) 1 [(298, 442)]) (clp [] (M.2.2.2.2 (α 0))) (ρ 2 + 0) (ρ 3 + 0)) ∧ True := by
    try simp only [Int.add_zero]
    have e1 : fl M (α 0) 1 = α 1 := fl_eq (show M.2.2.2.1 (α 0) 1 = some (α 1) from h0.2)
    
    have e : M.2.2.2.2 (α 1) (298 + (ρ 2).toNat) = ρ 3 := by
      have := h1.2
      rw [show (ρ 2 + 298).toNat = 298 + (ρ 2).toNat by omega] at this
      exact this
    refine ⟨⟨g0, tyO_of hT g0 (by decide) (by decide), ⟨b2.1, by omega⟩, ?_⟩, trivial⟩
    show clp [(298, 442)] (M.2.2.2.2 (fl M (α 0) 1)) (298 + (ρ 2).toNat) = ρ 3
    rw [e1, ckH (by decide) _ (by omega)]
    exact e
  exact ⟨nB, qB (key.1) (nB)⟩
def t_mv : KT := ((0, 0, 0, 0), [(2, 0, 40, 0), (2, 1, 41, 0), (1, 2, 0, 0), (1, 3, 0, 0)], [(0, 0), (0, 0), (0, 143), (-2147483648, 2147483647)], [(11, [(2, 0, 40, 0), (0, 0, 0, 1), (2, 1, 41, 0)]), (10, [(2, 1, 41, 0), (1, 2, 0, 874), (1, 3, 0, 0)])], (0, 0, 0), [], [], ([], [(160, [(2, 0, 40, 0), (1, 2, 0, 0), (1, 3, 0, 0)])]), ([], []))
set_option maxRecDepth 100000 in
theorem l_mv (g : GG) : LOK Yt (PSt g) t_mv := by
  intro ρ α Γ M as hT hB hA hP
  have g0 : Γ (α 0) = 40 := tyAt hA (i := 0) rfl
  have g1 : Γ (α 1) = 41 := tyAt hA (i := 1) rfl
  have b2 : 0 ≤ ρ 2 ∧ ρ 2 ≤ 143 := hB 2
  have b3 : -2147483648 ≤ ρ 3 ∧ ρ 3 ≤ 2147483647 := hB 3
  have h0 : 0 ≤ (1 : Int) ∧ M.2.2.2.1 (α 0) (1 : Int).toNat = some (α 1) := hP _ (List.mem_of_getElem? (i := 0) rfl)
  have h1 : 0 ≤ (ρ 2 + 874 : Int) ∧ M.2.2.2.2 (α 1) (ρ 2 + 874 : Int).toNat = ρ 3 + 0 := hP _ (List.mem_of_getElem? (i := 1) rfl)
  try simp only [Int.add_zero] at h0 h1
  have key : (Γ (α 0) = 40 ∧ tyO Γ M (α 0) [(1, 41, [(874, 1018)])] ∧ Q160 g (vw M (α 0) 1 [(874, 1018)]) (clp [] (M.2.2.2.2 (α 0))) (ρ 2 + 0) (ρ 3 + 0)) ∧ True := by
    try simp only [Int.add_zero]
    have e1 : fl M (α 0) 1 = α 1 := fl_eq (show M.2.2.2.1 (α 0) 1 = some (α 1) from h0.2)
    
    have e : M.2.2.2.2 (α 1) (874 + (ρ 2).toNat) = ρ 3 := by
      have := h1.2
      rw [show (ρ 2 + 874).toNat = 874 + (ρ 2).toNat by omega] at this
      exact this
    refine ⟨⟨g0, tyO_of hT g0 (by decide) (by decide), ⟨b2.1, by omega⟩, ?_⟩, trivial⟩
    show clp [(874, 1018)] (M.2.2.2.2 (fl M (α 0) 1)) (874 + (ρ 2).toNat) = ρ 3
    rw [e1, ckM (by decide) _ (by omega)]
    exact e
  exact ⟨nB, qB (key.1) (nB)⟩
def t_hvT : KT := ((0, 0, 0, 0), [(2, 0, 40, 0), (1, 1, 0, 0), (1, 2, 0, 0)], [(0, 0), (0, 143), (1, 1)], [(158, [(2, 0, 40, 0), (1, 1, 0, 0), (1, 2, 0, 0)])], (0, 0, 0), [], [], ([], [(122, [(2, 0, 40, 0), (1, 1, 0, 0)])]), ([], []))
set_option maxRecDepth 100000 in
theorem l_hvT (g : GG) : LOK Yt (PSt g) t_hvT := by
  intro ρ α Γ M as hT hB hA hP
  have g0 : Γ (α 0) = 40 := tyAt hA (i := 0) rfl
  have b1 : 0 ≤ ρ 1 ∧ ρ 1 ≤ 143 := hB 1
  have b2 : 1 ≤ ρ 2 ∧ ρ 2 ≤ 1 := hB 2
  have h0 : Γ (α 0) = 40 ∧ tyO Γ M (α 0) [(1, 41, [(298, 442)])] ∧ Q158 g (vw M (α 0) 1 [(298, 442)]) (clp [] (M.2.2.2.2 (α 0))) (ρ 1 + 0) (ρ 2 + 0) := hP _ (List.mem_of_getElem? (i := 0) rfl)
  try simp only [Int.add_zero] at h0
  have key : (Γ (α 0) = 40 ∧ tyO Γ M (α 0) [(1, 41, [(298, 442)])] ∧ Q122 g (vw M (α 0) 1 [(298, 442)]) (clp [] (M.2.2.2.2 (α 0))) (ρ 1 + 0)) ∧ True := by
    try simp only [Int.add_zero]
    obtain ⟨-, ht, hp, h⟩ := h0
    refine ⟨⟨g0, ht, hp, ?_⟩, trivial⟩
    rw [h]
    omega
  exact ⟨nB, qB (key.1) (nB)⟩
def t_hvF : KT := ((0, 0, 0, 0), [(2, 0, 40, 0), (1, 1, 0, 0), (1, 2, 0, 0)], [(0, 0), (0, 143), (0, 0)], [(158, [(2, 0, 40, 0), (1, 1, 0, 0), (1, 2, 0, 0)])], (0, 0, 0), [], [], ([], [(123, [(2, 0, 40, 0), (1, 1, 0, 0)])]), ([], []))
set_option maxRecDepth 100000 in
theorem l_hvF (g : GG) : LOK Yt (PSt g) t_hvF := by
  intro ρ α Γ M as hT hB hA hP
  have g0 : Γ (α 0) = 40 := tyAt hA (i := 0) rfl
  have b1 : 0 ≤ ρ 1 ∧ ρ 1 ≤ 143 := hB 1
  have b2 : 0 ≤ ρ 2 ∧ ρ 2 ≤ 0 := hB 2
  have h0 : Γ (α 0) = 40 ∧ tyO Γ M (α 0) [(1, 41, [(298, 442)])] ∧ Q158 g (vw M (α 0) 1 [(298, 442)]) (clp [] (M.2.2.2.2 (α 0))) (ρ 1 + 0) (ρ 2 + 0) := hP _ (List.mem_of_getElem? (i := 0) rfl)
  try simp only [Int.add_zero] at h0
  have key : (Γ (α 0) = 40 ∧ tyO Γ M (α 0) [(1, 41, [(298, 442)])] ∧ Q123 g (vw M (α 0) 1 [(298, 442)]) (clp [] (M.2.2.2.2 (α 0))) (ρ 1 + 0)) ∧ True := by
    try simp only [Int.add_zero]
    obtain ⟨-, ht, hp, h⟩ := h0
    refine ⟨⟨g0, ht, hp, ?_⟩, trivial⟩
    rw [h]
    omega
  exact ⟨nB, qB (key.1) (nB)⟩
def t_mvT : KT := ((0, 0, 0, 0), [(2, 0, 40, 0), (1, 1, 0, 0), (1, 2, 0, 0)], [(0, 0), (0, 143), (1, 2147483647)], [(160, [(2, 0, 40, 0), (1, 1, 0, 0), (1, 2, 0, 0)])], (0, 0, 0), [], [], ([], [(104, [(2, 0, 40, 0), (1, 1, 0, 0)])]), ([], []))
set_option maxRecDepth 100000 in
theorem l_mvT (g : GG) : LOK Yt (PSt g) t_mvT := by
  intro ρ α Γ M as hT hB hA hP
  have g0 : Γ (α 0) = 40 := tyAt hA (i := 0) rfl
  have b1 : 0 ≤ ρ 1 ∧ ρ 1 ≤ 143 := hB 1
  have b2 : 1 ≤ ρ 2 ∧ ρ 2 ≤ 2147483647 := hB 2
  have h0 : Γ (α 0) = 40 ∧ tyO Γ M (α 0) [(1, 41, [(874, 1018)])] ∧ Q160 g (vw M (α 0) 1 [(874, 1018)]) (clp [] (M.2.2.2.2 (α 0))) (ρ 1 + 0) (ρ 2 + 0) := hP _ (List.mem_of_getElem? (i := 0) rfl)
  try simp only [Int.add_zero] at h0
  have key : (Γ (α 0) = 40 ∧ tyO Γ M (α 0) [(1, 41, [(874, 1018)])] ∧ Q104 g (vw M (α 0) 1 [(874, 1018)]) (clp [] (M.2.2.2.2 (α 0))) (ρ 1 + 0)) ∧ True := by
    try simp only [Int.add_zero]
    obtain ⟨-, ht, hp, h⟩ := h0
    refine ⟨⟨g0, ht, Or.inr ⟨hp.1, hp.2, ?_⟩⟩, trivial⟩
    rw [h]
    omega
  exact ⟨nB, qB (key.1) (nB)⟩
def t_mvF : KT := ((0, 0, 0, 0), [(2, 0, 40, 0), (1, 1, 0, 0), (1, 2, 0, 0)], [(0, 0), (0, 143), (-2147483648, 0)], [(160, [(2, 0, 40, 0), (1, 1, 0, 0), (1, 2, 0, 0)])], (0, 0, 0), [], [], ([], [(103, [(2, 0, 40, 0), (1, 1, 0, 0)])]), ([], []))
set_option maxRecDepth 100000 in
theorem l_mvF (g : GG) : LOK Yt (PSt g) t_mvF := by
  intro ρ α Γ M as hT hB hA hP
  have g0 : Γ (α 0) = 40 := tyAt hA (i := 0) rfl
  have b1 : 0 ≤ ρ 1 ∧ ρ 1 ≤ 143 := hB 1
  have b2 : -2147483648 ≤ ρ 2 ∧ ρ 2 ≤ 0 := hB 2
  have h0 : Γ (α 0) = 40 ∧ tyO Γ M (α 0) [(1, 41, [(874, 1018)])] ∧ Q160 g (vw M (α 0) 1 [(874, 1018)]) (clp [] (M.2.2.2.2 (α 0))) (ρ 1 + 0) (ρ 2 + 0) := hP _ (List.mem_of_getElem? (i := 0) rfl)
  try simp only [Int.add_zero] at h0
  have key : (Γ (α 0) = 40 ∧ tyO Γ M (α 0) [(1, 41, [(874, 1018)])] ∧ Q103 g (vw M (α 0) 1 [(874, 1018)]) (clp [] (M.2.2.2.2 (α 0))) (ρ 1 + 0)) ∧ True := by
    try simp only [Int.add_zero]
    obtain ⟨-, ht, hp, h⟩ := h0
    refine ⟨⟨g0, ht, Or.inr ⟨hp.1, hp.2, ?_⟩⟩, trivial⟩
    rw [h]
    omega
  exact ⟨nB, qB (key.1) (nB)⟩
def t_z0 : KT := ((0, 0, 0, 0), [(2, 0, 40, 0), (1, 1, 0, 0)], [(0, 0), (0, 0)], [], (0, 0, 0), [], [], ([], [(106, [(2, 0, 40, 0), (1, 1, 0, 0)])]), ([], []))
set_option maxRecDepth 100000 in
theorem l_z0 (g : GG) : LOK Yt (PSt g) t_z0 := by
  intro ρ α Γ M as hT hB hA hP
  have g0 : Γ (α 0) = 40 := tyAt hA (i := 0) rfl
  have b1 : 0 ≤ ρ 1 ∧ ρ 1 ≤ 0 := hB 1
  have key : (Γ (α 0) = 40 ∧ tyO Γ M (α 0) [(1, 41, [(874, 1018)])] ∧ Q106 g (vw M (α 0) 1 [(874, 1018)]) (clp [] (M.2.2.2.2 (α 0))) (ρ 1 + 0)) ∧ True := by
    try simp only [Int.add_zero]
    exact ⟨⟨g0, tyO_of hT g0 (by decide) (by decide), fun q hq => by omega⟩, trivial⟩
  exact ⟨nB, qB (key.1) (nB)⟩
def t_z1 : KT := ((0, 0, 0, 0), [(2, 0, 40, 0), (2, 1, 41, 0), (1, 2, 0, 0)], [(0, 0), (0, 0), (0, 143)], [(106, [(2, 0, 40, 0), (1, 2, 0, 0)]), (11, [(2, 0, 40, 0), (0, 0, 0, 1), (2, 1, 41, 0)])], (0, 0, 0), [], [], ([], [(200, [(2, 1, 41, 0), (1, 2, 0, 874), (2, 0, 40, 0), (1, 2, 0, 0)])]), ([], []))
set_option maxRecDepth 100000 in
theorem l_z1 (g : GG) : LOK Yt (PSt g) t_z1 := by
  intro ρ α Γ M as hT hB hA hP
  have g0 : Γ (α 0) = 40 := tyAt hA (i := 0) rfl
  have g1 : Γ (α 1) = 41 := tyAt hA (i := 1) rfl
  have b2 : 0 ≤ ρ 2 ∧ ρ 2 ≤ 143 := hB 2
  have h0 : Γ (α 0) = 40 ∧ tyO Γ M (α 0) [(1, 41, [(874, 1018)])] ∧ Q106 g (vw M (α 0) 1 [(874, 1018)]) (clp [] (M.2.2.2.2 (α 0))) (ρ 2 + 0) := hP _ (List.mem_of_getElem? (i := 0) rfl)
  have h1 : 0 ≤ (1 : Int) ∧ M.2.2.2.1 (α 0) (1 : Int).toNat = some (α 1) := hP _ (List.mem_of_getElem? (i := 1) rfl)
  try simp only [Int.add_zero] at h0 h1
  have key : (Γ (α 0) = 40 ∧ M.2.2.2.1 (α 0) 1 = some (α 1) ∧ Γ (α 1) = 41 ∧ tyO Γ M (α 0) [] ∧ Q200 g (hcl [vi (ρ 2 + 874)] (clp [(874, 1018)] (M.2.2.2.2 (α 1))))  (clp [] (M.2.2.2.2 (α 0))) (ρ 2 + 874) (ρ 2 + 0)) ∧ True := by
    try simp only [Int.add_zero]
    have e1 : fl M (α 0) 1 = α 1 := fl_eq (show M.2.2.2.1 (α 0) 1 = some (α 1) from h1.2)
    
    obtain ⟨-, -, h⟩ := h0
    have h := c106.mp (show ∀ q : Nat, (q : Int) < ρ 2 → clp [(874, 1018)] (M.2.2.2.2 (fl M (α 0) 1)) (874 + q) = 0 from h)
    rw [e1] at h
    refine ⟨⟨g0, h1.2, g1, tyO_of hT g0 (by decide) (by decide), fun q hq => ?_⟩, trivial⟩
    rw [hcl1 (by omega), ckM (by decide) q (by omega)]
    exact h q (by omega) hq
  exact ⟨nB, qB (key.1) (nB)⟩
def t_z2 : KT := ((0, 0, 0, 0), [(2, 0, 40, 0), (2, 1, 41, 0), (1, 2, 0, 0)], [(0, 0), (0, 0), (0, 143)], [(200, [(2, 1, 41, 0), (1, 2, 0, 874), (2, 0, 40, 0), (1, 2, 0, 0)]), (10, [(2, 1, 41, 0), (1, 2, 0, 874), (0, 0, 0, 0)])], (0, 0, 0), [], [], ([], [(106, [(2, 0, 40, 0), (1, 2, 0, 1)])]), ([], []))
set_option maxRecDepth 100000 in
theorem l_z2 (g : GG) : LOK Yt (PSt g) t_z2 := by
  intro ρ α Γ M as hT hB hA hP
  have g0 : Γ (α 0) = 40 := tyAt hA (i := 0) rfl
  have g1 : Γ (α 1) = 41 := tyAt hA (i := 1) rfl
  have b2 : 0 ≤ ρ 2 ∧ ρ 2 ≤ 143 := hB 2
  have h0 : Γ (α 0) = 40 ∧ M.2.2.2.1 (α 0) 1 = some (α 1) ∧ Γ (α 1) = 41 ∧ tyO Γ M (α 0) [] ∧ Q200 g (hcl [vi (ρ 2 + 874)] (clp [(874, 1018)] (M.2.2.2.2 (α 1))))  (clp [] (M.2.2.2.2 (α 0))) (ρ 2 + 874) (ρ 2 + 0) := hP _ (List.mem_of_getElem? (i := 0) rfl)
  have h1 : 0 ≤ (ρ 2 + 874 : Int) ∧ M.2.2.2.2 (α 1) (ρ 2 + 874 : Int).toNat = 0 := hP _ (List.mem_of_getElem? (i := 1) rfl)
  try simp only [Int.add_zero] at h0 h1
  have key : (Γ (α 0) = 40 ∧ tyO Γ M (α 0) [(1, 41, [(874, 1018)])] ∧ Q106 g (vw M (α 0) 1 [(874, 1018)]) (clp [] (M.2.2.2.2 (α 0))) (ρ 2 + 1)) ∧ True := by
    try simp only [Int.add_zero]
    obtain ⟨-, hr, -, -, h⟩ := h0
    have e1 : fl M (α 0) 1 = α 1 := fl_eq hr
    refine ⟨⟨g0, tyO_of hT g0 (by decide) (by decide), c106.mpr fun q hq hq2 => ?_⟩, trivial⟩
    show M.2.2.2.2 (fl M (α 0) 1) (874 + q) = 0
    rw [e1]
    by_cases hc : (q : Int) < ρ 2
    · have := h q hc
      rw [hcl1 (by omega), ckM (by decide) q hq] at this
      exact this
    · have e := h1.2
      rw [show (ρ 2 + 874).toNat = 874 + q by omega] at e
      exact e
  exact ⟨nB, qB (key.1) (nB)⟩
def t_z3 : KT := ((0, 0, 0, 0), [(2, 0, 40, 0), (2, 1, 41, 0), (1, 2, 0, 0)], [(0, 0), (0, 0), (144, 144)], [(106, [(2, 0, 40, 0), (1, 2, 0, 0)]), (11, [(2, 0, 40, 0), (0, 0, 0, 1), (2, 1, 41, 0)]), (10, [(2, 1, 41, 0), (0, 0, 0, 2), (0, 0, 0, 0)]), (10, [(2, 1, 41, 0), (0, 0, 0, 3), (0, 0, 0, 0)]), (10, [(2, 1, 41, 0), (0, 0, 0, 4), (0, 0, 0, 0)])], (0, 0, 0), [], [], ([], [(100, [(2, 0, 40, 0)]), (101, [(2, 0, 40, 0)]), (102, [(2, 0, 40, 0)]), (132, [(2, 0, 40, 0)])]), ([], []))
set_option maxRecDepth 100000 in
theorem l_z3 (g : GG) : LOK Yt (PSt g) t_z3 := by
  intro ρ α Γ M as hT hB hA hP
  have g0 : Γ (α 0) = 40 := tyAt hA (i := 0) rfl
  have g1 : Γ (α 1) = 41 := tyAt hA (i := 1) rfl
  have b2 : 144 ≤ ρ 2 ∧ ρ 2 ≤ 144 := hB 2
  have h0 : Γ (α 0) = 40 ∧ tyO Γ M (α 0) [(1, 41, [(874, 1018)])] ∧ Q106 g (vw M (α 0) 1 [(874, 1018)]) (clp [] (M.2.2.2.2 (α 0))) (ρ 2 + 0) := hP _ (List.mem_of_getElem? (i := 0) rfl)
  have h1 : 0 ≤ (1 : Int) ∧ M.2.2.2.1 (α 0) (1 : Int).toNat = some (α 1) := hP _ (List.mem_of_getElem? (i := 1) rfl)
  have h2 : 0 ≤ (2 : Int) ∧ M.2.2.2.2 (α 1) (2 : Int).toNat = 0 := hP _ (List.mem_of_getElem? (i := 2) rfl)
  have h3 : 0 ≤ (3 : Int) ∧ M.2.2.2.2 (α 1) (3 : Int).toNat = 0 := hP _ (List.mem_of_getElem? (i := 3) rfl)
  have h4 : 0 ≤ (4 : Int) ∧ M.2.2.2.2 (α 1) (4 : Int).toNat = 0 := hP _ (List.mem_of_getElem? (i := 4) rfl)
  try simp only [Int.add_zero] at h0 h1 h2 h3 h4
  have key : (Γ (α 0) = 40 ∧ tyO Γ M (α 0) [(1, 41, [(2, 4), (586, 730), (874, 1018)])] ∧ Q100 g (vw M (α 0) 1 [(2, 4), (586, 730), (874, 1018)]) (clp [] (M.2.2.2.2 (α 0))) ) ∧ (Γ (α 0) = 40 ∧ tyO Γ M (α 0) [(1, 41, [(0, 2), (4, 5), (298, 442), (874, 1018)])] ∧ Q101 g (vw M (α 0) 1 [(0, 2), (4, 5), (298, 442), (874, 1018)]) (clp [] (M.2.2.2.2 (α 0))) ) ∧ (Γ (α 0) = 40 ∧ tyO Γ M (α 0) [(1, 41, [(4, 5)])] ∧ Q102 g (vw M (α 0) 1 [(4, 5)]) (clp [] (M.2.2.2.2 (α 0))) ) ∧ (Γ (α 0) = 40 ∧ tyO Γ M (α 0) [(1, 41, [(874, 1018)])] ∧ True) ∧ True := by
    try simp only [Int.add_zero]
    have e1 : fl M (α 0) 1 = α 1 := fl_eq (show M.2.2.2.1 (α 0) 1 = some (α 1) from h1.2)
    
    obtain ⟨-, -, h⟩ := h0
    have h := c106.mp (show ∀ q : Nat, (q : Int) < ρ 2 → clp [(874, 1018)] (M.2.2.2.2 (fl M (α 0) 1)) (874 + q) = 0 from h)
    rw [e1] at h
    have x2 : M.2.2.2.2 (α 1) 2 = 0 := h2.2
    have x3 : M.2.2.2.2 (α 1) 3 = 0 := h3.2
    have x4 : M.2.2.2.2 (α 1) 4 = 0 := h4.2
    refine ⟨⟨g0, tyO_of hT g0 (by decide) (by decide), c100.mpr ?_⟩, ⟨g0, tyO_of hT g0 (by decide) (by decide), c101.mpr ?_⟩, ⟨g0, tyO_of hT g0 (by decide) (by decide), ?_⟩, ⟨g0, tyO_of hT g0 (by decide) (by decide), trivial⟩, trivial⟩
    · show RI0 (M.2.2.2.2 (fl M (α 0) 1))
      rw [e1]
      exact clear_ok x2 x3 fun p hp => h p hp (by omega)
    · show FLc (M.2.2.2.2 (fl M (α 0) 1))
      rw [e1]
      exact FL0 x4
    · show clp [(4, 5)] (M.2.2.2.2 (fl M (α 0) 1)) 4 = 0
      rw [e1, clp_in 4 5 (by decide) (by decide) (by decide)]
      exact x4
  exact ⟨nB, qB (key.1) (qB (key.2.1) (qB (key.2.2.1) (qB (key.2.2.2.1) (nB))))⟩
def t_nf01 : KT := ((0, 0, 0, 0), [(2, 0, 40, 0)], [(0, 0)], [(102, [(2, 0, 40, 0)])], (0, 0, 0), [], [], ([], [(101, [(2, 0, 40, 0)])]), ([], []))
set_option maxRecDepth 100000 in
theorem l_nf01 (g : GG) : LOK Yt (PSt g) t_nf01 := by
  intro ρ α Γ M as hT hB hA hP
  have g0 : Γ (α 0) = 40 := tyAt hA (i := 0) rfl
  have h0 : Γ (α 0) = 40 ∧ tyO Γ M (α 0) [(1, 41, [(4, 5)])] ∧ Q102 g (vw M (α 0) 1 [(4, 5)]) (clp [] (M.2.2.2.2 (α 0)))  := hP _ (List.mem_of_getElem? (i := 0) rfl)
  try simp only [Int.add_zero] at h0
  have key : (Γ (α 0) = 40 ∧ tyO Γ M (α 0) [(1, 41, [(0, 2), (4, 5), (298, 442), (874, 1018)])] ∧ Q101 g (vw M (α 0) 1 [(0, 2), (4, 5), (298, 442), (874, 1018)]) (clp [] (M.2.2.2.2 (α 0))) ) ∧ True := by
    try simp only [Int.add_zero]
    obtain ⟨-, -, h⟩ := h0
    have h : clp [(4, 5)] (M.2.2.2.2 (fl M (α 0) 1)) 4 = 0 := h
    rw [clp_in 4 5 (by decide) (by decide) (by decide)] at h
    exact ⟨⟨g0, tyO_of hT g0 (by decide) (by decide), c101.mpr (FL0 h)⟩, trivial⟩
  exact ⟨nB, qB (key.1) (nB)⟩
def t_ly00 : KT := ((0, 0, 0, 0), [(2, 0, 40, 0), (2, 1, 41, 0), (1, 2, 0, 0), (1, 3, 0, 0)], [(0, 0), (0, 0), (0, 143), (-2147483648, 2147483647)], [(155, [(2, 0, 40, 0)]), (103, [(2, 0, 40, 0), (1, 2, 0, 0)]), (11, [(2, 0, 40, 0), (0, 0, 0, 1), (2, 1, 41, 0)]), (10, [(2, 1, 41, 0), (0, 0, 0, 2), (1, 3, 0, 0)])], (0, 0, 0), [], [], ([(3, 0, 143)], []), ([], []))
set_option maxRecDepth 100000 in
theorem l_ly00 (g : GG) : LOK Yt (PSt g) t_ly00 := by
  intro ρ α Γ M as hT hB hA hP
  have g0 : Γ (α 0) = 40 := tyAt hA (i := 0) rfl
  have g1 : Γ (α 1) = 41 := tyAt hA (i := 1) rfl
  have b2 : 0 ≤ ρ 2 ∧ ρ 2 ≤ 143 := hB 2
  have b3 : -2147483648 ≤ ρ 3 ∧ ρ 3 ≤ 2147483647 := hB 3
  have h0 : Γ (α 0) = 40 ∧ tyO Γ M (α 0) [(1, 41, [(2, 4), (586, 730), (874, 1018)])] ∧ Q155 g (vw M (α 0) 1 [(2, 4), (586, 730), (874, 1018)]) (clp [] (M.2.2.2.2 (α 0)))  := hP _ (List.mem_of_getElem? (i := 0) rfl)
  have h1 : Γ (α 0) = 40 ∧ tyO Γ M (α 0) [(1, 41, [(874, 1018)])] ∧ Q103 g (vw M (α 0) 1 [(874, 1018)]) (clp [] (M.2.2.2.2 (α 0))) (ρ 2 + 0) := hP _ (List.mem_of_getElem? (i := 1) rfl)
  have h2 : 0 ≤ (1 : Int) ∧ M.2.2.2.1 (α 0) (1 : Int).toNat = some (α 1) := hP _ (List.mem_of_getElem? (i := 2) rfl)
  have h3 : 0 ≤ (2 : Int) ∧ M.2.2.2.2 (α 1) (2 : Int).toNat = ρ 3 + 0 := hP _ (List.mem_of_getElem? (i := 3) rfl)
  try simp only [Int.add_zero] at h0 h1 h2 h3
  have key : (0 ≤ ρ 3 ∧ ρ 3 ≤ 143) ∧ True := by
    try simp only [Int.add_zero]
    have e1 : fl M (α 0) 1 = α 1 := fl_eq (show M.2.2.2.1 (α 0) 1 = some (α 1) from h2.2)
    
    have r := c155.mp (show RI1 (clp _ (M.2.2.2.2 (fl M (α 0) 1))) from h0.2.2)
    have u := c103.mp (show UNp (clp _ (M.2.2.2.2 (fl M (α 0) 1))) (ρ 2) from h1.2.2)
    rw [e1] at r u
    have e : M.2.2.2.2 (α 1) 2 = ρ 3 := h3.2
    obtain ⟨⟨r1, r2⟩, -⟩ := r
    rw [e] at r1 r2
    rcases u with u | ⟨u1, u2, u3⟩
    · omega
    · have := unl_pos (p := (ρ 2).toNat) (by omega) u3
      exact ⟨⟨by omega, by omega⟩, trivial⟩
  exact ⟨qB (key.1) (nB), nB⟩
def t_ly0 : KT := ((0, 0, 0, 0), [(2, 0, 40, 0), (2, 1, 41, 0), (1, 2, 0, 0), (1, 3, 0, 0), (1, 4, 0, 0)], [(0, 0), (0, 0), (0, 143), (-1, 143), (1, 144)], [(155, [(2, 0, 40, 0)]), (103, [(2, 0, 40, 0), (1, 2, 0, 0)]), (104, [(2, 0, 40, 0), (1, 3, 0, 0)]), (11, [(2, 0, 40, 0), (0, 0, 0, 1), (2, 1, 41, 0)]), (10, [(2, 1, 41, 0), (0, 0, 0, 2), (1, 4, 0, -1)])], (0, 0, 0), [], [], ([], [(300, [(2, 1, 41, 0), (0, 0, 0, 2), (1, 2, 0, 874), (0, 0, 0, 2), (0, 0, 0, 2), (0, 0, 0, 2), (2, 0, 40, 0), (1, 2, 0, 0), (1, 3, 0, 0), (1, 4, 0, 0)])]), ([], []))
set_option maxRecDepth 100000 in
theorem l_ly0 (g : GG) : LOK Yt (PSt g) t_ly0 := by
  intro ρ α Γ M as hT hB hA hP
  have g0 : Γ (α 0) = 40 := tyAt hA (i := 0) rfl
  have g1 : Γ (α 1) = 41 := tyAt hA (i := 1) rfl
  have b2 : 0 ≤ ρ 2 ∧ ρ 2 ≤ 143 := hB 2
  have b3 : -1 ≤ ρ 3 ∧ ρ 3 ≤ 143 := hB 3
  have b4 : 1 ≤ ρ 4 ∧ ρ 4 ≤ 144 := hB 4
  have h0 : Γ (α 0) = 40 ∧ tyO Γ M (α 0) [(1, 41, [(2, 4), (586, 730), (874, 1018)])] ∧ Q155 g (vw M (α 0) 1 [(2, 4), (586, 730), (874, 1018)]) (clp [] (M.2.2.2.2 (α 0)))  := hP _ (List.mem_of_getElem? (i := 0) rfl)
  have h1 : Γ (α 0) = 40 ∧ tyO Γ M (α 0) [(1, 41, [(874, 1018)])] ∧ Q103 g (vw M (α 0) 1 [(874, 1018)]) (clp [] (M.2.2.2.2 (α 0))) (ρ 2 + 0) := hP _ (List.mem_of_getElem? (i := 1) rfl)
  have h2 : Γ (α 0) = 40 ∧ tyO Γ M (α 0) [(1, 41, [(874, 1018)])] ∧ Q104 g (vw M (α 0) 1 [(874, 1018)]) (clp [] (M.2.2.2.2 (α 0))) (ρ 3 + 0) := hP _ (List.mem_of_getElem? (i := 2) rfl)
  have h3 : 0 ≤ (1 : Int) ∧ M.2.2.2.1 (α 0) (1 : Int).toNat = some (α 1) := hP _ (List.mem_of_getElem? (i := 3) rfl)
  have h4 : 0 ≤ (2 : Int) ∧ M.2.2.2.2 (α 1) (2 : Int).toNat = ρ 4 + (-1) := hP _ (List.mem_of_getElem? (i := 4) rfl)
  try simp only [Int.add_zero] at h0 h1 h2 h3 h4
  have key : (Γ (α 0) = 40 ∧ M.2.2.2.1 (α 0) 1 = some (α 1) ∧ Γ (α 1) = 41 ∧ tyO Γ M (α 0) [] ∧ Q300 g (hcl [vi (2), vi (ρ 2 + 874), vi (2), vi (2), vi (2)] (clp [(2, 4), (586, 730), (874, 1018)] (M.2.2.2.2 (α 1))))  (clp [] (M.2.2.2.2 (α 0))) (2) (ρ 2 + 874) (2) (2) (2) (ρ 2 + 0) (ρ 3 + 0) (ρ 4 + 0)) ∧ True := by
    try simp only [Int.add_zero]
    have e1 : fl M (α 0) 1 = α 1 := fl_eq (show M.2.2.2.1 (α 0) 1 = some (α 1) from h3.2)
    
    have r := c155.mp (show RI1 (clp _ (M.2.2.2.2 (fl M (α 0) 1))) from h0.2.2)
    have u := c103.mp (show UNp (clp _ (M.2.2.2.2 (fl M (α 0) 1))) (ρ 2) from h1.2.2)
    have w := c104.mp (show LAp (clp _ (M.2.2.2.2 (fl M (α 0) 1))) (ρ 3) from h2.2.2)
    rw [e1] at r u w
    have e : M.2.2.2.2 (α 1) 2 = ρ 4 + (-1) := h4.2
    rcases u with u | ⟨u1, u2, u3⟩
    · omega
    · refine ⟨⟨g0, h3.2, g1, tyO_of hT g0 (by decide) (by decide), M.2.2.2.2 (α 1), r, ⟨u1, u2, u3⟩, w, ?_, fun q hq hn => ?_, fun q hq hn => ?_, by omega⟩, trivial⟩
      · rw [hcl5 (by decide) (by omega) (by decide) (by decide) (by decide), clp_in 2 4 (by decide) (by decide) (by decide)]
      · rw [hcl5 (by omega) (by omega) (by omega) (by omega) (by omega), ckM (by decide) q hq]
      · rw [hcl5 (by omega) (by omega) (by omega) (by omega) (by omega), ckF (by decide) q hq]
  exact ⟨nB, qB (key.1) (nB)⟩
def t_ly1 : KT := ((0, 0, 0, 0), [(2, 0, 40, 0), (2, 1, 41, 0), (1, 2, 0, 0), (1, 3, 0, 0), (1, 4, 0, 0)], [(0, 0), (0, 0), (0, 143), (-1, 143), (1, 144)], [(300, [(2, 1, 41, 0), (0, 0, 0, 2), (1, 2, 0, 874), (0, 0, 0, 2), (0, 0, 0, 2), (0, 0, 0, 2), (2, 0, 40, 0), (1, 2, 0, 0), (1, 3, 0, 0), (1, 4, 0, 0)]), (10, [(2, 1, 41, 0), (0, 0, 0, 2), (1, 4, 0, 0)]), (10, [(2, 1, 41, 0), (1, 2, 0, 874), (1, 4, 0, 0)])], (0, 0, 0), [], [], ([], [(212, [(2, 1, 41, 0), (1, 2, 0, 586), (2, 0, 40, 0), (1, 2, 0, 0), (1, 3, 0, 0)])]), ([], []))
set_option maxRecDepth 100000 in
theorem l_ly1 (g : GG) : LOK Yt (PSt g) t_ly1 := by
  intro ρ α Γ M as hT hB hA hP
  have g0 : Γ (α 0) = 40 := tyAt hA (i := 0) rfl
  have g1 : Γ (α 1) = 41 := tyAt hA (i := 1) rfl
  have b2 : 0 ≤ ρ 2 ∧ ρ 2 ≤ 143 := hB 2
  have b3 : -1 ≤ ρ 3 ∧ ρ 3 ≤ 143 := hB 3
  have b4 : 1 ≤ ρ 4 ∧ ρ 4 ≤ 144 := hB 4
  have h0 : Γ (α 0) = 40 ∧ M.2.2.2.1 (α 0) 1 = some (α 1) ∧ Γ (α 1) = 41 ∧ tyO Γ M (α 0) [] ∧ Q300 g (hcl [vi (2), vi (ρ 2 + 874), vi (2), vi (2), vi (2)] (clp [(2, 4), (586, 730), (874, 1018)] (M.2.2.2.2 (α 1))))  (clp [] (M.2.2.2.2 (α 0))) (2) (ρ 2 + 874) (2) (2) (2) (ρ 2 + 0) (ρ 3 + 0) (ρ 4 + 0) := hP _ (List.mem_of_getElem? (i := 0) rfl)
  have h1 : 0 ≤ (2 : Int) ∧ M.2.2.2.2 (α 1) (2 : Int).toNat = ρ 4 + 0 := hP _ (List.mem_of_getElem? (i := 1) rfl)
  have h2 : 0 ≤ (ρ 2 + 874 : Int) ∧ M.2.2.2.2 (α 1) (ρ 2 + 874 : Int).toNat = ρ 4 + 0 := hP _ (List.mem_of_getElem? (i := 2) rfl)
  try simp only [Int.add_zero] at h0 h1 h2
  have key : (Γ (α 0) = 40 ∧ M.2.2.2.1 (α 0) 1 = some (α 1) ∧ Γ (α 1) = 41 ∧ tyO Γ M (α 0) [] ∧ Q212 g (hcl [vi (ρ 2 + 586)] (clp [(2, 4), (586, 730), (874, 1018)] (M.2.2.2.2 (α 1))))  (clp [] (M.2.2.2.2 (α 0))) (ρ 2 + 586) (ρ 2 + 0) (ρ 3 + 0)) ∧ True := by
    try simp only [Int.add_zero]
    obtain ⟨-, hr, -, -, f, f1, f2, f3, f4, f5, f6, f7⟩ := h0
    have x2 : M.2.2.2.2 (α 1) 2 = ρ 4 := h1.2
    have x3 : M.2.2.2.2 (α 1) (874 + (ρ 2).toNat) = ρ 4 := by
      have := h2.2
      rw [show (ρ 2 + 874).toNat = 874 + (ρ 2).toNat by omega] at this
      exact this
    rw [hcl5 (by decide) (by omega) (by decide) (by decide) (by decide)] at f4
    refine ⟨⟨g0, hr, g1, tyO_of hT g0 (by decide) (by decide), f, f1, f2, f3, ?_, fun q hq hn => ?_, fun q hq hn => ?_, ?_, ?_⟩, trivial⟩
    · rw [hcl1 (by omega)]
      exact f4
    · rw [← f5 q hq hn, hcl5 (by omega) (by omega) (by omega) (by omega) (by omega), hcl1 (by omega)]
    · rw [← f6 q hq hn, hcl5 (by omega) (by omega) (by omega) (by omega) (by omega), hcl1 (by omega)]
    · rw [hcl1 (by omega), clp_in 2 4 (by decide) (by decide) (by decide), x2]
      exact f7
    · rw [hcl1 (by omega), ckM (by decide) _ (by omega), x3]
      exact f7
  exact ⟨nB, qB (key.1) (nB)⟩
def t_ly2 : KT := ((0, 0, 0, 0), [(2, 0, 40, 0), (2, 1, 41, 0), (1, 2, 0, 0), (1, 3, 0, 0)], [(0, 0), (0, 0), (0, 143), (-1, 143)], [(212, [(2, 1, 41, 0), (1, 2, 0, 586), (2, 0, 40, 0), (1, 2, 0, 0), (1, 3, 0, 0)]), (10, [(2, 1, 41, 0), (1, 2, 0, 586), (1, 3, 0, 0)])], (0, 0, 0), [], [], ([], [(100, [(2, 0, 40, 0)])]), ([], []))
set_option maxRecDepth 100000 in
theorem l_ly2 (g : GG) : LOK Yt (PSt g) t_ly2 := by
  intro ρ α Γ M as hT hB hA hP
  have g0 : Γ (α 0) = 40 := tyAt hA (i := 0) rfl
  have g1 : Γ (α 1) = 41 := tyAt hA (i := 1) rfl
  have b2 : 0 ≤ ρ 2 ∧ ρ 2 ≤ 143 := hB 2
  have b3 : -1 ≤ ρ 3 ∧ ρ 3 ≤ 143 := hB 3
  have h0 : Γ (α 0) = 40 ∧ M.2.2.2.1 (α 0) 1 = some (α 1) ∧ Γ (α 1) = 41 ∧ tyO Γ M (α 0) [] ∧ Q212 g (hcl [vi (ρ 2 + 586)] (clp [(2, 4), (586, 730), (874, 1018)] (M.2.2.2.2 (α 1))))  (clp [] (M.2.2.2.2 (α 0))) (ρ 2 + 586) (ρ 2 + 0) (ρ 3 + 0) := hP _ (List.mem_of_getElem? (i := 0) rfl)
  have h1 : 0 ≤ (ρ 2 + 586 : Int) ∧ M.2.2.2.2 (α 1) (ρ 2 + 586 : Int).toNat = ρ 3 + 0 := hP _ (List.mem_of_getElem? (i := 1) rfl)
  try simp only [Int.add_zero] at h0 h1
  have key : (Γ (α 0) = 40 ∧ tyO Γ M (α 0) [(1, 41, [(2, 4), (586, 730), (874, 1018)])] ∧ Q100 g (vw M (α 0) 1 [(2, 4), (586, 730), (874, 1018)]) (clp [] (M.2.2.2.2 (α 0))) ) ∧ True := by
    try simp only [Int.add_zero]
    obtain ⟨-, hr, -, -, f, f1, f2, f3, f4, f5, f6, f7, f8⟩ := h0
    have e1 : fl M (α 0) 1 = α 1 := fl_eq hr
    have x3 : M.2.2.2.2 (α 1) (586 + (ρ 2).toNat) = ρ 3 := by
      have := h1.2
      rw [show (ρ 2 + 586).toNat = 586 + (ρ 2).toNat by omega] at this
      exact this
    rw [hcl1 (by omega), clp_in 2 4 (by decide) (by decide) (by decide)] at f4
    rw [hcl1 (by omega), clp_in 2 4 (by decide) (by decide) (by decide)] at f7
    rw [hcl1 (by omega), ckM (by decide) _ (by omega)] at f8
    have q := lay_ok (f2 := M.2.2.2.2 (α 1)) (p := (ρ 2).toNat) (by omega) f1 f2.2.2 f3 f7 f4 f8 x3 (fun q hq hn => by rw [← f5 q hq hn, hcl1 (by omega), ckM (by decide) q hq]) (fun q hq hn => by rw [← f6 q hq hn, hcl1 (by omega), ckF (by decide) q hq])
    rw [← e1] at q
    exact ⟨⟨g0, tyO_of hT g0 (by decide) (by decide), c100.mpr q.1⟩, trivial⟩
  exact ⟨nB, qB (key.1) (nB)⟩
def t_ly0g : KT := ((0, 0, 0, 0), [(2, 0, 40, 0), (2, 1, 41, 0), (1, 2, 0, 0), (1, 3, 0, 0), (1, 4, 0, 0)], [(0, 0), (0, 0), (0, 143), (-1, 143), (1, 144)], [(155, [(2, 0, 40, 0)]), (103, [(2, 0, 40, 0), (1, 2, 0, 0)]), (104, [(2, 0, 40, 0), (1, 3, 0, 0)]), (11, [(2, 0, 40, 0), (0, 0, 0, 1), (2, 1, 41, 0)]), (10, [(2, 1, 41, 0), (0, 0, 0, 2), (1, 4, 0, -1)]), (32, [(2, 0, 40, 0)])], (0, 0, 0), [], [], ([], [(390, [(2, 1, 41, 0), (0, 0, 0, 2), (1, 2, 0, 874), (0, 0, 0, 2), (0, 0, 0, 2), (0, 0, 0, 2), (2, 0, 40, 0), (1, 2, 0, 0), (1, 3, 0, 0), (1, 4, 0, 0)])]), ([], []))
set_option maxRecDepth 100000 in
theorem l_ly0g (g : GG) : LOK Yt (PSt g) t_ly0g := by
  intro ρ α Γ M as hT hB hA hP
  have g0 : Γ (α 0) = 40 := tyAt hA (i := 0) rfl
  have g1 : Γ (α 1) = 41 := tyAt hA (i := 1) rfl
  have b2 : 0 ≤ ρ 2 ∧ ρ 2 ≤ 143 := hB 2
  have b3 : -1 ≤ ρ 3 ∧ ρ 3 ≤ 143 := hB 3
  have b4 : 1 ≤ ρ 4 ∧ ρ 4 ≤ 144 := hB 4
  have h0 : Γ (α 0) = 40 ∧ tyO Γ M (α 0) [(1, 41, [(2, 4), (586, 730), (874, 1018)])] ∧ Q155 g (vw M (α 0) 1 [(2, 4), (586, 730), (874, 1018)]) (clp [] (M.2.2.2.2 (α 0)))  := hP _ (List.mem_of_getElem? (i := 0) rfl)
  have h1 : Γ (α 0) = 40 ∧ tyO Γ M (α 0) [(1, 41, [(874, 1018)])] ∧ Q103 g (vw M (α 0) 1 [(874, 1018)]) (clp [] (M.2.2.2.2 (α 0))) (ρ 2 + 0) := hP _ (List.mem_of_getElem? (i := 1) rfl)
  have h2 : Γ (α 0) = 40 ∧ tyO Γ M (α 0) [(1, 41, [(874, 1018)])] ∧ Q104 g (vw M (α 0) 1 [(874, 1018)]) (clp [] (M.2.2.2.2 (α 0))) (ρ 3 + 0) := hP _ (List.mem_of_getElem? (i := 2) rfl)
  have h3 : 0 ≤ (1 : Int) ∧ M.2.2.2.1 (α 0) (1 : Int).toNat = some (α 1) := hP _ (List.mem_of_getElem? (i := 3) rfl)
  have h4 : 0 ≤ (2 : Int) ∧ M.2.2.2.2 (α 1) (2 : Int).toNat = ρ 4 + (-1) := hP _ (List.mem_of_getElem? (i := 4) rfl)
  have h5 : Γ (α 0) = 40 ∧ tyO Γ M (α 0) [(1, 41, [(874, 1018)])] ∧ True ∧ mu32 (vw M (α 0) 1 [(874, 1018)])  ≤ g.2.2 := hP _ (List.mem_of_getElem? (i := 5) rfl)
  try simp only [Int.add_zero] at h0 h1 h2 h3 h4 h5
  have key : (Γ (α 0) = 40 ∧ M.2.2.2.1 (α 0) 1 = some (α 1) ∧ Γ (α 1) = 41 ∧ tyO Γ M (α 0) [] ∧ Q390 g (hcl [vi (2), vi (ρ 2 + 874), vi (2), vi (2), vi (2)] (clp [(2, 4), (586, 730), (874, 1018)] (M.2.2.2.2 (α 1))))  (clp [] (M.2.2.2.2 (α 0))) (2) (ρ 2 + 874) (2) (2) (2) (ρ 2 + 0) (ρ 3 + 0) (ρ 4 + 0)) ∧ True := by
    try simp only [Int.add_zero]
    have e1 : fl M (α 0) 1 = α 1 := fl_eq (show M.2.2.2.1 (α 0) 1 = some (α 1) from h3.2)
    
    have hu : unl (clp _ (M.2.2.2.2 (fl M (α 0) 1))) ≤ g.2.2 := h5.2.2.2
    rw [unl_c (ckM (by decide)), e1] at hu
    
    have r := c155.mp (show RI1 (clp _ (M.2.2.2.2 (fl M (α 0) 1))) from h0.2.2)
    have u := c103.mp (show UNp (clp _ (M.2.2.2.2 (fl M (α 0) 1))) (ρ 2) from h1.2.2)
    have w := c104.mp (show LAp (clp _ (M.2.2.2.2 (fl M (α 0) 1))) (ρ 3) from h2.2.2)
    rw [e1] at r u w
    have e : M.2.2.2.2 (α 1) 2 = ρ 4 + (-1) := h4.2
    rcases u with u | ⟨u1, u2, u3⟩
    · omega
    · refine ⟨⟨g0, h3.2, g1, tyO_of hT g0 (by decide) (by decide), M.2.2.2.2 (α 1), r, ⟨u1, u2, u3⟩, w, ?_, fun q hq hn => ?_, fun q hq hn => ?_, by omega, hu⟩, trivial⟩
      · rw [hcl5 (by decide) (by omega) (by decide) (by decide) (by decide), clp_in 2 4 (by decide) (by decide) (by decide)]
      · rw [hcl5 (by omega) (by omega) (by omega) (by omega) (by omega), ckM (by decide) q hq]
      · rw [hcl5 (by omega) (by omega) (by omega) (by omega) (by omega), ckF (by decide) q hq]
  exact ⟨nB, qB (key.1) (nB)⟩
def t_ly1g : KT := ((0, 0, 0, 0), [(2, 0, 40, 0), (2, 1, 41, 0), (1, 2, 0, 0), (1, 3, 0, 0), (1, 4, 0, 0)], [(0, 0), (0, 0), (0, 143), (-1, 143), (1, 144)], [(390, [(2, 1, 41, 0), (0, 0, 0, 2), (1, 2, 0, 874), (0, 0, 0, 2), (0, 0, 0, 2), (0, 0, 0, 2), (2, 0, 40, 0), (1, 2, 0, 0), (1, 3, 0, 0), (1, 4, 0, 0)]), (10, [(2, 1, 41, 0), (0, 0, 0, 2), (1, 4, 0, 0)]), (10, [(2, 1, 41, 0), (1, 2, 0, 874), (1, 4, 0, 0)])], (0, 0, 0), [], [], ([], [(290, [(2, 1, 41, 0), (1, 2, 0, 586), (2, 0, 40, 0), (1, 2, 0, 0), (1, 3, 0, 0)])]), ([], []))
set_option maxRecDepth 100000 in
theorem l_ly1g (g : GG) : LOK Yt (PSt g) t_ly1g := by
  intro ρ α Γ M as hT hB hA hP
  have g0 : Γ (α 0) = 40 := tyAt hA (i := 0) rfl
  have g1 : Γ (α 1) = 41 := tyAt hA (i := 1) rfl
  have b2 : 0 ≤ ρ 2 ∧ ρ 2 ≤ 143 := hB 2
  have b3 : -1 ≤ ρ 3 ∧ ρ 3 ≤ 143 := hB 3
  have b4 : 1 ≤ ρ 4 ∧ ρ 4 ≤ 144 := hB 4
  have h0 : Γ (α 0) = 40 ∧ M.2.2.2.1 (α 0) 1 = some (α 1) ∧ Γ (α 1) = 41 ∧ tyO Γ M (α 0) [] ∧ Q390 g (hcl [vi (2), vi (ρ 2 + 874), vi (2), vi (2), vi (2)] (clp [(2, 4), (586, 730), (874, 1018)] (M.2.2.2.2 (α 1))))  (clp [] (M.2.2.2.2 (α 0))) (2) (ρ 2 + 874) (2) (2) (2) (ρ 2 + 0) (ρ 3 + 0) (ρ 4 + 0) := hP _ (List.mem_of_getElem? (i := 0) rfl)
  have h1 : 0 ≤ (2 : Int) ∧ M.2.2.2.2 (α 1) (2 : Int).toNat = ρ 4 + 0 := hP _ (List.mem_of_getElem? (i := 1) rfl)
  have h2 : 0 ≤ (ρ 2 + 874 : Int) ∧ M.2.2.2.2 (α 1) (ρ 2 + 874 : Int).toNat = ρ 4 + 0 := hP _ (List.mem_of_getElem? (i := 2) rfl)
  try simp only [Int.add_zero] at h0 h1 h2
  have key : (Γ (α 0) = 40 ∧ M.2.2.2.1 (α 0) 1 = some (α 1) ∧ Γ (α 1) = 41 ∧ tyO Γ M (α 0) [] ∧ Q290 g (hcl [vi (ρ 2 + 586)] (clp [(2, 4), (586, 730), (874, 1018)] (M.2.2.2.2 (α 1))))  (clp [] (M.2.2.2.2 (α 0))) (ρ 2 + 586) (ρ 2 + 0) (ρ 3 + 0)) ∧ True := by
    try simp only [Int.add_zero]
    obtain ⟨-, hr, -, -, f, f1, f2, f3, f4, f5, f6, f7, f8⟩ := h0
    have x2 : M.2.2.2.2 (α 1) 2 = ρ 4 := h1.2
    have x3 : M.2.2.2.2 (α 1) (874 + (ρ 2).toNat) = ρ 4 := by
      have := h2.2
      rw [show (ρ 2 + 874).toNat = 874 + (ρ 2).toNat by omega] at this
      exact this
    rw [hcl5 (by decide) (by omega) (by decide) (by decide) (by decide)] at f4
    refine ⟨⟨g0, hr, g1, tyO_of hT g0 (by decide) (by decide), f, f1, f2, f3, ?_, fun q hq hn => ?_, fun q hq hn => ?_, ?_, ?_, f8⟩, trivial⟩
    · rw [hcl1 (by omega)]
      exact f4
    · rw [← f5 q hq hn, hcl5 (by omega) (by omega) (by omega) (by omega) (by omega), hcl1 (by omega)]
    · rw [← f6 q hq hn, hcl5 (by omega) (by omega) (by omega) (by omega) (by omega), hcl1 (by omega)]
    · rw [hcl1 (by omega), clp_in 2 4 (by decide) (by decide) (by decide), x2]
      exact f7
    · rw [hcl1 (by omega), ckM (by decide) _ (by omega), x3]
      exact f7
  exact ⟨nB, qB (key.1) (nB)⟩
def t_ly2g : KT := ((0, 0, 0, 0), [(2, 0, 40, 0), (2, 1, 41, 0), (1, 2, 0, 0), (1, 3, 0, 0)], [(0, 0), (0, 0), (0, 143), (-1, 143)], [(290, [(2, 1, 41, 0), (1, 2, 0, 586), (2, 0, 40, 0), (1, 2, 0, 0), (1, 3, 0, 0)]), (10, [(2, 1, 41, 0), (1, 2, 0, 586), (1, 3, 0, 0)])], (0, 0, 0), [], [], ([], [(100, [(2, 0, 40, 0)]), (33, [(2, 0, 40, 0)])]), ([], []))
set_option maxRecDepth 100000 in
theorem l_ly2g (g : GG) : LOK Yt (PSt g) t_ly2g := by
  intro ρ α Γ M as hT hB hA hP
  have g0 : Γ (α 0) = 40 := tyAt hA (i := 0) rfl
  have g1 : Γ (α 1) = 41 := tyAt hA (i := 1) rfl
  have b2 : 0 ≤ ρ 2 ∧ ρ 2 ≤ 143 := hB 2
  have b3 : -1 ≤ ρ 3 ∧ ρ 3 ≤ 143 := hB 3
  have h0 : Γ (α 0) = 40 ∧ M.2.2.2.1 (α 0) 1 = some (α 1) ∧ Γ (α 1) = 41 ∧ tyO Γ M (α 0) [] ∧ Q290 g (hcl [vi (ρ 2 + 586)] (clp [(2, 4), (586, 730), (874, 1018)] (M.2.2.2.2 (α 1))))  (clp [] (M.2.2.2.2 (α 0))) (ρ 2 + 586) (ρ 2 + 0) (ρ 3 + 0) := hP _ (List.mem_of_getElem? (i := 0) rfl)
  have h1 : 0 ≤ (ρ 2 + 586 : Int) ∧ M.2.2.2.2 (α 1) (ρ 2 + 586 : Int).toNat = ρ 3 + 0 := hP _ (List.mem_of_getElem? (i := 1) rfl)
  try simp only [Int.add_zero] at h0 h1
  have key : (Γ (α 0) = 40 ∧ tyO Γ M (α 0) [(1, 41, [(2, 4), (586, 730), (874, 1018)])] ∧ Q100 g (vw M (α 0) 1 [(2, 4), (586, 730), (874, 1018)]) (clp [] (M.2.2.2.2 (α 0))) ) ∧ (Γ (α 0) = 40 ∧ tyO Γ M (α 0) [(1, 41, [(874, 1018)])] ∧ True ∧ mu32 (vw M (α 0) 1 [(874, 1018)])  < g.2.2) ∧ True := by
    try simp only [Int.add_zero]
    obtain ⟨-, hr, -, -, f, f1, f2, f3, f4, f5, f6, f7, f8, f9⟩ := h0
    have e1 : fl M (α 0) 1 = α 1 := fl_eq hr
    have x3 : M.2.2.2.2 (α 1) (586 + (ρ 2).toNat) = ρ 3 := by
      have := h1.2
      rw [show (ρ 2 + 586).toNat = 586 + (ρ 2).toNat by omega] at this
      exact this
    rw [hcl1 (by omega), clp_in 2 4 (by decide) (by decide) (by decide)] at f4
    rw [hcl1 (by omega), clp_in 2 4 (by decide) (by decide) (by decide)] at f7
    rw [hcl1 (by omega), ckM (by decide) _ (by omega)] at f8
    have q := lay_ok (f2 := M.2.2.2.2 (α 1)) (p := (ρ 2).toNat) (by omega) f1 f2.2.2 f3 f7 f4 f8 x3 (fun q hq hn => by rw [← f5 q hq hn, hcl1 (by omega), ckM (by decide) q hq]) (fun q hq hn => by rw [← f6 q hq hn, hcl1 (by omega), ckF (by decide) q hq])
    rw [← e1] at q
    exact ⟨⟨g0, tyO_of hT g0 (by decide) (by decide), c100.mpr q.1⟩, ⟨g0, tyO_of hT g0 (by decide) (by decide), trivial, by show unl (clp _ (M.2.2.2.2 (fl M (α 0) 1))) < g.2.2; rw [unl_c (ckM (by decide))]; have := q.2; omega⟩, trivial⟩
  exact ⟨nB, qB (key.1) (qB (key.2.1) (nB))⟩
def t_bi0 : KT := ((0, 0, 0, 0), [(2, 0, 40, 0), (1, 1, 0, 0), (1, 2, 0, 0)], [(0, 0), (-1, -1), (0, 0)], [], (0, 0, 0), [], [], ([], [(103, [(2, 0, 40, 0), (1, 1, 0, 0)]), (157, [(2, 0, 40, 0), (1, 2, 0, 0), (1, 1, 0, 0)])]), ([], []))
set_option maxRecDepth 100000 in
theorem l_bi0 (g : GG) : LOK Yt (PSt g) t_bi0 := by
  intro ρ α Γ M as hT hB hA hP
  have g0 : Γ (α 0) = 40 := tyAt hA (i := 0) rfl
  have b1 : -1 ≤ ρ 1 ∧ ρ 1 ≤ -1 := hB 1
  have b2 : 0 ≤ ρ 2 ∧ ρ 2 ≤ 0 := hB 2
  have key : (Γ (α 0) = 40 ∧ tyO Γ M (α 0) [(1, 41, [(874, 1018)])] ∧ Q103 g (vw M (α 0) 1 [(874, 1018)]) (clp [] (M.2.2.2.2 (α 0))) (ρ 1 + 0)) ∧ (Γ (α 0) = 40 ∧ tyO Γ M (α 0) [(1, 41, [(298, 442), (874, 1018)])] ∧ Q157 g (vw M (α 0) 1 [(298, 442), (874, 1018)]) (clp [] (M.2.2.2.2 (α 0))) (ρ 2 + 0) (ρ 1 + 0)) ∧ True := by
    try simp only [Int.add_zero]
    refine ⟨⟨g0, tyO_of hT g0 (by decide) (by decide), Or.inl (by omega)⟩, ⟨g0, tyO_of hT g0 (by decide) (by decide), fun _ q hq hq2 => ?_⟩, trivial⟩
    omega
  exact ⟨nB, qB (key.1) (qB (key.2.1) (nB))⟩
def t_bi1 : KT := ((0, 0, 0, 0), [(2, 0, 40, 0), (1, 1, 0, 0)], [(0, 0), (0, 143)], [], (0, 0, 0), [], [], ([], [(157, [(2, 0, 40, 0), (1, 1, 0, 1), (1, 1, 0, 0)])]), ([], []))
set_option maxRecDepth 100000 in
theorem l_bi1 (g : GG) : LOK Yt (PSt g) t_bi1 := by
  intro ρ α Γ M as hT hB hA hP
  have g0 : Γ (α 0) = 40 := tyAt hA (i := 0) rfl
  have b1 : 0 ≤ ρ 1 ∧ ρ 1 ≤ 143 := hB 1
  have key : (Γ (α 0) = 40 ∧ tyO Γ M (α 0) [(1, 41, [(298, 442), (874, 1018)])] ∧ Q157 g (vw M (α 0) 1 [(298, 442), (874, 1018)]) (clp [] (M.2.2.2.2 (α 0))) (ρ 1 + 1) (ρ 1 + 0)) ∧ True := by
    try simp only [Int.add_zero]
    exact ⟨⟨g0, tyO_of hT g0 (by decide) (by decide), fun h => by omega⟩, trivial⟩
  exact ⟨nB, qB (key.1) (nB)⟩
def t_bi2 : KT := ((0, 0, 0, 0), [(2, 0, 40, 0), (1, 1, 0, 0), (1, 2, 0, 0)], [(0, 0), (0, 143), (-1, 143)], [(157, [(2, 0, 40, 0), (1, 1, 0, 0), (1, 2, 0, 0)]), (122, [(2, 0, 40, 0), (1, 1, 0, 0)])], (0, 0, 0), [], [], ([], [(157, [(2, 0, 40, 0), (1, 1, 0, 1), (1, 2, 0, 0)])]), ([], []))
set_option maxRecDepth 100000 in
theorem l_bi2 (g : GG) : LOK Yt (PSt g) t_bi2 := by
  intro ρ α Γ M as hT hB hA hP
  have g0 : Γ (α 0) = 40 := tyAt hA (i := 0) rfl
  have b1 : 0 ≤ ρ 1 ∧ ρ 1 ≤ 143 := hB 1
  have b2 : -1 ≤ ρ 2 ∧ ρ 2 ≤ 143 := hB 2
  have h0 : Γ (α 0) = 40 ∧ tyO Γ M (α 0) [(1, 41, [(298, 442), (874, 1018)])] ∧ Q157 g (vw M (α 0) 1 [(298, 442), (874, 1018)]) (clp [] (M.2.2.2.2 (α 0))) (ρ 1 + 0) (ρ 2 + 0) := hP _ (List.mem_of_getElem? (i := 0) rfl)
  have h1 : Γ (α 0) = 40 ∧ tyO Γ M (α 0) [(1, 41, [(298, 442)])] ∧ Q122 g (vw M (α 0) 1 [(298, 442)]) (clp [] (M.2.2.2.2 (α 0))) (ρ 1 + 0) := hP _ (List.mem_of_getElem? (i := 1) rfl)
  try simp only [Int.add_zero] at h0 h1
  have key : (Γ (α 0) = 40 ∧ tyO Γ M (α 0) [(1, 41, [(298, 442), (874, 1018)])] ∧ Q157 g (vw M (α 0) 1 [(298, 442), (874, 1018)]) (clp [] (M.2.2.2.2 (α 0))) (ρ 1 + 1) (ρ 2 + 0)) ∧ True := by
    try simp only [Int.add_zero]
    obtain ⟨-, -, h⟩ := h0
    obtain ⟨-, -, h2⟩ := h1
    refine ⟨⟨g0, tyO_of hT g0 (by decide) (by decide), fun hb q hq hq2 => ?_⟩, trivial⟩
    by_cases hc : (q : Int) < ρ 1
    · exact h hb q hq hc
    · have e : (ρ 1).toNat = q := by omega
      have h2 : clp [(298, 442)] (M.2.2.2.2 (fl M (α 0) 1)) (298 + (ρ 1).toNat) = 1 := h2.2
      rw [e, ckH (by decide) q hq] at h2
      left
      show clp [(298, 442), (874, 1018)] (M.2.2.2.2 (fl M (α 0) 1)) (298 + q) = 1
      rw [ckH (by decide) q hq]
      exact h2
  exact ⟨nB, qB (key.1) (nB)⟩
def t_bi3 : KT := ((0, 0, 0, 0), [(2, 0, 40, 0), (1, 1, 0, 0), (1, 2, 0, 0)], [(0, 0), (0, 143), (-1, 143)], [(157, [(2, 0, 40, 0), (1, 1, 0, 0), (1, 2, 0, 0)]), (104, [(2, 0, 40, 0), (1, 1, 0, 0)])], (0, 0, 0), [], [], ([], [(157, [(2, 0, 40, 0), (1, 1, 0, 1), (1, 2, 0, 0)])]), ([], []))
set_option maxRecDepth 100000 in
theorem l_bi3 (g : GG) : LOK Yt (PSt g) t_bi3 := by
  intro ρ α Γ M as hT hB hA hP
  have g0 : Γ (α 0) = 40 := tyAt hA (i := 0) rfl
  have b1 : 0 ≤ ρ 1 ∧ ρ 1 ≤ 143 := hB 1
  have b2 : -1 ≤ ρ 2 ∧ ρ 2 ≤ 143 := hB 2
  have h0 : Γ (α 0) = 40 ∧ tyO Γ M (α 0) [(1, 41, [(298, 442), (874, 1018)])] ∧ Q157 g (vw M (α 0) 1 [(298, 442), (874, 1018)]) (clp [] (M.2.2.2.2 (α 0))) (ρ 1 + 0) (ρ 2 + 0) := hP _ (List.mem_of_getElem? (i := 0) rfl)
  have h1 : Γ (α 0) = 40 ∧ tyO Γ M (α 0) [(1, 41, [(874, 1018)])] ∧ Q104 g (vw M (α 0) 1 [(874, 1018)]) (clp [] (M.2.2.2.2 (α 0))) (ρ 1 + 0) := hP _ (List.mem_of_getElem? (i := 1) rfl)
  try simp only [Int.add_zero] at h0 h1
  have key : (Γ (α 0) = 40 ∧ tyO Γ M (α 0) [(1, 41, [(298, 442), (874, 1018)])] ∧ Q157 g (vw M (α 0) 1 [(298, 442), (874, 1018)]) (clp [] (M.2.2.2.2 (α 0))) (ρ 1 + 1) (ρ 2 + 0)) ∧ True := by
    try simp only [Int.add_zero]
    obtain ⟨-, -, h⟩ := h0
    obtain ⟨-, -, h2⟩ := h1
    refine ⟨⟨g0, tyO_of hT g0 (by decide) (by decide), fun hb q hq hq2 => ?_⟩, trivial⟩
    by_cases hc : (q : Int) < ρ 1
    · exact h hb q hq hc
    · have e : (ρ 1).toNat = q := by omega
      have h2 := c104.mp (show LAp (clp _ (M.2.2.2.2 (fl M (α 0) 1))) (ρ 1) from h2)
      right
      show 0 < clp [(298, 442), (874, 1018)] (M.2.2.2.2 (fl M (α 0) 1)) (874 + q)
      rw [ckM (by decide) q hq]
      rcases h2 with h2 | ⟨-, -, h2⟩
      · omega
      · rw [e] at h2
        exact h2
  exact ⟨nB, qB (key.1) (nB)⟩
def t_bi4 : KT := ((0, 0, 0, 0), [(2, 0, 40, 0), (1, 1, 0, 0), (1, 2, 0, 0)], [(0, 0), (-2147483648, 2147483647), (0, 143)], [], (0, 0, 0), [], [], ([], [(157, [(2, 0, 40, 0), (1, 1, 0, 1), (1, 2, 0, 0)])]), ([], []))
set_option maxRecDepth 100000 in
theorem l_bi4 (g : GG) : LOK Yt (PSt g) t_bi4 := by
  intro ρ α Γ M as hT hB hA hP
  have g0 : Γ (α 0) = 40 := tyAt hA (i := 0) rfl
  have b1 : -2147483648 ≤ ρ 1 ∧ ρ 1 ≤ 2147483647 := hB 1
  have b2 : 0 ≤ ρ 2 ∧ ρ 2 ≤ 143 := hB 2
  have key : (Γ (α 0) = 40 ∧ tyO Γ M (α 0) [(1, 41, [(298, 442), (874, 1018)])] ∧ Q157 g (vw M (α 0) 1 [(298, 442), (874, 1018)]) (clp [] (M.2.2.2.2 (α 0))) (ρ 1 + 1) (ρ 2 + 0)) ∧ True := by
    try simp only [Int.add_zero]
    exact ⟨⟨g0, tyO_of hT g0 (by decide) (by decide), fun h => by omega⟩, trivial⟩
  exact ⟨nB, qB (key.1) (nB)⟩
def t_bi5 : KT := ((0, 0, 0, 0), [(2, 0, 40, 0), (1, 1, 0, 0), (1, 2, 0, 0), (1, 3, 0, 0)], [(0, 0), (-2147483648, 2147483647), (-2147483648, 2147483647), (-1, 143)], [(157, [(2, 0, 40, 0), (1, 1, 0, 0), (1, 3, 0, 0)]), (156, [(2, 0, 40, 0)]), (94, [(2, 0, 40, 0), (1, 2, 0, 0)]), (6, [(1, 2, 0, 0), (1, 1, 0, 0)])], (0, 0, 0), [], [], ([(3, 0, 143)], []), ([], []))
set_option maxRecDepth 100000 in
theorem l_bi5 (g : GG) : LOK Yt (PSt g) t_bi5 := by
  intro ρ α Γ M as hT hB hA hP
  have g0 : Γ (α 0) = 40 := tyAt hA (i := 0) rfl
  have b1 : -2147483648 ≤ ρ 1 ∧ ρ 1 ≤ 2147483647 := hB 1
  have b2 : -2147483648 ≤ ρ 2 ∧ ρ 2 ≤ 2147483647 := hB 2
  have b3 : -1 ≤ ρ 3 ∧ ρ 3 ≤ 143 := hB 3
  have h0 : Γ (α 0) = 40 ∧ tyO Γ M (α 0) [(1, 41, [(298, 442), (874, 1018)])] ∧ Q157 g (vw M (α 0) 1 [(298, 442), (874, 1018)]) (clp [] (M.2.2.2.2 (α 0))) (ρ 1 + 0) (ρ 3 + 0) := hP _ (List.mem_of_getElem? (i := 0) rfl)
  have h1 : Γ (α 0) = 40 ∧ tyO Γ M (α 0) [(1, 41, [(0, 2), (298, 442), (874, 1018)])] ∧ Q156 g (vw M (α 0) 1 [(0, 2), (298, 442), (874, 1018)]) (clp [] (M.2.2.2.2 (α 0)))  := hP _ (List.mem_of_getElem? (i := 1) rfl)
  have h2 : nwE Γ M (α 0) fun r c => ρ 2 + 0 = r * c := hP _ (List.mem_of_getElem? (i := 2) rfl)
  have h3 : ρ 2 + 0 ≤ ρ 1 + 0 := hP _ (List.mem_of_getElem? (i := 3) rfl)
  try simp only [Int.add_zero] at h0 h1 h2 h3
  have key : (0 ≤ ρ 3 ∧ ρ 3 ≤ 143) ∧ True := by
    try simp only [Int.add_zero]
    obtain ⟨-, -, h⟩ := h0
    have hx := c156.mp (show EXU (clp _ (M.2.2.2.2 (fl M (α 0) 1))) from h1.2.2)
    obtain ⟨-, n, hn, -, hm⟩ := h2
    have e1 : fl M (α 0) 1 = n := fl_eq hn
    rw [e1] at hx
    obtain ⟨q, q1, q2, q3, q4⟩ := hx
    by_cases hb : ρ 3 = -1
    · exfalso
      have := h hb q q1 (by omega)
      rcases this with w | w
      · have w : clp [(298, 442), (874, 1018)] (M.2.2.2.2 (fl M (α 0) 1)) (298 + q) = 1 := w
        rw [ckH (by decide) q q1, e1] at w
        exact q3 w
      · have w : 0 < clp [(298, 442), (874, 1018)] (M.2.2.2.2 (fl M (α 0) 1)) (874 + q) := w
        rw [ckM (by decide) q q1, e1] at w
        omega
    · exact ⟨⟨by omega, by omega⟩, trivial⟩
  exact ⟨qB (key.1) (nB), nB⟩
def t_bi6 : KT := ((0, 0, 0, 0), [(2, 0, 40, 0), (2, 1, 41, 0), (1, 2, 0, 0), (1, 3, 0, 0)], [(0, 0), (0, 0), (-2147483648, 2147483647), (0, 143)], [(100, [(2, 0, 40, 0)]), (103, [(2, 0, 40, 0), (1, 3, 0, 0)]), (11, [(2, 0, 40, 0), (0, 0, 0, 1), (2, 1, 41, 0)]), (10, [(2, 1, 41, 0), (0, 0, 0, 3), (1, 2, 0, 0)])], (0, 0, 0), [], [], ([(2, 0, 143)], []), ([], []))
set_option maxRecDepth 100000 in
theorem l_bi6 (g : GG) : LOK Yt (PSt g) t_bi6 := by
  intro ρ α Γ M as hT hB hA hP
  have g0 : Γ (α 0) = 40 := tyAt hA (i := 0) rfl
  have g1 : Γ (α 1) = 41 := tyAt hA (i := 1) rfl
  have b2 : -2147483648 ≤ ρ 2 ∧ ρ 2 ≤ 2147483647 := hB 2
  have b3 : 0 ≤ ρ 3 ∧ ρ 3 ≤ 143 := hB 3
  have h0 : Γ (α 0) = 40 ∧ tyO Γ M (α 0) [(1, 41, [(2, 4), (586, 730), (874, 1018)])] ∧ Q100 g (vw M (α 0) 1 [(2, 4), (586, 730), (874, 1018)]) (clp [] (M.2.2.2.2 (α 0)))  := hP _ (List.mem_of_getElem? (i := 0) rfl)
  have h1 : Γ (α 0) = 40 ∧ tyO Γ M (α 0) [(1, 41, [(874, 1018)])] ∧ Q103 g (vw M (α 0) 1 [(874, 1018)]) (clp [] (M.2.2.2.2 (α 0))) (ρ 3 + 0) := hP _ (List.mem_of_getElem? (i := 1) rfl)
  have h2 : 0 ≤ (1 : Int) ∧ M.2.2.2.1 (α 0) (1 : Int).toNat = some (α 1) := hP _ (List.mem_of_getElem? (i := 2) rfl)
  have h3 : 0 ≤ (3 : Int) ∧ M.2.2.2.2 (α 1) (3 : Int).toNat = ρ 2 + 0 := hP _ (List.mem_of_getElem? (i := 3) rfl)
  try simp only [Int.add_zero] at h0 h1 h2 h3
  have key : (0 ≤ ρ 2 ∧ ρ 2 ≤ 143) ∧ True := by
    try simp only [Int.add_zero]
    have e1 : fl M (α 0) 1 = α 1 := fl_eq (show M.2.2.2.1 (α 0) 1 = some (α 1) from h2.2)
    
    have r := c100.mp (show RI0 (clp _ (M.2.2.2.2 (fl M (α 0) 1))) from h0.2.2)
    have u := c103.mp (show UNp (clp _ (M.2.2.2.2 (fl M (α 0) 1))) (ρ 3) from h1.2.2)
    rw [e1] at r u
    have e : M.2.2.2.2 (α 1) 3 = ρ 2 := h3.2
    obtain ⟨-, ⟨r1, r2⟩, -⟩ := r
    rw [e] at r1 r2
    rcases u with u | ⟨u1, u2, u3⟩
    · omega
    · have := unl_pos (p := (ρ 3).toNat) (by omega) u3
      exact ⟨⟨by omega, by omega⟩, trivial⟩
  exact ⟨qB (key.1) (nB), nB⟩
def t_bi7 : KT := ((0, 0, 0, 0), [(2, 0, 40, 0), (2, 1, 41, 0), (1, 2, 0, 0), (1, 3, 0, 0)], [(0, 0), (0, 0), (0, 143), (0, 143)], [(100, [(2, 0, 40, 0)]), (103, [(2, 0, 40, 0), (1, 3, 0, 0)]), (11, [(2, 0, 40, 0), (0, 0, 0, 1), (2, 1, 41, 0)]), (10, [(2, 1, 41, 0), (0, 0, 0, 3), (1, 2, 0, 0)])], (0, 0, 0), [], [], ([], [(211, [(2, 1, 41, 0), (0, 0, 0, 3), (2, 0, 40, 0), (1, 2, 0, 0)])]), ([], []))
set_option maxRecDepth 100000 in
theorem l_bi7 (g : GG) : LOK Yt (PSt g) t_bi7 := by
  intro ρ α Γ M as hT hB hA hP
  have g0 : Γ (α 0) = 40 := tyAt hA (i := 0) rfl
  have g1 : Γ (α 1) = 41 := tyAt hA (i := 1) rfl
  have b2 : 0 ≤ ρ 2 ∧ ρ 2 ≤ 143 := hB 2
  have b3 : 0 ≤ ρ 3 ∧ ρ 3 ≤ 143 := hB 3
  have h0 : Γ (α 0) = 40 ∧ tyO Γ M (α 0) [(1, 41, [(2, 4), (586, 730), (874, 1018)])] ∧ Q100 g (vw M (α 0) 1 [(2, 4), (586, 730), (874, 1018)]) (clp [] (M.2.2.2.2 (α 0)))  := hP _ (List.mem_of_getElem? (i := 0) rfl)
  have h1 : Γ (α 0) = 40 ∧ tyO Γ M (α 0) [(1, 41, [(874, 1018)])] ∧ Q103 g (vw M (α 0) 1 [(874, 1018)]) (clp [] (M.2.2.2.2 (α 0))) (ρ 3 + 0) := hP _ (List.mem_of_getElem? (i := 1) rfl)
  have h2 : 0 ≤ (1 : Int) ∧ M.2.2.2.1 (α 0) (1 : Int).toNat = some (α 1) := hP _ (List.mem_of_getElem? (i := 2) rfl)
  have h3 : 0 ≤ (3 : Int) ∧ M.2.2.2.2 (α 1) (3 : Int).toNat = ρ 2 + 0 := hP _ (List.mem_of_getElem? (i := 3) rfl)
  try simp only [Int.add_zero] at h0 h1 h2 h3
  have key : (Γ (α 0) = 40 ∧ M.2.2.2.1 (α 0) 1 = some (α 1) ∧ Γ (α 1) = 41 ∧ tyO Γ M (α 0) [] ∧ Q211 g (hcl [vi (3)] (clp [(2, 4), (586, 730), (874, 1018)] (M.2.2.2.2 (α 1))))  (clp [] (M.2.2.2.2 (α 0))) (3) (ρ 2 + 0)) ∧ True := by
    try simp only [Int.add_zero]
    have e1 : fl M (α 0) 1 = α 1 := fl_eq (show M.2.2.2.1 (α 0) 1 = some (α 1) from h2.2)
    
    have r := c100.mp (show RI0 (clp _ (M.2.2.2.2 (fl M (α 0) 1))) from h0.2.2)
    rw [e1] at r
    have e : M.2.2.2.2 (α 1) 3 = ρ 2 := h3.2
    obtain ⟨⟨a1, a2⟩, ⟨r1, r2⟩, r3⟩ := r
    rw [e] at r1 r2
    have k2 : hcl [vi 3] (clp [(2, 4), (586, 730), (874, 1018)] (M.2.2.2.2 (α 1))) 2 = M.2.2.2.2 (α 1) 2 := by rw [hcl1 (by decide), clp_in 2 4 (by decide) (by decide) (by decide)]
    have kM : ∀ p, p < 144 → hcl [vi 3] (clp [(2, 4), (586, 730), (874, 1018)] (M.2.2.2.2 (α 1))) (874 + p) = M.2.2.2.2 (α 1) (874 + p) := fun p hp => by rw [hcl1 (by omega), ckM (by decide) p hp]
    have kF : ∀ p, p < 144 → hcl [vi 3] (clp [(2, 4), (586, 730), (874, 1018)] (M.2.2.2.2 (α 1))) (586 + p) = M.2.2.2.2 (α 1) (586 + p) := fun p hp => by rw [hcl1 (by omega), ckF (by decide) p hp]
    refine ⟨⟨g0, h2.2, g1, tyO_of hT g0 (by decide) (by decide), ?_, ?_, RIb_c k2 kM kF r3⟩, trivial⟩
    · rw [k2, unl_c kM]
      exact ⟨a1, a2⟩
    · rw [unl_c kM]
      exact ⟨r1, r2⟩
  exact ⟨nB, qB (key.1) (nB)⟩
def t_bi8 : KT := ((0, 0, 0, 0), [(2, 0, 40, 0), (2, 1, 41, 0), (1, 2, 0, 0)], [(0, 0), (0, 0), (0, 143)], [(211, [(2, 1, 41, 0), (0, 0, 0, 3), (2, 0, 40, 0), (1, 2, 0, 0)]), (10, [(2, 1, 41, 0), (0, 0, 0, 3), (1, 2, 0, 1)])], (0, 0, 0), [], [], ([], [(155, [(2, 0, 40, 0)])]), ([], []))
set_option maxRecDepth 100000 in
theorem l_bi8 (g : GG) : LOK Yt (PSt g) t_bi8 := by
  intro ρ α Γ M as hT hB hA hP
  have g0 : Γ (α 0) = 40 := tyAt hA (i := 0) rfl
  have g1 : Γ (α 1) = 41 := tyAt hA (i := 1) rfl
  have b2 : 0 ≤ ρ 2 ∧ ρ 2 ≤ 143 := hB 2
  have h0 : Γ (α 0) = 40 ∧ M.2.2.2.1 (α 0) 1 = some (α 1) ∧ Γ (α 1) = 41 ∧ tyO Γ M (α 0) [] ∧ Q211 g (hcl [vi (3)] (clp [(2, 4), (586, 730), (874, 1018)] (M.2.2.2.2 (α 1))))  (clp [] (M.2.2.2.2 (α 0))) (3) (ρ 2 + 0) := hP _ (List.mem_of_getElem? (i := 0) rfl)
  have h1 : 0 ≤ (3 : Int) ∧ M.2.2.2.2 (α 1) (3 : Int).toNat = ρ 2 + 1 := hP _ (List.mem_of_getElem? (i := 1) rfl)
  try simp only [Int.add_zero] at h0 h1
  have key : (Γ (α 0) = 40 ∧ tyO Γ M (α 0) [(1, 41, [(2, 4), (586, 730), (874, 1018)])] ∧ Q155 g (vw M (α 0) 1 [(2, 4), (586, 730), (874, 1018)]) (clp [] (M.2.2.2.2 (α 0))) ) ∧ True := by
    try simp only [Int.add_zero]
    obtain ⟨-, hr, -, -, ⟨a1, a2⟩, ⟨r1, r2⟩, r3⟩ := h0
    have e1 : fl M (α 0) 1 = α 1 := fl_eq hr
    have e : M.2.2.2.2 (α 1) 3 = ρ 2 + 1 := h1.2
    have k2 : M.2.2.2.2 (α 1) 2 = hcl [vi 3] (clp [(2, 4), (586, 730), (874, 1018)] (M.2.2.2.2 (α 1))) 2 := by rw [hcl1 (by decide), clp_in 2 4 (by decide) (by decide) (by decide)]
    have kM : ∀ p, p < 144 → M.2.2.2.2 (α 1) (874 + p) = hcl [vi 3] (clp [(2, 4), (586, 730), (874, 1018)] (M.2.2.2.2 (α 1))) (874 + p) := fun p hp => by rw [hcl1 (by omega), ckM (by decide) p hp]
    have kF : ∀ p, p < 144 → M.2.2.2.2 (α 1) (586 + p) = hcl [vi 3] (clp [(2, 4), (586, 730), (874, 1018)] (M.2.2.2.2 (α 1))) (586 + p) := fun p hp => by rw [hcl1 (by omega), ckF (by decide) p hp]
    refine ⟨⟨g0, tyO_of hT g0 (by decide) (by decide), c155.mpr ?_⟩, trivial⟩
    show RI1 (M.2.2.2.2 (fl M (α 0) 1))
    rw [e1]
    refine ⟨?_, ?_, RIb_c k2 kM kF r3⟩
    · rw [k2, unl_c kM]
      exact ⟨a1, a2⟩
    · rw [e, unl_c kM]
      exact ⟨by omega, by omega⟩
  exact ⟨nB, qB (key.1) (nB)⟩
def t_la0 : KT := ((0, 0, 0, 0), [(2, 0, 40, 0), (1, 1, 0, 0)], [(0, 0), (-1, -1)], [], (0, 0, 0), [], [], ([], [(104, [(2, 0, 40, 0), (1, 1, 0, 0)])]), ([], []))
set_option maxRecDepth 100000 in
theorem l_la0 (g : GG) : LOK Yt (PSt g) t_la0 := by
  intro ρ α Γ M as hT hB hA hP
  have g0 : Γ (α 0) = 40 := tyAt hA (i := 0) rfl
  have b1 : -1 ≤ ρ 1 ∧ ρ 1 ≤ -1 := hB 1
  have key : (Γ (α 0) = 40 ∧ tyO Γ M (α 0) [(1, 41, [(874, 1018)])] ∧ Q104 g (vw M (α 0) 1 [(874, 1018)]) (clp [] (M.2.2.2.2 (α 0))) (ρ 1 + 0)) ∧ True := by
    try simp only [Int.add_zero]
    exact ⟨⟨g0, tyO_of hT g0 (by decide) (by decide), Or.inl (by omega)⟩, trivial⟩
  exact ⟨nB, qB (key.1) (nB)⟩
def t_mo0 : KT := ((0, 0, 0, 0), [(2, 0, 40, 0), (1, 1, 0, 0), (1, 2, 0, 0)], [(0, 0), (-1, -1), (-1, -1)], [], (0, 0, 0), [], [], ([], [(103, [(2, 0, 40, 0), (1, 2, 0, 0)]), (104, [(2, 0, 40, 0), (1, 1, 0, 0)])]), ([], []))
set_option maxRecDepth 100000 in
theorem l_mo0 (g : GG) : LOK Yt (PSt g) t_mo0 := by
  intro ρ α Γ M as hT hB hA hP
  have g0 : Γ (α 0) = 40 := tyAt hA (i := 0) rfl
  have b1 : -1 ≤ ρ 1 ∧ ρ 1 ≤ -1 := hB 1
  have b2 : -1 ≤ ρ 2 ∧ ρ 2 ≤ -1 := hB 2
  have key : (Γ (α 0) = 40 ∧ tyO Γ M (α 0) [(1, 41, [(874, 1018)])] ∧ Q103 g (vw M (α 0) 1 [(874, 1018)]) (clp [] (M.2.2.2.2 (α 0))) (ρ 2 + 0)) ∧ (Γ (α 0) = 40 ∧ tyO Γ M (α 0) [(1, 41, [(874, 1018)])] ∧ Q104 g (vw M (α 0) 1 [(874, 1018)]) (clp [] (M.2.2.2.2 (α 0))) (ρ 1 + 0)) ∧ True := by
    try simp only [Int.add_zero]
    exact ⟨⟨g0, tyO_of hT g0 (by decide) (by decide), Or.inl (by omega)⟩, ⟨g0, tyO_of hT g0 (by decide) (by decide), Or.inl (by omega)⟩, trivial⟩
  exact ⟨nB, qB (key.1) (qB (key.2.1) (nB))⟩
def t_r01 : KT := ((0, 0, 0, 0), [(2, 0, 40, 0)], [(0, 0)], [(100, [(2, 0, 40, 0)])], (0, 0, 0), [], [], ([], [(155, [(2, 0, 40, 0)])]), ([], []))
set_option maxRecDepth 100000 in
theorem l_r01 (g : GG) : LOK Yt (PSt g) t_r01 := by
  intro ρ α Γ M as hT hB hA hP
  have g0 : Γ (α 0) = 40 := tyAt hA (i := 0) rfl
  have h0 : Γ (α 0) = 40 ∧ tyO Γ M (α 0) [(1, 41, [(2, 4), (586, 730), (874, 1018)])] ∧ Q100 g (vw M (α 0) 1 [(2, 4), (586, 730), (874, 1018)]) (clp [] (M.2.2.2.2 (α 0)))  := hP _ (List.mem_of_getElem? (i := 0) rfl)
  try simp only [Int.add_zero] at h0
  have key : (Γ (α 0) = 40 ∧ tyO Γ M (α 0) [(1, 41, [(2, 4), (586, 730), (874, 1018)])] ∧ Q155 g (vw M (α 0) 1 [(2, 4), (586, 730), (874, 1018)]) (clp [] (M.2.2.2.2 (α 0))) ) ∧ True := by
    try simp only [Int.add_zero]
    exact ⟨⟨g0, tyO_of hT g0 (by decide) (by decide), RI01 h0.2.2⟩, trivial⟩
  exact ⟨nB, qB (key.1) (nB)⟩
def t_tb0r : KT := ((0, 0, 0, 0), [(2, 0, 40, 0), (1, 1, 0, 0)], [(0, 0), (0, 0)], [], (0, 0, 0), [], [], ([], [(105, [(2, 0, 40, 0), (1, 1, 0, 0)])]), ([], []))
set_option maxRecDepth 100000 in
theorem l_tb0r (g : GG) : LOK Yt (PSt g) t_tb0r := by
  intro ρ α Γ M as hT hB hA hP
  have g0 : Γ (α 0) = 40 := tyAt hA (i := 0) rfl
  have b1 : 0 ≤ ρ 1 ∧ ρ 1 ≤ 0 := hB 1
  have key : (Γ (α 0) = 40 ∧ tyO Γ M (α 0) [(1, 41, [(0, 2), (298, 442), (874, 1018)])] ∧ Q105 g (vw M (α 0) 1 [(0, 2), (298, 442), (874, 1018)]) (clp [] (M.2.2.2.2 (α 0))) (ρ 1 + 0)) ∧ True := by
    try simp only [Int.add_zero]
    exact ⟨⟨g0, tyO_of hT g0 (by decide) (by decide), fun h => by omega⟩, trivial⟩
  exact ⟨nB, qB (key.1) (nB)⟩
def t_tb1r : KT := ((0, 0, 0, 0), [(2, 0, 40, 0), (1, 1, 0, 0), (1, 2, 0, 0), (1, 3, 0, 0)], [(0, 0), (0, 143), (-2147483648, 2147483647), (-2147483648, 2147483647)], [(123, [(2, 0, 40, 0), (1, 1, 0, 0)]), (103, [(2, 0, 40, 0), (1, 1, 0, 0)]), (21, [(1, 1, 0, 0), (1, 3, 0, 0)]), (94, [(2, 0, 40, 0), (1, 3, 0, 0)])], (0, 0, 0), [], [], ([], [(105, [(2, 0, 40, 0), (1, 2, 0, 0)])]), ([], []))
set_option maxRecDepth 100000 in
theorem l_tb1r (g : GG) : LOK Yt (PSt g) t_tb1r := by
  intro ρ α Γ M as hT hB hA hP
  have g0 : Γ (α 0) = 40 := tyAt hA (i := 0) rfl
  have b1 : 0 ≤ ρ 1 ∧ ρ 1 ≤ 143 := hB 1
  have b2 : -2147483648 ≤ ρ 2 ∧ ρ 2 ≤ 2147483647 := hB 2
  have b3 : -2147483648 ≤ ρ 3 ∧ ρ 3 ≤ 2147483647 := hB 3
  have h0 : Γ (α 0) = 40 ∧ tyO Γ M (α 0) [(1, 41, [(298, 442)])] ∧ Q123 g (vw M (α 0) 1 [(298, 442)]) (clp [] (M.2.2.2.2 (α 0))) (ρ 1 + 0) := hP _ (List.mem_of_getElem? (i := 0) rfl)
  have h1 : Γ (α 0) = 40 ∧ tyO Γ M (α 0) [(1, 41, [(874, 1018)])] ∧ Q103 g (vw M (α 0) 1 [(874, 1018)]) (clp [] (M.2.2.2.2 (α 0))) (ρ 1 + 0) := hP _ (List.mem_of_getElem? (i := 1) rfl)
  have h2 : ρ 1 + 0 < ρ 3 + 0 := hP _ (List.mem_of_getElem? (i := 2) rfl)
  have h3 : nwE Γ M (α 0) fun r c => ρ 3 + 0 = r * c := hP _ (List.mem_of_getElem? (i := 3) rfl)
  try simp only [Int.add_zero] at h0 h1 h2 h3
  have key : (Γ (α 0) = 40 ∧ tyO Γ M (α 0) [(1, 41, [(0, 2), (298, 442), (874, 1018)])] ∧ Q105 g (vw M (α 0) 1 [(0, 2), (298, 442), (874, 1018)]) (clp [] (M.2.2.2.2 (α 0))) (ρ 2 + 0)) ∧ True := by
    try simp only [Int.add_zero]
    obtain ⟨-, -, -, x1⟩ := h0
    have u := c103.mp (show UNp (clp _ (M.2.2.2.2 (fl M (α 0) 1))) (ρ 1) from h1.2.2)
    obtain ⟨-, n, hn, -, hm⟩ := h3
    have e1 : fl M (α 0) 1 = n := fl_eq hn
    have x1 : clp [(298, 442)] (M.2.2.2.2 (fl M (α 0) 1)) (298 + (ρ 1).toNat) ≠ 1 := x1
    rw [ckH (by decide) _ (by omega), e1] at x1
    rw [e1] at u
    refine ⟨⟨g0, tyO_of hT g0 (by decide) (by decide), fun _ => c156.mpr ?_⟩, trivial⟩
    show EXU (M.2.2.2.2 (fl M (α 0) 1))
    rw [e1]
    rcases u with u | ⟨u1, u2, u3⟩
    · omega
    · exact ⟨(ρ 1).toNat, by omega, by omega, x1, u3⟩
  exact ⟨nB, qB (key.1) (nB)⟩
def t_be1 : KT := ((0, 0, 0, 0), [(2, 0, 40, 0), (2, 1, 41, 0), (1, 2, 0, 0)], [(0, 0), (0, 0), (1, 2147483647)], [(105, [(2, 0, 40, 0), (1, 2, 0, 0)])], (0, 0, 0), [], [], ([], [(101, [(2, 0, 40, 0)])]), ([], []))
set_option maxRecDepth 100000 in
theorem l_be1 (g : GG) : LOK Yt (PSt g) t_be1 := by
  intro ρ α Γ M as hT hB hA hP
  have g0 : Γ (α 0) = 40 := tyAt hA (i := 0) rfl
  have g1 : Γ (α 1) = 41 := tyAt hA (i := 1) rfl
  have b2 : 1 ≤ ρ 2 ∧ ρ 2 ≤ 2147483647 := hB 2
  have h0 : Γ (α 0) = 40 ∧ tyO Γ M (α 0) [(1, 41, [(0, 2), (298, 442), (874, 1018)])] ∧ Q105 g (vw M (α 0) 1 [(0, 2), (298, 442), (874, 1018)]) (clp [] (M.2.2.2.2 (α 0))) (ρ 2 + 0) := hP _ (List.mem_of_getElem? (i := 0) rfl)
  try simp only [Int.add_zero] at h0
  have key : (Γ (α 0) = 40 ∧ tyO Γ M (α 0) [(1, 41, [(0, 2), (4, 5), (298, 442), (874, 1018)])] ∧ Q101 g (vw M (α 0) 1 [(0, 2), (4, 5), (298, 442), (874, 1018)]) (clp [] (M.2.2.2.2 (α 0))) ) ∧ True := by
    try simp only [Int.add_zero]
    obtain ⟨-, -, h⟩ := h0
    have h := c156.mp (show EXU (clp _ (M.2.2.2.2 (fl M (α 0) 1))) from h (by omega))
    exact ⟨⟨g0, tyO_of hT g0 (by decide) (by decide), c101.mpr fun _ => h⟩, trivial⟩
  exact ⟨nB, qB (key.1) (nB)⟩
def t_be0 : KT := ((0, 0, 0, 0), [(2, 0, 40, 0), (2, 1, 41, 0)], [(0, 0), (0, 0)], [(11, [(2, 0, 40, 0), (0, 0, 0, 1), (2, 1, 41, 0)]), (10, [(2, 1, 41, 0), (0, 0, 0, 4), (0, 0, 0, 0)])], (0, 0, 0), [], [], ([], [(101, [(2, 0, 40, 0)]), (102, [(2, 0, 40, 0)])]), ([], []))
set_option maxRecDepth 100000 in
theorem l_be0 (g : GG) : LOK Yt (PSt g) t_be0 := by
  intro ρ α Γ M as hT hB hA hP
  have g0 : Γ (α 0) = 40 := tyAt hA (i := 0) rfl
  have g1 : Γ (α 1) = 41 := tyAt hA (i := 1) rfl
  have h0 : 0 ≤ (1 : Int) ∧ M.2.2.2.1 (α 0) (1 : Int).toNat = some (α 1) := hP _ (List.mem_of_getElem? (i := 0) rfl)
  have h1 : 0 ≤ (4 : Int) ∧ M.2.2.2.2 (α 1) (4 : Int).toNat = 0 := hP _ (List.mem_of_getElem? (i := 1) rfl)
  try simp only [Int.add_zero] at h0 h1
  have key : (Γ (α 0) = 40 ∧ tyO Γ M (α 0) [(1, 41, [(0, 2), (4, 5), (298, 442), (874, 1018)])] ∧ Q101 g (vw M (α 0) 1 [(0, 2), (4, 5), (298, 442), (874, 1018)]) (clp [] (M.2.2.2.2 (α 0))) ) ∧ (Γ (α 0) = 40 ∧ tyO Γ M (α 0) [(1, 41, [(4, 5)])] ∧ Q102 g (vw M (α 0) 1 [(4, 5)]) (clp [] (M.2.2.2.2 (α 0))) ) ∧ True := by
    try simp only [Int.add_zero]
    have e1 : fl M (α 0) 1 = α 1 := fl_eq (show M.2.2.2.1 (α 0) 1 = some (α 1) from h0.2)
    
    have x4 : M.2.2.2.2 (α 1) 4 = 0 := h1.2
    rw [← e1] at x4
    refine ⟨⟨g0, tyO_of hT g0 (by decide) (by decide), c101.mpr (FL0 x4)⟩, ⟨g0, tyO_of hT g0 (by decide) (by decide), ?_⟩, trivial⟩
    show clp [(4, 5)] (M.2.2.2.2 (fl M (α 0) 1)) 4 = 0
    rw [clp_in 4 5 (by decide) (by decide) (by decide)]
    exact x4
  exact ⟨nB, qB (key.1) (qB (key.2.1) (nB))⟩
def t_st0 : KT := ((0, 0, 0, 0), [(2, 0, 40, 0), (1, 1, 0, 0)], [(0, 0), (0, 0)], [(77, [(2, 0, 40, 0), (0, 0, 0, 0), (0, 0, 0, 0)])], (0, 0, 0), [], [], ([], [(159, [(2, 0, 40, 0), (1, 1, 0, 0)])]), ([], []))
set_option maxRecDepth 100000 in
theorem l_st0 (g : GG) : LOK Yt (PSt g) t_st0 := by
  intro ρ α Γ M as hT hB hA hP
  have g0 : Γ (α 0) = 40 := tyAt hA (i := 0) rfl
  have b1 : 0 ≤ ρ 1 ∧ ρ 1 ≤ 0 := hB 1
  have h0 : Γ (α 0) = 40 ∧ M.2.2.2.2 (α 0) 5 ≤ (g.2.1 : Int) + (0) := hP _ (List.mem_of_getElem? (i := 0) rfl)
  try simp only [Int.add_zero] at h0
  have key : (Γ (α 0) = 40 ∧ tyO Γ M (α 0) [(1, 41, [(4, 5)])] ∧ Q159 g (vw M (α 0) 1 [(4, 5)]) (clp [(5, 6)] (M.2.2.2.2 (α 0))) (ρ 1 + 0)) ∧ True := by
    try simp only [Int.add_zero]
    refine ⟨⟨g0, tyO_of hT g0 (by decide) (by decide), Or.inl ?_⟩, trivial⟩
    show clp [(5, 6)] (M.2.2.2.2 (α 0)) 5 ≤ (g.2.1 : Int) + ρ 1
    rw [clp_in 5 6 (by decide) (by decide) (by decide)]
    have := h0.2
    omega
  exact ⟨nB, qB (key.1) (nB)⟩
def t_st1 : KT := ((0, 0, 0, 0), [(2, 0, 40, 0), (2, 1, 41, 0), (1, 2, 0, 0), (1, 3, 0, 0)], [(0, 0), (0, 0), (1, 1), (0, 145)], [(11, [(2, 0, 40, 0), (0, 0, 0, 1), (2, 1, 41, 0)]), (10, [(2, 1, 41, 0), (0, 0, 0, 4), (1, 2, 0, 0)]), (101, [(2, 0, 40, 0)]), (159, [(2, 0, 40, 0), (1, 3, 0, 0)])], (0, 0, 0), [], [], ([], [(156, [(2, 0, 40, 0)]), (77, [(2, 0, 40, 0), (1, 3, 0, 0), (0, 0, 0, 0)])]), ([], []))
set_option maxRecDepth 100000 in
theorem l_st1 (g : GG) : LOK Yt (PSt g) t_st1 := by
  intro ρ α Γ M as hT hB hA hP
  have g0 : Γ (α 0) = 40 := tyAt hA (i := 0) rfl
  have g1 : Γ (α 1) = 41 := tyAt hA (i := 1) rfl
  have b2 : 1 ≤ ρ 2 ∧ ρ 2 ≤ 1 := hB 2
  have b3 : 0 ≤ ρ 3 ∧ ρ 3 ≤ 145 := hB 3
  have h0 : 0 ≤ (1 : Int) ∧ M.2.2.2.1 (α 0) (1 : Int).toNat = some (α 1) := hP _ (List.mem_of_getElem? (i := 0) rfl)
  have h1 : 0 ≤ (4 : Int) ∧ M.2.2.2.2 (α 1) (4 : Int).toNat = ρ 2 + 0 := hP _ (List.mem_of_getElem? (i := 1) rfl)
  have h2 : Γ (α 0) = 40 ∧ tyO Γ M (α 0) [(1, 41, [(0, 2), (4, 5), (298, 442), (874, 1018)])] ∧ Q101 g (vw M (α 0) 1 [(0, 2), (4, 5), (298, 442), (874, 1018)]) (clp [] (M.2.2.2.2 (α 0)))  := hP _ (List.mem_of_getElem? (i := 2) rfl)
  have h3 : Γ (α 0) = 40 ∧ tyO Γ M (α 0) [(1, 41, [(4, 5)])] ∧ Q159 g (vw M (α 0) 1 [(4, 5)]) (clp [(5, 6)] (M.2.2.2.2 (α 0))) (ρ 3 + 0) := hP _ (List.mem_of_getElem? (i := 3) rfl)
  try simp only [Int.add_zero] at h0 h1 h2 h3
  have key : (Γ (α 0) = 40 ∧ tyO Γ M (α 0) [(1, 41, [(0, 2), (298, 442), (874, 1018)])] ∧ Q156 g (vw M (α 0) 1 [(0, 2), (298, 442), (874, 1018)]) (clp [] (M.2.2.2.2 (α 0))) ) ∧ (Γ (α 0) = 40 ∧ M.2.2.2.2 (α 0) 5 ≤ (g.2.1 : Int) + (ρ 3 + 0)) ∧ True := by
    try simp only [Int.add_zero]
    have e1 : fl M (α 0) 1 = α 1 := fl_eq (show M.2.2.2.1 (α 0) 1 = some (α 1) from h0.2)
    
    have x4 : M.2.2.2.2 (α 1) 4 = ρ 2 := h1.2
    rw [← e1] at x4
    have h := c101.mp (show FLc (clp _ (M.2.2.2.2 (fl M (α 0) 1))) from h2.2.2)
    refine ⟨⟨g0, tyO_of hT g0 (by decide) (by decide), c156.mpr (h (by omega))⟩, ⟨g0, ?_⟩, trivial⟩
    obtain ⟨-, -, h⟩ := h3
    rcases h with h | ⟨h, -⟩
    · have h : clp [(5, 6)] (M.2.2.2.2 (α 0)) 5 ≤ (g.2.1 : Int) + ρ 3 := h
      rw [clp_in 5 6 (by decide) (by decide) (by decide)] at h
      exact h
    · have h : clp [(4, 5)] (M.2.2.2.2 (fl M (α 0) 1)) 4 = 0 := h
      rw [clp_in 4 5 (by decide) (by decide) (by decide)] at h
      omega
  exact ⟨nB, qB (key.1) (qB (key.2.1) (nB))⟩
def t_w77 : KT := ((0, 0, 0, 0), [(2, 0, 40, 0), (1, 1, 0, 0)], [(0, 0), (0, 145)], [(77, [(2, 0, 40, 0), (1, 1, 0, 0), (0, 0, 0, 0)])], (0, 0, 0), [], [], ([], [(77, [(2, 0, 40, 0), (1, 1, 0, 1), (0, 0, 0, 0)])]), ([], []))
set_option maxRecDepth 100000 in
theorem l_w77 (g : GG) : LOK Yt (PSt g) t_w77 := by
  intro ρ α Γ M as hT hB hA hP
  have g0 : Γ (α 0) = 40 := tyAt hA (i := 0) rfl
  have b1 : 0 ≤ ρ 1 ∧ ρ 1 ≤ 145 := hB 1
  have h0 : Γ (α 0) = 40 ∧ M.2.2.2.2 (α 0) 5 ≤ (g.2.1 : Int) + (ρ 1 + 0) := hP _ (List.mem_of_getElem? (i := 0) rfl)
  try simp only [Int.add_zero] at h0
  have key : (Γ (α 0) = 40 ∧ M.2.2.2.2 (α 0) 5 ≤ (g.2.1 : Int) + (ρ 1 + 1)) ∧ True := by
    try simp only [Int.add_zero]
    have := h0.2
    exact ⟨⟨g0, by omega⟩, trivial⟩
  exact ⟨nB, qB (key.1) (nB)⟩
def t_st3 : KT := ((0, 0, 0, 0), [(2, 0, 40, 0), (1, 1, 0, 0)], [(0, 0), (0, 146)], [(77, [(2, 0, 40, 0), (1, 1, 0, 0), (0, 0, 0, 0)])], (0, 0, 0), [], [], ([], [(159, [(2, 0, 40, 0), (1, 1, 0, 0)])]), ([], []))
set_option maxRecDepth 100000 in
theorem l_st3 (g : GG) : LOK Yt (PSt g) t_st3 := by
  intro ρ α Γ M as hT hB hA hP
  have g0 : Γ (α 0) = 40 := tyAt hA (i := 0) rfl
  have b1 : 0 ≤ ρ 1 ∧ ρ 1 ≤ 146 := hB 1
  have h0 : Γ (α 0) = 40 ∧ M.2.2.2.2 (α 0) 5 ≤ (g.2.1 : Int) + (ρ 1 + 0) := hP _ (List.mem_of_getElem? (i := 0) rfl)
  try simp only [Int.add_zero] at h0
  have key : (Γ (α 0) = 40 ∧ tyO Γ M (α 0) [(1, 41, [(4, 5)])] ∧ Q159 g (vw M (α 0) 1 [(4, 5)]) (clp [(5, 6)] (M.2.2.2.2 (α 0))) (ρ 1 + 0)) ∧ True := by
    try simp only [Int.add_zero]
    refine ⟨⟨g0, tyO_of hT g0 (by decide) (by decide), Or.inl ?_⟩, trivial⟩
    show clp [(5, 6)] (M.2.2.2.2 (α 0)) 5 ≤ (g.2.1 : Int) + ρ 1
    rw [clp_in 5 6 (by decide) (by decide) (by decide)]
    exact h0.2
  exact ⟨nB, qB (key.1) (nB)⟩
def t_st5 : KT := ((0, 0, 0, 0), [(2, 0, 40, 0), (1, 1, 0, 0)], [(0, 0), (0, 146)], [(102, [(2, 0, 40, 0)]), (77, [(2, 0, 40, 0), (1, 1, 0, 1), (0, 0, 0, 0)])], (0, 0, 0), [], [], ([], [(159, [(2, 0, 40, 0), (1, 1, 0, 0)])]), ([], []))
set_option maxRecDepth 100000 in
theorem l_st5 (g : GG) : LOK Yt (PSt g) t_st5 := by
  intro ρ α Γ M as hT hB hA hP
  have g0 : Γ (α 0) = 40 := tyAt hA (i := 0) rfl
  have b1 : 0 ≤ ρ 1 ∧ ρ 1 ≤ 146 := hB 1
  have h0 : Γ (α 0) = 40 ∧ tyO Γ M (α 0) [(1, 41, [(4, 5)])] ∧ Q102 g (vw M (α 0) 1 [(4, 5)]) (clp [] (M.2.2.2.2 (α 0)))  := hP _ (List.mem_of_getElem? (i := 0) rfl)
  have h1 : Γ (α 0) = 40 ∧ M.2.2.2.2 (α 0) 5 ≤ (g.2.1 : Int) + (ρ 1 + 1) := hP _ (List.mem_of_getElem? (i := 1) rfl)
  try simp only [Int.add_zero] at h0 h1
  have key : (Γ (α 0) = 40 ∧ tyO Γ M (α 0) [(1, 41, [(4, 5)])] ∧ Q159 g (vw M (α 0) 1 [(4, 5)]) (clp [(5, 6)] (M.2.2.2.2 (α 0))) (ρ 1 + 0)) ∧ True := by
    try simp only [Int.add_zero]
    refine ⟨⟨g0, tyO_of hT g0 (by decide) (by decide), Or.inr ⟨h0.2.2, ?_⟩⟩, trivial⟩
    show clp [(5, 6)] (M.2.2.2.2 (α 0)) 5 ≤ (g.2.1 : Int) + (ρ 1 + 1)
    rw [clp_in 5 6 (by decide) (by decide) (by decide)]
    exact h1.2
  exact ⟨nB, qB (key.1) (nB)⟩
def t_st6 : KT := ((0, 0, 0, 0), [(2, 0, 40, 0), (1, 1, 0, 0)], [(0, 0), (0, 146)], [(159, [(2, 0, 40, 0), (1, 1, 0, 0)])], (0, 0, 0), [], [], ([], [(77, [(2, 0, 40, 0), (0, 0, 0, 150), (0, 0, 0, 0)])]), ([], []))
set_option maxRecDepth 100000 in
theorem l_st6 (g : GG) : LOK Yt (PSt g) t_st6 := by
  intro ρ α Γ M as hT hB hA hP
  have g0 : Γ (α 0) = 40 := tyAt hA (i := 0) rfl
  have b1 : 0 ≤ ρ 1 ∧ ρ 1 ≤ 146 := hB 1
  have h0 : Γ (α 0) = 40 ∧ tyO Γ M (α 0) [(1, 41, [(4, 5)])] ∧ Q159 g (vw M (α 0) 1 [(4, 5)]) (clp [(5, 6)] (M.2.2.2.2 (α 0))) (ρ 1 + 0) := hP _ (List.mem_of_getElem? (i := 0) rfl)
  try simp only [Int.add_zero] at h0
  have key : (Γ (α 0) = 40 ∧ M.2.2.2.2 (α 0) 5 ≤ (g.2.1 : Int) + (150)) ∧ True := by
    try simp only [Int.add_zero]
    obtain ⟨-, -, h⟩ := h0
    refine ⟨⟨g0, ?_⟩, trivial⟩
    have e : clp [(5, 6)] (M.2.2.2.2 (α 0)) 5 = M.2.2.2.2 (α 0) 5 := clp_in 5 6 (by decide) (by decide) (by decide)
    rcases h with h | ⟨-, h⟩
    · have h : clp [(5, 6)] (M.2.2.2.2 (α 0)) 5 ≤ (g.2.1 : Int) + ρ 1 := h
      omega
    · have h : clp [(5, 6)] (M.2.2.2.2 (α 0)) 5 ≤ (g.2.1 : Int) + (ρ 1 + 1) := h
      omega
  exact ⟨nB, qB (key.1) (nB)⟩
def t_fx1 : KT := ((0, 0, 0, 0), [(2, 0, 40, 0), (1, 1, 0, 0)], [(0, 0), (1, 2147483647)], [(105, [(2, 0, 40, 0), (1, 1, 0, 0)])], (0, 0, 0), [], [], ([], [(156, [(2, 0, 40, 0)])]), ([], []))
set_option maxRecDepth 100000 in
theorem l_fx1 (g : GG) : LOK Yt (PSt g) t_fx1 := by
  intro ρ α Γ M as hT hB hA hP
  have g0 : Γ (α 0) = 40 := tyAt hA (i := 0) rfl
  have b1 : 1 ≤ ρ 1 ∧ ρ 1 ≤ 2147483647 := hB 1
  have h0 : Γ (α 0) = 40 ∧ tyO Γ M (α 0) [(1, 41, [(0, 2), (298, 442), (874, 1018)])] ∧ Q105 g (vw M (α 0) 1 [(0, 2), (298, 442), (874, 1018)]) (clp [] (M.2.2.2.2 (α 0))) (ρ 1 + 0) := hP _ (List.mem_of_getElem? (i := 0) rfl)
  try simp only [Int.add_zero] at h0
  have key : (Γ (α 0) = 40 ∧ tyO Γ M (α 0) [(1, 41, [(0, 2), (298, 442), (874, 1018)])] ∧ Q156 g (vw M (α 0) 1 [(0, 2), (298, 442), (874, 1018)]) (clp [] (M.2.2.2.2 (α 0))) ) ∧ True := by
    try simp only [Int.add_zero]
    obtain ⟨-, -, h⟩ := h0
    exact ⟨⟨g0, tyO_of hT g0 (by decide) (by decide), h (by omega)⟩, trivial⟩
  exact ⟨nB, qB (key.1) (nB)⟩
def t_bm0 : KT := ((0, 0, 0, 0), [(2, 0, 40, 0), (1, 1, 0, 0)], [(0, 0), (0, 143)], [], (0, 0, 0), [], [], ([], [(134, [(2, 0, 40, 0), (1, 1, 0, 0)])]), ([], []))
set_option maxRecDepth 100000 in
theorem l_bm0 (g : GG) : LOK Yt (PSt g) t_bm0 := by
  intro ρ α Γ M as hT hB hA hP
  have g0 : Γ (α 0) = 40 := tyAt hA (i := 0) rfl
  have b1 : 0 ≤ ρ 1 ∧ ρ 1 ≤ 143 := hB 1
  have key : (Γ (α 0) = 40 ∧ tyO Γ M (α 0) [(1, 41, [(874, 1018)])] ∧ True) ∧ True := by
    try simp only [Int.add_zero]
    exact ⟨⟨g0, tyO_of hT g0 (by decide) (by decide), trivial⟩, trivial⟩
  exact ⟨nB, qB (key.1) (nB)⟩
def t_bm1 : KT := ((0, 0, 0, 0), [(2, 0, 40, 0), (2, 1, 41, 0), (1, 2, 0, 0), (1, 3, 0, 0)], [(0, 0), (0, 0), (0, 143), (0, 143)], [(100, [(2, 0, 40, 0)]), (104, [(2, 0, 40, 0), (1, 2, 0, 0)]), (34, [(2, 0, 40, 0), (1, 2, 0, 0)]), (11, [(2, 0, 40, 0), (0, 0, 0, 1), (2, 1, 41, 0)]), (10, [(2, 1, 41, 0), (1, 2, 0, 586), (1, 3, 0, 0)])], (0, 0, 0), [], [], ([], [(104, [(2, 0, 40, 0), (1, 3, 0, 0)]), (35, [(2, 0, 40, 0), (1, 3, 0, 0)])]), ([], []))
set_option maxRecDepth 100000 in
theorem l_bm1 (g : GG) : LOK Yt (PSt g) t_bm1 := by
  intro ρ α Γ M as hT hB hA hP
  have g0 : Γ (α 0) = 40 := tyAt hA (i := 0) rfl
  have g1 : Γ (α 1) = 41 := tyAt hA (i := 1) rfl
  have b2 : 0 ≤ ρ 2 ∧ ρ 2 ≤ 143 := hB 2
  have b3 : 0 ≤ ρ 3 ∧ ρ 3 ≤ 143 := hB 3
  have h0 : Γ (α 0) = 40 ∧ tyO Γ M (α 0) [(1, 41, [(2, 4), (586, 730), (874, 1018)])] ∧ Q100 g (vw M (α 0) 1 [(2, 4), (586, 730), (874, 1018)]) (clp [] (M.2.2.2.2 (α 0)))  := hP _ (List.mem_of_getElem? (i := 0) rfl)
  have h1 : Γ (α 0) = 40 ∧ tyO Γ M (α 0) [(1, 41, [(874, 1018)])] ∧ Q104 g (vw M (α 0) 1 [(874, 1018)]) (clp [] (M.2.2.2.2 (α 0))) (ρ 2 + 0) := hP _ (List.mem_of_getElem? (i := 1) rfl)
  have h2 : Γ (α 0) = 40 ∧ tyO Γ M (α 0) [(1, 41, [(874, 1018)])] ∧ True ∧ mu34 (vw M (α 0) 1 [(874, 1018)]) (ρ 2 + 0) ≤ g.2.2 := hP _ (List.mem_of_getElem? (i := 2) rfl)
  have h3 : 0 ≤ (1 : Int) ∧ M.2.2.2.1 (α 0) (1 : Int).toNat = some (α 1) := hP _ (List.mem_of_getElem? (i := 3) rfl)
  have h4 : 0 ≤ (ρ 2 + 586 : Int) ∧ M.2.2.2.2 (α 1) (ρ 2 + 586 : Int).toNat = ρ 3 + 0 := hP _ (List.mem_of_getElem? (i := 4) rfl)
  try simp only [Int.add_zero] at h0 h1 h2 h3 h4
  have key : (Γ (α 0) = 40 ∧ tyO Γ M (α 0) [(1, 41, [(874, 1018)])] ∧ Q104 g (vw M (α 0) 1 [(874, 1018)]) (clp [] (M.2.2.2.2 (α 0))) (ρ 3 + 0)) ∧ (Γ (α 0) = 40 ∧ tyO Γ M (α 0) [(1, 41, [(874, 1018)])] ∧ True ∧ mu34 (vw M (α 0) 1 [(874, 1018)]) (ρ 3 + 0) < g.2.2) ∧ True := by
    try simp only [Int.add_zero]
    have e1 : fl M (α 0) 1 = α 1 := fl_eq (show M.2.2.2.1 (α 0) 1 = some (α 1) from h3.2)
    
    have r := c100.mp (show RI0 (clp _ (M.2.2.2.2 (fl M (α 0) 1))) from h0.2.2)
    have u := c104.mp (show LAp (clp _ (M.2.2.2.2 (fl M (α 0) 1))) (ρ 2) from h1.2.2)
    have hm : (clp [(874, 1018)] (M.2.2.2.2 (fl M (α 0) 1)) (874 + (ρ 2).toNat)).toNat ≤ g.2.2 := h2.2.2.2
    rw [ckM (by decide) _ (by omega)] at hm
    have e : M.2.2.2.2 (fl M (α 0) 1) (586 + (ρ 2).toNat) = ρ 3 := by
      have := h4.2
      rw [show (ρ 2 + 586).toNat = 586 + (ρ 2).toNat by omega] at this
      rw [e1]
      exact this
    rcases u with u | ⟨u1, u2, u3⟩
    · omega
    · obtain ⟨-, y⟩ := r.2.2 (ρ 2).toNat (by omega) u3
      rw [e] at y
      rcases y with y | ⟨q, q1, q2, q3, q4⟩
      · omega
      · have eq : (ρ 3).toNat = q := by omega
        refine ⟨⟨g0, tyO_of hT g0 (by decide) (by decide), c104.mpr (Or.inr ⟨by omega, by omega, ?_⟩)⟩, ⟨g0, tyO_of hT g0 (by decide) (by decide), trivial, ?_⟩, trivial⟩
        · rw [eq]
          exact q3
        · show (clp [(874, 1018)] (M.2.2.2.2 (fl M (α 0) 1)) (874 + (ρ 3).toNat)).toNat < g.2.2
          rw [eq, ckM (by decide) _ q1]
          omega
  exact ⟨nB, qB (key.1) (qB (key.2.1) (nB))⟩
def t_cp0 : KT := ((0, 0, 0, 0), [(2, 0, 40, 0), (1, 1, 0, 0)], [(0, 0), (0, 0)], [], (0, 0, 0), [], [], ([], [(110, [(2, 0, 40, 0), (1, 1, 0, 0)])]), ([], []))
set_option maxRecDepth 100000 in
theorem l_cp0 (g : GG) : LOK Yt (PSt g) t_cp0 := by
  intro ρ α Γ M as hT hB hA hP
  have g0 : Γ (α 0) = 40 := tyAt hA (i := 0) rfl
  have b1 : 0 ≤ ρ 1 ∧ ρ 1 ≤ 0 := hB 1
  have key : (Γ (α 0) = 40 ∧ tyO Γ M (α 0) [(2, 52, [(0, 2314)]), (1, 41, [(0, 2314)])] ∧ Q110 g (vw M (α 0) 2 [(0, 2314)]) (vw M (α 0) 1 [(0, 2314)]) (clp [] (M.2.2.2.2 (α 0))) (ρ 1 + 0)) ∧ True := by
    try simp only [Int.add_zero]
    exact ⟨⟨g0, tyO_of hT g0 (by decide) (by decide), fun j hj => by omega⟩, trivial⟩
  exact ⟨nB, qB (key.1) (nB)⟩
def t_cp1 : KT := ((0, 0, 0, 0), [(2, 0, 40, 0), (2, 1, 52, 0), (2, 2, 41, 0), (1, 3, 0, 0), (1, 4, 0, 0)], [(0, 0), (0, 0), (0, 0), (0, 2313), (-2147483648, 2147483647)], [(110, [(2, 0, 40, 0), (1, 3, 0, 0)]), (11, [(2, 0, 40, 0), (0, 0, 0, 2), (2, 1, 52, 0)]), (11, [(2, 0, 40, 0), (0, 0, 0, 1), (2, 2, 41, 0)]), (10, [(2, 2, 41, 0), (1, 3, 0, 0), (1, 4, 0, 0)])], (0, 0, 0), [], [], ([], [(201, [(2, 1, 52, 0), (1, 3, 0, 0), (2, 0, 40, 0), (1, 4, 0, 0)])]), ([], []))
set_option maxRecDepth 100000 in
theorem l_cp1 (g : GG) : LOK Yt (PSt g) t_cp1 := by
  intro ρ α Γ M as hT hB hA hP
  have g0 : Γ (α 0) = 40 := tyAt hA (i := 0) rfl
  have g1 : Γ (α 1) = 52 := tyAt hA (i := 1) rfl
  have g2 : Γ (α 2) = 41 := tyAt hA (i := 2) rfl
  have b3 : 0 ≤ ρ 3 ∧ ρ 3 ≤ 2313 := hB 3
  have b4 : -2147483648 ≤ ρ 4 ∧ ρ 4 ≤ 2147483647 := hB 4
  have h0 : Γ (α 0) = 40 ∧ tyO Γ M (α 0) [(2, 52, [(0, 2314)]), (1, 41, [(0, 2314)])] ∧ Q110 g (vw M (α 0) 2 [(0, 2314)]) (vw M (α 0) 1 [(0, 2314)]) (clp [] (M.2.2.2.2 (α 0))) (ρ 3 + 0) := hP _ (List.mem_of_getElem? (i := 0) rfl)
  have h1 : 0 ≤ (2 : Int) ∧ M.2.2.2.1 (α 0) (2 : Int).toNat = some (α 1) := hP _ (List.mem_of_getElem? (i := 1) rfl)
  have h2 : 0 ≤ (1 : Int) ∧ M.2.2.2.1 (α 0) (1 : Int).toNat = some (α 2) := hP _ (List.mem_of_getElem? (i := 2) rfl)
  have h3 : 0 ≤ (ρ 3 + 0 : Int) ∧ M.2.2.2.2 (α 2) (ρ 3 + 0 : Int).toNat = ρ 4 + 0 := hP _ (List.mem_of_getElem? (i := 3) rfl)
  try simp only [Int.add_zero] at h0 h1 h2 h3
  have key : (Γ (α 0) = 40 ∧ M.2.2.2.1 (α 0) 2 = some (α 1) ∧ Γ (α 1) = 52 ∧ tyO Γ M (α 0) [(1, 41, [(0, 2314)])] ∧ Q201 g (hcl [vi (ρ 3 + 0)] (clp [(0, 2314)] (M.2.2.2.2 (α 1)))) (vw M (α 0) 1 [(0, 2314)]) (clp [] (M.2.2.2.2 (α 0))) (ρ 3 + 0) (ρ 4 + 0)) ∧ True := by
    try simp only [Int.add_zero]
    have e2 : fl M (α 0) 2 = α 1 := fl_eq (show M.2.2.2.1 (α 0) 2 = some (α 1) from h1.2)
    have e1 : fl M (α 0) 1 = α 2 := fl_eq (show M.2.2.2.1 (α 0) 1 = some (α 2) from h2.2)
    
    obtain ⟨-, -, h⟩ := h0
    refine ⟨⟨g0, h1.2, g1, tyO_of hT g0 (by decide) (by decide), fun j hj => ?_, ?_⟩, trivial⟩
    · rw [hcl1 (by omega), ← e2]
      exact h j hj
    · show ρ 4 = clp [(0, 2314)] (M.2.2.2.2 (fl M (α 0) 1)) (ρ 3).toNat
      rw [e1, cAll (by omega)]
      exact h3.2.symm
  exact ⟨nB, qB (key.1) (nB)⟩
def t_cp2 : KT := ((0, 0, 0, 0), [(2, 0, 40, 0), (2, 1, 52, 0), (1, 2, 0, 0), (1, 3, 0, 0)], [(0, 0), (0, 0), (0, 2313), (-2147483648, 2147483647)], [(201, [(2, 1, 52, 0), (1, 2, 0, 0), (2, 0, 40, 0), (1, 3, 0, 0)]), (10, [(2, 1, 52, 0), (1, 2, 0, 0), (1, 3, 0, 0)])], (0, 0, 0), [], [], ([], [(110, [(2, 0, 40, 0), (1, 2, 0, 1)])]), ([], []))
set_option maxRecDepth 100000 in
theorem l_cp2 (g : GG) : LOK Yt (PSt g) t_cp2 := by
  intro ρ α Γ M as hT hB hA hP
  have g0 : Γ (α 0) = 40 := tyAt hA (i := 0) rfl
  have g1 : Γ (α 1) = 52 := tyAt hA (i := 1) rfl
  have b2 : 0 ≤ ρ 2 ∧ ρ 2 ≤ 2313 := hB 2
  have b3 : -2147483648 ≤ ρ 3 ∧ ρ 3 ≤ 2147483647 := hB 3
  have h0 : Γ (α 0) = 40 ∧ M.2.2.2.1 (α 0) 2 = some (α 1) ∧ Γ (α 1) = 52 ∧ tyO Γ M (α 0) [(1, 41, [(0, 2314)])] ∧ Q201 g (hcl [vi (ρ 2 + 0)] (clp [(0, 2314)] (M.2.2.2.2 (α 1)))) (vw M (α 0) 1 [(0, 2314)]) (clp [] (M.2.2.2.2 (α 0))) (ρ 2 + 0) (ρ 3 + 0) := hP _ (List.mem_of_getElem? (i := 0) rfl)
  have h1 : 0 ≤ (ρ 2 + 0 : Int) ∧ M.2.2.2.2 (α 1) (ρ 2 + 0 : Int).toNat = ρ 3 + 0 := hP _ (List.mem_of_getElem? (i := 1) rfl)
  try simp only [Int.add_zero] at h0 h1
  have key : (Γ (α 0) = 40 ∧ tyO Γ M (α 0) [(2, 52, [(0, 2314)]), (1, 41, [(0, 2314)])] ∧ Q110 g (vw M (α 0) 2 [(0, 2314)]) (vw M (α 0) 1 [(0, 2314)]) (clp [] (M.2.2.2.2 (α 0))) (ρ 2 + 1)) ∧ True := by
    try simp only [Int.add_zero]
    obtain ⟨-, hr, -, ht, h, hv⟩ := h0
    have ed : fl M (α 0) 2 = α 1 := fl_eq hr
    refine ⟨⟨g0, tyO_of hT g0 (by decide) (by decide), fun j hj => ?_⟩, trivial⟩
    show clp [(0, 2314)] (M.2.2.2.2 (fl M (α 0) 2)) j = vw M (α 0) 1 [(0, 2314)] j
    rw [ed]
    by_cases hc : (j : Int) < ρ 2
    · have := h j hc
      rw [hcl1 (by omega)] at this
      exact this
    · have ej : j = (ρ 2).toNat := by omega
      rw [ej, cAll (by omega), h1.2]
      exact hv
  exact ⟨nB, qB (key.1) (nB)⟩
def t_cp3 : KT := ((0, 0, 0, 0), [(2, 0, 40, 0), (1, 1, 0, 0)], [(0, 0), (2314, 2314)], [(110, [(2, 0, 40, 0), (1, 1, 0, 0)]), (100, [(2, 0, 40, 0)]), (101, [(2, 0, 40, 0)])], (0, 0, 0), [], [], ([], [(109, [(2, 0, 40, 0)])]), ([], []))
set_option maxRecDepth 100000 in
theorem l_cp3 (g : GG) : LOK Yt (PSt g) t_cp3 := by
  intro ρ α Γ M as hT hB hA hP
  have g0 : Γ (α 0) = 40 := tyAt hA (i := 0) rfl
  have b1 : 2314 ≤ ρ 1 ∧ ρ 1 ≤ 2314 := hB 1
  have h0 : Γ (α 0) = 40 ∧ tyO Γ M (α 0) [(2, 52, [(0, 2314)]), (1, 41, [(0, 2314)])] ∧ Q110 g (vw M (α 0) 2 [(0, 2314)]) (vw M (α 0) 1 [(0, 2314)]) (clp [] (M.2.2.2.2 (α 0))) (ρ 1 + 0) := hP _ (List.mem_of_getElem? (i := 0) rfl)
  have h1 : Γ (α 0) = 40 ∧ tyO Γ M (α 0) [(1, 41, [(2, 4), (586, 730), (874, 1018)])] ∧ Q100 g (vw M (α 0) 1 [(2, 4), (586, 730), (874, 1018)]) (clp [] (M.2.2.2.2 (α 0)))  := hP _ (List.mem_of_getElem? (i := 1) rfl)
  have h2 : Γ (α 0) = 40 ∧ tyO Γ M (α 0) [(1, 41, [(0, 2), (4, 5), (298, 442), (874, 1018)])] ∧ Q101 g (vw M (α 0) 1 [(0, 2), (4, 5), (298, 442), (874, 1018)]) (clp [] (M.2.2.2.2 (α 0)))  := hP _ (List.mem_of_getElem? (i := 2) rfl)
  try simp only [Int.add_zero] at h0 h1 h2
  have key : (Γ (α 0) = 40 ∧ tyO Γ M (α 0) [(2, 52, [(0, 2314)])] ∧ Q109 g (vw M (α 0) 2 [(0, 2314)]) (clp [] (M.2.2.2.2 (α 0))) ) ∧ True := by
    try simp only [Int.add_zero]
    obtain ⟨-, -, h⟩ := h0
    have rn := (⟨c100.mp h1.2.2, c101.mp h2.2.2⟩ : RIF (M.2.2.2.2 (fl M (α 0) 1)))
    have rd : RIF (M.2.2.2.2 (fl M (α 0) 2)) := RIF_c (fun k hk => by
      have := h k (by omega)
      have this : clp [(0, 2314)] (M.2.2.2.2 (fl M (α 0) 2)) k = clp [(0, 2314)] (M.2.2.2.2 (fl M (α 0) 1)) k := this
      rw [cAll hk, cAll hk] at this
      exact this) rn
    exact ⟨⟨g0, tyO_of hT g0 (by decide) (by decide), cRIF.mpr rd⟩, trivial⟩
  exact ⟨nB, qB (key.1) (nB)⟩
def t_cq0 : KT := ((0, 0, 0, 0), [(2, 0, 40, 0), (1, 1, 0, 0)], [(0, 0), (0, 0)], [], (0, 0, 0), [], [], ([], [(111, [(2, 0, 40, 0), (1, 1, 0, 0)])]), ([], []))
set_option maxRecDepth 100000 in
theorem l_cq0 (g : GG) : LOK Yt (PSt g) t_cq0 := by
  intro ρ α Γ M as hT hB hA hP
  have g0 : Γ (α 0) = 40 := tyAt hA (i := 0) rfl
  have b1 : 0 ≤ ρ 1 ∧ ρ 1 ≤ 0 := hB 1
  have key : (Γ (α 0) = 40 ∧ tyO Γ M (α 0) [(1, 41, [(0, 2314)]), (2, 52, [(0, 2314)])] ∧ Q111 g (vw M (α 0) 1 [(0, 2314)]) (vw M (α 0) 2 [(0, 2314)]) (clp [] (M.2.2.2.2 (α 0))) (ρ 1 + 0)) ∧ True := by
    try simp only [Int.add_zero]
    exact ⟨⟨g0, tyO_of hT g0 (by decide) (by decide), fun j hj => by omega⟩, trivial⟩
  exact ⟨nB, qB (key.1) (nB)⟩
def t_cq1 : KT := ((0, 0, 0, 0), [(2, 0, 40, 0), (2, 1, 41, 0), (2, 2, 52, 0), (1, 3, 0, 0), (1, 4, 0, 0)], [(0, 0), (0, 0), (0, 0), (0, 2313), (-2147483648, 2147483647)], [(111, [(2, 0, 40, 0), (1, 3, 0, 0)]), (11, [(2, 0, 40, 0), (0, 0, 0, 1), (2, 1, 41, 0)]), (11, [(2, 0, 40, 0), (0, 0, 0, 2), (2, 2, 52, 0)]), (10, [(2, 2, 52, 0), (1, 3, 0, 0), (1, 4, 0, 0)])], (0, 0, 0), [], [], ([], [(202, [(2, 1, 41, 0), (1, 3, 0, 0), (2, 0, 40, 0), (1, 4, 0, 0)])]), ([], []))
set_option maxRecDepth 100000 in
theorem l_cq1 (g : GG) : LOK Yt (PSt g) t_cq1 := by
  intro ρ α Γ M as hT hB hA hP
  have g0 : Γ (α 0) = 40 := tyAt hA (i := 0) rfl
  have g1 : Γ (α 1) = 41 := tyAt hA (i := 1) rfl
  have g2 : Γ (α 2) = 52 := tyAt hA (i := 2) rfl
  have b3 : 0 ≤ ρ 3 ∧ ρ 3 ≤ 2313 := hB 3
  have b4 : -2147483648 ≤ ρ 4 ∧ ρ 4 ≤ 2147483647 := hB 4
  have h0 : Γ (α 0) = 40 ∧ tyO Γ M (α 0) [(1, 41, [(0, 2314)]), (2, 52, [(0, 2314)])] ∧ Q111 g (vw M (α 0) 1 [(0, 2314)]) (vw M (α 0) 2 [(0, 2314)]) (clp [] (M.2.2.2.2 (α 0))) (ρ 3 + 0) := hP _ (List.mem_of_getElem? (i := 0) rfl)
  have h1 : 0 ≤ (1 : Int) ∧ M.2.2.2.1 (α 0) (1 : Int).toNat = some (α 1) := hP _ (List.mem_of_getElem? (i := 1) rfl)
  have h2 : 0 ≤ (2 : Int) ∧ M.2.2.2.1 (α 0) (2 : Int).toNat = some (α 2) := hP _ (List.mem_of_getElem? (i := 2) rfl)
  have h3 : 0 ≤ (ρ 3 + 0 : Int) ∧ M.2.2.2.2 (α 2) (ρ 3 + 0 : Int).toNat = ρ 4 + 0 := hP _ (List.mem_of_getElem? (i := 3) rfl)
  try simp only [Int.add_zero] at h0 h1 h2 h3
  have key : (Γ (α 0) = 40 ∧ M.2.2.2.1 (α 0) 1 = some (α 1) ∧ Γ (α 1) = 41 ∧ tyO Γ M (α 0) [(2, 52, [(0, 2314)])] ∧ Q202 g (hcl [vi (ρ 3 + 0)] (clp [(0, 2314)] (M.2.2.2.2 (α 1)))) (vw M (α 0) 2 [(0, 2314)]) (clp [] (M.2.2.2.2 (α 0))) (ρ 3 + 0) (ρ 4 + 0)) ∧ True := by
    try simp only [Int.add_zero]
    have e1 : fl M (α 0) 1 = α 1 := fl_eq (show M.2.2.2.1 (α 0) 1 = some (α 1) from h1.2)
    have e2 : fl M (α 0) 2 = α 2 := fl_eq (show M.2.2.2.1 (α 0) 2 = some (α 2) from h2.2)
    
    obtain ⟨-, -, h⟩ := h0
    refine ⟨⟨g0, h1.2, g1, tyO_of hT g0 (by decide) (by decide), fun j hj => ?_, ?_⟩, trivial⟩
    · rw [hcl1 (by omega), ← e1]
      exact h j hj
    · show ρ 4 = clp [(0, 2314)] (M.2.2.2.2 (fl M (α 0) 2)) (ρ 3).toNat
      rw [e2, cAll (by omega)]
      exact h3.2.symm
  exact ⟨nB, qB (key.1) (nB)⟩
def t_cq2 : KT := ((0, 0, 0, 0), [(2, 0, 40, 0), (2, 1, 41, 0), (1, 2, 0, 0), (1, 3, 0, 0)], [(0, 0), (0, 0), (0, 2313), (-2147483648, 2147483647)], [(202, [(2, 1, 41, 0), (1, 2, 0, 0), (2, 0, 40, 0), (1, 3, 0, 0)]), (10, [(2, 1, 41, 0), (1, 2, 0, 0), (1, 3, 0, 0)])], (0, 0, 0), [], [], ([], [(111, [(2, 0, 40, 0), (1, 2, 0, 1)])]), ([], []))
set_option maxRecDepth 100000 in
theorem l_cq2 (g : GG) : LOK Yt (PSt g) t_cq2 := by
  intro ρ α Γ M as hT hB hA hP
  have g0 : Γ (α 0) = 40 := tyAt hA (i := 0) rfl
  have g1 : Γ (α 1) = 41 := tyAt hA (i := 1) rfl
  have b2 : 0 ≤ ρ 2 ∧ ρ 2 ≤ 2313 := hB 2
  have b3 : -2147483648 ≤ ρ 3 ∧ ρ 3 ≤ 2147483647 := hB 3
  have h0 : Γ (α 0) = 40 ∧ M.2.2.2.1 (α 0) 1 = some (α 1) ∧ Γ (α 1) = 41 ∧ tyO Γ M (α 0) [(2, 52, [(0, 2314)])] ∧ Q202 g (hcl [vi (ρ 2 + 0)] (clp [(0, 2314)] (M.2.2.2.2 (α 1)))) (vw M (α 0) 2 [(0, 2314)]) (clp [] (M.2.2.2.2 (α 0))) (ρ 2 + 0) (ρ 3 + 0) := hP _ (List.mem_of_getElem? (i := 0) rfl)
  have h1 : 0 ≤ (ρ 2 + 0 : Int) ∧ M.2.2.2.2 (α 1) (ρ 2 + 0 : Int).toNat = ρ 3 + 0 := hP _ (List.mem_of_getElem? (i := 1) rfl)
  try simp only [Int.add_zero] at h0 h1
  have key : (Γ (α 0) = 40 ∧ tyO Γ M (α 0) [(1, 41, [(0, 2314)]), (2, 52, [(0, 2314)])] ∧ Q111 g (vw M (α 0) 1 [(0, 2314)]) (vw M (α 0) 2 [(0, 2314)]) (clp [] (M.2.2.2.2 (α 0))) (ρ 2 + 1)) ∧ True := by
    try simp only [Int.add_zero]
    obtain ⟨-, hr, -, ht, h, hv⟩ := h0
    have ed : fl M (α 0) 1 = α 1 := fl_eq hr
    refine ⟨⟨g0, tyO_of hT g0 (by decide) (by decide), fun j hj => ?_⟩, trivial⟩
    show clp [(0, 2314)] (M.2.2.2.2 (fl M (α 0) 1)) j = vw M (α 0) 2 [(0, 2314)] j
    rw [ed]
    by_cases hc : (j : Int) < ρ 2
    · have := h j hc
      rw [hcl1 (by omega)] at this
      exact this
    · have ej : j = (ρ 2).toNat := by omega
      rw [ej, cAll (by omega), h1.2]
      exact hv
  exact ⟨nB, qB (key.1) (nB)⟩
def t_cq3 : KT := ((0, 0, 0, 0), [(2, 0, 40, 0), (1, 1, 0, 0)], [(0, 0), (2314, 2314)], [(111, [(2, 0, 40, 0), (1, 1, 0, 0)]), (109, [(2, 0, 40, 0)])], (0, 0, 0), [], [], ([], [(100, [(2, 0, 40, 0)]), (101, [(2, 0, 40, 0)])]), ([], []))
set_option maxRecDepth 100000 in
theorem l_cq3 (g : GG) : LOK Yt (PSt g) t_cq3 := by
  intro ρ α Γ M as hT hB hA hP
  have g0 : Γ (α 0) = 40 := tyAt hA (i := 0) rfl
  have b1 : 2314 ≤ ρ 1 ∧ ρ 1 ≤ 2314 := hB 1
  have h0 : Γ (α 0) = 40 ∧ tyO Γ M (α 0) [(1, 41, [(0, 2314)]), (2, 52, [(0, 2314)])] ∧ Q111 g (vw M (α 0) 1 [(0, 2314)]) (vw M (α 0) 2 [(0, 2314)]) (clp [] (M.2.2.2.2 (α 0))) (ρ 1 + 0) := hP _ (List.mem_of_getElem? (i := 0) rfl)
  have h1 : Γ (α 0) = 40 ∧ tyO Γ M (α 0) [(2, 52, [(0, 2314)])] ∧ Q109 g (vw M (α 0) 2 [(0, 2314)]) (clp [] (M.2.2.2.2 (α 0)))  := hP _ (List.mem_of_getElem? (i := 1) rfl)
  try simp only [Int.add_zero] at h0 h1
  have key : (Γ (α 0) = 40 ∧ tyO Γ M (α 0) [(1, 41, [(2, 4), (586, 730), (874, 1018)])] ∧ Q100 g (vw M (α 0) 1 [(2, 4), (586, 730), (874, 1018)]) (clp [] (M.2.2.2.2 (α 0))) ) ∧ (Γ (α 0) = 40 ∧ tyO Γ M (α 0) [(1, 41, [(0, 2), (4, 5), (298, 442), (874, 1018)])] ∧ Q101 g (vw M (α 0) 1 [(0, 2), (4, 5), (298, 442), (874, 1018)]) (clp [] (M.2.2.2.2 (α 0))) ) ∧ True := by
    try simp only [Int.add_zero]
    obtain ⟨-, -, h⟩ := h0
    have rn := (cRIF.mp h1.2.2 : RIF (M.2.2.2.2 (fl M (α 0) 2)))
    have rd : RIF (M.2.2.2.2 (fl M (α 0) 1)) := RIF_c (fun k hk => by
      have := h k (by omega)
      have this : clp [(0, 2314)] (M.2.2.2.2 (fl M (α 0) 1)) k = clp [(0, 2314)] (M.2.2.2.2 (fl M (α 0) 2)) k := this
      rw [cAll hk, cAll hk] at this
      exact this) rn
    exact ⟨⟨g0, tyO_of hT g0 (by decide) (by decide), c100.mpr rd.1⟩, ⟨g0, tyO_of hT g0 (by decide) (by decide), c101.mpr rd.2⟩, trivial⟩
  exact ⟨nB, qB (key.1) (qB (key.2.1) (nB))⟩
def t_ci0 : KT := ((0, 0, 0, 0), [(2, 0, 40, 0), (1, 1, 0, 0)], [(0, 0), (0, 0)], [], (0, 0, 0), [], [], ([], [(112, [(2, 0, 40, 0), (1, 1, 0, 0)])]), ([], []))
set_option maxRecDepth 100000 in
theorem l_ci0 (g : GG) : LOK Yt (PSt g) t_ci0 := by
  intro ρ α Γ M as hT hB hA hP
  have g0 : Γ (α 0) = 40 := tyAt hA (i := 0) rfl
  have b1 : 0 ≤ ρ 1 ∧ ρ 1 ≤ 0 := hB 1
  have key : (Γ (α 0) = 40 ∧ tyO Γ M (α 0) [(24, 53, [(0, 2314)]), (1, 41, [(0, 2314)])] ∧ Q112 g (vw M (α 0) 24 [(0, 2314)]) (vw M (α 0) 1 [(0, 2314)]) (clp [] (M.2.2.2.2 (α 0))) (ρ 1 + 0)) ∧ True := by
    try simp only [Int.add_zero]
    exact ⟨⟨g0, tyO_of hT g0 (by decide) (by decide), fun j hj => by omega⟩, trivial⟩
  exact ⟨nB, qB (key.1) (nB)⟩
def t_ci1 : KT := ((0, 0, 0, 0), [(2, 0, 40, 0), (2, 1, 53, 0), (2, 2, 41, 0), (1, 3, 0, 0), (1, 4, 0, 0)], [(0, 0), (0, 0), (0, 0), (0, 2313), (-2147483648, 2147483647)], [(112, [(2, 0, 40, 0), (1, 3, 0, 0)]), (11, [(2, 0, 40, 0), (0, 0, 0, 24), (2, 1, 53, 0)]), (11, [(2, 0, 40, 0), (0, 0, 0, 1), (2, 2, 41, 0)]), (10, [(2, 2, 41, 0), (1, 3, 0, 0), (1, 4, 0, 0)])], (0, 0, 0), [], [], ([], [(203, [(2, 1, 53, 0), (1, 3, 0, 0), (2, 0, 40, 0), (1, 4, 0, 0)])]), ([], []))
set_option maxRecDepth 100000 in
theorem l_ci1 (g : GG) : LOK Yt (PSt g) t_ci1 := by
  intro ρ α Γ M as hT hB hA hP
  have g0 : Γ (α 0) = 40 := tyAt hA (i := 0) rfl
  have g1 : Γ (α 1) = 53 := tyAt hA (i := 1) rfl
  have g2 : Γ (α 2) = 41 := tyAt hA (i := 2) rfl
  have b3 : 0 ≤ ρ 3 ∧ ρ 3 ≤ 2313 := hB 3
  have b4 : -2147483648 ≤ ρ 4 ∧ ρ 4 ≤ 2147483647 := hB 4
  have h0 : Γ (α 0) = 40 ∧ tyO Γ M (α 0) [(24, 53, [(0, 2314)]), (1, 41, [(0, 2314)])] ∧ Q112 g (vw M (α 0) 24 [(0, 2314)]) (vw M (α 0) 1 [(0, 2314)]) (clp [] (M.2.2.2.2 (α 0))) (ρ 3 + 0) := hP _ (List.mem_of_getElem? (i := 0) rfl)
  have h1 : 0 ≤ (24 : Int) ∧ M.2.2.2.1 (α 0) (24 : Int).toNat = some (α 1) := hP _ (List.mem_of_getElem? (i := 1) rfl)
  have h2 : 0 ≤ (1 : Int) ∧ M.2.2.2.1 (α 0) (1 : Int).toNat = some (α 2) := hP _ (List.mem_of_getElem? (i := 2) rfl)
  have h3 : 0 ≤ (ρ 3 + 0 : Int) ∧ M.2.2.2.2 (α 2) (ρ 3 + 0 : Int).toNat = ρ 4 + 0 := hP _ (List.mem_of_getElem? (i := 3) rfl)
  try simp only [Int.add_zero] at h0 h1 h2 h3
  have key : (Γ (α 0) = 40 ∧ M.2.2.2.1 (α 0) 24 = some (α 1) ∧ Γ (α 1) = 53 ∧ tyO Γ M (α 0) [(1, 41, [(0, 2314)])] ∧ Q203 g (hcl [vi (ρ 3 + 0)] (clp [(0, 2314)] (M.2.2.2.2 (α 1)))) (vw M (α 0) 1 [(0, 2314)]) (clp [] (M.2.2.2.2 (α 0))) (ρ 3 + 0) (ρ 4 + 0)) ∧ True := by
    try simp only [Int.add_zero]
    have e24 : fl M (α 0) 24 = α 1 := fl_eq (show M.2.2.2.1 (α 0) 24 = some (α 1) from h1.2)
    have e1 : fl M (α 0) 1 = α 2 := fl_eq (show M.2.2.2.1 (α 0) 1 = some (α 2) from h2.2)
    
    obtain ⟨-, -, h⟩ := h0
    refine ⟨⟨g0, h1.2, g1, tyO_of hT g0 (by decide) (by decide), fun j hj => ?_, ?_⟩, trivial⟩
    · rw [hcl1 (by omega), ← e24]
      exact h j hj
    · show ρ 4 = clp [(0, 2314)] (M.2.2.2.2 (fl M (α 0) 1)) (ρ 3).toNat
      rw [e1, cAll (by omega)]
      exact h3.2.symm
  exact ⟨nB, qB (key.1) (nB)⟩
def t_ci2 : KT := ((0, 0, 0, 0), [(2, 0, 40, 0), (2, 1, 53, 0), (1, 2, 0, 0), (1, 3, 0, 0)], [(0, 0), (0, 0), (0, 2313), (-2147483648, 2147483647)], [(203, [(2, 1, 53, 0), (1, 2, 0, 0), (2, 0, 40, 0), (1, 3, 0, 0)]), (10, [(2, 1, 53, 0), (1, 2, 0, 0), (1, 3, 0, 0)])], (0, 0, 0), [], [], ([], [(112, [(2, 0, 40, 0), (1, 2, 0, 1)])]), ([], []))
set_option maxRecDepth 100000 in
theorem l_ci2 (g : GG) : LOK Yt (PSt g) t_ci2 := by
  intro ρ α Γ M as hT hB hA hP
  have g0 : Γ (α 0) = 40 := tyAt hA (i := 0) rfl
  have g1 : Γ (α 1) = 53 := tyAt hA (i := 1) rfl
  have b2 : 0 ≤ ρ 2 ∧ ρ 2 ≤ 2313 := hB 2
  have b3 : -2147483648 ≤ ρ 3 ∧ ρ 3 ≤ 2147483647 := hB 3
  have h0 : Γ (α 0) = 40 ∧ M.2.2.2.1 (α 0) 24 = some (α 1) ∧ Γ (α 1) = 53 ∧ tyO Γ M (α 0) [(1, 41, [(0, 2314)])] ∧ Q203 g (hcl [vi (ρ 2 + 0)] (clp [(0, 2314)] (M.2.2.2.2 (α 1)))) (vw M (α 0) 1 [(0, 2314)]) (clp [] (M.2.2.2.2 (α 0))) (ρ 2 + 0) (ρ 3 + 0) := hP _ (List.mem_of_getElem? (i := 0) rfl)
  have h1 : 0 ≤ (ρ 2 + 0 : Int) ∧ M.2.2.2.2 (α 1) (ρ 2 + 0 : Int).toNat = ρ 3 + 0 := hP _ (List.mem_of_getElem? (i := 1) rfl)
  try simp only [Int.add_zero] at h0 h1
  have key : (Γ (α 0) = 40 ∧ tyO Γ M (α 0) [(24, 53, [(0, 2314)]), (1, 41, [(0, 2314)])] ∧ Q112 g (vw M (α 0) 24 [(0, 2314)]) (vw M (α 0) 1 [(0, 2314)]) (clp [] (M.2.2.2.2 (α 0))) (ρ 2 + 1)) ∧ True := by
    try simp only [Int.add_zero]
    obtain ⟨-, hr, -, ht, h, hv⟩ := h0
    have ed : fl M (α 0) 24 = α 1 := fl_eq hr
    refine ⟨⟨g0, tyO_of hT g0 (by decide) (by decide), fun j hj => ?_⟩, trivial⟩
    show clp [(0, 2314)] (M.2.2.2.2 (fl M (α 0) 24)) j = vw M (α 0) 1 [(0, 2314)] j
    rw [ed]
    by_cases hc : (j : Int) < ρ 2
    · have := h j hc
      rw [hcl1 (by omega)] at this
      exact this
    · have ej : j = (ρ 2).toNat := by omega
      rw [ej, cAll (by omega), h1.2]
      exact hv
  exact ⟨nB, qB (key.1) (nB)⟩
def t_ci3 : KT := ((0, 0, 0, 0), [(2, 0, 40, 0), (1, 1, 0, 0)], [(0, 0), (2314, 2314)], [(112, [(2, 0, 40, 0), (1, 1, 0, 0)]), (100, [(2, 0, 40, 0)]), (101, [(2, 0, 40, 0)])], (0, 0, 0), [], [], ([], [(108, [(2, 0, 40, 0)])]), ([], []))
set_option maxRecDepth 100000 in
theorem l_ci3 (g : GG) : LOK Yt (PSt g) t_ci3 := by
  intro ρ α Γ M as hT hB hA hP
  have g0 : Γ (α 0) = 40 := tyAt hA (i := 0) rfl
  have b1 : 2314 ≤ ρ 1 ∧ ρ 1 ≤ 2314 := hB 1
  have h0 : Γ (α 0) = 40 ∧ tyO Γ M (α 0) [(24, 53, [(0, 2314)]), (1, 41, [(0, 2314)])] ∧ Q112 g (vw M (α 0) 24 [(0, 2314)]) (vw M (α 0) 1 [(0, 2314)]) (clp [] (M.2.2.2.2 (α 0))) (ρ 1 + 0) := hP _ (List.mem_of_getElem? (i := 0) rfl)
  have h1 : Γ (α 0) = 40 ∧ tyO Γ M (α 0) [(1, 41, [(2, 4), (586, 730), (874, 1018)])] ∧ Q100 g (vw M (α 0) 1 [(2, 4), (586, 730), (874, 1018)]) (clp [] (M.2.2.2.2 (α 0)))  := hP _ (List.mem_of_getElem? (i := 1) rfl)
  have h2 : Γ (α 0) = 40 ∧ tyO Γ M (α 0) [(1, 41, [(0, 2), (4, 5), (298, 442), (874, 1018)])] ∧ Q101 g (vw M (α 0) 1 [(0, 2), (4, 5), (298, 442), (874, 1018)]) (clp [] (M.2.2.2.2 (α 0)))  := hP _ (List.mem_of_getElem? (i := 2) rfl)
  try simp only [Int.add_zero] at h0 h1 h2
  have key : (Γ (α 0) = 40 ∧ tyO Γ M (α 0) [(24, 53, [(0, 2314)])] ∧ Q108 g (vw M (α 0) 24 [(0, 2314)]) (clp [] (M.2.2.2.2 (α 0))) ) ∧ True := by
    try simp only [Int.add_zero]
    obtain ⟨-, -, h⟩ := h0
    have rn := (⟨c100.mp h1.2.2, c101.mp h2.2.2⟩ : RIF (M.2.2.2.2 (fl M (α 0) 1)))
    have rd : RIF (M.2.2.2.2 (fl M (α 0) 24)) := RIF_c (fun k hk => by
      have := h k (by omega)
      have this : clp [(0, 2314)] (M.2.2.2.2 (fl M (α 0) 24)) k = clp [(0, 2314)] (M.2.2.2.2 (fl M (α 0) 1)) k := this
      rw [cAll hk, cAll hk] at this
      exact this) rn
    exact ⟨⟨g0, tyO_of hT g0 (by decide) (by decide), cRIF.mpr rd⟩, trivial⟩
  exact ⟨nB, qB (key.1) (nB)⟩
def t_cj0 : KT := ((0, 0, 0, 0), [(2, 0, 40, 0), (1, 1, 0, 0)], [(0, 0), (0, 0)], [], (0, 0, 0), [], [], ([], [(113, [(2, 0, 40, 0), (1, 1, 0, 0)])]), ([], []))
set_option maxRecDepth 100000 in
theorem l_cj0 (g : GG) : LOK Yt (PSt g) t_cj0 := by
  intro ρ α Γ M as hT hB hA hP
  have g0 : Γ (α 0) = 40 := tyAt hA (i := 0) rfl
  have b1 : 0 ≤ ρ 1 ∧ ρ 1 ≤ 0 := hB 1
  have key : (Γ (α 0) = 40 ∧ tyO Γ M (α 0) [(1, 41, [(0, 2314)]), (24, 53, [(0, 2314)])] ∧ Q113 g (vw M (α 0) 1 [(0, 2314)]) (vw M (α 0) 24 [(0, 2314)]) (clp [] (M.2.2.2.2 (α 0))) (ρ 1 + 0)) ∧ True := by
    try simp only [Int.add_zero]
    exact ⟨⟨g0, tyO_of hT g0 (by decide) (by decide), fun j hj => by omega⟩, trivial⟩
  exact ⟨nB, qB (key.1) (nB)⟩
def t_cj1 : KT := ((0, 0, 0, 0), [(2, 0, 40, 0), (2, 1, 41, 0), (2, 2, 53, 0), (1, 3, 0, 0), (1, 4, 0, 0)], [(0, 0), (0, 0), (0, 0), (0, 2313), (-2147483648, 2147483647)], [(113, [(2, 0, 40, 0), (1, 3, 0, 0)]), (11, [(2, 0, 40, 0), (0, 0, 0, 1), (2, 1, 41, 0)]), (11, [(2, 0, 40, 0), (0, 0, 0, 24), (2, 2, 53, 0)]), (10, [(2, 2, 53, 0), (1, 3, 0, 0), (1, 4, 0, 0)])], (0, 0, 0), [], [], ([], [(204, [(2, 1, 41, 0), (1, 3, 0, 0), (2, 0, 40, 0), (1, 4, 0, 0)])]), ([], []))
set_option maxRecDepth 100000 in
theorem l_cj1 (g : GG) : LOK Yt (PSt g) t_cj1 := by
  intro ρ α Γ M as hT hB hA hP
  have g0 : Γ (α 0) = 40 := tyAt hA (i := 0) rfl
  have g1 : Γ (α 1) = 41 := tyAt hA (i := 1) rfl
  have g2 : Γ (α 2) = 53 := tyAt hA (i := 2) rfl
  have b3 : 0 ≤ ρ 3 ∧ ρ 3 ≤ 2313 := hB 3
  have b4 : -2147483648 ≤ ρ 4 ∧ ρ 4 ≤ 2147483647 := hB 4
  have h0 : Γ (α 0) = 40 ∧ tyO Γ M (α 0) [(1, 41, [(0, 2314)]), (24, 53, [(0, 2314)])] ∧ Q113 g (vw M (α 0) 1 [(0, 2314)]) (vw M (α 0) 24 [(0, 2314)]) (clp [] (M.2.2.2.2 (α 0))) (ρ 3 + 0) := hP _ (List.mem_of_getElem? (i := 0) rfl)
  have h1 : 0 ≤ (1 : Int) ∧ M.2.2.2.1 (α 0) (1 : Int).toNat = some (α 1) := hP _ (List.mem_of_getElem? (i := 1) rfl)
  have h2 : 0 ≤ (24 : Int) ∧ M.2.2.2.1 (α 0) (24 : Int).toNat = some (α 2) := hP _ (List.mem_of_getElem? (i := 2) rfl)
  have h3 : 0 ≤ (ρ 3 + 0 : Int) ∧ M.2.2.2.2 (α 2) (ρ 3 + 0 : Int).toNat = ρ 4 + 0 := hP _ (List.mem_of_getElem? (i := 3) rfl)
  try simp only [Int.add_zero] at h0 h1 h2 h3
  have key : (Γ (α 0) = 40 ∧ M.2.2.2.1 (α 0) 1 = some (α 1) ∧ Γ (α 1) = 41 ∧ tyO Γ M (α 0) [(24, 53, [(0, 2314)])] ∧ Q204 g (hcl [vi (ρ 3 + 0)] (clp [(0, 2314)] (M.2.2.2.2 (α 1)))) (vw M (α 0) 24 [(0, 2314)]) (clp [] (M.2.2.2.2 (α 0))) (ρ 3 + 0) (ρ 4 + 0)) ∧ True := by
    try simp only [Int.add_zero]
    have e1 : fl M (α 0) 1 = α 1 := fl_eq (show M.2.2.2.1 (α 0) 1 = some (α 1) from h1.2)
    have e24 : fl M (α 0) 24 = α 2 := fl_eq (show M.2.2.2.1 (α 0) 24 = some (α 2) from h2.2)
    
    obtain ⟨-, -, h⟩ := h0
    refine ⟨⟨g0, h1.2, g1, tyO_of hT g0 (by decide) (by decide), fun j hj => ?_, ?_⟩, trivial⟩
    · rw [hcl1 (by omega), ← e1]
      exact h j hj
    · show ρ 4 = clp [(0, 2314)] (M.2.2.2.2 (fl M (α 0) 24)) (ρ 3).toNat
      rw [e24, cAll (by omega)]
      exact h3.2.symm
  exact ⟨nB, qB (key.1) (nB)⟩
def t_cj2 : KT := ((0, 0, 0, 0), [(2, 0, 40, 0), (2, 1, 41, 0), (1, 2, 0, 0), (1, 3, 0, 0)], [(0, 0), (0, 0), (0, 2313), (-2147483648, 2147483647)], [(204, [(2, 1, 41, 0), (1, 2, 0, 0), (2, 0, 40, 0), (1, 3, 0, 0)]), (10, [(2, 1, 41, 0), (1, 2, 0, 0), (1, 3, 0, 0)])], (0, 0, 0), [], [], ([], [(113, [(2, 0, 40, 0), (1, 2, 0, 1)])]), ([], []))
set_option maxRecDepth 100000 in
theorem l_cj2 (g : GG) : LOK Yt (PSt g) t_cj2 := by
  intro ρ α Γ M as hT hB hA hP
  have g0 : Γ (α 0) = 40 := tyAt hA (i := 0) rfl
  have g1 : Γ (α 1) = 41 := tyAt hA (i := 1) rfl
  have b2 : 0 ≤ ρ 2 ∧ ρ 2 ≤ 2313 := hB 2
  have b3 : -2147483648 ≤ ρ 3 ∧ ρ 3 ≤ 2147483647 := hB 3
  have h0 : Γ (α 0) = 40 ∧ M.2.2.2.1 (α 0) 1 = some (α 1) ∧ Γ (α 1) = 41 ∧ tyO Γ M (α 0) [(24, 53, [(0, 2314)])] ∧ Q204 g (hcl [vi (ρ 2 + 0)] (clp [(0, 2314)] (M.2.2.2.2 (α 1)))) (vw M (α 0) 24 [(0, 2314)]) (clp [] (M.2.2.2.2 (α 0))) (ρ 2 + 0) (ρ 3 + 0) := hP _ (List.mem_of_getElem? (i := 0) rfl)
  have h1 : 0 ≤ (ρ 2 + 0 : Int) ∧ M.2.2.2.2 (α 1) (ρ 2 + 0 : Int).toNat = ρ 3 + 0 := hP _ (List.mem_of_getElem? (i := 1) rfl)
  try simp only [Int.add_zero] at h0 h1
  have key : (Γ (α 0) = 40 ∧ tyO Γ M (α 0) [(1, 41, [(0, 2314)]), (24, 53, [(0, 2314)])] ∧ Q113 g (vw M (α 0) 1 [(0, 2314)]) (vw M (α 0) 24 [(0, 2314)]) (clp [] (M.2.2.2.2 (α 0))) (ρ 2 + 1)) ∧ True := by
    try simp only [Int.add_zero]
    obtain ⟨-, hr, -, ht, h, hv⟩ := h0
    have ed : fl M (α 0) 1 = α 1 := fl_eq hr
    refine ⟨⟨g0, tyO_of hT g0 (by decide) (by decide), fun j hj => ?_⟩, trivial⟩
    show clp [(0, 2314)] (M.2.2.2.2 (fl M (α 0) 1)) j = vw M (α 0) 24 [(0, 2314)] j
    rw [ed]
    by_cases hc : (j : Int) < ρ 2
    · have := h j hc
      rw [hcl1 (by omega)] at this
      exact this
    · have ej : j = (ρ 2).toNat := by omega
      rw [ej, cAll (by omega), h1.2]
      exact hv
  exact ⟨nB, qB (key.1) (nB)⟩
def t_cj3 : KT := ((0, 0, 0, 0), [(2, 0, 40, 0), (1, 1, 0, 0)], [(0, 0), (2314, 2314)], [(113, [(2, 0, 40, 0), (1, 1, 0, 0)]), (108, [(2, 0, 40, 0)])], (0, 0, 0), [], [], ([], [(100, [(2, 0, 40, 0)]), (101, [(2, 0, 40, 0)])]), ([], []))
set_option maxRecDepth 100000 in
theorem l_cj3 (g : GG) : LOK Yt (PSt g) t_cj3 := by
  intro ρ α Γ M as hT hB hA hP
  have g0 : Γ (α 0) = 40 := tyAt hA (i := 0) rfl
  have b1 : 2314 ≤ ρ 1 ∧ ρ 1 ≤ 2314 := hB 1
  have h0 : Γ (α 0) = 40 ∧ tyO Γ M (α 0) [(1, 41, [(0, 2314)]), (24, 53, [(0, 2314)])] ∧ Q113 g (vw M (α 0) 1 [(0, 2314)]) (vw M (α 0) 24 [(0, 2314)]) (clp [] (M.2.2.2.2 (α 0))) (ρ 1 + 0) := hP _ (List.mem_of_getElem? (i := 0) rfl)
  have h1 : Γ (α 0) = 40 ∧ tyO Γ M (α 0) [(24, 53, [(0, 2314)])] ∧ Q108 g (vw M (α 0) 24 [(0, 2314)]) (clp [] (M.2.2.2.2 (α 0)))  := hP _ (List.mem_of_getElem? (i := 1) rfl)
  try simp only [Int.add_zero] at h0 h1
  have key : (Γ (α 0) = 40 ∧ tyO Γ M (α 0) [(1, 41, [(2, 4), (586, 730), (874, 1018)])] ∧ Q100 g (vw M (α 0) 1 [(2, 4), (586, 730), (874, 1018)]) (clp [] (M.2.2.2.2 (α 0))) ) ∧ (Γ (α 0) = 40 ∧ tyO Γ M (α 0) [(1, 41, [(0, 2), (4, 5), (298, 442), (874, 1018)])] ∧ Q101 g (vw M (α 0) 1 [(0, 2), (4, 5), (298, 442), (874, 1018)]) (clp [] (M.2.2.2.2 (α 0))) ) ∧ True := by
    try simp only [Int.add_zero]
    obtain ⟨-, -, h⟩ := h0
    have rn := (cRIF.mp h1.2.2 : RIF (M.2.2.2.2 (fl M (α 0) 24)))
    have rd : RIF (M.2.2.2.2 (fl M (α 0) 1)) := RIF_c (fun k hk => by
      have := h k (by omega)
      have this : clp [(0, 2314)] (M.2.2.2.2 (fl M (α 0) 1)) k = clp [(0, 2314)] (M.2.2.2.2 (fl M (α 0) 24)) k := this
      rw [cAll hk, cAll hk] at this
      exact this) rn
    exact ⟨⟨g0, tyO_of hT g0 (by decide) (by decide), c100.mpr rd.1⟩, ⟨g0, tyO_of hT g0 (by decide) (by decide), c101.mpr rd.2⟩, trivial⟩
  exact ⟨nB, qB (key.1) (qB (key.2.1) (nB))⟩
def t_ka0 : KT := ((0, 0, 0, 0), [(2, 0, 40, 0), (1, 1, 0, 0)], [(0, 0), (0, 0)], [(107, [(2, 0, 40, 0)])], (0, 0, 0), [], [], ([], [(115, [(2, 0, 40, 0), (1, 1, 0, 0)])]), ([], []))
set_option maxRecDepth 100000 in
theorem l_ka0 (g : GG) : LOK Yt (PSt g) t_ka0 := by
  intro ρ α Γ M as hT hB hA hP
  have g0 : Γ (α 0) = 40 := tyAt hA (i := 0) rfl
  have b1 : 0 ≤ ρ 1 ∧ ρ 1 ≤ 0 := hB 1
  have h0 : Γ (α 0) = 40 ∧ tyO Γ M (α 0) [(6, 43, [(0, 27768)])] ∧ Q107 g (vw M (α 0) 6 [(0, 27768)]) (clp [] (M.2.2.2.2 (α 0)))  := hP _ (List.mem_of_getElem? (i := 0) rfl)
  try simp only [Int.add_zero] at h0
  have key : (Γ (α 0) = 40 ∧ tyO Γ M (α 0) [(6, 43, [(0, 27768)])] ∧ Q115 g (vw M (α 0) 6 [(0, 27768)]) (clp [] (M.2.2.2.2 (α 0))) (ρ 1 + 0)) ∧ True := by
    try simp only [Int.add_zero]
    obtain ⟨-, -, h⟩ := h0
    exact ⟨⟨g0, tyO_of hT g0 (by decide) (by decide), clp [(0, 27768)] (M.2.2.2.2 (fl M (α 0) 6)), h, fun c hc => ⟨fun q => by omega, fun _ => rfl⟩⟩, trivial⟩
  exact ⟨nB, qB (key.1) (nB)⟩
def t_ka1 : KT := ((0, 0, 0, 0), [(2, 0, 40, 0), (2, 1, 43, 0), (1, 2, 0, 0), (1, 3, 0, 0)], [(0, 0), (0, 0), (0, 25453), (-2147483648, 2147483647)], [(115, [(2, 0, 40, 0), (1, 2, 0, 0)]), (11, [(2, 0, 40, 0), (0, 0, 0, 6), (2, 1, 43, 0)]), (10, [(2, 1, 43, 0), (1, 2, 0, 2314), (1, 3, 0, 0)])], (0, 0, 0), [], [], ([], [(206, [(2, 1, 43, 0), (1, 2, 0, 0), (2, 0, 40, 0), (1, 3, 0, 0)])]), ([], []))
set_option maxRecDepth 100000 in
theorem l_ka1 (g : GG) : LOK Yt (PSt g) t_ka1 := by
  intro ρ α Γ M as hT hB hA hP
  have g0 : Γ (α 0) = 40 := tyAt hA (i := 0) rfl
  have g1 : Γ (α 1) = 43 := tyAt hA (i := 1) rfl
  have b2 : 0 ≤ ρ 2 ∧ ρ 2 ≤ 25453 := hB 2
  have b3 : -2147483648 ≤ ρ 3 ∧ ρ 3 ≤ 2147483647 := hB 3
  have h0 : Γ (α 0) = 40 ∧ tyO Γ M (α 0) [(6, 43, [(0, 27768)])] ∧ Q115 g (vw M (α 0) 6 [(0, 27768)]) (clp [] (M.2.2.2.2 (α 0))) (ρ 2 + 0) := hP _ (List.mem_of_getElem? (i := 0) rfl)
  have h1 : 0 ≤ (6 : Int) ∧ M.2.2.2.1 (α 0) (6 : Int).toNat = some (α 1) := hP _ (List.mem_of_getElem? (i := 1) rfl)
  have h2 : 0 ≤ (ρ 2 + 2314 : Int) ∧ M.2.2.2.2 (α 1) (ρ 2 + 2314 : Int).toNat = ρ 3 + 0 := hP _ (List.mem_of_getElem? (i := 2) rfl)
  try simp only [Int.add_zero] at h0 h1 h2
  have key : (Γ (α 0) = 40 ∧ M.2.2.2.1 (α 0) 6 = some (α 1) ∧ Γ (α 1) = 43 ∧ tyO Γ M (α 0) [] ∧ Q206 g (hcl [vi (ρ 2 + 0)] (clp [(0, 27768)] (M.2.2.2.2 (α 1))))  (clp [] (M.2.2.2.2 (α 0))) (ρ 2 + 0) (ρ 3 + 0)) ∧ True := by
    try simp only [Int.add_zero]
    have e6 : fl M (α 0) 6 = α 1 := fl_eq (show M.2.2.2.1 (α 0) 6 = some (α 1) from h1.2)
    
    obtain ⟨-, -, f, f1, f2⟩ := h0
    refine ⟨⟨g0, h1.2, g1, tyO_of hT g0 (by decide) (by decide), f, f1, fun c hc => ⟨fun q => ?_, fun q => ?_⟩, ?_⟩, trivial⟩
    · rw [hcl1 (by omega), ← e6]
      exact (f2 c hc).1 q
    · rw [hcl1 (by omega), ← e6]
      exact (f2 c hc).2 (by omega)
    · have x := (f2 ((ρ 2).toNat + 2314) (by omega)).2 (by omega)
      have e : M.2.2.2.2 (α 1) ((ρ 2).toNat + 2314) = ρ 3 := by
        have := h2.2
        rw [show (ρ 2 + 2314).toNat = (ρ 2).toNat + 2314 by omega] at this
        exact this
      rw [← x]
      show ρ 3 = clp [(0, 27768)] (M.2.2.2.2 (fl M (α 0) 6)) _
      rw [e6, cAll (by omega)]
      exact e.symm
  exact ⟨nB, qB (key.1) (nB)⟩
def t_ka2 : KT := ((0, 0, 0, 0), [(2, 0, 40, 0), (2, 1, 43, 0), (1, 2, 0, 0), (1, 3, 0, 0)], [(0, 0), (0, 0), (0, 25453), (-2147483648, 2147483647)], [(206, [(2, 1, 43, 0), (1, 2, 0, 0), (2, 0, 40, 0), (1, 3, 0, 0)]), (10, [(2, 1, 43, 0), (1, 2, 0, 0), (1, 3, 0, 0)])], (0, 0, 0), [], [], ([], [(115, [(2, 0, 40, 0), (1, 2, 0, 1)])]), ([], []))
set_option maxRecDepth 100000 in
theorem l_ka2 (g : GG) : LOK Yt (PSt g) t_ka2 := by
  intro ρ α Γ M as hT hB hA hP
  have g0 : Γ (α 0) = 40 := tyAt hA (i := 0) rfl
  have g1 : Γ (α 1) = 43 := tyAt hA (i := 1) rfl
  have b2 : 0 ≤ ρ 2 ∧ ρ 2 ≤ 25453 := hB 2
  have b3 : -2147483648 ≤ ρ 3 ∧ ρ 3 ≤ 2147483647 := hB 3
  have h0 : Γ (α 0) = 40 ∧ M.2.2.2.1 (α 0) 6 = some (α 1) ∧ Γ (α 1) = 43 ∧ tyO Γ M (α 0) [] ∧ Q206 g (hcl [vi (ρ 2 + 0)] (clp [(0, 27768)] (M.2.2.2.2 (α 1))))  (clp [] (M.2.2.2.2 (α 0))) (ρ 2 + 0) (ρ 3 + 0) := hP _ (List.mem_of_getElem? (i := 0) rfl)
  have h1 : 0 ≤ (ρ 2 + 0 : Int) ∧ M.2.2.2.2 (α 1) (ρ 2 + 0 : Int).toNat = ρ 3 + 0 := hP _ (List.mem_of_getElem? (i := 1) rfl)
  try simp only [Int.add_zero] at h0 h1
  have key : (Γ (α 0) = 40 ∧ tyO Γ M (α 0) [(6, 43, [(0, 27768)])] ∧ Q115 g (vw M (α 0) 6 [(0, 27768)]) (clp [] (M.2.2.2.2 (α 0))) (ρ 2 + 1)) ∧ True := by
    try simp only [Int.add_zero]
    obtain ⟨-, hr, -, -, f, f1, f2, f3⟩ := h0
    have e6 : fl M (α 0) 6 = α 1 := fl_eq hr
    refine ⟨⟨g0, tyO_of hT g0 (by decide) (by decide), f, f1, fun c hc => ⟨fun q => ?_, fun q => ?_⟩⟩, trivial⟩
    · show clp [(0, 27768)] (M.2.2.2.2 (fl M (α 0) 6)) c = _
      rw [e6]
      by_cases hq : (c : Int) < ρ 2
      · have := (f2 c hc).1 hq
        rw [hcl1 (by omega)] at this
        exact this
      · have ec : c = (ρ 2).toNat := by omega
        rw [ec, cAll (by omega), h1.2]
        exact f3
    · show clp [(0, 27768)] (M.2.2.2.2 (fl M (α 0) 6)) c = _
      rw [e6]
      have := (f2 c hc).2 (by omega)
      rw [hcl1 (by omega)] at this
      exact this
  exact ⟨nB, qB (key.1) (nB)⟩
def t_ka3 : KT := ((0, 0, 0, 0), [(2, 0, 40, 0), (1, 1, 0, 0)], [(0, 0), (25454, 25454)], [(115, [(2, 0, 40, 0), (1, 1, 0, 0)])], (0, 0, 0), [], [], ([], [(107, [(2, 0, 40, 0)])]), ([], []))
set_option maxRecDepth 100000 in
theorem l_ka3 (g : GG) : LOK Yt (PSt g) t_ka3 := by
  intro ρ α Γ M as hT hB hA hP
  have g0 : Γ (α 0) = 40 := tyAt hA (i := 0) rfl
  have b1 : 25454 ≤ ρ 1 ∧ ρ 1 ≤ 25454 := hB 1
  have h0 : Γ (α 0) = 40 ∧ tyO Γ M (α 0) [(6, 43, [(0, 27768)])] ∧ Q115 g (vw M (α 0) 6 [(0, 27768)]) (clp [] (M.2.2.2.2 (α 0))) (ρ 1 + 0) := hP _ (List.mem_of_getElem? (i := 0) rfl)
  try simp only [Int.add_zero] at h0
  have key : (Γ (α 0) = 40 ∧ tyO Γ M (α 0) [(6, 43, [(0, 27768)])] ∧ Q107 g (vw M (α 0) 6 [(0, 27768)]) (clp [] (M.2.2.2.2 (α 0))) ) ∧ True := by
    try simp only [Int.add_zero]
    obtain ⟨-, -, f, f1, f2⟩ := h0
    refine ⟨⟨g0, tyO_of hT g0 (by decide) (by decide), fun i hi => ?_⟩, trivial⟩
    by_cases h11 : i = 11
    · exact RIF_c (f := fun c => f (2314 * i + c)) (fun k hk => (f2 (2314 * i + k) (by omega)).2 (by omega)) (f1 i hi)
    · exact RIF_c (f := fun c => f (2314 * (i + 1) + c)) (fun k hk => by
        have := (f2 (2314 * i + k) (by omega)).1 (by omega)
        rw [show 2314 * i + k + 2314 = 2314 * (i + 1) + k by omega] at this
        exact this) (f1 (i + 1) (by omega))
  exact ⟨nB, qB (key.1) (nB)⟩
def t_ka4 : KT := ((0, 0, 0, 0), [(2, 0, 40, 0), (1, 1, 0, 0)], [(0, 0), (0, 0)], [(107, [(2, 0, 40, 0)])], (0, 0, 0), [], [], ([], [(116, [(2, 0, 40, 0), (1, 1, 0, 0)])]), ([], []))
set_option maxRecDepth 100000 in
theorem l_ka4 (g : GG) : LOK Yt (PSt g) t_ka4 := by
  intro ρ α Γ M as hT hB hA hP
  have g0 : Γ (α 0) = 40 := tyAt hA (i := 0) rfl
  have b1 : 0 ≤ ρ 1 ∧ ρ 1 ≤ 0 := hB 1
  have h0 : Γ (α 0) = 40 ∧ tyO Γ M (α 0) [(6, 43, [(0, 27768)])] ∧ Q107 g (vw M (α 0) 6 [(0, 27768)]) (clp [] (M.2.2.2.2 (α 0)))  := hP _ (List.mem_of_getElem? (i := 0) rfl)
  try simp only [Int.add_zero] at h0
  have key : (Γ (α 0) = 40 ∧ tyO Γ M (α 0) [(6, 43, [(0, 27768)]), (1, 41, [(0, 2314)])] ∧ Q116 g (vw M (α 0) 6 [(0, 27768)]) (vw M (α 0) 1 [(0, 2314)]) (clp [(7, 8)] (M.2.2.2.2 (α 0))) (ρ 1 + 0)) ∧ True := by
    try simp only [Int.add_zero]
    obtain ⟨-, -, h⟩ := h0
    exact ⟨⟨g0, tyO_of hT g0 (by decide) (by decide), fun i hi _ => h i hi, fun j hj => by omega⟩, trivial⟩
  exact ⟨nB, qB (key.1) (nB)⟩
def t_ka5 : KT := ((0, 0, 0, 0), [(2, 0, 40, 0), (2, 1, 43, 0), (2, 2, 41, 0), (1, 3, 0, 0), (1, 4, 0, 0), (1, 5, 0, 0), (1, 6, 0, 0), (1, 7, 0, 0)], [(0, 0), (0, 0), (0, 0), (0, 11), (0, 2313), (-2147483648, 2147483647), (-2147483648, 2147483647), (-2147483648, 2147483647)], [(116, [(2, 0, 40, 0), (1, 4, 0, 0)]), (11, [(2, 0, 40, 0), (0, 0, 0, 6), (2, 1, 43, 0)]), (11, [(2, 0, 40, 0), (0, 0, 0, 1), (2, 2, 41, 0)]), (10, [(2, 0, 40, 0), (0, 0, 0, 7), (1, 3, 0, 0)]), (25, [(1, 3, 0, 0), (0, 0, 0, 2314), (1, 5, 0, 0)]), (23, [(1, 5, 0, 0), (1, 4, 0, 0), (1, 6, 0, 0)]), (10, [(2, 2, 41, 0), (1, 4, 0, 0), (1, 7, 0, 0)])], (0, 0, 0), [], [], ([], [(207, [(2, 1, 43, 0), (1, 6, 0, 0), (2, 0, 40, 0), (1, 4, 0, 0), (1, 7, 0, 0)])]), ([], []))
set_option maxRecDepth 100000 in
theorem l_ka5 (g : GG) : LOK Yt (PSt g) t_ka5 := by
  intro ρ α Γ M as hT hB hA hP
  have g0 : Γ (α 0) = 40 := tyAt hA (i := 0) rfl
  have g1 : Γ (α 1) = 43 := tyAt hA (i := 1) rfl
  have g2 : Γ (α 2) = 41 := tyAt hA (i := 2) rfl
  have b3 : 0 ≤ ρ 3 ∧ ρ 3 ≤ 11 := hB 3
  have b4 : 0 ≤ ρ 4 ∧ ρ 4 ≤ 2313 := hB 4
  have b5 : -2147483648 ≤ ρ 5 ∧ ρ 5 ≤ 2147483647 := hB 5
  have b6 : -2147483648 ≤ ρ 6 ∧ ρ 6 ≤ 2147483647 := hB 6
  have b7 : -2147483648 ≤ ρ 7 ∧ ρ 7 ≤ 2147483647 := hB 7
  have h0 : Γ (α 0) = 40 ∧ tyO Γ M (α 0) [(6, 43, [(0, 27768)]), (1, 41, [(0, 2314)])] ∧ Q116 g (vw M (α 0) 6 [(0, 27768)]) (vw M (α 0) 1 [(0, 2314)]) (clp [(7, 8)] (M.2.2.2.2 (α 0))) (ρ 4 + 0) := hP _ (List.mem_of_getElem? (i := 0) rfl)
  have h1 : 0 ≤ (6 : Int) ∧ M.2.2.2.1 (α 0) (6 : Int).toNat = some (α 1) := hP _ (List.mem_of_getElem? (i := 1) rfl)
  have h2 : 0 ≤ (1 : Int) ∧ M.2.2.2.1 (α 0) (1 : Int).toNat = some (α 2) := hP _ (List.mem_of_getElem? (i := 2) rfl)
  have h3 : 0 ≤ (7 : Int) ∧ M.2.2.2.2 (α 0) (7 : Int).toNat = ρ 3 + 0 := hP _ (List.mem_of_getElem? (i := 3) rfl)
  have h4 : ρ 5 + 0 = wI ((ρ 3 + 0) * (2314)) := hP _ (List.mem_of_getElem? (i := 4) rfl)
  have h5 : ρ 6 + 0 = wI ((ρ 5 + 0) + (ρ 4 + 0)) := hP _ (List.mem_of_getElem? (i := 5) rfl)
  have h6 : 0 ≤ (ρ 4 + 0 : Int) ∧ M.2.2.2.2 (α 2) (ρ 4 + 0 : Int).toNat = ρ 7 + 0 := hP _ (List.mem_of_getElem? (i := 6) rfl)
  try simp only [Int.add_zero] at h0 h1 h2 h3 h4 h5 h6
  have key : (Γ (α 0) = 40 ∧ M.2.2.2.1 (α 0) 6 = some (α 1) ∧ Γ (α 1) = 43 ∧ tyO Γ M (α 0) [(1, 41, [(0, 2314)])] ∧ Q207 g (hcl [vi (ρ 6 + 0)] (clp [(0, 27768)] (M.2.2.2.2 (α 1)))) (vw M (α 0) 1 [(0, 2314)]) (clp [(7, 8)] (M.2.2.2.2 (α 0))) (ρ 6 + 0) (ρ 4 + 0) (ρ 7 + 0)) ∧ True := by
    try simp only [Int.add_zero]
    have e6 : fl M (α 0) 6 = α 1 := fl_eq (show M.2.2.2.1 (α 0) 6 = some (α 1) from h1.2)
    have e1 : fl M (α 0) 1 = α 2 := fl_eq (show M.2.2.2.1 (α 0) 1 = some (α 2) from h2.2)
    
    rw [wI_id (by unfold inI; omega)] at h4
    rw [h4, wI_id (by unfold inI; omega)] at h5
    have x7 : M.2.2.2.2 (α 0) 7 = ρ 3 := h3.2
    have eo : clp [(7, 8)] (M.2.2.2.2 (α 0)) 7 = ρ 3 := by rw [clp_in 7 8 (by decide) (by decide) (by decide)]; exact x7
    
    obtain ⟨-, -, f1, f2⟩ := h0
    have f1 : ∀ i : Nat, i < 12 → (i : Int) ≠ clp [(7, 8)] (M.2.2.2.2 (α 0)) 7 → RIF fun c => clp [(0, 27768)] (M.2.2.2.2 (fl M (α 0) 6)) (2314 * i + c) := f1
    have f2 : ∀ j : Nat, (j : Int) < ρ 4 → clp [(0, 27768)] (M.2.2.2.2 (fl M (α 0) 6)) (2314 * (clp [(7, 8)] (M.2.2.2.2 (α 0)) 7).toNat + j) = clp [(0, 2314)] (M.2.2.2.2 (fl M (α 0) 1)) j := f2
    rw [eo] at f1 f2
    refine ⟨⟨g0, h1.2, g1, tyO_of hT g0 (by decide) (by decide), ?_, ?_, fun i hi hn => ?_, fun j hj => ?_, ?_⟩, trivial⟩
    · rw [eo]
      exact b3
    · rw [eo]
      omega
    · rw [eo] at hn
      exact RIF_c (f := fun c => clp [(0, 27768)] (M.2.2.2.2 (fl M (α 0) 6)) (2314 * i + c)) (fun k hk => by rw [hcl1 (by omega), e6]) (f1 i hi hn)
    · rw [eo, hcl1 (by omega), ← e6]
      exact f2 j hj
    · show ρ 7 = clp [(0, 2314)] (M.2.2.2.2 (fl M (α 0) 1)) (ρ 4).toNat
      rw [e1, cAll (by omega)]
      exact h6.2.symm
  exact ⟨nB, qB (key.1) (nB)⟩
def t_ka6 : KT := ((0, 0, 0, 0), [(2, 0, 40, 0), (2, 1, 43, 0), (1, 2, 0, 0), (1, 3, 0, 0), (1, 4, 0, 0)], [(0, 0), (0, 0), (0, 2313), (-2147483648, 2147483647), (-2147483648, 2147483647)], [(207, [(2, 1, 43, 0), (1, 3, 0, 0), (2, 0, 40, 0), (1, 2, 0, 0), (1, 4, 0, 0)]), (10, [(2, 1, 43, 0), (1, 3, 0, 0), (1, 4, 0, 0)])], (0, 0, 0), [], [], ([], [(116, [(2, 0, 40, 0), (1, 2, 0, 1)])]), ([], []))
set_option maxRecDepth 100000 in
theorem l_ka6 (g : GG) : LOK Yt (PSt g) t_ka6 := by
  intro ρ α Γ M as hT hB hA hP
  have g0 : Γ (α 0) = 40 := tyAt hA (i := 0) rfl
  have g1 : Γ (α 1) = 43 := tyAt hA (i := 1) rfl
  have b2 : 0 ≤ ρ 2 ∧ ρ 2 ≤ 2313 := hB 2
  have b3 : -2147483648 ≤ ρ 3 ∧ ρ 3 ≤ 2147483647 := hB 3
  have b4 : -2147483648 ≤ ρ 4 ∧ ρ 4 ≤ 2147483647 := hB 4
  have h0 : Γ (α 0) = 40 ∧ M.2.2.2.1 (α 0) 6 = some (α 1) ∧ Γ (α 1) = 43 ∧ tyO Γ M (α 0) [(1, 41, [(0, 2314)])] ∧ Q207 g (hcl [vi (ρ 3 + 0)] (clp [(0, 27768)] (M.2.2.2.2 (α 1)))) (vw M (α 0) 1 [(0, 2314)]) (clp [(7, 8)] (M.2.2.2.2 (α 0))) (ρ 3 + 0) (ρ 2 + 0) (ρ 4 + 0) := hP _ (List.mem_of_getElem? (i := 0) rfl)
  have h1 : 0 ≤ (ρ 3 + 0 : Int) ∧ M.2.2.2.2 (α 1) (ρ 3 + 0 : Int).toNat = ρ 4 + 0 := hP _ (List.mem_of_getElem? (i := 1) rfl)
  try simp only [Int.add_zero] at h0 h1
  have key : (Γ (α 0) = 40 ∧ tyO Γ M (α 0) [(6, 43, [(0, 27768)]), (1, 41, [(0, 2314)])] ∧ Q116 g (vw M (α 0) 6 [(0, 27768)]) (vw M (α 0) 1 [(0, 2314)]) (clp [(7, 8)] (M.2.2.2.2 (α 0))) (ρ 2 + 1)) ∧ True := by
    try simp only [Int.add_zero]
    obtain ⟨-, hr, -, -, ho, hi, f1, f2, f3⟩ := h0
    have e6 : fl M (α 0) 6 = α 1 := fl_eq hr
    have ho : 0 ≤ clp [(7, 8)] (M.2.2.2.2 (α 0)) 7 ∧ clp [(7, 8)] (M.2.2.2.2 (α 0)) 7 ≤ 11 := ho
    have hi : ρ 3 = 2314 * clp [(7, 8)] (M.2.2.2.2 (α 0)) 7 + ρ 2 := hi
    refine ⟨⟨g0, tyO_of hT g0 (by decide) (by decide), fun i hi2 hn => ?_, fun j hj => ?_⟩, trivial⟩
    · have hn : (i : Int) ≠ clp [(7, 8)] (M.2.2.2.2 (α 0)) 7 := hn
      exact RIF_c (f := fun c => hcl [vi (ρ 3)] (clp [(0, 27768)] (M.2.2.2.2 (α 1))) (2314 * i + c)) (fun k hk => by
        show clp [(0, 27768)] (M.2.2.2.2 (fl M (α 0) 6)) (2314 * i + k) = _
        rw [e6, hcl1 (by omega)]) (f1 i hi2 hn)
    · show clp [(0, 27768)] (M.2.2.2.2 (fl M (α 0) 6)) (2314 * (clp [(7, 8)] (M.2.2.2.2 (α 0)) 7).toNat + j) = vw M (α 0) 1 [(0, 2314)] j
      rw [e6]
      by_cases hc : (j : Int) < ρ 2
      · have := f2 j hc
        have this : hcl [vi (ρ 3)] (clp [(0, 27768)] (M.2.2.2.2 (α 1))) (2314 * (clp [(7, 8)] (M.2.2.2.2 (α 0)) 7).toNat + j) = vw M (α 0) 1 [(0, 2314)] j := this
        rw [hcl1 (by omega)] at this
        exact this
      · have ej : j = (ρ 2).toNat := by omega
        have ei : 2314 * (clp [(7, 8)] (M.2.2.2.2 (α 0)) 7).toNat + j = (ρ 3).toNat := by omega
        rw [ei, cAll (by omega), h1.2, ej]
        exact f3
  exact ⟨nB, qB (key.1) (nB)⟩
def t_ka7 : KT := ((0, 0, 0, 0), [(2, 0, 40, 0), (1, 1, 0, 0)], [(0, 0), (2314, 2314)], [(116, [(2, 0, 40, 0), (1, 1, 0, 0)]), (100, [(2, 0, 40, 0)]), (101, [(2, 0, 40, 0)])], (0, 0, 0), [], [], ([], [(107, [(2, 0, 40, 0)])]), ([], []))
set_option maxRecDepth 100000 in
theorem l_ka7 (g : GG) : LOK Yt (PSt g) t_ka7 := by
  intro ρ α Γ M as hT hB hA hP
  have g0 : Γ (α 0) = 40 := tyAt hA (i := 0) rfl
  have b1 : 2314 ≤ ρ 1 ∧ ρ 1 ≤ 2314 := hB 1
  have h0 : Γ (α 0) = 40 ∧ tyO Γ M (α 0) [(6, 43, [(0, 27768)]), (1, 41, [(0, 2314)])] ∧ Q116 g (vw M (α 0) 6 [(0, 27768)]) (vw M (α 0) 1 [(0, 2314)]) (clp [(7, 8)] (M.2.2.2.2 (α 0))) (ρ 1 + 0) := hP _ (List.mem_of_getElem? (i := 0) rfl)
  have h1 : Γ (α 0) = 40 ∧ tyO Γ M (α 0) [(1, 41, [(2, 4), (586, 730), (874, 1018)])] ∧ Q100 g (vw M (α 0) 1 [(2, 4), (586, 730), (874, 1018)]) (clp [] (M.2.2.2.2 (α 0)))  := hP _ (List.mem_of_getElem? (i := 1) rfl)
  have h2 : Γ (α 0) = 40 ∧ tyO Γ M (α 0) [(1, 41, [(0, 2), (4, 5), (298, 442), (874, 1018)])] ∧ Q101 g (vw M (α 0) 1 [(0, 2), (4, 5), (298, 442), (874, 1018)]) (clp [] (M.2.2.2.2 (α 0)))  := hP _ (List.mem_of_getElem? (i := 2) rfl)
  try simp only [Int.add_zero] at h0 h1 h2
  have key : (Γ (α 0) = 40 ∧ tyO Γ M (α 0) [(6, 43, [(0, 27768)])] ∧ Q107 g (vw M (α 0) 6 [(0, 27768)]) (clp [] (M.2.2.2.2 (α 0))) ) ∧ True := by
    try simp only [Int.add_zero]
    obtain ⟨-, -, f1, f2⟩ := h0
    have f1 : ∀ i : Nat, i < 12 → (i : Int) ≠ clp [(7, 8)] (M.2.2.2.2 (α 0)) 7 → RIF fun c => clp [(0, 27768)] (M.2.2.2.2 (fl M (α 0) 6)) (2314 * i + c) := f1
    have f2 : ∀ j : Nat, (j : Int) < ρ 1 → clp [(0, 27768)] (M.2.2.2.2 (fl M (α 0) 6)) (2314 * (clp [(7, 8)] (M.2.2.2.2 (α 0)) 7).toNat + j) = clp [(0, 2314)] (M.2.2.2.2 (fl M (α 0) 1)) j := f2
    have rn : RIF (M.2.2.2.2 (fl M (α 0) 1)) := ⟨c100.mp h1.2.2, c101.mp h2.2.2⟩
    refine ⟨⟨g0, tyO_of hT g0 (by decide) (by decide), fun i hi => ?_⟩, trivial⟩
    by_cases hc : (i : Int) = clp [(7, 8)] (M.2.2.2.2 (α 0)) 7
    · exact RIF_c (f := M.2.2.2.2 (fl M (α 0) 1)) (fun k hk => by
        have := f2 k (by omega)
        rw [show (clp [(7, 8)] (M.2.2.2.2 (α 0)) 7).toNat = i by omega, cAll hk] at this
        exact this) rn
    · exact f1 i hi hc
  exact ⟨nB, qB (key.1) (nB)⟩
def t_un0 : KT := ((0, 0, 0, 0), [(2, 0, 40, 0), (1, 1, 0, 0)], [(0, 0), (0, 0)], [], (0, 0, 0), [], [], ([], [(114, [(2, 0, 40, 0), (1, 1, 0, 0)])]), ([], []))
set_option maxRecDepth 100000 in
theorem l_un0 (g : GG) : LOK Yt (PSt g) t_un0 := by
  intro ρ α Γ M as hT hB hA hP
  have g0 : Γ (α 0) = 40 := tyAt hA (i := 0) rfl
  have b1 : 0 ≤ ρ 1 ∧ ρ 1 ≤ 0 := hB 1
  have key : (Γ (α 0) = 40 ∧ tyO Γ M (α 0) [(1, 41, [(0, 2314)]), (6, 43, [(0, 27768)])] ∧ Q114 g (vw M (α 0) 1 [(0, 2314)]) (vw M (α 0) 6 [(0, 27768)]) (clp [(7, 8)] (M.2.2.2.2 (α 0))) (ρ 1 + 0)) ∧ True := by
    try simp only [Int.add_zero]
    exact ⟨⟨g0, tyO_of hT g0 (by decide) (by decide), fun j hj => by omega⟩, trivial⟩
  exact ⟨nB, qB (key.1) (nB)⟩
def t_un1 : KT := ((0, 0, 0, 0), [(2, 0, 40, 0), (2, 1, 43, 0), (2, 2, 41, 0), (1, 3, 0, 0), (1, 4, 0, 0), (1, 5, 0, 0), (1, 6, 0, 0), (1, 7, 0, 0)], [(0, 0), (0, 0), (0, 0), (0, 11), (0, 2313), (-2147483648, 2147483647), (-2147483648, 2147483647), (-2147483648, 2147483647)], [(114, [(2, 0, 40, 0), (1, 4, 0, 0)]), (11, [(2, 0, 40, 0), (0, 0, 0, 6), (2, 1, 43, 0)]), (11, [(2, 0, 40, 0), (0, 0, 0, 1), (2, 2, 41, 0)]), (10, [(2, 0, 40, 0), (0, 0, 0, 7), (1, 3, 0, 0)]), (25, [(1, 3, 0, 0), (0, 0, 0, 2314), (1, 5, 0, 0)]), (23, [(1, 5, 0, 0), (1, 4, 0, 0), (1, 6, 0, 0)]), (10, [(2, 1, 43, 0), (1, 6, 0, 0), (1, 7, 0, 0)])], (0, 0, 0), [], [], ([], [(205, [(2, 2, 41, 0), (1, 4, 0, 0), (2, 0, 40, 0), (1, 7, 0, 0)])]), ([], []))
set_option maxRecDepth 100000 in
theorem l_un1 (g : GG) : LOK Yt (PSt g) t_un1 := by
  intro ρ α Γ M as hT hB hA hP
  have g0 : Γ (α 0) = 40 := tyAt hA (i := 0) rfl
  have g1 : Γ (α 1) = 43 := tyAt hA (i := 1) rfl
  have g2 : Γ (α 2) = 41 := tyAt hA (i := 2) rfl
  have b3 : 0 ≤ ρ 3 ∧ ρ 3 ≤ 11 := hB 3
  have b4 : 0 ≤ ρ 4 ∧ ρ 4 ≤ 2313 := hB 4
  have b5 : -2147483648 ≤ ρ 5 ∧ ρ 5 ≤ 2147483647 := hB 5
  have b6 : -2147483648 ≤ ρ 6 ∧ ρ 6 ≤ 2147483647 := hB 6
  have b7 : -2147483648 ≤ ρ 7 ∧ ρ 7 ≤ 2147483647 := hB 7
  have h0 : Γ (α 0) = 40 ∧ tyO Γ M (α 0) [(1, 41, [(0, 2314)]), (6, 43, [(0, 27768)])] ∧ Q114 g (vw M (α 0) 1 [(0, 2314)]) (vw M (α 0) 6 [(0, 27768)]) (clp [(7, 8)] (M.2.2.2.2 (α 0))) (ρ 4 + 0) := hP _ (List.mem_of_getElem? (i := 0) rfl)
  have h1 : 0 ≤ (6 : Int) ∧ M.2.2.2.1 (α 0) (6 : Int).toNat = some (α 1) := hP _ (List.mem_of_getElem? (i := 1) rfl)
  have h2 : 0 ≤ (1 : Int) ∧ M.2.2.2.1 (α 0) (1 : Int).toNat = some (α 2) := hP _ (List.mem_of_getElem? (i := 2) rfl)
  have h3 : 0 ≤ (7 : Int) ∧ M.2.2.2.2 (α 0) (7 : Int).toNat = ρ 3 + 0 := hP _ (List.mem_of_getElem? (i := 3) rfl)
  have h4 : ρ 5 + 0 = wI ((ρ 3 + 0) * (2314)) := hP _ (List.mem_of_getElem? (i := 4) rfl)
  have h5 : ρ 6 + 0 = wI ((ρ 5 + 0) + (ρ 4 + 0)) := hP _ (List.mem_of_getElem? (i := 5) rfl)
  have h6 : 0 ≤ (ρ 6 + 0 : Int) ∧ M.2.2.2.2 (α 1) (ρ 6 + 0 : Int).toNat = ρ 7 + 0 := hP _ (List.mem_of_getElem? (i := 6) rfl)
  try simp only [Int.add_zero] at h0 h1 h2 h3 h4 h5 h6
  have key : (Γ (α 0) = 40 ∧ M.2.2.2.1 (α 0) 1 = some (α 2) ∧ Γ (α 2) = 41 ∧ tyO Γ M (α 0) [(6, 43, [(0, 27768)])] ∧ Q205 g (hcl [vi (ρ 4 + 0)] (clp [(0, 2314)] (M.2.2.2.2 (α 2)))) (vw M (α 0) 6 [(0, 27768)]) (clp [(7, 8)] (M.2.2.2.2 (α 0))) (ρ 4 + 0) (ρ 7 + 0)) ∧ True := by
    try simp only [Int.add_zero]
    have e6 : fl M (α 0) 6 = α 1 := fl_eq (show M.2.2.2.1 (α 0) 6 = some (α 1) from h1.2)
    have e1 : fl M (α 0) 1 = α 2 := fl_eq (show M.2.2.2.1 (α 0) 1 = some (α 2) from h2.2)
    
    rw [wI_id (by unfold inI; omega)] at h4
    rw [h4, wI_id (by unfold inI; omega)] at h5
    have x7 : M.2.2.2.2 (α 0) 7 = ρ 3 := h3.2
    have eo : clp [(7, 8)] (M.2.2.2.2 (α 0)) 7 = ρ 3 := by rw [clp_in 7 8 (by decide) (by decide) (by decide)]; exact x7
    
    obtain ⟨-, -, h⟩ := h0
    refine ⟨⟨g0, h2.2, g2, tyO_of hT g0 (by decide) (by decide), fun j hj => ?_, ?_⟩, trivial⟩
    · rw [hcl1 (by omega), ← e1]
      exact h j hj
    · show ρ 7 = clp [(0, 27768)] (M.2.2.2.2 (fl M (α 0) 6)) (2314 * (clp [(7, 8)] (M.2.2.2.2 (α 0)) 7).toNat + (ρ 4).toNat)
      rw [e6, eo, cAll (by omega)]
      have := h6.2
      rw [show (ρ 6).toNat = 2314 * (ρ 3).toNat + (ρ 4).toNat by omega] at this
      exact this.symm
  exact ⟨nB, qB (key.1) (nB)⟩
def t_un2 : KT := ((0, 0, 0, 0), [(2, 0, 40, 0), (2, 1, 41, 0), (1, 2, 0, 0), (1, 3, 0, 0)], [(0, 0), (0, 0), (0, 2313), (-2147483648, 2147483647)], [(205, [(2, 1, 41, 0), (1, 2, 0, 0), (2, 0, 40, 0), (1, 3, 0, 0)]), (10, [(2, 1, 41, 0), (1, 2, 0, 0), (1, 3, 0, 0)])], (0, 0, 0), [], [], ([], [(114, [(2, 0, 40, 0), (1, 2, 0, 1)])]), ([], []))
set_option maxRecDepth 100000 in
theorem l_un2 (g : GG) : LOK Yt (PSt g) t_un2 := by
  intro ρ α Γ M as hT hB hA hP
  have g0 : Γ (α 0) = 40 := tyAt hA (i := 0) rfl
  have g1 : Γ (α 1) = 41 := tyAt hA (i := 1) rfl
  have b2 : 0 ≤ ρ 2 ∧ ρ 2 ≤ 2313 := hB 2
  have b3 : -2147483648 ≤ ρ 3 ∧ ρ 3 ≤ 2147483647 := hB 3
  have h0 : Γ (α 0) = 40 ∧ M.2.2.2.1 (α 0) 1 = some (α 1) ∧ Γ (α 1) = 41 ∧ tyO Γ M (α 0) [(6, 43, [(0, 27768)])] ∧ Q205 g (hcl [vi (ρ 2 + 0)] (clp [(0, 2314)] (M.2.2.2.2 (α 1)))) (vw M (α 0) 6 [(0, 27768)]) (clp [(7, 8)] (M.2.2.2.2 (α 0))) (ρ 2 + 0) (ρ 3 + 0) := hP _ (List.mem_of_getElem? (i := 0) rfl)
  have h1 : 0 ≤ (ρ 2 + 0 : Int) ∧ M.2.2.2.2 (α 1) (ρ 2 + 0 : Int).toNat = ρ 3 + 0 := hP _ (List.mem_of_getElem? (i := 1) rfl)
  try simp only [Int.add_zero] at h0 h1
  have key : (Γ (α 0) = 40 ∧ tyO Γ M (α 0) [(1, 41, [(0, 2314)]), (6, 43, [(0, 27768)])] ∧ Q114 g (vw M (α 0) 1 [(0, 2314)]) (vw M (α 0) 6 [(0, 27768)]) (clp [(7, 8)] (M.2.2.2.2 (α 0))) (ρ 2 + 1)) ∧ True := by
    try simp only [Int.add_zero]
    obtain ⟨-, hr, -, ht, h, hv⟩ := h0
    have ed : fl M (α 0) 1 = α 1 := fl_eq hr
    refine ⟨⟨g0, tyO_of hT g0 (by decide) (by decide), fun j hj => ?_⟩, trivial⟩
    show clp [(0, 2314)] (M.2.2.2.2 (fl M (α 0) 1)) j = clp [(0, 27768)] (M.2.2.2.2 (fl M (α 0) 6)) (2314 * (clp [(7, 8)] (M.2.2.2.2 (α 0)) 7).toNat + j)
    rw [ed]
    by_cases hc : (j : Int) < ρ 2
    · have := h j hc
      rw [hcl1 (by omega)] at this
      exact this
    · have ej : j = (ρ 2).toNat := by omega
      rw [ej, cAll (by omega), h1.2]
      exact hv
  exact ⟨nB, qB (key.1) (nB)⟩
def t_un3 : KT := ((0, 0, 0, 0), [(2, 0, 40, 0), (1, 1, 0, 0), (1, 2, 0, 0)], [(0, 0), (2314, 2314), (0, 11)], [(114, [(2, 0, 40, 0), (1, 1, 0, 0)]), (107, [(2, 0, 40, 0)]), (10, [(2, 0, 40, 0), (0, 0, 0, 7), (1, 2, 0, 0)])], (0, 0, 0), [], [], ([], [(100, [(2, 0, 40, 0)]), (101, [(2, 0, 40, 0)])]), ([], []))
set_option maxRecDepth 100000 in
theorem l_un3 (g : GG) : LOK Yt (PSt g) t_un3 := by
  intro ρ α Γ M as hT hB hA hP
  have g0 : Γ (α 0) = 40 := tyAt hA (i := 0) rfl
  have b1 : 2314 ≤ ρ 1 ∧ ρ 1 ≤ 2314 := hB 1
  have b2 : 0 ≤ ρ 2 ∧ ρ 2 ≤ 11 := hB 2
  have h0 : Γ (α 0) = 40 ∧ tyO Γ M (α 0) [(1, 41, [(0, 2314)]), (6, 43, [(0, 27768)])] ∧ Q114 g (vw M (α 0) 1 [(0, 2314)]) (vw M (α 0) 6 [(0, 27768)]) (clp [(7, 8)] (M.2.2.2.2 (α 0))) (ρ 1 + 0) := hP _ (List.mem_of_getElem? (i := 0) rfl)
  have h1 : Γ (α 0) = 40 ∧ tyO Γ M (α 0) [(6, 43, [(0, 27768)])] ∧ Q107 g (vw M (α 0) 6 [(0, 27768)]) (clp [] (M.2.2.2.2 (α 0)))  := hP _ (List.mem_of_getElem? (i := 1) rfl)
  have h2 : 0 ≤ (7 : Int) ∧ M.2.2.2.2 (α 0) (7 : Int).toNat = ρ 2 + 0 := hP _ (List.mem_of_getElem? (i := 2) rfl)
  try simp only [Int.add_zero] at h0 h1 h2
  have key : (Γ (α 0) = 40 ∧ tyO Γ M (α 0) [(1, 41, [(2, 4), (586, 730), (874, 1018)])] ∧ Q100 g (vw M (α 0) 1 [(2, 4), (586, 730), (874, 1018)]) (clp [] (M.2.2.2.2 (α 0))) ) ∧ (Γ (α 0) = 40 ∧ tyO Γ M (α 0) [(1, 41, [(0, 2), (4, 5), (298, 442), (874, 1018)])] ∧ Q101 g (vw M (α 0) 1 [(0, 2), (4, 5), (298, 442), (874, 1018)]) (clp [] (M.2.2.2.2 (α 0))) ) ∧ True := by
    try simp only [Int.add_zero]
    obtain ⟨-, -, h⟩ := h0
    obtain ⟨-, -, h1⟩ := h1
    have x7 : M.2.2.2.2 (α 0) 7 = ρ 2 := h2.2
    have eo : clp [(7, 8)] (M.2.2.2.2 (α 0)) 7 = ρ 2 := by rw [clp_in 7 8 (by decide) (by decide) (by decide)]; exact x7
    have h : ∀ j : Nat, (j : Int) < ρ 1 → clp [(0, 2314)] (M.2.2.2.2 (fl M (α 0) 1)) j = clp [(0, 27768)] (M.2.2.2.2 (fl M (α 0) 6)) (2314 * (clp [(7, 8)] (M.2.2.2.2 (α 0)) 7).toNat + j) := h
    rw [eo] at h
    have rd : RIF (M.2.2.2.2 (fl M (α 0) 1)) := RIF_c (f := fun c => clp [(0, 27768)] (M.2.2.2.2 (fl M (α 0) 6)) (2314 * (ρ 2).toNat + c)) (fun k hk => by
      have := h k (by omega)
      rw [cAll hk] at this
      exact this) (h1 (ρ 2).toNat (by omega))
    exact ⟨⟨g0, tyO_of hT g0 (by decide) (by decide), c100.mpr rd.1⟩, ⟨g0, tyO_of hT g0 (by decide) (by decide), c101.mpr rd.2⟩, trivial⟩
  exact ⟨nB, qB (key.1) (qB (key.2.1) (nB))⟩
def t_sz0 : KT := ((0, 0, 0, 0), [(2, 0, 40, 0), (1, 1, 0, 0)], [(0, 0), (0, 0)], [], (0, 0, 0), [], [], ([], [(161, [(2, 0, 40, 0), (1, 1, 0, 0)])]), ([], []))
set_option maxRecDepth 100000 in
theorem l_sz0 (g : GG) : LOK Yt (PSt g) t_sz0 := by
  intro ρ α Γ M as hT hB hA hP
  have g0 : Γ (α 0) = 40 := tyAt hA (i := 0) rfl
  have b1 : 0 ≤ ρ 1 ∧ ρ 1 ≤ 0 := hB 1
  have key : (Γ (α 0) = 40 ∧ tyO Γ M (α 0) [(1, 41, [(2, 5), (874, 1018)])] ∧ Q161 g (vw M (α 0) 1 [(2, 5), (874, 1018)]) (clp [] (M.2.2.2.2 (α 0))) (ρ 1 + 0)) ∧ True := by
    try simp only [Int.add_zero]
    exact ⟨⟨g0, tyO_of hT g0 (by decide) (by decide), fun j hj => by omega⟩, trivial⟩
  exact ⟨nB, qB (key.1) (nB)⟩
def t_sz1 : KT := ((0, 0, 0, 0), [(2, 0, 40, 0), (2, 1, 41, 0), (1, 2, 0, 0)], [(0, 0), (0, 0), (0, 2313)], [(161, [(2, 0, 40, 0), (1, 2, 0, 0)]), (11, [(2, 0, 40, 0), (0, 0, 0, 1), (2, 1, 41, 0)])], (0, 0, 0), [], [], ([], [(213, [(2, 1, 41, 0), (1, 2, 0, 0), (2, 0, 40, 0)])]), ([], []))
set_option maxRecDepth 100000 in
theorem l_sz1 (g : GG) : LOK Yt (PSt g) t_sz1 := by
  intro ρ α Γ M as hT hB hA hP
  have g0 : Γ (α 0) = 40 := tyAt hA (i := 0) rfl
  have g1 : Γ (α 1) = 41 := tyAt hA (i := 1) rfl
  have b2 : 0 ≤ ρ 2 ∧ ρ 2 ≤ 2313 := hB 2
  have h0 : Γ (α 0) = 40 ∧ tyO Γ M (α 0) [(1, 41, [(2, 5), (874, 1018)])] ∧ Q161 g (vw M (α 0) 1 [(2, 5), (874, 1018)]) (clp [] (M.2.2.2.2 (α 0))) (ρ 2 + 0) := hP _ (List.mem_of_getElem? (i := 0) rfl)
  have h1 : 0 ≤ (1 : Int) ∧ M.2.2.2.1 (α 0) (1 : Int).toNat = some (α 1) := hP _ (List.mem_of_getElem? (i := 1) rfl)
  try simp only [Int.add_zero] at h0 h1
  have key : (Γ (α 0) = 40 ∧ M.2.2.2.1 (α 0) 1 = some (α 1) ∧ Γ (α 1) = 41 ∧ tyO Γ M (α 0) [] ∧ Q213 g (hcl [vi (ρ 2 + 0)] (clp [(2, 5), (874, 1018)] (M.2.2.2.2 (α 1))))  (clp [] (M.2.2.2.2 (α 0))) (ρ 2 + 0)) ∧ True := by
    try simp only [Int.add_zero]
    have e1 : fl M (α 0) 1 = α 1 := fl_eq (show M.2.2.2.1 (α 0) 1 = some (α 1) from h1.2)
    
    obtain ⟨-, -, h⟩ := h0
    refine ⟨⟨g0, h1.2, g1, tyO_of hT g0 (by decide) (by decide), fun j hj => ?_⟩, trivial⟩
    rw [hcl1 (by omega), ← e1]
    exact h j hj
  exact ⟨nB, qB (key.1) (nB)⟩
def t_sz2 : KT := ((0, 0, 0, 0), [(2, 0, 40, 0), (2, 1, 41, 0), (1, 2, 0, 0)], [(0, 0), (0, 0), (0, 2313)], [(213, [(2, 1, 41, 0), (1, 2, 0, 0), (2, 0, 40, 0)]), (10, [(2, 1, 41, 0), (1, 2, 0, 0), (0, 0, 0, 0)])], (0, 0, 0), [], [], ([], [(161, [(2, 0, 40, 0), (1, 2, 0, 1)])]), ([], []))
set_option maxRecDepth 100000 in
theorem l_sz2 (g : GG) : LOK Yt (PSt g) t_sz2 := by
  intro ρ α Γ M as hT hB hA hP
  have g0 : Γ (α 0) = 40 := tyAt hA (i := 0) rfl
  have g1 : Γ (α 1) = 41 := tyAt hA (i := 1) rfl
  have b2 : 0 ≤ ρ 2 ∧ ρ 2 ≤ 2313 := hB 2
  have h0 : Γ (α 0) = 40 ∧ M.2.2.2.1 (α 0) 1 = some (α 1) ∧ Γ (α 1) = 41 ∧ tyO Γ M (α 0) [] ∧ Q213 g (hcl [vi (ρ 2 + 0)] (clp [(2, 5), (874, 1018)] (M.2.2.2.2 (α 1))))  (clp [] (M.2.2.2.2 (α 0))) (ρ 2 + 0) := hP _ (List.mem_of_getElem? (i := 0) rfl)
  have h1 : 0 ≤ (ρ 2 + 0 : Int) ∧ M.2.2.2.2 (α 1) (ρ 2 + 0 : Int).toNat = 0 := hP _ (List.mem_of_getElem? (i := 1) rfl)
  try simp only [Int.add_zero] at h0 h1
  have key : (Γ (α 0) = 40 ∧ tyO Γ M (α 0) [(1, 41, [(2, 5), (874, 1018)])] ∧ Q161 g (vw M (α 0) 1 [(2, 5), (874, 1018)]) (clp [] (M.2.2.2.2 (α 0))) (ρ 2 + 1)) ∧ True := by
    try simp only [Int.add_zero]
    obtain ⟨-, hr, -, ht, h⟩ := h0
    have ed : fl M (α 0) 1 = α 1 := fl_eq hr
    refine ⟨⟨g0, tyO_of hT g0 (by decide) (by decide), fun j hj => ?_⟩, trivial⟩
    show clp [(2, 5), (874, 1018)] (M.2.2.2.2 (fl M (α 0) 1)) j = 0
    rw [ed]
    by_cases hc : (j : Int) < ρ 2
    · have := h j hc
      rw [hcl1 (by omega)] at this
      exact this
    · have ej : j = (ρ 2).toNat := by omega
      unfold clp
      rw [ej, h1.2]
      cases inR [(2, 5), (874, 1018)] (ρ 2).toNat <;> rfl
  exact ⟨nB, qB (key.1) (nB)⟩
def t_sz3 : KT := ((0, 0, 0, 0), [(2, 0, 40, 0), (1, 1, 0, 0)], [(0, 0), (2314, 2314)], [(161, [(2, 0, 40, 0), (1, 1, 0, 0)])], (0, 0, 0), [], [], ([], [(100, [(2, 0, 40, 0)]), (102, [(2, 0, 40, 0)]), (132, [(2, 0, 40, 0)])]), ([], []))
set_option maxRecDepth 100000 in
theorem l_sz3 (g : GG) : LOK Yt (PSt g) t_sz3 := by
  intro ρ α Γ M as hT hB hA hP
  have g0 : Γ (α 0) = 40 := tyAt hA (i := 0) rfl
  have b1 : 2314 ≤ ρ 1 ∧ ρ 1 ≤ 2314 := hB 1
  have h0 : Γ (α 0) = 40 ∧ tyO Γ M (α 0) [(1, 41, [(2, 5), (874, 1018)])] ∧ Q161 g (vw M (α 0) 1 [(2, 5), (874, 1018)]) (clp [] (M.2.2.2.2 (α 0))) (ρ 1 + 0) := hP _ (List.mem_of_getElem? (i := 0) rfl)
  try simp only [Int.add_zero] at h0
  have key : (Γ (α 0) = 40 ∧ tyO Γ M (α 0) [(1, 41, [(2, 4), (586, 730), (874, 1018)])] ∧ Q100 g (vw M (α 0) 1 [(2, 4), (586, 730), (874, 1018)]) (clp [] (M.2.2.2.2 (α 0))) ) ∧ (Γ (α 0) = 40 ∧ tyO Γ M (α 0) [(1, 41, [(4, 5)])] ∧ Q102 g (vw M (α 0) 1 [(4, 5)]) (clp [] (M.2.2.2.2 (α 0))) ) ∧ (Γ (α 0) = 40 ∧ tyO Γ M (α 0) [(1, 41, [(874, 1018)])] ∧ True) ∧ True := by
    try simp only [Int.add_zero]
    obtain ⟨-, -, h⟩ := h0
    have h : ∀ j : Nat, (j : Int) < ρ 1 → clp [(2, 5), (874, 1018)] (M.2.2.2.2 (fl M (α 0) 1)) j = 0 := h
    refine ⟨⟨g0, tyO_of hT g0 (by decide) (by decide), c100.mpr (clear_ok ?_ ?_ fun p hp => ?_)⟩, ⟨g0, tyO_of hT g0 (by decide) (by decide), ?_⟩, ⟨g0, tyO_of hT g0 (by decide) (by decide), trivial⟩, trivial⟩
    · have := h 2 (by omega)
      rw [clp_in 2 5 (by decide) (by decide) (by decide)] at this
      exact this
    · have := h 3 (by omega)
      rw [clp_in 2 5 (by decide) (by decide) (by decide)] at this
      exact this
    · have := h (874 + p) (by omega)
      rw [ckM (by decide) p hp] at this
      exact this
    · have := h 4 (by omega)
      rw [clp_in 2 5 (by decide) (by decide) (by decide)] at this
      show clp [(4, 5)] (M.2.2.2.2 (fl M (α 0) 1)) 4 = 0
      rw [clp_in 4 5 (by decide) (by decide) (by decide)]
      exact this
  exact ⟨nB, qB (key.1) (qB (key.2.1) (qB (key.2.2.1) (nB)))⟩
def t_sw0 : KT := ((0, 0, 0, 0), [(2, 0, 40, 0), (1, 1, 0, 0)], [(0, 0), (0, 0)], [(100, [(2, 0, 40, 0)]), (101, [(2, 0, 40, 0)]), (109, [(2, 0, 40, 0)])], (0, 0, 0), [], [], ([], [(117, [(2, 0, 40, 0), (1, 1, 0, 0)])]), ([], []))
set_option maxRecDepth 100000 in
theorem l_sw0 (g : GG) : LOK Yt (PSt g) t_sw0 := by
  intro ρ α Γ M as hT hB hA hP
  have g0 : Γ (α 0) = 40 := tyAt hA (i := 0) rfl
  have b1 : 0 ≤ ρ 1 ∧ ρ 1 ≤ 0 := hB 1
  have h0 : Γ (α 0) = 40 ∧ tyO Γ M (α 0) [(1, 41, [(2, 4), (586, 730), (874, 1018)])] ∧ Q100 g (vw M (α 0) 1 [(2, 4), (586, 730), (874, 1018)]) (clp [] (M.2.2.2.2 (α 0)))  := hP _ (List.mem_of_getElem? (i := 0) rfl)
  have h1 : Γ (α 0) = 40 ∧ tyO Γ M (α 0) [(1, 41, [(0, 2), (4, 5), (298, 442), (874, 1018)])] ∧ Q101 g (vw M (α 0) 1 [(0, 2), (4, 5), (298, 442), (874, 1018)]) (clp [] (M.2.2.2.2 (α 0)))  := hP _ (List.mem_of_getElem? (i := 1) rfl)
  have h2 : Γ (α 0) = 40 ∧ tyO Γ M (α 0) [(2, 52, [(0, 2314)])] ∧ Q109 g (vw M (α 0) 2 [(0, 2314)]) (clp [] (M.2.2.2.2 (α 0)))  := hP _ (List.mem_of_getElem? (i := 2) rfl)
  try simp only [Int.add_zero] at h0 h1 h2
  have key : (Γ (α 0) = 40 ∧ tyO Γ M (α 0) [(1, 41, [(0, 2314)]), (2, 52, [(0, 2314)])] ∧ Q117 g (vw M (α 0) 1 [(0, 2314)]) (vw M (α 0) 2 [(0, 2314)]) (clp [] (M.2.2.2.2 (α 0))) (ρ 1 + 0)) ∧ True := by
    try simp only [Int.add_zero]
    have rn : RIF (M.2.2.2.2 (fl M (α 0) 1)) := ⟨c100.mp h0.2.2, c101.mp h1.2.2⟩
    have ra : RIF (clp [(0, 2314)] (M.2.2.2.2 (fl M (α 0) 2))) := h2.2.2
    exact ⟨⟨g0, tyO_of hT g0 (by decide) (by decide), clp [(0, 2314)] (M.2.2.2.2 (fl M (α 0) 1)), clp [(0, 2314)] (M.2.2.2.2 (fl M (α 0) 2)), ⟨cRIF.mpr rn, ra⟩, fun j hj => ⟨fun q => by omega, fun _ => ⟨rfl, rfl⟩⟩⟩, trivial⟩
  exact ⟨nB, qB (key.1) (nB)⟩
def t_sw1 : KT := ((0, 0, 0, 0), [(2, 0, 40, 0), (2, 1, 41, 0), (2, 2, 52, 0), (1, 3, 0, 0), (1, 4, 0, 0), (1, 5, 0, 0)], [(0, 0), (0, 0), (0, 0), (0, 2313), (-2147483648, 2147483647), (-2147483648, 2147483647)], [(117, [(2, 0, 40, 0), (1, 3, 0, 0)]), (11, [(2, 0, 40, 0), (0, 0, 0, 1), (2, 1, 41, 0)]), (11, [(2, 0, 40, 0), (0, 0, 0, 2), (2, 2, 52, 0)]), (10, [(2, 1, 41, 0), (1, 3, 0, 0), (1, 4, 0, 0)]), (10, [(2, 2, 52, 0), (1, 3, 0, 0), (1, 5, 0, 0)])], (0, 0, 0), [], [], ([], [(208, [(2, 1, 41, 0), (1, 3, 0, 0), (2, 0, 40, 0), (1, 4, 0, 0), (1, 5, 0, 0)])]), ([], []))
set_option maxRecDepth 100000 in
theorem l_sw1 (g : GG) : LOK Yt (PSt g) t_sw1 := by
  intro ρ α Γ M as hT hB hA hP
  have g0 : Γ (α 0) = 40 := tyAt hA (i := 0) rfl
  have g1 : Γ (α 1) = 41 := tyAt hA (i := 1) rfl
  have g2 : Γ (α 2) = 52 := tyAt hA (i := 2) rfl
  have b3 : 0 ≤ ρ 3 ∧ ρ 3 ≤ 2313 := hB 3
  have b4 : -2147483648 ≤ ρ 4 ∧ ρ 4 ≤ 2147483647 := hB 4
  have b5 : -2147483648 ≤ ρ 5 ∧ ρ 5 ≤ 2147483647 := hB 5
  have h0 : Γ (α 0) = 40 ∧ tyO Γ M (α 0) [(1, 41, [(0, 2314)]), (2, 52, [(0, 2314)])] ∧ Q117 g (vw M (α 0) 1 [(0, 2314)]) (vw M (α 0) 2 [(0, 2314)]) (clp [] (M.2.2.2.2 (α 0))) (ρ 3 + 0) := hP _ (List.mem_of_getElem? (i := 0) rfl)
  have h1 : 0 ≤ (1 : Int) ∧ M.2.2.2.1 (α 0) (1 : Int).toNat = some (α 1) := hP _ (List.mem_of_getElem? (i := 1) rfl)
  have h2 : 0 ≤ (2 : Int) ∧ M.2.2.2.1 (α 0) (2 : Int).toNat = some (α 2) := hP _ (List.mem_of_getElem? (i := 2) rfl)
  have h3 : 0 ≤ (ρ 3 + 0 : Int) ∧ M.2.2.2.2 (α 1) (ρ 3 + 0 : Int).toNat = ρ 4 + 0 := hP _ (List.mem_of_getElem? (i := 3) rfl)
  have h4 : 0 ≤ (ρ 3 + 0 : Int) ∧ M.2.2.2.2 (α 2) (ρ 3 + 0 : Int).toNat = ρ 5 + 0 := hP _ (List.mem_of_getElem? (i := 4) rfl)
  try simp only [Int.add_zero] at h0 h1 h2 h3 h4
  have key : (Γ (α 0) = 40 ∧ M.2.2.2.1 (α 0) 1 = some (α 1) ∧ Γ (α 1) = 41 ∧ tyO Γ M (α 0) [(2, 52, [(0, 2314)])] ∧ Q208 g (hcl [vi (ρ 3 + 0)] (clp [(0, 2314)] (M.2.2.2.2 (α 1)))) (vw M (α 0) 2 [(0, 2314)]) (clp [] (M.2.2.2.2 (α 0))) (ρ 3 + 0) (ρ 4 + 0) (ρ 5 + 0)) ∧ True := by
    try simp only [Int.add_zero]
    have e1 : fl M (α 0) 1 = α 1 := fl_eq (show M.2.2.2.1 (α 0) 1 = some (α 1) from h1.2)
    have e2 : fl M (α 0) 2 = α 2 := fl_eq (show M.2.2.2.1 (α 0) 2 = some (α 2) from h2.2)
    
    obtain ⟨-, -, f, h, hr, q⟩ := h0
    have q : ∀ j : Nat, j < 2314 → ((j : Int) < ρ 3 → clp [(0, 2314)] (M.2.2.2.2 (fl M (α 0) 1)) j = h j ∧ clp [(0, 2314)] (M.2.2.2.2 (fl M (α 0) 2)) j = f j) ∧ (ρ 3 ≤ (j : Int) → clp [(0, 2314)] (M.2.2.2.2 (fl M (α 0) 1)) j = f j ∧ clp [(0, 2314)] (M.2.2.2.2 (fl M (α 0) 2)) j = h j) := q
    have q3 := (q (ρ 3).toNat (by omega)).2 (by omega)
    have v : clp [(0, 2314)] (M.2.2.2.2 (fl M (α 0) 1)) (ρ 3).toNat = ρ 4 := by rw [e1, cAll (by omega)]; exact h3.2
    have x : clp [(0, 2314)] (M.2.2.2.2 (fl M (α 0) 2)) (ρ 3).toNat = ρ 5 := by rw [e2, cAll (by omega)]; exact h4.2
    refine ⟨⟨g0, h1.2, g1, tyO_of hT g0 (by decide) (by decide), f, h, hr, fun j hj => ⟨fun p => ⟨?_, ?_⟩, fun p => ?_, fun p => ?_⟩, ?_, ?_⟩, trivial⟩
    · rw [hcl1 (by omega), ← e1]
      exact ((q j hj).1 p).1
    · exact ((q j hj).1 p).2
    · rw [hcl1 (by omega), ← e1]
      exact ((q j hj).2 (by omega)).1
    · exact ((q j hj).2 p).2
    · rw [← v]
      exact q3.1
    · rw [← x]
      exact q3.2
  exact ⟨nB, qB (key.1) (nB)⟩
def t_sw2 : KT := ((0, 0, 0, 0), [(2, 0, 40, 0), (2, 1, 41, 0), (2, 2, 52, 0), (1, 3, 0, 0), (1, 4, 0, 0), (1, 5, 0, 0)], [(0, 0), (0, 0), (0, 0), (0, 2313), (-2147483648, 2147483647), (-2147483648, 2147483647)], [(208, [(2, 1, 41, 0), (1, 3, 0, 0), (2, 0, 40, 0), (1, 4, 0, 0), (1, 5, 0, 0)]), (11, [(2, 0, 40, 0), (0, 0, 0, 2), (2, 2, 52, 0)]), (10, [(2, 1, 41, 0), (1, 3, 0, 0), (1, 5, 0, 0)])], (0, 0, 0), [], [], ([], [(209, [(2, 2, 52, 0), (1, 3, 0, 0), (2, 0, 40, 0), (1, 4, 0, 0)])]), ([], []))
set_option maxRecDepth 100000 in
theorem l_sw2 (g : GG) : LOK Yt (PSt g) t_sw2 := by
  intro ρ α Γ M as hT hB hA hP
  have g0 : Γ (α 0) = 40 := tyAt hA (i := 0) rfl
  have g1 : Γ (α 1) = 41 := tyAt hA (i := 1) rfl
  have g2 : Γ (α 2) = 52 := tyAt hA (i := 2) rfl
  have b3 : 0 ≤ ρ 3 ∧ ρ 3 ≤ 2313 := hB 3
  have b4 : -2147483648 ≤ ρ 4 ∧ ρ 4 ≤ 2147483647 := hB 4
  have b5 : -2147483648 ≤ ρ 5 ∧ ρ 5 ≤ 2147483647 := hB 5
  have h0 : Γ (α 0) = 40 ∧ M.2.2.2.1 (α 0) 1 = some (α 1) ∧ Γ (α 1) = 41 ∧ tyO Γ M (α 0) [(2, 52, [(0, 2314)])] ∧ Q208 g (hcl [vi (ρ 3 + 0)] (clp [(0, 2314)] (M.2.2.2.2 (α 1)))) (vw M (α 0) 2 [(0, 2314)]) (clp [] (M.2.2.2.2 (α 0))) (ρ 3 + 0) (ρ 4 + 0) (ρ 5 + 0) := hP _ (List.mem_of_getElem? (i := 0) rfl)
  have h1 : 0 ≤ (2 : Int) ∧ M.2.2.2.1 (α 0) (2 : Int).toNat = some (α 2) := hP _ (List.mem_of_getElem? (i := 1) rfl)
  have h2 : 0 ≤ (ρ 3 + 0 : Int) ∧ M.2.2.2.2 (α 1) (ρ 3 + 0 : Int).toNat = ρ 5 + 0 := hP _ (List.mem_of_getElem? (i := 2) rfl)
  try simp only [Int.add_zero] at h0 h1 h2
  have key : (Γ (α 0) = 40 ∧ M.2.2.2.1 (α 0) 2 = some (α 2) ∧ Γ (α 2) = 52 ∧ tyO Γ M (α 0) [(1, 41, [(0, 2314)])] ∧ Q209 g (hcl [vi (ρ 3 + 0)] (clp [(0, 2314)] (M.2.2.2.2 (α 2)))) (vw M (α 0) 1 [(0, 2314)]) (clp [] (M.2.2.2.2 (α 0))) (ρ 3 + 0) (ρ 4 + 0)) ∧ True := by
    try simp only [Int.add_zero]
    have e2 : fl M (α 0) 2 = α 2 := fl_eq (show M.2.2.2.1 (α 0) 2 = some (α 2) from h1.2)
    
    obtain ⟨-, hr0, -, -, f, h, hr, q, v, x⟩ := h0
    have e1 : fl M (α 0) 1 = α 1 := fl_eq hr0
    have q : ∀ j : Nat, j < 2314 → ((j : Int) < ρ 3 → hcl [vi (ρ 3)] (clp [(0, 2314)] (M.2.2.2.2 (α 1))) j = h j ∧ clp [(0, 2314)] (M.2.2.2.2 (fl M (α 0) 2)) j = f j) ∧ (ρ 3 < (j : Int) → hcl [vi (ρ 3)] (clp [(0, 2314)] (M.2.2.2.2 (α 1))) j = f j) ∧ (ρ 3 ≤ (j : Int) → clp [(0, 2314)] (M.2.2.2.2 (fl M (α 0) 2)) j = h j) := q
    refine ⟨⟨g0, h1.2, g2, tyO_of hT g0 (by decide) (by decide), f, h, hr, fun j hj => ⟨fun p => ?_, fun p => ⟨?_, ?_⟩, fun p => ?_⟩, v⟩, trivial⟩
    · show clp [(0, 2314)] (M.2.2.2.2 (fl M (α 0) 1)) j = h j
      rw [e1]
      by_cases hc : (j : Int) < ρ 3
      · have := ((q j hj).1 hc).1
        rw [hcl1 (by omega)] at this
        exact this
      · have ej : j = (ρ 3).toNat := by omega
        rw [ej, cAll (by omega), h2.2]
        exact x
    · show clp [(0, 2314)] (M.2.2.2.2 (fl M (α 0) 1)) j = f j
      rw [e1]
      have := (q j hj).2.1 p
      rw [hcl1 (by omega)] at this
      exact this
    · rw [hcl1 (by omega), ← e2]
      exact (q j hj).2.2 (by omega)
    · rw [hcl1 (by omega), ← e2]
      exact ((q j hj).1 p).2
  exact ⟨nB, qB (key.1) (nB)⟩
def t_sw3 : KT := ((0, 0, 0, 0), [(2, 0, 40, 0), (2, 1, 52, 0), (1, 2, 0, 0), (1, 3, 0, 0)], [(0, 0), (0, 0), (0, 2313), (-2147483648, 2147483647)], [(209, [(2, 1, 52, 0), (1, 2, 0, 0), (2, 0, 40, 0), (1, 3, 0, 0)]), (10, [(2, 1, 52, 0), (1, 2, 0, 0), (1, 3, 0, 0)])], (0, 0, 0), [], [], ([], [(117, [(2, 0, 40, 0), (1, 2, 0, 1)])]), ([], []))
set_option maxRecDepth 100000 in
theorem l_sw3 (g : GG) : LOK Yt (PSt g) t_sw3 := by
  intro ρ α Γ M as hT hB hA hP
  have g0 : Γ (α 0) = 40 := tyAt hA (i := 0) rfl
  have g1 : Γ (α 1) = 52 := tyAt hA (i := 1) rfl
  have b2 : 0 ≤ ρ 2 ∧ ρ 2 ≤ 2313 := hB 2
  have b3 : -2147483648 ≤ ρ 3 ∧ ρ 3 ≤ 2147483647 := hB 3
  have h0 : Γ (α 0) = 40 ∧ M.2.2.2.1 (α 0) 2 = some (α 1) ∧ Γ (α 1) = 52 ∧ tyO Γ M (α 0) [(1, 41, [(0, 2314)])] ∧ Q209 g (hcl [vi (ρ 2 + 0)] (clp [(0, 2314)] (M.2.2.2.2 (α 1)))) (vw M (α 0) 1 [(0, 2314)]) (clp [] (M.2.2.2.2 (α 0))) (ρ 2 + 0) (ρ 3 + 0) := hP _ (List.mem_of_getElem? (i := 0) rfl)
  have h1 : 0 ≤ (ρ 2 + 0 : Int) ∧ M.2.2.2.2 (α 1) (ρ 2 + 0 : Int).toNat = ρ 3 + 0 := hP _ (List.mem_of_getElem? (i := 1) rfl)
  try simp only [Int.add_zero] at h0 h1
  have key : (Γ (α 0) = 40 ∧ tyO Γ M (α 0) [(1, 41, [(0, 2314)]), (2, 52, [(0, 2314)])] ∧ Q117 g (vw M (α 0) 1 [(0, 2314)]) (vw M (α 0) 2 [(0, 2314)]) (clp [] (M.2.2.2.2 (α 0))) (ρ 2 + 1)) ∧ True := by
    try simp only [Int.add_zero]
    obtain ⟨-, hr0, -, -, f, h, hr, q, v⟩ := h0
    have e2 : fl M (α 0) 2 = α 1 := fl_eq hr0
    have q : ∀ j : Nat, j < 2314 → ((j : Int) ≤ ρ 2 → clp [(0, 2314)] (M.2.2.2.2 (fl M (α 0) 1)) j = h j) ∧ (ρ 2 < (j : Int) → clp [(0, 2314)] (M.2.2.2.2 (fl M (α 0) 1)) j = f j ∧ hcl [vi (ρ 2)] (clp [(0, 2314)] (M.2.2.2.2 (α 1))) j = h j) ∧ ((j : Int) < ρ 2 → hcl [vi (ρ 2)] (clp [(0, 2314)] (M.2.2.2.2 (α 1))) j = f j) := q
    refine ⟨⟨g0, tyO_of hT g0 (by decide) (by decide), f, h, hr, fun j hj => ⟨fun p => ⟨(q j hj).1 (by omega), ?_⟩, fun p => ⟨((q j hj).2.1 (by omega)).1, ?_⟩⟩⟩, trivial⟩
    · show clp [(0, 2314)] (M.2.2.2.2 (fl M (α 0) 2)) j = f j
      rw [e2]
      by_cases hc : (j : Int) < ρ 2
      · have := (q j hj).2.2 hc
        rw [hcl1 (by omega)] at this
        exact this
      · have ej : j = (ρ 2).toNat := by omega
        rw [ej, cAll (by omega), h1.2]
        exact v
    · show clp [(0, 2314)] (M.2.2.2.2 (fl M (α 0) 2)) j = h j
      rw [e2]
      have := ((q j hj).2.1 (by omega)).2
      rw [hcl1 (by omega)] at this
      exact this
  exact ⟨nB, qB (key.1) (nB)⟩
def t_sw4 : KT := ((0, 0, 0, 0), [(2, 0, 40, 0), (1, 1, 0, 0)], [(0, 0), (2314, 2314)], [(117, [(2, 0, 40, 0), (1, 1, 0, 0)])], (0, 0, 0), [], [], ([], [(100, [(2, 0, 40, 0)]), (101, [(2, 0, 40, 0)]), (109, [(2, 0, 40, 0)])]), ([], []))
set_option maxRecDepth 100000 in
theorem l_sw4 (g : GG) : LOK Yt (PSt g) t_sw4 := by
  intro ρ α Γ M as hT hB hA hP
  have g0 : Γ (α 0) = 40 := tyAt hA (i := 0) rfl
  have b1 : 2314 ≤ ρ 1 ∧ ρ 1 ≤ 2314 := hB 1
  have h0 : Γ (α 0) = 40 ∧ tyO Γ M (α 0) [(1, 41, [(0, 2314)]), (2, 52, [(0, 2314)])] ∧ Q117 g (vw M (α 0) 1 [(0, 2314)]) (vw M (α 0) 2 [(0, 2314)]) (clp [] (M.2.2.2.2 (α 0))) (ρ 1 + 0) := hP _ (List.mem_of_getElem? (i := 0) rfl)
  try simp only [Int.add_zero] at h0
  have key : (Γ (α 0) = 40 ∧ tyO Γ M (α 0) [(1, 41, [(2, 4), (586, 730), (874, 1018)])] ∧ Q100 g (vw M (α 0) 1 [(2, 4), (586, 730), (874, 1018)]) (clp [] (M.2.2.2.2 (α 0))) ) ∧ (Γ (α 0) = 40 ∧ tyO Γ M (α 0) [(1, 41, [(0, 2), (4, 5), (298, 442), (874, 1018)])] ∧ Q101 g (vw M (α 0) 1 [(0, 2), (4, 5), (298, 442), (874, 1018)]) (clp [] (M.2.2.2.2 (α 0))) ) ∧ (Γ (α 0) = 40 ∧ tyO Γ M (α 0) [(2, 52, [(0, 2314)])] ∧ Q109 g (vw M (α 0) 2 [(0, 2314)]) (clp [] (M.2.2.2.2 (α 0))) ) ∧ True := by
    try simp only [Int.add_zero]
    obtain ⟨-, -, f, h, hr, q⟩ := h0
    have rn : RIF (M.2.2.2.2 (fl M (α 0) 1)) := RIF_c (fun k hk => by
      have := ((q k hk).1 (by omega)).1
      have this : clp [(0, 2314)] (M.2.2.2.2 (fl M (α 0) 1)) k = h k := this
      rw [cAll hk] at this
      exact this) hr.2
    have ra : RIF (clp [(0, 2314)] (M.2.2.2.2 (fl M (α 0) 2))) := RIF_c (fun k hk => ((q k hk).1 (by omega)).2) hr.1
    exact ⟨⟨g0, tyO_of hT g0 (by decide) (by decide), c100.mpr rn.1⟩, ⟨g0, tyO_of hT g0 (by decide) (by decide), c101.mpr rn.2⟩, ⟨g0, tyO_of hT g0 (by decide) (by decide), ra⟩, trivial⟩
  exact ⟨nB, qB (key.1) (qB (key.2.1) (qB (key.2.2.1) (nB)))⟩
def t_im1 : KT := ((0, 0, 0, 0), [(2, 0, 40, 0), (1, 1, 0, 0)], [(0, 0), (-2147483648, 2147483647)], [(77, [(2, 0, 40, 0), (0, 0, 0, 0), (0, 0, 0, 0)]), (10, [(2, 0, 40, 0), (0, 0, 0, 5), (1, 1, 0, 0)]), (10, [(2, 0, 40, 0), (0, 0, 0, 26), (1, 1, 0, 0)])], (0, 0, 0), [], [], ([], [(430, [(2, 0, 40, 0), (0, 0, 0, 0)])]), ([], []))
set_option maxRecDepth 100000 in
theorem l_im1 (g : GG) : LOK Yt (PSt g) t_im1 := by
  intro ρ α Γ M as hT hB hA hP
  have g0 : Γ (α 0) = 40 := tyAt hA (i := 0) rfl
  have b1 : -2147483648 ≤ ρ 1 ∧ ρ 1 ≤ 2147483647 := hB 1
  have h0 : Γ (α 0) = 40 ∧ M.2.2.2.2 (α 0) 5 ≤ (g.2.1 : Int) + (0) := hP _ (List.mem_of_getElem? (i := 0) rfl)
  have h1 : 0 ≤ (5 : Int) ∧ M.2.2.2.2 (α 0) (5 : Int).toNat = ρ 1 + 0 := hP _ (List.mem_of_getElem? (i := 1) rfl)
  have h2 : 0 ≤ (26 : Int) ∧ M.2.2.2.2 (α 0) (26 : Int).toNat = ρ 1 + 0 := hP _ (List.mem_of_getElem? (i := 2) rfl)
  try simp only [Int.add_zero] at h0 h1 h2
  have key : (Γ (α 0) = 40 ∧ M.2.2.2.2 (α 0) 26 ≤ (g.2.1 : Int) + (0)) ∧ True := by
    try simp only [Int.add_zero]
    have e1 : M.2.2.2.2 (α 0) 5 = ρ 1 := h1.2
    have e2 : M.2.2.2.2 (α 0) 26 = ρ 1 := h2.2
    exact ⟨⟨g0, by have := h0.2; omega⟩, trivial⟩
  exact ⟨nB, qB (key.1) (nB)⟩
def t_im2 : KT := ((0, 0, 0, 0), [(2, 0, 40, 0), (1, 1, 0, 0)], [(0, 0), (-2147483648, 2147483647)], [(430, [(2, 0, 40, 0), (0, 0, 0, 0)]), (10, [(2, 0, 40, 0), (0, 0, 0, 26), (1, 1, 0, 0)]), (10, [(2, 0, 40, 0), (0, 0, 0, 5), (1, 1, 0, 0)])], (0, 0, 0), [], [], ([], [(77, [(2, 0, 40, 0), (0, 0, 0, 0), (0, 0, 0, 0)])]), ([], []))
set_option maxRecDepth 100000 in
theorem l_im2 (g : GG) : LOK Yt (PSt g) t_im2 := by
  intro ρ α Γ M as hT hB hA hP
  have g0 : Γ (α 0) = 40 := tyAt hA (i := 0) rfl
  have b1 : -2147483648 ≤ ρ 1 ∧ ρ 1 ≤ 2147483647 := hB 1
  have h0 : Γ (α 0) = 40 ∧ M.2.2.2.2 (α 0) 26 ≤ (g.2.1 : Int) + (0) := hP _ (List.mem_of_getElem? (i := 0) rfl)
  have h1 : 0 ≤ (26 : Int) ∧ M.2.2.2.2 (α 0) (26 : Int).toNat = ρ 1 + 0 := hP _ (List.mem_of_getElem? (i := 1) rfl)
  have h2 : 0 ≤ (5 : Int) ∧ M.2.2.2.2 (α 0) (5 : Int).toNat = ρ 1 + 0 := hP _ (List.mem_of_getElem? (i := 2) rfl)
  try simp only [Int.add_zero] at h0 h1 h2
  have key : (Γ (α 0) = 40 ∧ M.2.2.2.2 (α 0) 5 ≤ (g.2.1 : Int) + (0)) ∧ True := by
    try simp only [Int.add_zero]
    have e1 : M.2.2.2.2 (α 0) 26 = ρ 1 := h1.2
    have e2 : M.2.2.2.2 (α 0) 5 = ρ 1 := h2.2
    exact ⟨⟨g0, by have := h0.2; omega⟩, trivial⟩
  exact ⟨nB, qB (key.1) (nB)⟩
def t_px0 : KT := ((0, 0, 0, 0), [(2, 0, 40, 0), (1, 1, 0, 0)], [(0, 0), (-2147483648, -1)], [], (0, 0, 0), [], [], ([], [(162, [(2, 0, 40, 0), (1, 1, 0, 0)])]), ([], []))
set_option maxRecDepth 100000 in
theorem l_px0 (g : GG) : LOK Yt (PSt g) t_px0 := by
  intro ρ α Γ M as hT hB hA hP
  have g0 : Γ (α 0) = 40 := tyAt hA (i := 0) rfl
  have b1 : -2147483648 ≤ ρ 1 ∧ ρ 1 ≤ -1 := hB 1
  have key : (Γ (α 0) = 40 ∧ tyO Γ M (α 0) [(1, 41, [(0, 2)])] ∧ Q162 g (vw M (α 0) 1 [(0, 2)]) (clp [] (M.2.2.2.2 (α 0))) (ρ 1 + 0)) ∧ True := by
    try simp only [Int.add_zero]
    exact ⟨⟨g0, tyO_of hT g0 (by decide) (by decide), fun h => by have := h.1; omega⟩, trivial⟩
  exact ⟨nB, qB (key.1) (nB)⟩
def t_px1 : KT := ((0, 0, 0, 0), [(2, 0, 40, 0), (1, 1, 0, 0), (1, 2, 0, 0)], [(0, 0), (-2147483648, 2147483647), (-2147483648, 2147483647)], [(94, [(2, 0, 40, 0), (1, 2, 0, 0)]), (6, [(1, 2, 0, 0), (1, 1, 0, 0)])], (0, 0, 0), [], [], ([], [(162, [(2, 0, 40, 0), (1, 1, 0, 0)])]), ([], []))
set_option maxRecDepth 100000 in
theorem l_px1 (g : GG) : LOK Yt (PSt g) t_px1 := by
  intro ρ α Γ M as hT hB hA hP
  have g0 : Γ (α 0) = 40 := tyAt hA (i := 0) rfl
  have b1 : -2147483648 ≤ ρ 1 ∧ ρ 1 ≤ 2147483647 := hB 1
  have b2 : -2147483648 ≤ ρ 2 ∧ ρ 2 ≤ 2147483647 := hB 2
  have h0 : nwE Γ M (α 0) fun r c => ρ 2 + 0 = r * c := hP _ (List.mem_of_getElem? (i := 0) rfl)
  have h1 : ρ 2 + 0 ≤ ρ 1 + 0 := hP _ (List.mem_of_getElem? (i := 1) rfl)
  try simp only [Int.add_zero] at h0 h1
  have key : (Γ (α 0) = 40 ∧ tyO Γ M (α 0) [(1, 41, [(0, 2)])] ∧ Q162 g (vw M (α 0) 1 [(0, 2)]) (clp [] (M.2.2.2.2 (α 0))) (ρ 1 + 0)) ∧ True := by
    try simp only [Int.add_zero]
    have hm := nwF h0
    refine ⟨⟨g0, tyO_of hT g0 (by decide) (by decide), fun h => ?_⟩, trivial⟩
    have h2 : ρ 1 < ((clp [(0, 2)] (M.2.2.2.2 (fl M (α 0) 1))) 0 + 4) * ((clp [(0, 2)] (M.2.2.2.2 (fl M (α 0) 1))) 1 + 4) := h.2
    rw [rc0, rc1'] at h2
    omega
  exact ⟨nB, qB (key.1) (nB)⟩
def t_rgT : KT := ((0, 0, 0, 0), [(2, 0, 40, 0), (1, 1, 0, 0), (1, 2, 0, 0), (1, 3, 0, 0), (1, 4, 0, 0), (1, 5, 0, 0)], [(0, 0), (0, 143), (-2147483648, 2147483647), (-2147483648, 2147483647), (-2147483648, 2147483647), (-2147483648, 2147483647)], [(95, [(2, 0, 40, 0), (1, 1, 0, 0)]), (9, [(2, 0, 40, 0), (1, 1, 0, 0), (1, 2, 0, 0)]), (93, [(2, 0, 40, 0), (1, 3, 0, 0)]), (21, [(1, 2, 0, 0), (1, 3, 0, -1)]), (96, [(2, 0, 40, 0), (1, 1, 0, 0), (1, 4, 0, 0)]), (8, [(2, 0, 40, 0), (1, 5, 0, 0)]), (21, [(1, 4, 0, 0), (1, 5, 0, -1)])], (0, 0, 0), [], [], ([], [(98, [(2, 0, 40, 0), (1, 1, 0, 0)])]), ([], []))
set_option maxRecDepth 100000 in
theorem l_rgT (g : GG) : LOK Yt (PSt g) t_rgT := by
  intro ρ α Γ M as hT hB hA hP
  have g0 : Γ (α 0) = 40 := tyAt hA (i := 0) rfl
  have b1 : 0 ≤ ρ 1 ∧ ρ 1 ≤ 143 := hB 1
  have b2 : -2147483648 ≤ ρ 2 ∧ ρ 2 ≤ 2147483647 := hB 2
  have b3 : -2147483648 ≤ ρ 3 ∧ ρ 3 ≤ 2147483647 := hB 3
  have b4 : -2147483648 ≤ ρ 4 ∧ ρ 4 ≤ 2147483647 := hB 4
  have b5 : -2147483648 ≤ ρ 5 ∧ ρ 5 ≤ 2147483647 := hB 5
  have h0 : nwE Γ M (α 0) fun r c => isPx r c (ρ 1 + 0) := hP _ (List.mem_of_getElem? (i := 0) rfl)
  have h1 : nwE Γ M (α 0) fun r c => ρ 2 + 0 = (ρ 1 + 0) / c := hP _ (List.mem_of_getElem? (i := 1) rfl)
  have h2 : nwE Γ M (α 0) fun r c => ρ 3 + 0 = r := hP _ (List.mem_of_getElem? (i := 2) rfl)
  have h3 : ρ 2 + 0 < ρ 3 + (-1) := hP _ (List.mem_of_getElem? (i := 3) rfl)
  have h4 : nwE Γ M (α 0) fun r c => ρ 4 + 0 = (ρ 1 + 0) % c := hP _ (List.mem_of_getElem? (i := 4) rfl)
  have h5 : nwE Γ M (α 0) fun r c => ρ 5 + 0 = c := hP _ (List.mem_of_getElem? (i := 5) rfl)
  have h6 : ρ 4 + 0 < ρ 5 + (-1) := hP _ (List.mem_of_getElem? (i := 6) rfl)
  try simp only [Int.add_zero] at h0 h1 h2 h3 h4 h5 h6
  have key : (nwE Γ M (α 0) fun r c => rgP r c (ρ 1 + 0)) ∧ True := by
    try simp only [Int.add_zero]
    have a0 := nwF h0
    have a1 := nwF h1
    have a2 := nwF h2
    have a4 := nwF h4
    have a5 := nwF h5
    exact ⟨nwT hT g0 ⟨a0.1, a0.2, by rw [← a1, ← a2]; omega, by rw [← a4, ← a5]; omega⟩, trivial⟩
  exact ⟨nB, qB (key.1) (nB)⟩
def t_rg1r : KT := ((0, 0, 0, 0), [(2, 0, 40, 0), (1, 1, 0, 0)], [(0, 0), (-2147483648, 2147483647)], [(162, [(2, 0, 40, 0), (1, 1, 0, 0)])], (0, 0, 0), [], [], ([], [(121, [(2, 0, 40, 0), (1, 1, 0, 0)])]), ([], []))
set_option maxRecDepth 100000 in
theorem l_rg1r (g : GG) : LOK Yt (PSt g) t_rg1r := by
  intro ρ α Γ M as hT hB hA hP
  have g0 : Γ (α 0) = 40 := tyAt hA (i := 0) rfl
  have b1 : -2147483648 ≤ ρ 1 ∧ ρ 1 ≤ 2147483647 := hB 1
  have h0 : Γ (α 0) = 40 ∧ tyO Γ M (α 0) [(1, 41, [(0, 2)])] ∧ Q162 g (vw M (α 0) 1 [(0, 2)]) (clp [] (M.2.2.2.2 (α 0))) (ρ 1 + 0) := hP _ (List.mem_of_getElem? (i := 0) rfl)
  try simp only [Int.add_zero] at h0
  have key : (Γ (α 0) = 40 ∧ tyO Γ M (α 0) [(1, 41, [(0, 2)])] ∧ Q121 g (vw M (α 0) 1 [(0, 2)]) (clp [] (M.2.2.2.2 (α 0))) (ρ 1 + 0)) ∧ True := by
    try simp only [Int.add_zero]
    exact ⟨⟨g0, tyO_of hT g0 (by decide) (by decide), fun h => h0.2.2 ⟨h.1, h.2.1⟩⟩, trivial⟩
  exact ⟨nB, qB (key.1) (nB)⟩
def t_rg2r : KT := ((0, 0, 0, 0), [(2, 0, 40, 0), (1, 1, 0, 0), (1, 2, 0, 0), (1, 3, 0, 0)], [(0, 0), (-2147483648, 2147483647), (-2147483648, 2147483647), (-2147483648, 2147483647)], [(9, [(2, 0, 40, 0), (1, 1, 0, 0), (1, 2, 0, 0)]), (93, [(2, 0, 40, 0), (1, 3, 0, 0)]), (6, [(1, 3, 0, -1), (1, 2, 0, 0)])], (0, 0, 0), [], [], ([], [(121, [(2, 0, 40, 0), (1, 1, 0, 0)])]), ([], []))
set_option maxRecDepth 100000 in
theorem l_rg2r (g : GG) : LOK Yt (PSt g) t_rg2r := by
  intro ρ α Γ M as hT hB hA hP
  have g0 : Γ (α 0) = 40 := tyAt hA (i := 0) rfl
  have b1 : -2147483648 ≤ ρ 1 ∧ ρ 1 ≤ 2147483647 := hB 1
  have b2 : -2147483648 ≤ ρ 2 ∧ ρ 2 ≤ 2147483647 := hB 2
  have b3 : -2147483648 ≤ ρ 3 ∧ ρ 3 ≤ 2147483647 := hB 3
  have h0 : nwE Γ M (α 0) fun r c => ρ 2 + 0 = (ρ 1 + 0) / c := hP _ (List.mem_of_getElem? (i := 0) rfl)
  have h1 : nwE Γ M (α 0) fun r c => ρ 3 + 0 = r := hP _ (List.mem_of_getElem? (i := 1) rfl)
  have h2 : ρ 3 + (-1) ≤ ρ 2 + 0 := hP _ (List.mem_of_getElem? (i := 2) rfl)
  try simp only [Int.add_zero] at h0 h1 h2
  have key : (Γ (α 0) = 40 ∧ tyO Γ M (α 0) [(1, 41, [(0, 2)])] ∧ Q121 g (vw M (α 0) 1 [(0, 2)]) (clp [] (M.2.2.2.2 (α 0))) (ρ 1 + 0)) ∧ True := by
    try simp only [Int.add_zero]
    have a1 := nwF h0
    have a2 := nwF h1
    refine ⟨⟨g0, tyO_of hT g0 (by decide) (by decide), fun h => ?_⟩, trivial⟩
    have h3 : ρ 1 / ((clp [(0, 2)] (M.2.2.2.2 (fl M (α 0) 1))) 1 + 4) < (clp [(0, 2)] (M.2.2.2.2 (fl M (α 0) 1))) 0 + 4 - 1 := h.2.2.1
    rw [rc0, rc1', ← a1, ← a2] at h3
    omega
  exact ⟨nB, qB (key.1) (nB)⟩
def t_rg3r : KT := ((0, 0, 0, 0), [(2, 0, 40, 0), (1, 1, 0, 0), (1, 2, 0, 0), (1, 3, 0, 0)], [(0, 0), (-2147483648, 2147483647), (-2147483648, 2147483647), (-2147483648, 2147483647)], [(96, [(2, 0, 40, 0), (1, 1, 0, 0), (1, 2, 0, 0)]), (8, [(2, 0, 40, 0), (1, 3, 0, 0)]), (6, [(1, 3, 0, -1), (1, 2, 0, 0)])], (0, 0, 0), [], [], ([], [(121, [(2, 0, 40, 0), (1, 1, 0, 0)])]), ([], []))
set_option maxRecDepth 100000 in
theorem l_rg3r (g : GG) : LOK Yt (PSt g) t_rg3r := by
  intro ρ α Γ M as hT hB hA hP
  have g0 : Γ (α 0) = 40 := tyAt hA (i := 0) rfl
  have b1 : -2147483648 ≤ ρ 1 ∧ ρ 1 ≤ 2147483647 := hB 1
  have b2 : -2147483648 ≤ ρ 2 ∧ ρ 2 ≤ 2147483647 := hB 2
  have b3 : -2147483648 ≤ ρ 3 ∧ ρ 3 ≤ 2147483647 := hB 3
  have h0 : nwE Γ M (α 0) fun r c => ρ 2 + 0 = (ρ 1 + 0) % c := hP _ (List.mem_of_getElem? (i := 0) rfl)
  have h1 : nwE Γ M (α 0) fun r c => ρ 3 + 0 = c := hP _ (List.mem_of_getElem? (i := 1) rfl)
  have h2 : ρ 3 + (-1) ≤ ρ 2 + 0 := hP _ (List.mem_of_getElem? (i := 2) rfl)
  try simp only [Int.add_zero] at h0 h1 h2
  have key : (Γ (α 0) = 40 ∧ tyO Γ M (α 0) [(1, 41, [(0, 2)])] ∧ Q121 g (vw M (α 0) 1 [(0, 2)]) (clp [] (M.2.2.2.2 (α 0))) (ρ 1 + 0)) ∧ True := by
    try simp only [Int.add_zero]
    have a1 := nwF h0
    have a2 := nwF h1
    refine ⟨⟨g0, tyO_of hT g0 (by decide) (by decide), fun h => ?_⟩, trivial⟩
    have h3 : ρ 1 % ((clp [(0, 2)] (M.2.2.2.2 (fl M (α 0) 1))) 1 + 4) < (clp [(0, 2)] (M.2.2.2.2 (fl M (α 0) 1))) 1 + 4 - 1 := h.2.2.2
    rw [rc1', ← a1, ← a2] at h3
    omega
  exact ⟨nB, qB (key.1) (nB)⟩
def t_ph0 : KT := ((0, 0, 0, 0), [(2, 0, 40, 0), (2, 1, 41, 0), (1, 2, 0, 0), (1, 3, 0, 0)], [(0, 0), (0, 0), (0, 143), (-2147483648, 2147483647)], [(11, [(2, 0, 40, 0), (0, 0, 0, 1), (2, 1, 41, 0)]), (10, [(2, 1, 41, 0), (1, 2, 0, 10), (1, 3, 0, 0)])], (0, 0, 0), [], [], ([], [(125, [(2, 0, 40, 0), (1, 2, 0, 0), (1, 3, 0, 0)])]), ([], []))
set_option maxRecDepth 100000 in
theorem l_ph0 (g : GG) : LOK Yt (PSt g) t_ph0 := by
  intro ρ α Γ M as hT hB hA hP
  have g0 : Γ (α 0) = 40 := tyAt hA (i := 0) rfl
  have g1 : Γ (α 1) = 41 := tyAt hA (i := 1) rfl
  have b2 : 0 ≤ ρ 2 ∧ ρ 2 ≤ 143 := hB 2
  have b3 : -2147483648 ≤ ρ 3 ∧ ρ 3 ≤ 2147483647 := hB 3
  have h0 : 0 ≤ (1 : Int) ∧ M.2.2.2.1 (α 0) (1 : Int).toNat = some (α 1) := hP _ (List.mem_of_getElem? (i := 0) rfl)
  have h1 : 0 ≤ (ρ 2 + 10 : Int) ∧ M.2.2.2.2 (α 1) (ρ 2 + 10 : Int).toNat = ρ 3 + 0 := hP _ (List.mem_of_getElem? (i := 1) rfl)
  try simp only [Int.add_zero] at h0 h1
  have key : (Γ (α 0) = 40 ∧ tyO Γ M (α 0) [(1, 41, [(10, 154)])] ∧ Q125 g (vw M (α 0) 1 [(10, 154)]) (clp [] (M.2.2.2.2 (α 0))) (ρ 2 + 0) (ρ 3 + 0)) ∧ True := by
    try simp only [Int.add_zero]
    have e1 : fl M (α 0) 1 = α 1 := fl_eq (show M.2.2.2.1 (α 0) 1 = some (α 1) from h0.2)
    
    have e : M.2.2.2.2 (α 1) (10 + (ρ 2).toNat) = ρ 3 := by
      have := h1.2
      rw [show (ρ 2 + 10).toNat = 10 + (ρ 2).toNat by omega] at this
      exact this
    refine ⟨⟨g0, tyO_of hT g0 (by decide) (by decide), ?_⟩, trivial⟩
    show ρ 3 = (clp [(10, 154)] (M.2.2.2.2 (fl M (α 0) 1))) (10 + (ρ 2).toNat)
    rw [e1, cP (by omega)]
    exact e.symm
  exact ⟨nB, qB (key.1) (nB)⟩
def t_cg0 : KT := ((0, 0, 0, 0), [(2, 0, 40, 0), (1, 1, 0, 0)], [(0, 0), (-2147483648, 2147483647)], [(121, [(2, 0, 40, 0), (1, 1, 0, 0)])], (0, 0, 0), [], [], ([], [(120, [(2, 0, 40, 0), (1, 1, 0, 0), (0, 0, 0, 0)])]), ([], []))
set_option maxRecDepth 100000 in
theorem l_cg0 (g : GG) : LOK Yt (PSt g) t_cg0 := by
  intro ρ α Γ M as hT hB hA hP
  have g0 : Γ (α 0) = 40 := tyAt hA (i := 0) rfl
  have b1 : -2147483648 ≤ ρ 1 ∧ ρ 1 ≤ 2147483647 := hB 1
  have h0 : Γ (α 0) = 40 ∧ tyO Γ M (α 0) [(1, 41, [(0, 2)])] ∧ Q121 g (vw M (α 0) 1 [(0, 2)]) (clp [] (M.2.2.2.2 (α 0))) (ρ 1 + 0) := hP _ (List.mem_of_getElem? (i := 0) rfl)
  try simp only [Int.add_zero] at h0
  have key : (Γ (α 0) = 40 ∧ tyO Γ M (α 0) [(1, 41, [(0, 2), (10, 154), (298, 442)])] ∧ Q120 g (vw M (α 0) 1 [(0, 2), (10, 154), (298, 442)]) (clp [] (M.2.2.2.2 (α 0))) (ρ 1 + 0) (0)) ∧ True := by
    try simp only [Int.add_zero]
    refine ⟨⟨g0, tyO_of hT g0 (by decide) (by decide), ?_⟩, trivial⟩
    show 0 = chg (clp [(0, 2), (10, 154), (298, 442)] (M.2.2.2.2 (fl M (α 0) 1))) (ρ 1)
    rw [chg_no]
    intro h
    have h2 : rgP ((clp [(0, 2), (10, 154), (298, 442)] (M.2.2.2.2 (fl M (α 0) 1))) 0 + 4) ((clp [(0, 2), (10, 154), (298, 442)] (M.2.2.2.2 (fl M (α 0) 1))) 1 + 4) (ρ 1) := h.1
    rw [rt0, rt1] at h2
    have h3 : ¬ rgP ((clp [(0, 2)] (M.2.2.2.2 (fl M (α 0) 1))) 0 + 4) ((clp [(0, 2)] (M.2.2.2.2 (fl M (α 0) 1))) 1 + 4) (ρ 1) := h0.2.2
    rw [rc0, rc1'] at h3
    exact h3 h2
  exact ⟨nB, qB (key.1) (nB)⟩
def t_cg1 : KT := ((0, 0, 0, 0), [(2, 0, 40, 0), (1, 1, 0, 0)], [(0, 0), (-2147483648, 2147483647)], [(98, [(2, 0, 40, 0), (1, 1, 0, 0)])], (0, 0, 0), [], [], ([(1, 0, 140)], []), ([], []))
set_option maxRecDepth 100000 in
theorem l_cg1 (g : GG) : LOK Yt (PSt g) t_cg1 := by
  intro ρ α Γ M as hT hB hA hP
  have g0 : Γ (α 0) = 40 := tyAt hA (i := 0) rfl
  have b1 : -2147483648 ≤ ρ 1 ∧ ρ 1 ≤ 2147483647 := hB 1
  have h0 : nwE Γ M (α 0) fun r c => rgP r c (ρ 1 + 0) := hP _ (List.mem_of_getElem? (i := 0) rfl)
  try simp only [Int.add_zero] at h0
  have key : (0 ≤ ρ 1 ∧ ρ 1 ≤ 140) ∧ True := by
    try simp only [Int.add_zero]
    have d := nwD hT g0
    have a := rg_in d.1 d.2 (nwF h0)
    exact ⟨⟨a.1, by omega⟩, trivial⟩
  exact ⟨qB (key.1) (nB), nB⟩
def t_cg2 : KT := ((0, 0, 0, 0), [(2, 0, 40, 0), (1, 1, 0, 0), (1, 2, 0, 0), (1, 3, 0, 0)], [(0, 0), (0, 140), (-2147483648, 2147483647), (-2147483648, 2147483647)], [(98, [(2, 0, 40, 0), (1, 1, 0, 0)]), (8, [(2, 0, 40, 0), (1, 2, 0, 0)]), (23, [(1, 1, 0, 0), (1, 2, 0, 0), (1, 3, 0, 0)])], (0, 0, 0), [], [], ([(3, 2, 142)], [(186, [(2, 0, 40, 0), (1, 1, 0, 0), (1, 3, 0, 0)])]), ([], []))
set_option maxRecDepth 100000 in
theorem l_cg2 (g : GG) : LOK Yt (PSt g) t_cg2 := by
  intro ρ α Γ M as hT hB hA hP
  have g0 : Γ (α 0) = 40 := tyAt hA (i := 0) rfl
  have b1 : 0 ≤ ρ 1 ∧ ρ 1 ≤ 140 := hB 1
  have b2 : -2147483648 ≤ ρ 2 ∧ ρ 2 ≤ 2147483647 := hB 2
  have b3 : -2147483648 ≤ ρ 3 ∧ ρ 3 ≤ 2147483647 := hB 3
  have h0 : nwE Γ M (α 0) fun r c => rgP r c (ρ 1 + 0) := hP _ (List.mem_of_getElem? (i := 0) rfl)
  have h1 : nwE Γ M (α 0) fun r c => ρ 2 + 0 = c := hP _ (List.mem_of_getElem? (i := 1) rfl)
  have h2 : ρ 3 + 0 = wI ((ρ 1 + 0) + (ρ 2 + 0)) := hP _ (List.mem_of_getElem? (i := 2) rfl)
  try simp only [Int.add_zero] at h0 h1 h2
  have key : (2 ≤ ρ 3 ∧ ρ 3 ≤ 142) ∧ (Γ (α 0) = 40 ∧ tyO Γ M (α 0) [(1, 41, [(1, 2)])] ∧ Q186 g (vw M (α 0) 1 [(1, 2)]) (clp [] (M.2.2.2.2 (α 0))) (ρ 1 + 0) (ρ 3 + 0)) ∧ True := by
    try simp only [Int.add_zero]
    have d := nwD hT g0
    have a := rg_in d.1 d.2 (nwF h0)
    have c := nwF h1
    rw [wI_id (by unfold inI; omega)] at h2
    refine ⟨⟨by omega, by omega⟩, ⟨g0, tyO_of hT g0 (by decide) (by decide), ?_⟩, trivial⟩
    show ρ 3 = ρ 1 + ((clp [(1, 2)] (M.2.2.2.2 (fl M (α 0) 1))) 1 + 4)
    rw [c11]
    omega
  exact ⟨qB (key.1) (nB), qB (key.2.1) (nB)⟩
def t_cgH0 : KT := ((0, 0, 0, 0), [(2, 0, 40, 0), (1, 1, 0, 0)], [(0, 0), (0, 143)], [(122, [(2, 0, 40, 0), (1, 1, 0, 0)])], (0, 0, 0), [], [], ([], [(120, [(2, 0, 40, 0), (1, 1, 0, 0), (0, 0, 0, 0)])]), ([], []))
set_option maxRecDepth 100000 in
theorem l_cgH0 (g : GG) : LOK Yt (PSt g) t_cgH0 := by
  intro ρ α Γ M as hT hB hA hP
  have g0 : Γ (α 0) = 40 := tyAt hA (i := 0) rfl
  have b1 : 0 ≤ ρ 1 ∧ ρ 1 ≤ 143 := hB 1
  have h0 : Γ (α 0) = 40 ∧ tyO Γ M (α 0) [(1, 41, [(298, 442)])] ∧ Q122 g (vw M (α 0) 1 [(298, 442)]) (clp [] (M.2.2.2.2 (α 0))) (ρ 1 + 0) := hP _ (List.mem_of_getElem? (i := 0) rfl)
  try simp only [Int.add_zero] at h0
  have key : (Γ (α 0) = 40 ∧ tyO Γ M (α 0) [(1, 41, [(0, 2), (10, 154), (298, 442)])] ∧ Q120 g (vw M (α 0) 1 [(0, 2), (10, 154), (298, 442)]) (clp [] (M.2.2.2.2 (α 0))) (ρ 1 + 0) (0)) ∧ True := by
    try simp only [Int.add_zero]
    refine ⟨⟨g0, tyO_of hT g0 (by decide) (by decide), ?_⟩, trivial⟩
    show 0 = chg (clp [(0, 2), (10, 154), (298, 442)] (M.2.2.2.2 (fl M (α 0) 1))) (ρ 1)
    rw [chg_no]
    intro h
    have h2 : (clp [(0, 2), (10, 154), (298, 442)] (M.2.2.2.2 (fl M (α 0) 1))) (298 + (ρ 1).toNat) ≠ 1 := h.2.1
    
    apply h2
    have hx := h0.2.2.2
    have hx : clp [(298, 442)] (M.2.2.2.2 (fl M (α 0) 1)) (298 + (ρ 1).toNat) = 1 := hx
    rw [ckH (by decide) _ (by omega)] at hx
    rw [rtH (by omega)]
    exact hx
  exact ⟨nB, qB (key.1) (nB)⟩
def t_cgH1 : KT := ((0, 0, 0, 0), [(2, 0, 40, 0), (1, 1, 0, 0)], [(0, 0), (0, 142)], [(122, [(2, 0, 40, 0), (1, 1, 0, 1)])], (0, 0, 0), [], [], ([], [(120, [(2, 0, 40, 0), (1, 1, 0, 0), (0, 0, 0, 0)])]), ([], []))
set_option maxRecDepth 100000 in
theorem l_cgH1 (g : GG) : LOK Yt (PSt g) t_cgH1 := by
  intro ρ α Γ M as hT hB hA hP
  have g0 : Γ (α 0) = 40 := tyAt hA (i := 0) rfl
  have b1 : 0 ≤ ρ 1 ∧ ρ 1 ≤ 142 := hB 1
  have h0 : Γ (α 0) = 40 ∧ tyO Γ M (α 0) [(1, 41, [(298, 442)])] ∧ Q122 g (vw M (α 0) 1 [(298, 442)]) (clp [] (M.2.2.2.2 (α 0))) (ρ 1 + 1) := hP _ (List.mem_of_getElem? (i := 0) rfl)
  try simp only [Int.add_zero] at h0
  have key : (Γ (α 0) = 40 ∧ tyO Γ M (α 0) [(1, 41, [(0, 2), (10, 154), (298, 442)])] ∧ Q120 g (vw M (α 0) 1 [(0, 2), (10, 154), (298, 442)]) (clp [] (M.2.2.2.2 (α 0))) (ρ 1 + 0) (0)) ∧ True := by
    try simp only [Int.add_zero]
    refine ⟨⟨g0, tyO_of hT g0 (by decide) (by decide), ?_⟩, trivial⟩
    show 0 = chg (clp [(0, 2), (10, 154), (298, 442)] (M.2.2.2.2 (fl M (α 0) 1))) (ρ 1)
    rw [chg_no]
    intro h
    have h2 : (clp [(0, 2), (10, 154), (298, 442)] (M.2.2.2.2 (fl M (α 0) 1))) (298 + ((ρ 1 + 1)).toNat) ≠ 1 := h.2.2.1
    
    apply h2
    have hx := h0.2.2.2
    have hx : clp [(298, 442)] (M.2.2.2.2 (fl M (α 0) 1)) (298 + (ρ 1 + 1).toNat) = 1 := hx
    rw [ckH (by decide) _ (by omega)] at hx
    rw [rtH (by omega)]
    exact hx
  exact ⟨nB, qB (key.1) (nB)⟩
def t_cgH2 : KT := ((0, 0, 0, 0), [(2, 0, 40, 0), (1, 1, 0, 0), (1, 2, 0, 0)], [(0, 0), (0, 143), (0, 143)], [(186, [(2, 0, 40, 0), (1, 1, 0, 0), (1, 2, 0, 0)]), (122, [(2, 0, 40, 0), (1, 2, 0, 0)])], (0, 0, 0), [], [], ([], [(120, [(2, 0, 40, 0), (1, 1, 0, 0), (0, 0, 0, 0)])]), ([], []))
set_option maxRecDepth 100000 in
theorem l_cgH2 (g : GG) : LOK Yt (PSt g) t_cgH2 := by
  intro ρ α Γ M as hT hB hA hP
  have g0 : Γ (α 0) = 40 := tyAt hA (i := 0) rfl
  have b1 : 0 ≤ ρ 1 ∧ ρ 1 ≤ 143 := hB 1
  have b2 : 0 ≤ ρ 2 ∧ ρ 2 ≤ 143 := hB 2
  have h0 : Γ (α 0) = 40 ∧ tyO Γ M (α 0) [(1, 41, [(1, 2)])] ∧ Q186 g (vw M (α 0) 1 [(1, 2)]) (clp [] (M.2.2.2.2 (α 0))) (ρ 1 + 0) (ρ 2 + 0) := hP _ (List.mem_of_getElem? (i := 0) rfl)
  have h1 : Γ (α 0) = 40 ∧ tyO Γ M (α 0) [(1, 41, [(298, 442)])] ∧ Q122 g (vw M (α 0) 1 [(298, 442)]) (clp [] (M.2.2.2.2 (α 0))) (ρ 2 + 0) := hP _ (List.mem_of_getElem? (i := 1) rfl)
  try simp only [Int.add_zero] at h0 h1
  have key : (Γ (α 0) = 40 ∧ tyO Γ M (α 0) [(1, 41, [(0, 2), (10, 154), (298, 442)])] ∧ Q120 g (vw M (α 0) 1 [(0, 2), (10, 154), (298, 442)]) (clp [] (M.2.2.2.2 (α 0))) (ρ 1 + 0) (0)) ∧ True := by
    try simp only [Int.add_zero]
    refine ⟨⟨g0, tyO_of hT g0 (by decide) (by decide), ?_⟩, trivial⟩
    show 0 = chg (clp [(0, 2), (10, 154), (298, 442)] (M.2.2.2.2 (fl M (α 0) 1))) (ρ 1)
    rw [chg_no]
    intro h
    have h2 : (clp [(0, 2), (10, 154), (298, 442)] (M.2.2.2.2 (fl M (α 0) 1))) (298 + ((ρ 1 + ((clp [(0, 2), (10, 154), (298, 442)] (M.2.2.2.2 (fl M (α 0) 1))) 1 + 4))).toNat) ≠ 1 := h.2.2.2.1
    have hb : ρ 2 = ρ 1 + ((clp [(1, 2)] (M.2.2.2.2 (fl M (α 0) 1))) 1 + 4) := h0.2.2
    rw [c11] at hb
    rw [rt1, ← hb] at h2
    apply h2
    have hx := h1.2.2.2
    have hx : clp [(298, 442)] (M.2.2.2.2 (fl M (α 0) 1)) (298 + (ρ 2).toNat) = 1 := hx
    rw [ckH (by decide) _ (by omega)] at hx
    rw [rtH (by omega)]
    exact hx
  exact ⟨nB, qB (key.1) (nB)⟩
def t_cgH3 : KT := ((0, 0, 0, 0), [(2, 0, 40, 0), (1, 1, 0, 0), (1, 2, 0, 0)], [(0, 0), (0, 143), (0, 142)], [(186, [(2, 0, 40, 0), (1, 1, 0, 0), (1, 2, 0, 0)]), (122, [(2, 0, 40, 0), (1, 2, 0, 1)])], (0, 0, 0), [], [], ([], [(120, [(2, 0, 40, 0), (1, 1, 0, 0), (0, 0, 0, 0)])]), ([], []))
set_option maxRecDepth 100000 in
theorem l_cgH3 (g : GG) : LOK Yt (PSt g) t_cgH3 := by
  intro ρ α Γ M as hT hB hA hP
  have g0 : Γ (α 0) = 40 := tyAt hA (i := 0) rfl
  have b1 : 0 ≤ ρ 1 ∧ ρ 1 ≤ 143 := hB 1
  have b2 : 0 ≤ ρ 2 ∧ ρ 2 ≤ 142 := hB 2
  have h0 : Γ (α 0) = 40 ∧ tyO Γ M (α 0) [(1, 41, [(1, 2)])] ∧ Q186 g (vw M (α 0) 1 [(1, 2)]) (clp [] (M.2.2.2.2 (α 0))) (ρ 1 + 0) (ρ 2 + 0) := hP _ (List.mem_of_getElem? (i := 0) rfl)
  have h1 : Γ (α 0) = 40 ∧ tyO Γ M (α 0) [(1, 41, [(298, 442)])] ∧ Q122 g (vw M (α 0) 1 [(298, 442)]) (clp [] (M.2.2.2.2 (α 0))) (ρ 2 + 1) := hP _ (List.mem_of_getElem? (i := 1) rfl)
  try simp only [Int.add_zero] at h0 h1
  have key : (Γ (α 0) = 40 ∧ tyO Γ M (α 0) [(1, 41, [(0, 2), (10, 154), (298, 442)])] ∧ Q120 g (vw M (α 0) 1 [(0, 2), (10, 154), (298, 442)]) (clp [] (M.2.2.2.2 (α 0))) (ρ 1 + 0) (0)) ∧ True := by
    try simp only [Int.add_zero]
    refine ⟨⟨g0, tyO_of hT g0 (by decide) (by decide), ?_⟩, trivial⟩
    show 0 = chg (clp [(0, 2), (10, 154), (298, 442)] (M.2.2.2.2 (fl M (α 0) 1))) (ρ 1)
    rw [chg_no]
    intro h
    have h2 : (clp [(0, 2), (10, 154), (298, 442)] (M.2.2.2.2 (fl M (α 0) 1))) (298 + ((ρ 1 + ((clp [(0, 2), (10, 154), (298, 442)] (M.2.2.2.2 (fl M (α 0) 1))) 1 + 4) + 1)).toNat) ≠ 1 := h.2.2.2.2
    have hb : ρ 2 = ρ 1 + ((clp [(1, 2)] (M.2.2.2.2 (fl M (α 0) 1))) 1 + 4) := h0.2.2
    rw [c11] at hb
    rw [rt1, ← hb] at h2
    apply h2
    have hx := h1.2.2.2
    have hx : clp [(298, 442)] (M.2.2.2.2 (fl M (α 0) 1)) (298 + (ρ 2 + 1).toNat) = 1 := hx
    rw [ckH (by decide) _ (by omega)] at hx
    rw [rtH (by omega)]
    exact hx
  exact ⟨nB, qB (key.1) (nB)⟩
def t_cgA : KT := ((0, 0, 0, 0), [(2, 0, 40, 0), (1, 1, 0, 0), (1, 2, 0, 0), (1, 3, 0, 0), (1, 4, 0, 0), (1, 5, 0, 0)], [(0, 0), (0, 140), (2, 142), (-127, 127), (-127, 127), (-2147483648, 2147483647)], [(124, [(2, 0, 40, 0), (1, 1, 0, 0), (1, 1, 0, 1), (1, 3, 0, 0)]), (124, [(2, 0, 40, 0), (1, 1, 0, 1), (1, 2, 0, 1), (1, 4, 0, 0)]), (23, [(1, 3, 0, 0), (1, 4, 0, 0), (1, 5, 0, 0)])], (0, 0, 0), [], [], ([], [(410, [(2, 0, 40, 0), (1, 1, 0, 0), (1, 2, 0, 0), (1, 5, 0, 0)])]), ([], []))
set_option maxRecDepth 100000 in
theorem l_cgA (g : GG) : LOK Yt (PSt g) t_cgA := by
  intro ρ α Γ M as hT hB hA hP
  have g0 : Γ (α 0) = 40 := tyAt hA (i := 0) rfl
  have b1 : 0 ≤ ρ 1 ∧ ρ 1 ≤ 140 := hB 1
  have b2 : 2 ≤ ρ 2 ∧ ρ 2 ≤ 142 := hB 2
  have b3 : -127 ≤ ρ 3 ∧ ρ 3 ≤ 127 := hB 3
  have b4 : -127 ≤ ρ 4 ∧ ρ 4 ≤ 127 := hB 4
  have b5 : -2147483648 ≤ ρ 5 ∧ ρ 5 ≤ 2147483647 := hB 5
  have h0 : Γ (α 0) = 40 ∧ tyO Γ M (α 0) [(1, 41, [(10, 154)])] ∧ Q124 g (vw M (α 0) 1 [(10, 154)]) (clp [] (M.2.2.2.2 (α 0))) (ρ 1 + 0) (ρ 1 + 1) (ρ 3 + 0) := hP _ (List.mem_of_getElem? (i := 0) rfl)
  have h1 : Γ (α 0) = 40 ∧ tyO Γ M (α 0) [(1, 41, [(10, 154)])] ∧ Q124 g (vw M (α 0) 1 [(10, 154)]) (clp [] (M.2.2.2.2 (α 0))) (ρ 1 + 1) (ρ 2 + 1) (ρ 4 + 0) := hP _ (List.mem_of_getElem? (i := 1) rfl)
  have h2 : ρ 5 + 0 = wI ((ρ 3 + 0) + (ρ 4 + 0)) := hP _ (List.mem_of_getElem? (i := 2) rfl)
  try simp only [Int.add_zero] at h0 h1 h2
  have key : (Γ (α 0) = 40 ∧ tyO Γ M (α 0) [(1, 41, [(10, 154)])] ∧ Q410 g (vw M (α 0) 1 [(10, 154)]) (clp [] (M.2.2.2.2 (α 0))) (ρ 1 + 0) (ρ 2 + 0) (ρ 5 + 0)) ∧ True := by
    try simp only [Int.add_zero]
    rw [wI_id (by unfold inI; omega)] at h2
    have a : ρ 3 = stpR (clp [(10, 154)] (M.2.2.2.2 (fl M (α 0) 1))) (ρ 1) (ρ 1 + 1) := h0.2.2
    have b : ρ 4 = stpR (clp [(10, 154)] (M.2.2.2.2 (fl M (α 0) 1))) (ρ 1 + 1) (ρ 2 + 1) := h1.2.2
    refine ⟨⟨g0, tyO_of hT g0 (by decide) (by decide), ?_⟩, trivial⟩
    show ρ 5 = stpR (clp [(10, 154)] (M.2.2.2.2 (fl M (α 0) 1))) (ρ 1) (ρ 1 + 1) + stpR (clp [(10, 154)] (M.2.2.2.2 (fl M (α 0) 1))) (ρ 1 + 1) (ρ 2 + 1)
    omega
  exact ⟨nB, qB (key.1) (nB)⟩
def t_cgB : KT := ((0, 0, 0, 0), [(2, 0, 40, 0), (1, 1, 0, 0), (1, 2, 0, 0), (1, 3, 0, 0), (1, 4, 0, 0), (1, 5, 0, 0)], [(0, 0), (0, 140), (2, 142), (-254, 254), (-127, 127), (-2147483648, 2147483647)], [(410, [(2, 0, 40, 0), (1, 1, 0, 0), (1, 2, 0, 0), (1, 3, 0, 0)]), (124, [(2, 0, 40, 0), (1, 2, 0, 1), (1, 2, 0, 0), (1, 4, 0, 0)]), (23, [(1, 3, 0, 0), (1, 4, 0, 0), (1, 5, 0, 0)])], (0, 0, 0), [], [], ([], [(411, [(2, 0, 40, 0), (1, 1, 0, 0), (1, 2, 0, 0), (1, 5, 0, 0)])]), ([], []))
set_option maxRecDepth 100000 in
theorem l_cgB (g : GG) : LOK Yt (PSt g) t_cgB := by
  intro ρ α Γ M as hT hB hA hP
  have g0 : Γ (α 0) = 40 := tyAt hA (i := 0) rfl
  have b1 : 0 ≤ ρ 1 ∧ ρ 1 ≤ 140 := hB 1
  have b2 : 2 ≤ ρ 2 ∧ ρ 2 ≤ 142 := hB 2
  have b3 : -254 ≤ ρ 3 ∧ ρ 3 ≤ 254 := hB 3
  have b4 : -127 ≤ ρ 4 ∧ ρ 4 ≤ 127 := hB 4
  have b5 : -2147483648 ≤ ρ 5 ∧ ρ 5 ≤ 2147483647 := hB 5
  have h0 : Γ (α 0) = 40 ∧ tyO Γ M (α 0) [(1, 41, [(10, 154)])] ∧ Q410 g (vw M (α 0) 1 [(10, 154)]) (clp [] (M.2.2.2.2 (α 0))) (ρ 1 + 0) (ρ 2 + 0) (ρ 3 + 0) := hP _ (List.mem_of_getElem? (i := 0) rfl)
  have h1 : Γ (α 0) = 40 ∧ tyO Γ M (α 0) [(1, 41, [(10, 154)])] ∧ Q124 g (vw M (α 0) 1 [(10, 154)]) (clp [] (M.2.2.2.2 (α 0))) (ρ 2 + 1) (ρ 2 + 0) (ρ 4 + 0) := hP _ (List.mem_of_getElem? (i := 1) rfl)
  have h2 : ρ 5 + 0 = wI ((ρ 3 + 0) + (ρ 4 + 0)) := hP _ (List.mem_of_getElem? (i := 2) rfl)
  try simp only [Int.add_zero] at h0 h1 h2
  have key : (Γ (α 0) = 40 ∧ tyO Γ M (α 0) [(1, 41, [(10, 154)])] ∧ Q411 g (vw M (α 0) 1 [(10, 154)]) (clp [] (M.2.2.2.2 (α 0))) (ρ 1 + 0) (ρ 2 + 0) (ρ 5 + 0)) ∧ True := by
    try simp only [Int.add_zero]
    rw [wI_id (by unfold inI; omega)] at h2
    have a : ρ 3 = stpR (clp [(10, 154)] (M.2.2.2.2 (fl M (α 0) 1))) (ρ 1) (ρ 1 + 1) + stpR (clp [(10, 154)] (M.2.2.2.2 (fl M (α 0) 1))) (ρ 1 + 1) (ρ 2 + 1) := h0.2.2
    have b : ρ 4 = stpR (clp [(10, 154)] (M.2.2.2.2 (fl M (α 0) 1))) (ρ 2 + 1) (ρ 2) := h1.2.2
    refine ⟨⟨g0, tyO_of hT g0 (by decide) (by decide), ?_⟩, trivial⟩
    show ρ 5 = stpR (clp [(10, 154)] (M.2.2.2.2 (fl M (α 0) 1))) (ρ 1) (ρ 1 + 1) + stpR (clp [(10, 154)] (M.2.2.2.2 (fl M (α 0) 1))) (ρ 1 + 1) (ρ 2 + 1) + stpR (clp [(10, 154)] (M.2.2.2.2 (fl M (α 0) 1))) (ρ 2 + 1) (ρ 2)
    omega
  exact ⟨nB, qB (key.1) (nB)⟩
def t_cgC : KT := ((0, 0, 0, 0), [(2, 0, 40, 0), (1, 1, 0, 0), (1, 2, 0, 0), (1, 3, 0, 0), (1, 4, 0, 0), (1, 5, 0, 0)], [(0, 0), (0, 140), (2, 142), (-381, 381), (-127, 127), (-2147483648, 2147483647)], [(411, [(2, 0, 40, 0), (1, 1, 0, 0), (1, 2, 0, 0), (1, 3, 0, 0)]), (124, [(2, 0, 40, 0), (1, 2, 0, 0), (1, 1, 0, 0), (1, 4, 0, 0)]), (23, [(1, 3, 0, 0), (1, 4, 0, 0), (1, 5, 0, 0)])], (0, 0, 0), [], [], ([], [(412, [(2, 0, 40, 0), (1, 1, 0, 0), (1, 2, 0, 0), (1, 5, 0, 0)])]), ([], []))
set_option maxRecDepth 100000 in
theorem l_cgC (g : GG) : LOK Yt (PSt g) t_cgC := by
  intro ρ α Γ M as hT hB hA hP
  have g0 : Γ (α 0) = 40 := tyAt hA (i := 0) rfl
  have b1 : 0 ≤ ρ 1 ∧ ρ 1 ≤ 140 := hB 1
  have b2 : 2 ≤ ρ 2 ∧ ρ 2 ≤ 142 := hB 2
  have b3 : -381 ≤ ρ 3 ∧ ρ 3 ≤ 381 := hB 3
  have b4 : -127 ≤ ρ 4 ∧ ρ 4 ≤ 127 := hB 4
  have b5 : -2147483648 ≤ ρ 5 ∧ ρ 5 ≤ 2147483647 := hB 5
  have h0 : Γ (α 0) = 40 ∧ tyO Γ M (α 0) [(1, 41, [(10, 154)])] ∧ Q411 g (vw M (α 0) 1 [(10, 154)]) (clp [] (M.2.2.2.2 (α 0))) (ρ 1 + 0) (ρ 2 + 0) (ρ 3 + 0) := hP _ (List.mem_of_getElem? (i := 0) rfl)
  have h1 : Γ (α 0) = 40 ∧ tyO Γ M (α 0) [(1, 41, [(10, 154)])] ∧ Q124 g (vw M (α 0) 1 [(10, 154)]) (clp [] (M.2.2.2.2 (α 0))) (ρ 2 + 0) (ρ 1 + 0) (ρ 4 + 0) := hP _ (List.mem_of_getElem? (i := 1) rfl)
  have h2 : ρ 5 + 0 = wI ((ρ 3 + 0) + (ρ 4 + 0)) := hP _ (List.mem_of_getElem? (i := 2) rfl)
  try simp only [Int.add_zero] at h0 h1 h2
  have key : (Γ (α 0) = 40 ∧ tyO Γ M (α 0) [(1, 41, [(10, 154)])] ∧ Q412 g (vw M (α 0) 1 [(10, 154)]) (clp [] (M.2.2.2.2 (α 0))) (ρ 1 + 0) (ρ 2 + 0) (ρ 5 + 0)) ∧ True := by
    try simp only [Int.add_zero]
    rw [wI_id (by unfold inI; omega)] at h2
    have a : ρ 3 = stpR (clp [(10, 154)] (M.2.2.2.2 (fl M (α 0) 1))) (ρ 1) (ρ 1 + 1) + stpR (clp [(10, 154)] (M.2.2.2.2 (fl M (α 0) 1))) (ρ 1 + 1) (ρ 2 + 1) + stpR (clp [(10, 154)] (M.2.2.2.2 (fl M (α 0) 1))) (ρ 2 + 1) (ρ 2) := h0.2.2
    have b : ρ 4 = stpR (clp [(10, 154)] (M.2.2.2.2 (fl M (α 0) 1))) (ρ 2) (ρ 1) := h1.2.2
    refine ⟨⟨g0, tyO_of hT g0 (by decide) (by decide), ?_⟩, trivial⟩
    show ρ 5 = stpR (clp [(10, 154)] (M.2.2.2.2 (fl M (α 0) 1))) (ρ 1) (ρ 1 + 1) + stpR (clp [(10, 154)] (M.2.2.2.2 (fl M (α 0) 1))) (ρ 1 + 1) (ρ 2 + 1) + stpR (clp [(10, 154)] (M.2.2.2.2 (fl M (α 0) 1))) (ρ 2 + 1) (ρ 2) + stpR (clp [(10, 154)] (M.2.2.2.2 (fl M (α 0) 1))) (ρ 2) (ρ 1)
    omega
  exact ⟨nB, qB (key.1) (nB)⟩
def t_cgD : KT := ((0, 0, 0, 0), [(2, 0, 40, 0), (1, 1, 0, 0), (1, 2, 0, 0), (1, 3, 0, 0), (1, 4, 0, 0)], [(0, 0), (0, 140), (2, 142), (-508, 508), (-2147483648, 2147483647)], [(98, [(2, 0, 40, 0), (1, 1, 0, 0)]), (186, [(2, 0, 40, 0), (1, 1, 0, 0), (1, 2, 0, 0)]), (412, [(2, 0, 40, 0), (1, 1, 0, 0), (1, 2, 0, 0), (1, 3, 0, 0)]), (26, [(1, 3, 0, 0), (0, 0, 0, 255), (1, 4, 0, 0)]), (123, [(2, 0, 40, 0), (1, 1, 0, 0)]), (123, [(2, 0, 40, 0), (1, 1, 0, 1)]), (123, [(2, 0, 40, 0), (1, 2, 0, 0)]), (123, [(2, 0, 40, 0), (1, 2, 0, 1)])], (0, 0, 0), [], [], ([], [(120, [(2, 0, 40, 0), (1, 1, 0, 0), (1, 4, 0, 0)])]), ([], []))
set_option maxRecDepth 100000 in
theorem l_cgD (g : GG) : LOK Yt (PSt g) t_cgD := by
  intro ρ α Γ M as hT hB hA hP
  have g0 : Γ (α 0) = 40 := tyAt hA (i := 0) rfl
  have b1 : 0 ≤ ρ 1 ∧ ρ 1 ≤ 140 := hB 1
  have b2 : 2 ≤ ρ 2 ∧ ρ 2 ≤ 142 := hB 2
  have b3 : -508 ≤ ρ 3 ∧ ρ 3 ≤ 508 := hB 3
  have b4 : -2147483648 ≤ ρ 4 ∧ ρ 4 ≤ 2147483647 := hB 4
  have h0 : nwE Γ M (α 0) fun r c => rgP r c (ρ 1 + 0) := hP _ (List.mem_of_getElem? (i := 0) rfl)
  have h1 : Γ (α 0) = 40 ∧ tyO Γ M (α 0) [(1, 41, [(1, 2)])] ∧ Q186 g (vw M (α 0) 1 [(1, 2)]) (clp [] (M.2.2.2.2 (α 0))) (ρ 1 + 0) (ρ 2 + 0) := hP _ (List.mem_of_getElem? (i := 1) rfl)
  have h2 : Γ (α 0) = 40 ∧ tyO Γ M (α 0) [(1, 41, [(10, 154)])] ∧ Q412 g (vw M (α 0) 1 [(10, 154)]) (clp [] (M.2.2.2.2 (α 0))) (ρ 1 + 0) (ρ 2 + 0) (ρ 3 + 0) := hP _ (List.mem_of_getElem? (i := 2) rfl)
  have h3 : ρ 4 + 0 = wI ((ρ 3 + 0 : Int).tdiv (255)) := hP _ (List.mem_of_getElem? (i := 3) rfl)
  have h4 : Γ (α 0) = 40 ∧ tyO Γ M (α 0) [(1, 41, [(298, 442)])] ∧ Q123 g (vw M (α 0) 1 [(298, 442)]) (clp [] (M.2.2.2.2 (α 0))) (ρ 1 + 0) := hP _ (List.mem_of_getElem? (i := 4) rfl)
  have h5 : Γ (α 0) = 40 ∧ tyO Γ M (α 0) [(1, 41, [(298, 442)])] ∧ Q123 g (vw M (α 0) 1 [(298, 442)]) (clp [] (M.2.2.2.2 (α 0))) (ρ 1 + 1) := hP _ (List.mem_of_getElem? (i := 5) rfl)
  have h6 : Γ (α 0) = 40 ∧ tyO Γ M (α 0) [(1, 41, [(298, 442)])] ∧ Q123 g (vw M (α 0) 1 [(298, 442)]) (clp [] (M.2.2.2.2 (α 0))) (ρ 2 + 0) := hP _ (List.mem_of_getElem? (i := 6) rfl)
  have h7 : Γ (α 0) = 40 ∧ tyO Γ M (α 0) [(1, 41, [(298, 442)])] ∧ Q123 g (vw M (α 0) 1 [(298, 442)]) (clp [] (M.2.2.2.2 (α 0))) (ρ 2 + 1) := hP _ (List.mem_of_getElem? (i := 7) rfl)
  try simp only [Int.add_zero] at h0 h1 h2 h3 h4 h5 h6 h7
  have key : (Γ (α 0) = 40 ∧ tyO Γ M (α 0) [(1, 41, [(0, 2), (10, 154), (298, 442)])] ∧ Q120 g (vw M (α 0) 1 [(0, 2), (10, 154), (298, 442)]) (clp [] (M.2.2.2.2 (α 0))) (ρ 1 + 0) (ρ 4 + 0)) ∧ True := by
    try simp only [Int.add_zero]
    have hr := nwF h0
    have hb : ρ 2 = ρ 1 + ((clp [(1, 2)] (M.2.2.2.2 (fl M (α 0) 1))) 1 + 4) := h1.2.2
    rw [c11] at hb
    have ha : ρ 3 = stpR (clp [(10, 154)] (M.2.2.2.2 (fl M (α 0) 1))) (ρ 1) (ρ 1 + 1) + stpR (clp [(10, 154)] (M.2.2.2.2 (fl M (α 0) 1))) (ρ 1 + 1) (ρ 2 + 1) + stpR (clp [(10, 154)] (M.2.2.2.2 (fl M (α 0) 1))) (ρ 2 + 1) (ρ 2) + stpR (clp [(10, 154)] (M.2.2.2.2 (fl M (α 0) 1))) (ρ 2) (ρ 1) := h2.2.2
    rw [stpP (by omega) (by omega), stpP (by omega) (by omega), stpP (by omega) (by omega), stpP (by omega) (by omega)] at ha
    have k4 : clp [(298, 442)] (M.2.2.2.2 (fl M (α 0) 1)) (298 + (ρ 1).toNat) ≠ 1 := h4.2.2.2
    have k5 : clp [(298, 442)] (M.2.2.2.2 (fl M (α 0) 1)) (298 + (ρ 1 + 1).toNat) ≠ 1 := h5.2.2.2
    have k6 : clp [(298, 442)] (M.2.2.2.2 (fl M (α 0) 1)) (298 + (ρ 2).toNat) ≠ 1 := h6.2.2.2
    have k7 : clp [(298, 442)] (M.2.2.2.2 (fl M (α 0) 1)) (298 + (ρ 2 + 1).toNat) ≠ 1 := h7.2.2.2
    rw [ckH (by decide) _ (by omega)] at k4 k5 k6 k7
    have hc : chgP (clp [(0, 2), (10, 154), (298, 442)] (M.2.2.2.2 (fl M (α 0) 1))) (ρ 1) := by
      unfold chgP
      rw [rt0, rt1, ← hb, rtH (by omega), rtH (by omega), rtH (by omega), rtH (by omega)]
      exact ⟨hr, k4, k5, k6, k7⟩
    refine ⟨⟨g0, tyO_of hT g0 (by decide) (by decide), ?_⟩, trivial⟩
    show ρ 4 = chg (clp [(0, 2), (10, 154), (298, 442)] (M.2.2.2.2 (fl M (α 0) 1))) (ρ 1)
    rw [chg_yes hc]
    unfold chgS
    rw [rt1, ← hb, stpT (by omega) (by omega), stpT (by omega) (by omega), stpT (by omega) (by omega), stpT (by omega) (by omega), ← ha, h3]
    have hq : (ρ 3).tdiv 255 ≤ 508 ∧ -508 ≤ (ρ 3).tdiv 255 := by
      by_cases hs : 0 ≤ ρ 3
      · rw [Int.tdiv_eq_ediv_of_nonneg hs]
        omega
      · have e : ρ 3 = -(-ρ 3) := by omega
        rw [e, Int.neg_tdiv, Int.tdiv_eq_ediv_of_nonneg (by omega)]
        omega
    exact wI_id (by unfold inI; omega)
  exact ⟨nB, qB (key.1) (nB)⟩
def t_au1 : KT := ((0, 0, 0, 0), [(2, 0, 40, 0), (2, 1, 44, 0), (1, 2, 0, 0), (1, 3, 0, 0), (1, 4, 0, 0)], [(0, 0), (0, 0), (0, 143), (-2147483648, 2147483647), (-2147483648, 2147483647)], [(11, [(2, 0, 40, 0), (0, 0, 0, 8), (2, 1, 44, 0)]), (10, [(2, 1, 44, 0), (1, 2, 0, 0), (1, 3, 0, 0)]), (120, [(2, 0, 40, 0), (1, 3, 0, 0), (1, 4, 0, 0)])], (0, 0, 0), [], [], ([], [(188, [(2, 0, 40, 0), (1, 2, 0, 0), (1, 4, 0, 0)])]), ([], []))
set_option maxRecDepth 100000 in
theorem l_au1 (g : GG) : LOK Yt (PSt g) t_au1 := by
  intro ρ α Γ M as hT hB hA hP
  have g0 : Γ (α 0) = 40 := tyAt hA (i := 0) rfl
  have g1 : Γ (α 1) = 44 := tyAt hA (i := 1) rfl
  have b2 : 0 ≤ ρ 2 ∧ ρ 2 ≤ 143 := hB 2
  have b3 : -2147483648 ≤ ρ 3 ∧ ρ 3 ≤ 2147483647 := hB 3
  have b4 : -2147483648 ≤ ρ 4 ∧ ρ 4 ≤ 2147483647 := hB 4
  have h0 : 0 ≤ (8 : Int) ∧ M.2.2.2.1 (α 0) (8 : Int).toNat = some (α 1) := hP _ (List.mem_of_getElem? (i := 0) rfl)
  have h1 : 0 ≤ (ρ 2 + 0 : Int) ∧ M.2.2.2.2 (α 1) (ρ 2 + 0 : Int).toNat = ρ 3 + 0 := hP _ (List.mem_of_getElem? (i := 1) rfl)
  have h2 : Γ (α 0) = 40 ∧ tyO Γ M (α 0) [(1, 41, [(0, 2), (10, 154), (298, 442)])] ∧ Q120 g (vw M (α 0) 1 [(0, 2), (10, 154), (298, 442)]) (clp [] (M.2.2.2.2 (α 0))) (ρ 3 + 0) (ρ 4 + 0) := hP _ (List.mem_of_getElem? (i := 2) rfl)
  try simp only [Int.add_zero] at h0 h1 h2
  have key : (Γ (α 0) = 40 ∧ tyO Γ M (α 0) [(1, 41, [(0, 2), (10, 154), (298, 442)]), (8, 44, [(0, 144)])] ∧ Q188 g (vw M (α 0) 1 [(0, 2), (10, 154), (298, 442)]) (vw M (α 0) 8 [(0, 144)]) (clp [] (M.2.2.2.2 (α 0))) (ρ 2 + 0) (ρ 4 + 0)) ∧ True := by
    try simp only [Int.add_zero]
    have e8 : fl M (α 0) 8 = α 1 := fl_eq (show M.2.2.2.1 (α 0) 8 = some (α 1) from h0.2)
    
    have e : M.2.2.2.2 (α 1) (ρ 2).toNat = ρ 3 := h1.2
    have hz : ρ 4 = chg (clp [(0, 2), (10, 154), (298, 442)] (M.2.2.2.2 (fl M (α 0) 1))) (ρ 3) := h2.2.2
    refine ⟨⟨g0, tyO_of hT g0 (by decide) (by decide), ?_⟩, trivial⟩
    show ρ 4 = chg (clp [(0, 2), (10, 154), (298, 442)] (M.2.2.2.2 (fl M (α 0) 1))) (clp [(0, 144)] (M.2.2.2.2 (fl M (α 0) 8)) (ρ 2).toNat)
    rw [e8, cA1 (by omega), e]
    exact hz
  exact ⟨nB, qB (key.1) (nB)⟩
def t_auT : KT := ((0, 0, 0, 0), [(2, 0, 40, 0), (1, 1, 0, 0), (1, 2, 0, 0), (1, 3, 0, 0), (1, 4, 0, 0), (1, 5, 0, 0)], [(0, 0), (-2147483648, 2147483647), (-2147483648, 2147483647), (-1000000, 1000000), (-1000000, 1000000), (0, 0)], [(188, [(2, 0, 40, 0), (1, 1, 0, 0), (1, 3, 0, 0)]), (188, [(2, 0, 40, 0), (1, 2, 0, 0), (1, 4, 0, 0)]), (23, [(1, 3, 0, 0), (1, 4, 0, 0), (1, 5, 0, 0)])], (0, 0, 0), [], [], ([], [(152, [(2, 0, 40, 0), (1, 1, 0, 0), (1, 2, 0, 0)])]), ([], []))
set_option maxRecDepth 100000 in
theorem l_auT (g : GG) : LOK Yt (PSt g) t_auT := by
  intro ρ α Γ M as hT hB hA hP
  have g0 : Γ (α 0) = 40 := tyAt hA (i := 0) rfl
  have b1 : -2147483648 ≤ ρ 1 ∧ ρ 1 ≤ 2147483647 := hB 1
  have b2 : -2147483648 ≤ ρ 2 ∧ ρ 2 ≤ 2147483647 := hB 2
  have b3 : -1000000 ≤ ρ 3 ∧ ρ 3 ≤ 1000000 := hB 3
  have b4 : -1000000 ≤ ρ 4 ∧ ρ 4 ≤ 1000000 := hB 4
  have b5 : 0 ≤ ρ 5 ∧ ρ 5 ≤ 0 := hB 5
  have h0 : Γ (α 0) = 40 ∧ tyO Γ M (α 0) [(1, 41, [(0, 2), (10, 154), (298, 442)]), (8, 44, [(0, 144)])] ∧ Q188 g (vw M (α 0) 1 [(0, 2), (10, 154), (298, 442)]) (vw M (α 0) 8 [(0, 144)]) (clp [] (M.2.2.2.2 (α 0))) (ρ 1 + 0) (ρ 3 + 0) := hP _ (List.mem_of_getElem? (i := 0) rfl)
  have h1 : Γ (α 0) = 40 ∧ tyO Γ M (α 0) [(1, 41, [(0, 2), (10, 154), (298, 442)]), (8, 44, [(0, 144)])] ∧ Q188 g (vw M (α 0) 1 [(0, 2), (10, 154), (298, 442)]) (vw M (α 0) 8 [(0, 144)]) (clp [] (M.2.2.2.2 (α 0))) (ρ 2 + 0) (ρ 4 + 0) := hP _ (List.mem_of_getElem? (i := 1) rfl)
  have h2 : ρ 5 + 0 = wI ((ρ 3 + 0) + (ρ 4 + 0)) := hP _ (List.mem_of_getElem? (i := 2) rfl)
  try simp only [Int.add_zero] at h0 h1 h2
  have key : (Γ (α 0) = 40 ∧ tyO Γ M (α 0) [(1, 41, [(0, 2), (10, 154), (298, 442)]), (8, 44, [(0, 144)])] ∧ Q152 g (vw M (α 0) 1 [(0, 2), (10, 154), (298, 442)]) (vw M (α 0) 8 [(0, 144)]) (clp [] (M.2.2.2.2 (α 0))) (ρ 1 + 0) (ρ 2 + 0)) ∧ True := by
    try simp only [Int.add_zero]
    have a : ρ 3 = chg (clp [(0, 2), (10, 154), (298, 442)] (M.2.2.2.2 (fl M (α 0) 1))) (clp [(0, 144)] (M.2.2.2.2 (fl M (α 0) 8)) (ρ 1).toNat) := h0.2.2
    have b : ρ 4 = chg (clp [(0, 2), (10, 154), (298, 442)] (M.2.2.2.2 (fl M (α 0) 1))) (clp [(0, 144)] (M.2.2.2.2 (fl M (α 0) 8)) (ρ 2).toNat) := h1.2.2
    rw [wI_id (by unfold inI; omega)] at h2
    refine ⟨⟨g0, tyO_of hT g0 (by decide) (by decide), ?_⟩, trivial⟩
    show chg (clp [(0, 2), (10, 154), (298, 442)] (M.2.2.2.2 (fl M (α 0) 1))) (clp [(0, 144)] (M.2.2.2.2 (fl M (α 0) 8)) (ρ 1).toNat) + chg (clp [(0, 2), (10, 154), (298, 442)] (M.2.2.2.2 (fl M (α 0) 1))) (clp [(0, 144)] (M.2.2.2.2 (fl M (α 0) 8)) (ρ 2).toNat) = 0
    omega
  exact ⟨nB, qB (key.1) (nB)⟩
def t_auF : KT := ((0, 0, 0, 0), [(2, 0, 40, 0), (1, 1, 0, 0), (1, 2, 0, 0), (1, 3, 0, 0), (1, 4, 0, 0), (1, 5, 0, 0)], [(0, 0), (-2147483648, 2147483647), (-2147483648, 2147483647), (-1000000, 1000000), (-1000000, 1000000), (-2147483648, 2147483647)], [(188, [(2, 0, 40, 0), (1, 1, 0, 0), (1, 3, 0, 0)]), (188, [(2, 0, 40, 0), (1, 2, 0, 0), (1, 4, 0, 0)]), (23, [(1, 3, 0, 0), (1, 4, 0, 0), (1, 5, 0, 0)]), (99, [(1, 5, 0, 0), (0, 0, 0, 0), (0, 0, 0, 0)])], (0, 0, 0), [], [], ([], [(153, [(2, 0, 40, 0), (1, 1, 0, 0), (1, 2, 0, 0)])]), ([], []))
set_option maxRecDepth 100000 in
theorem l_auF (g : GG) : LOK Yt (PSt g) t_auF := by
  intro ρ α Γ M as hT hB hA hP
  have g0 : Γ (α 0) = 40 := tyAt hA (i := 0) rfl
  have b1 : -2147483648 ≤ ρ 1 ∧ ρ 1 ≤ 2147483647 := hB 1
  have b2 : -2147483648 ≤ ρ 2 ∧ ρ 2 ≤ 2147483647 := hB 2
  have b3 : -1000000 ≤ ρ 3 ∧ ρ 3 ≤ 1000000 := hB 3
  have b4 : -1000000 ≤ ρ 4 ∧ ρ 4 ≤ 1000000 := hB 4
  have b5 : -2147483648 ≤ ρ 5 ∧ ρ 5 ≤ 2147483647 := hB 5
  have h0 : Γ (α 0) = 40 ∧ tyO Γ M (α 0) [(1, 41, [(0, 2), (10, 154), (298, 442)]), (8, 44, [(0, 144)])] ∧ Q188 g (vw M (α 0) 1 [(0, 2), (10, 154), (298, 442)]) (vw M (α 0) 8 [(0, 144)]) (clp [] (M.2.2.2.2 (α 0))) (ρ 1 + 0) (ρ 3 + 0) := hP _ (List.mem_of_getElem? (i := 0) rfl)
  have h1 : Γ (α 0) = 40 ∧ tyO Γ M (α 0) [(1, 41, [(0, 2), (10, 154), (298, 442)]), (8, 44, [(0, 144)])] ∧ Q188 g (vw M (α 0) 1 [(0, 2), (10, 154), (298, 442)]) (vw M (α 0) 8 [(0, 144)]) (clp [] (M.2.2.2.2 (α 0))) (ρ 2 + 0) (ρ 4 + 0) := hP _ (List.mem_of_getElem? (i := 1) rfl)
  have h2 : ρ 5 + 0 = wI ((ρ 3 + 0) + (ρ 4 + 0)) := hP _ (List.mem_of_getElem? (i := 2) rfl)
  have h3 : (ρ 5 + 0 : Int) ≠ 0 := hP _ (List.mem_of_getElem? (i := 3) rfl)
  try simp only [Int.add_zero] at h0 h1 h2 h3
  have key : (Γ (α 0) = 40 ∧ tyO Γ M (α 0) [(1, 41, [(0, 2), (10, 154), (298, 442)]), (8, 44, [(0, 144)])] ∧ Q153 g (vw M (α 0) 1 [(0, 2), (10, 154), (298, 442)]) (vw M (α 0) 8 [(0, 144)]) (clp [] (M.2.2.2.2 (α 0))) (ρ 1 + 0) (ρ 2 + 0)) ∧ True := by
    try simp only [Int.add_zero]
    have a : ρ 3 = chg (clp [(0, 2), (10, 154), (298, 442)] (M.2.2.2.2 (fl M (α 0) 1))) (clp [(0, 144)] (M.2.2.2.2 (fl M (α 0) 8)) (ρ 1).toNat) := h0.2.2
    have b : ρ 4 = chg (clp [(0, 2), (10, 154), (298, 442)] (M.2.2.2.2 (fl M (α 0) 1))) (clp [(0, 144)] (M.2.2.2.2 (fl M (α 0) 8)) (ρ 2).toNat) := h1.2.2
    rw [wI_id (by unfold inI; omega)] at h2
    refine ⟨⟨g0, tyO_of hT g0 (by decide) (by decide), ?_⟩, trivial⟩
    show chg (clp [(0, 2), (10, 154), (298, 442)] (M.2.2.2.2 (fl M (α 0) 1))) (clp [(0, 144)] (M.2.2.2.2 (fl M (α 0) 8)) (ρ 1).toNat) + chg (clp [(0, 2), (10, 154), (298, 442)] (M.2.2.2.2 (fl M (α 0) 1))) (clp [(0, 144)] (M.2.2.2.2 (fl M (α 0) 8)) (ρ 2).toNat) ≠ 0
    omega
  exact ⟨nB, qB (key.1) (nB)⟩
def t_fo1 : KT := ((0, 0, 0, 0), [(2, 0, 40, 0), (1, 1, 0, 0), (1, 2, 0, 0), (1, 3, 0, 0), (1, 4, 0, 0), (1, 5, 0, 0), (1, 6, 0, 0)], [(0, 0), (0, 143), (0, 143), (-2147483648, 2147483647), (-2147483648, 2147483647), (-2147483648, 2147483647), (-2147483648, 2147483647)], [(9, [(2, 0, 40, 0), (1, 1, 0, 0), (1, 3, 0, 0)]), (9, [(2, 0, 40, 0), (1, 2, 0, 0), (1, 4, 0, 0)]), (24, [(1, 3, 0, 0), (1, 4, 0, 0), (1, 5, 0, 0)]), (163, [(2, 0, 40, 0), (1, 5, 0, 0), (1, 6, 0, 0)])], (0, 0, 0), [], [], ([], [(189, [(2, 0, 40, 0), (1, 1, 0, 0), (1, 2, 0, 0), (1, 6, 0, 0)])]), ([], []))
set_option maxRecDepth 100000 in
theorem l_fo1 (g : GG) : LOK Yt (PSt g) t_fo1 := by
  intro ρ α Γ M as hT hB hA hP
  have g0 : Γ (α 0) = 40 := tyAt hA (i := 0) rfl
  have b1 : 0 ≤ ρ 1 ∧ ρ 1 ≤ 143 := hB 1
  have b2 : 0 ≤ ρ 2 ∧ ρ 2 ≤ 143 := hB 2
  have b3 : -2147483648 ≤ ρ 3 ∧ ρ 3 ≤ 2147483647 := hB 3
  have b4 : -2147483648 ≤ ρ 4 ∧ ρ 4 ≤ 2147483647 := hB 4
  have b5 : -2147483648 ≤ ρ 5 ∧ ρ 5 ≤ 2147483647 := hB 5
  have b6 : -2147483648 ≤ ρ 6 ∧ ρ 6 ≤ 2147483647 := hB 6
  have h0 : nwE Γ M (α 0) fun r c => ρ 3 + 0 = (ρ 1 + 0) / c := hP _ (List.mem_of_getElem? (i := 0) rfl)
  have h1 : nwE Γ M (α 0) fun r c => ρ 4 + 0 = (ρ 2 + 0) / c := hP _ (List.mem_of_getElem? (i := 1) rfl)
  have h2 : ρ 5 + 0 = wI ((ρ 3 + 0) - (ρ 4 + 0)) := hP _ (List.mem_of_getElem? (i := 2) rfl)
  have h3 : Γ (α 0) = 40 ∧ tyO Γ M (α 0) [] ∧ Q163 g  (clp [] (M.2.2.2.2 (α 0))) (ρ 5 + 0) (ρ 6 + 0) := hP _ (List.mem_of_getElem? (i := 3) rfl)
  try simp only [Int.add_zero] at h0 h1 h2 h3
  have key : (Γ (α 0) = 40 ∧ tyO Γ M (α 0) [(1, 41, [(1, 2)])] ∧ Q189 g (vw M (α 0) 1 [(1, 2)]) (clp [] (M.2.2.2.2 (α 0))) (ρ 1 + 0) (ρ 2 + 0) (ρ 6 + 0)) ∧ True := by
    try simp only [Int.add_zero]
    have a := nwF h0
    have b := nwF h1
    have d := nwD hT g0
    obtain ⟨-, -, -, -, -, p1, p2⟩ := dm (p := ρ 1) b1.1 (show 0 < ((M.2.2.2.2 (fl M (α 0) 1)) 1 + 4) by omega)
    obtain ⟨-, -, -, -, -, q1, q2⟩ := dm (p := ρ 2) b2.1 (show 0 < ((M.2.2.2.2 (fl M (α 0) 1)) 1 + 4) by omega)
    rw [← a] at p1 p2
    rw [← b] at q1 q2
    rw [wI_id (by unfold inI; omega)] at h2
    have e : ρ 6 = abN (ρ 5) := h3.2.2
    refine ⟨⟨g0, tyO_of hT g0 (by decide) (by decide), ?_⟩, trivial⟩
    show ρ 6 = abN (ρ 1 / ((clp [(1, 2)] (M.2.2.2.2 (fl M (α 0) 1))) 1 + 4) - ρ 2 / ((clp [(1, 2)] (M.2.2.2.2 (fl M (α 0) 1))) 1 + 4))
    rw [c11, e, h2, a, b]
  exact ⟨nB, qB (key.1) (nB)⟩
def t_fo2 : KT := ((0, 0, 0, 0), [(2, 0, 40, 0), (1, 1, 0, 0), (1, 2, 0, 0), (1, 3, 0, 0), (1, 4, 0, 0), (1, 5, 0, 0), (1, 6, 0, 0), (1, 7, 0, 0), (1, 8, 0, 0)], [(0, 0), (0, 143), (0, 143), (0, 2000), (-2147483648, 2147483647), (-2147483648, 2147483647), (-2147483648, 2147483647), (0, 2000), (-2147483648, 2147483647)], [(189, [(2, 0, 40, 0), (1, 1, 0, 0), (1, 2, 0, 0), (1, 3, 0, 0)]), (96, [(2, 0, 40, 0), (1, 1, 0, 0), (1, 4, 0, 0)]), (96, [(2, 0, 40, 0), (1, 2, 0, 0), (1, 5, 0, 0)]), (24, [(1, 4, 0, 0), (1, 5, 0, 0), (1, 6, 0, 0)]), (163, [(2, 0, 40, 0), (1, 6, 0, 0), (1, 7, 0, 0)]), (23, [(1, 3, 0, 0), (1, 7, 0, 0), (1, 8, 0, 0)])], (0, 0, 0), [], [], ([], [(151, [(2, 0, 40, 0), (1, 1, 0, 0), (1, 2, 0, 0), (1, 8, 0, 0)])]), ([], []))
set_option maxRecDepth 100000 in
theorem l_fo2 (g : GG) : LOK Yt (PSt g) t_fo2 := by
  intro ρ α Γ M as hT hB hA hP
  have g0 : Γ (α 0) = 40 := tyAt hA (i := 0) rfl
  have b1 : 0 ≤ ρ 1 ∧ ρ 1 ≤ 143 := hB 1
  have b2 : 0 ≤ ρ 2 ∧ ρ 2 ≤ 143 := hB 2
  have b3 : 0 ≤ ρ 3 ∧ ρ 3 ≤ 2000 := hB 3
  have b4 : -2147483648 ≤ ρ 4 ∧ ρ 4 ≤ 2147483647 := hB 4
  have b5 : -2147483648 ≤ ρ 5 ∧ ρ 5 ≤ 2147483647 := hB 5
  have b6 : -2147483648 ≤ ρ 6 ∧ ρ 6 ≤ 2147483647 := hB 6
  have b7 : 0 ≤ ρ 7 ∧ ρ 7 ≤ 2000 := hB 7
  have b8 : -2147483648 ≤ ρ 8 ∧ ρ 8 ≤ 2147483647 := hB 8
  have h0 : Γ (α 0) = 40 ∧ tyO Γ M (α 0) [(1, 41, [(1, 2)])] ∧ Q189 g (vw M (α 0) 1 [(1, 2)]) (clp [] (M.2.2.2.2 (α 0))) (ρ 1 + 0) (ρ 2 + 0) (ρ 3 + 0) := hP _ (List.mem_of_getElem? (i := 0) rfl)
  have h1 : nwE Γ M (α 0) fun r c => ρ 4 + 0 = (ρ 1 + 0) % c := hP _ (List.mem_of_getElem? (i := 1) rfl)
  have h2 : nwE Γ M (α 0) fun r c => ρ 5 + 0 = (ρ 2 + 0) % c := hP _ (List.mem_of_getElem? (i := 2) rfl)
  have h3 : ρ 6 + 0 = wI ((ρ 4 + 0) - (ρ 5 + 0)) := hP _ (List.mem_of_getElem? (i := 3) rfl)
  have h4 : Γ (α 0) = 40 ∧ tyO Γ M (α 0) [] ∧ Q163 g  (clp [] (M.2.2.2.2 (α 0))) (ρ 6 + 0) (ρ 7 + 0) := hP _ (List.mem_of_getElem? (i := 4) rfl)
  have h5 : ρ 8 + 0 = wI ((ρ 3 + 0) + (ρ 7 + 0)) := hP _ (List.mem_of_getElem? (i := 5) rfl)
  try simp only [Int.add_zero] at h0 h1 h2 h3 h4 h5
  have key : (Γ (α 0) = 40 ∧ tyO Γ M (α 0) [(1, 41, [(1, 2)])] ∧ Q151 g (vw M (α 0) 1 [(1, 2)]) (clp [] (M.2.2.2.2 (α 0))) (ρ 1 + 0) (ρ 2 + 0) (ρ 8 + 0)) ∧ True := by
    try simp only [Int.add_zero]
    have a := nwF h1
    have b := nwF h2
    have d := nwD hT g0
    have p1 := Int.emod_nonneg (ρ 1) (show ((M.2.2.2.2 (fl M (α 0) 1)) 1 + 4) ≠ 0 by omega)
    have p2 := Int.emod_lt_of_pos (ρ 1) (show 0 < ((M.2.2.2.2 (fl M (α 0) 1)) 1 + 4) by omega)
    have q1 := Int.emod_nonneg (ρ 2) (show ((M.2.2.2.2 (fl M (α 0) 1)) 1 + 4) ≠ 0 by omega)
    have q2 := Int.emod_lt_of_pos (ρ 2) (show 0 < ((M.2.2.2.2 (fl M (α 0) 1)) 1 + 4) by omega)
    rw [← a] at p1 p2
    rw [← b] at q1 q2
    rw [wI_id (by unfold inI; omega)] at h3
    rw [wI_id (by unfold inI; omega)] at h5
    have e : ρ 7 = abN (ρ 6) := h4.2.2
    have e0 : ρ 3 = abN (ρ 1 / ((clp [(1, 2)] (M.2.2.2.2 (fl M (α 0) 1))) 1 + 4) - ρ 2 / ((clp [(1, 2)] (M.2.2.2.2 (fl M (α 0) 1))) 1 + 4)) := h0.2.2
    refine ⟨⟨g0, tyO_of hT g0 (by decide) (by decide), ?_⟩, trivial⟩
    show ρ 8 = foF ((clp [(1, 2)] (M.2.2.2.2 (fl M (α 0) 1))) 1 + 4) (ρ 1) (ρ 2)
    unfold foF
    rw [← e0, c11, h5, e, h3, a, b]
  exact ⟨nB, qB (key.1) (nB)⟩
def t_ts0 : KT := ((0, 0, 0, 0), [(2, 0, 40, 0), (1, 1, 0, 0), (1, 2, 0, 0), (1, 3, 0, 0)], [(0, 0), (0, 143), (0, 0), (-2147483648, 2147483647)], [(9, [(2, 0, 40, 0), (1, 1, 0, 0), (1, 3, 0, 0)])], (0, 0, 0), [], [], ([], [(164, [(2, 0, 40, 0), (1, 1, 0, 0), (1, 2, 0, 0), (1, 3, 0, 1)])]), ([], []))
set_option maxRecDepth 100000 in
theorem l_ts0 (g : GG) : LOK Yt (PSt g) t_ts0 := by
  intro ρ α Γ M as hT hB hA hP
  have g0 : Γ (α 0) = 40 := tyAt hA (i := 0) rfl
  have b1 : 0 ≤ ρ 1 ∧ ρ 1 ≤ 143 := hB 1
  have b2 : 0 ≤ ρ 2 ∧ ρ 2 ≤ 0 := hB 2
  have b3 : -2147483648 ≤ ρ 3 ∧ ρ 3 ≤ 2147483647 := hB 3
  have h0 : nwE Γ M (α 0) fun r c => ρ 3 + 0 = (ρ 1 + 0) / c := hP _ (List.mem_of_getElem? (i := 0) rfl)
  try simp only [Int.add_zero] at h0
  have key : (Γ (α 0) = 40 ∧ tyO Γ M (α 0) [(1, 41, [(0, 2)])] ∧ Q164 g (vw M (α 0) 1 [(0, 2)]) (clp [] (M.2.2.2.2 (α 0))) (ρ 1 + 0) (ρ 2 + 0) (ρ 3 + 1)) ∧ True := by
    try simp only [Int.add_zero]
    have a := nwF h0
    refine ⟨⟨g0, tyO_of hT g0 (by decide) (by decide), ?_⟩, trivial⟩
    show ρ 3 + 1 = tsF ((clp [(0, 2)] (M.2.2.2.2 (fl M (α 0) 1))) 0 + 4) ((clp [(0, 2)] (M.2.2.2.2 (fl M (α 0) 1))) 1 + 4) (ρ 1) (ρ 2)
    rw [rc0, rc1']
    unfold tsF
    rw [if_pos (by omega), ← a]
  exact ⟨nB, qB (key.1) (nB)⟩
def t_ts1 : KT := ((0, 0, 0, 0), [(2, 0, 40, 0), (1, 1, 0, 0), (1, 2, 0, 0), (1, 3, 0, 0), (1, 4, 0, 0), (1, 5, 0, 0)], [(0, 0), (0, 143), (1, 1), (-2147483648, 2147483647), (-2147483648, 2147483647), (-2147483648, 2147483647)], [(9, [(2, 0, 40, 0), (1, 1, 0, 0), (1, 3, 0, 0)]), (93, [(2, 0, 40, 0), (1, 4, 0, 0)]), (24, [(1, 4, 0, -1), (1, 3, 0, 0), (1, 5, 0, 0)])], (0, 0, 0), [], [], ([], [(164, [(2, 0, 40, 0), (1, 1, 0, 0), (1, 2, 0, 0), (1, 5, 0, 0)])]), ([], []))
set_option maxRecDepth 100000 in
theorem l_ts1 (g : GG) : LOK Yt (PSt g) t_ts1 := by
  intro ρ α Γ M as hT hB hA hP
  have g0 : Γ (α 0) = 40 := tyAt hA (i := 0) rfl
  have b1 : 0 ≤ ρ 1 ∧ ρ 1 ≤ 143 := hB 1
  have b2 : 1 ≤ ρ 2 ∧ ρ 2 ≤ 1 := hB 2
  have b3 : -2147483648 ≤ ρ 3 ∧ ρ 3 ≤ 2147483647 := hB 3
  have b4 : -2147483648 ≤ ρ 4 ∧ ρ 4 ≤ 2147483647 := hB 4
  have b5 : -2147483648 ≤ ρ 5 ∧ ρ 5 ≤ 2147483647 := hB 5
  have h0 : nwE Γ M (α 0) fun r c => ρ 3 + 0 = (ρ 1 + 0) / c := hP _ (List.mem_of_getElem? (i := 0) rfl)
  have h1 : nwE Γ M (α 0) fun r c => ρ 4 + 0 = r := hP _ (List.mem_of_getElem? (i := 1) rfl)
  have h2 : ρ 5 + 0 = wI ((ρ 4 + (-1)) - (ρ 3 + 0)) := hP _ (List.mem_of_getElem? (i := 2) rfl)
  try simp only [Int.add_zero] at h0 h1 h2
  have key : (Γ (α 0) = 40 ∧ tyO Γ M (α 0) [(1, 41, [(0, 2)])] ∧ Q164 g (vw M (α 0) 1 [(0, 2)]) (clp [] (M.2.2.2.2 (α 0))) (ρ 1 + 0) (ρ 2 + 0) (ρ 5 + 0)) ∧ True := by
    try simp only [Int.add_zero]
    have a := nwF h0
    have b := nwF h1
    have d := nwD hT g0
    obtain ⟨-, -, -, -, -, p1, p2⟩ := dm (p := ρ 1) b1.1 (show 0 < ((M.2.2.2.2 (fl M (α 0) 1)) 1 + 4) by omega)
    rw [← a] at p1 p2
    rw [wI_id (by unfold inI; omega)] at h2
    refine ⟨⟨g0, tyO_of hT g0 (by decide) (by decide), ?_⟩, trivial⟩
    show ρ 5 = tsF ((clp [(0, 2)] (M.2.2.2.2 (fl M (α 0) 1))) 0 + 4) ((clp [(0, 2)] (M.2.2.2.2 (fl M (α 0) 1))) 1 + 4) (ρ 1) (ρ 2)
    rw [rc0, rc1']
    unfold tsF
    rw [if_neg (by omega), if_pos (by omega), ← a, ← b, h2]
    omega
  exact ⟨nB, qB (key.1) (nB)⟩
def t_ts2 : KT := ((0, 0, 0, 0), [(2, 0, 40, 0), (1, 1, 0, 0), (1, 2, 0, 0), (1, 3, 0, 0)], [(0, 0), (0, 143), (2, 2), (-2147483648, 2147483647)], [(96, [(2, 0, 40, 0), (1, 1, 0, 0), (1, 3, 0, 0)])], (0, 0, 0), [], [], ([], [(164, [(2, 0, 40, 0), (1, 1, 0, 0), (1, 2, 0, 0), (1, 3, 0, 1)])]), ([], []))
set_option maxRecDepth 100000 in
theorem l_ts2 (g : GG) : LOK Yt (PSt g) t_ts2 := by
  intro ρ α Γ M as hT hB hA hP
  have g0 : Γ (α 0) = 40 := tyAt hA (i := 0) rfl
  have b1 : 0 ≤ ρ 1 ∧ ρ 1 ≤ 143 := hB 1
  have b2 : 2 ≤ ρ 2 ∧ ρ 2 ≤ 2 := hB 2
  have b3 : -2147483648 ≤ ρ 3 ∧ ρ 3 ≤ 2147483647 := hB 3
  have h0 : nwE Γ M (α 0) fun r c => ρ 3 + 0 = (ρ 1 + 0) % c := hP _ (List.mem_of_getElem? (i := 0) rfl)
  try simp only [Int.add_zero] at h0
  have key : (Γ (α 0) = 40 ∧ tyO Γ M (α 0) [(1, 41, [(0, 2)])] ∧ Q164 g (vw M (α 0) 1 [(0, 2)]) (clp [] (M.2.2.2.2 (α 0))) (ρ 1 + 0) (ρ 2 + 0) (ρ 3 + 1)) ∧ True := by
    try simp only [Int.add_zero]
    have a := nwF h0
    refine ⟨⟨g0, tyO_of hT g0 (by decide) (by decide), ?_⟩, trivial⟩
    show ρ 3 + 1 = tsF ((clp [(0, 2)] (M.2.2.2.2 (fl M (α 0) 1))) 0 + 4) ((clp [(0, 2)] (M.2.2.2.2 (fl M (α 0) 1))) 1 + 4) (ρ 1) (ρ 2)
    rw [rc0, rc1']
    unfold tsF
    rw [if_neg (by omega), if_neg (by omega), if_pos (by omega), ← a]
  exact ⟨nB, qB (key.1) (nB)⟩
def t_ts3 : KT := ((0, 0, 0, 0), [(2, 0, 40, 0), (1, 1, 0, 0), (1, 2, 0, 0), (1, 3, 0, 0), (1, 4, 0, 0), (1, 5, 0, 0)], [(0, 0), (0, 143), (3, 3), (-2147483648, 2147483647), (-2147483648, 2147483647), (-2147483648, 2147483647)], [(96, [(2, 0, 40, 0), (1, 1, 0, 0), (1, 3, 0, 0)]), (8, [(2, 0, 40, 0), (1, 4, 0, 0)]), (24, [(1, 4, 0, -1), (1, 3, 0, 0), (1, 5, 0, 0)])], (0, 0, 0), [], [], ([], [(164, [(2, 0, 40, 0), (1, 1, 0, 0), (1, 2, 0, 0), (1, 5, 0, 0)])]), ([], []))
set_option maxRecDepth 100000 in
theorem l_ts3 (g : GG) : LOK Yt (PSt g) t_ts3 := by
  intro ρ α Γ M as hT hB hA hP
  have g0 : Γ (α 0) = 40 := tyAt hA (i := 0) rfl
  have b1 : 0 ≤ ρ 1 ∧ ρ 1 ≤ 143 := hB 1
  have b2 : 3 ≤ ρ 2 ∧ ρ 2 ≤ 3 := hB 2
  have b3 : -2147483648 ≤ ρ 3 ∧ ρ 3 ≤ 2147483647 := hB 3
  have b4 : -2147483648 ≤ ρ 4 ∧ ρ 4 ≤ 2147483647 := hB 4
  have b5 : -2147483648 ≤ ρ 5 ∧ ρ 5 ≤ 2147483647 := hB 5
  have h0 : nwE Γ M (α 0) fun r c => ρ 3 + 0 = (ρ 1 + 0) % c := hP _ (List.mem_of_getElem? (i := 0) rfl)
  have h1 : nwE Γ M (α 0) fun r c => ρ 4 + 0 = c := hP _ (List.mem_of_getElem? (i := 1) rfl)
  have h2 : ρ 5 + 0 = wI ((ρ 4 + (-1)) - (ρ 3 + 0)) := hP _ (List.mem_of_getElem? (i := 2) rfl)
  try simp only [Int.add_zero] at h0 h1 h2
  have key : (Γ (α 0) = 40 ∧ tyO Γ M (α 0) [(1, 41, [(0, 2)])] ∧ Q164 g (vw M (α 0) 1 [(0, 2)]) (clp [] (M.2.2.2.2 (α 0))) (ρ 1 + 0) (ρ 2 + 0) (ρ 5 + 0)) ∧ True := by
    try simp only [Int.add_zero]
    have a := nwF h0
    have b := nwF h1
    have d := nwD hT g0
    have p1 := Int.emod_nonneg (ρ 1) (show ((M.2.2.2.2 (fl M (α 0) 1)) 1 + 4) ≠ 0 by omega)
    have p2 := Int.emod_lt_of_pos (ρ 1) (show 0 < ((M.2.2.2.2 (fl M (α 0) 1)) 1 + 4) by omega)
    rw [← a] at p1 p2
    rw [wI_id (by unfold inI; omega)] at h2
    refine ⟨⟨g0, tyO_of hT g0 (by decide) (by decide), ?_⟩, trivial⟩
    show ρ 5 = tsF ((clp [(0, 2)] (M.2.2.2.2 (fl M (α 0) 1))) 0 + 4) ((clp [(0, 2)] (M.2.2.2.2 (fl M (α 0) 1))) 1 + 4) (ρ 1) (ρ 2)
    rw [rc0, rc1']
    unfold tsF
    rw [if_neg (by omega), if_neg (by omega), if_neg (by omega), ← a, ← b, h2]
    omega
  exact ⟨nB, qB (key.1) (nB)⟩
def t_ns0 : KT := ((0, 0, 0, 0), [(2, 0, 40, 0), (1, 1, 0, 0), (1, 2, 0, 0), (1, 3, 0, 0)], [(0, 0), (0, 143), (0, 0), (1, 1)], [], (0, 0, 0), [], [], ([], [(165, [(2, 0, 40, 0), (1, 1, 0, 0), (1, 2, 0, 0), (1, 3, 0, 0)])]), ([], []))
set_option maxRecDepth 100000 in
theorem l_ns0 (g : GG) : LOK Yt (PSt g) t_ns0 := by
  intro ρ α Γ M as hT hB hA hP
  have g0 : Γ (α 0) = 40 := tyAt hA (i := 0) rfl
  have b1 : 0 ≤ ρ 1 ∧ ρ 1 ≤ 143 := hB 1
  have b2 : 0 ≤ ρ 2 ∧ ρ 2 ≤ 0 := hB 2
  have b3 : 1 ≤ ρ 3 ∧ ρ 3 ≤ 1 := hB 3
  have key : (Γ (α 0) = 40 ∧ tyO Γ M (α 0) [(1, 41, [(0, 2)])] ∧ Q165 g (vw M (α 0) 1 [(0, 2)]) (clp [] (M.2.2.2.2 (α 0))) (ρ 1 + 0) (ρ 2 + 0) (ρ 3 + 0)) ∧ True := by
    try simp only [Int.add_zero]
    refine ⟨⟨g0, tyO_of hT g0 (by decide) (by decide), ⟨by omega, by omega⟩, fun t h1 h2 => ?_⟩, trivial⟩
    rw [show t = ρ 2 by omega]
    exact Int.le_refl _
  exact ⟨nB, qB (key.1) (nB)⟩
def t_ns1 : KT := ((0, 0, 0, 0), [(2, 0, 40, 0), (1, 1, 0, 0), (1, 2, 0, 0), (1, 3, 0, 0), (1, 4, 0, 0), (1, 5, 0, 0)], [(0, 0), (0, 143), (0, 3), (1, 3), (-2147483648, 2147483647), (-2147483648, 2147483647)], [(164, [(2, 0, 40, 0), (1, 1, 0, 0), (1, 3, 0, 0), (1, 4, 0, 0)]), (164, [(2, 0, 40, 0), (1, 1, 0, 0), (1, 2, 0, 0), (1, 5, 0, 0)]), (165, [(2, 0, 40, 0), (1, 1, 0, 0), (1, 2, 0, 0), (1, 3, 0, 0)]), (21, [(1, 4, 0, 0), (1, 5, 0, 0)])], (0, 0, 0), [], [], ([], [(165, [(2, 0, 40, 0), (1, 1, 0, 0), (1, 3, 0, 0), (1, 3, 0, 1)])]), ([], []))
set_option maxRecDepth 100000 in
theorem l_ns1 (g : GG) : LOK Yt (PSt g) t_ns1 := by
  intro ρ α Γ M as hT hB hA hP
  have g0 : Γ (α 0) = 40 := tyAt hA (i := 0) rfl
  have b1 : 0 ≤ ρ 1 ∧ ρ 1 ≤ 143 := hB 1
  have b2 : 0 ≤ ρ 2 ∧ ρ 2 ≤ 3 := hB 2
  have b3 : 1 ≤ ρ 3 ∧ ρ 3 ≤ 3 := hB 3
  have b4 : -2147483648 ≤ ρ 4 ∧ ρ 4 ≤ 2147483647 := hB 4
  have b5 : -2147483648 ≤ ρ 5 ∧ ρ 5 ≤ 2147483647 := hB 5
  have h0 : Γ (α 0) = 40 ∧ tyO Γ M (α 0) [(1, 41, [(0, 2)])] ∧ Q164 g (vw M (α 0) 1 [(0, 2)]) (clp [] (M.2.2.2.2 (α 0))) (ρ 1 + 0) (ρ 3 + 0) (ρ 4 + 0) := hP _ (List.mem_of_getElem? (i := 0) rfl)
  have h1 : Γ (α 0) = 40 ∧ tyO Γ M (α 0) [(1, 41, [(0, 2)])] ∧ Q164 g (vw M (α 0) 1 [(0, 2)]) (clp [] (M.2.2.2.2 (α 0))) (ρ 1 + 0) (ρ 2 + 0) (ρ 5 + 0) := hP _ (List.mem_of_getElem? (i := 1) rfl)
  have h2 : Γ (α 0) = 40 ∧ tyO Γ M (α 0) [(1, 41, [(0, 2)])] ∧ Q165 g (vw M (α 0) 1 [(0, 2)]) (clp [] (M.2.2.2.2 (α 0))) (ρ 1 + 0) (ρ 2 + 0) (ρ 3 + 0) := hP _ (List.mem_of_getElem? (i := 2) rfl)
  have h3 : ρ 4 + 0 < ρ 5 + 0 := hP _ (List.mem_of_getElem? (i := 3) rfl)
  try simp only [Int.add_zero] at h0 h1 h2 h3
  have key : (Γ (α 0) = 40 ∧ tyO Γ M (α 0) [(1, 41, [(0, 2)])] ∧ Q165 g (vw M (α 0) 1 [(0, 2)]) (clp [] (M.2.2.2.2 (α 0))) (ρ 1 + 0) (ρ 3 + 0) (ρ 3 + 1)) ∧ True := by
    try simp only [Int.add_zero]
    have z1 : ρ 4 = tsF ((clp [(0, 2)] (M.2.2.2.2 (fl M (α 0) 1))) 0 + 4) ((clp [(0, 2)] (M.2.2.2.2 (fl M (α 0) 1))) 1 + 4) (ρ 1) (ρ 3) := h0.2.2
    have z2 : ρ 5 = tsF ((clp [(0, 2)] (M.2.2.2.2 (fl M (α 0) 1))) 0 + 4) ((clp [(0, 2)] (M.2.2.2.2 (fl M (α 0) 1))) 1 + 4) (ρ 1) (ρ 2) := h1.2.2
    obtain ⟨-, -, hb, h⟩ := h2
    have h : ∀ t : Int, 0 ≤ t → t < ρ 3 → tsF ((clp [(0, 2)] (M.2.2.2.2 (fl M (α 0) 1))) 0 + 4) ((clp [(0, 2)] (M.2.2.2.2 (fl M (α 0) 1))) 1 + 4) (ρ 1) (ρ 2) ≤ tsF ((clp [(0, 2)] (M.2.2.2.2 (fl M (α 0) 1))) 0 + 4) ((clp [(0, 2)] (M.2.2.2.2 (fl M (α 0) 1))) 1 + 4) (ρ 1) t := h
    refine ⟨⟨g0, tyO_of hT g0 (by decide) (by decide), ⟨by omega, by omega⟩, fun t h1 h2 => ?_⟩, trivial⟩
    show tsF ((clp [(0, 2)] (M.2.2.2.2 (fl M (α 0) 1))) 0 + 4) ((clp [(0, 2)] (M.2.2.2.2 (fl M (α 0) 1))) 1 + 4) (ρ 1) (ρ 3) ≤ tsF ((clp [(0, 2)] (M.2.2.2.2 (fl M (α 0) 1))) 0 + 4) ((clp [(0, 2)] (M.2.2.2.2 (fl M (α 0) 1))) 1 + 4) (ρ 1) t
    by_cases hc : t < ρ 3
    · have := h t h1 hc
      omega
    · rw [show t = ρ 3 by omega]
      exact Int.le_refl _
  exact ⟨nB, qB (key.1) (nB)⟩
def t_ns2 : KT := ((0, 0, 0, 0), [(2, 0, 40, 0), (1, 1, 0, 0), (1, 2, 0, 0), (1, 3, 0, 0), (1, 4, 0, 0), (1, 5, 0, 0)], [(0, 0), (0, 143), (0, 3), (1, 3), (-2147483648, 2147483647), (-2147483648, 2147483647)], [(164, [(2, 0, 40, 0), (1, 1, 0, 0), (1, 3, 0, 0), (1, 4, 0, 0)]), (164, [(2, 0, 40, 0), (1, 1, 0, 0), (1, 2, 0, 0), (1, 5, 0, 0)]), (165, [(2, 0, 40, 0), (1, 1, 0, 0), (1, 2, 0, 0), (1, 3, 0, 0)]), (6, [(1, 5, 0, 0), (1, 4, 0, 0)])], (0, 0, 0), [], [], ([], [(165, [(2, 0, 40, 0), (1, 1, 0, 0), (1, 2, 0, 0), (1, 3, 0, 1)])]), ([], []))
set_option maxRecDepth 100000 in
theorem l_ns2 (g : GG) : LOK Yt (PSt g) t_ns2 := by
  intro ρ α Γ M as hT hB hA hP
  have g0 : Γ (α 0) = 40 := tyAt hA (i := 0) rfl
  have b1 : 0 ≤ ρ 1 ∧ ρ 1 ≤ 143 := hB 1
  have b2 : 0 ≤ ρ 2 ∧ ρ 2 ≤ 3 := hB 2
  have b3 : 1 ≤ ρ 3 ∧ ρ 3 ≤ 3 := hB 3
  have b4 : -2147483648 ≤ ρ 4 ∧ ρ 4 ≤ 2147483647 := hB 4
  have b5 : -2147483648 ≤ ρ 5 ∧ ρ 5 ≤ 2147483647 := hB 5
  have h0 : Γ (α 0) = 40 ∧ tyO Γ M (α 0) [(1, 41, [(0, 2)])] ∧ Q164 g (vw M (α 0) 1 [(0, 2)]) (clp [] (M.2.2.2.2 (α 0))) (ρ 1 + 0) (ρ 3 + 0) (ρ 4 + 0) := hP _ (List.mem_of_getElem? (i := 0) rfl)
  have h1 : Γ (α 0) = 40 ∧ tyO Γ M (α 0) [(1, 41, [(0, 2)])] ∧ Q164 g (vw M (α 0) 1 [(0, 2)]) (clp [] (M.2.2.2.2 (α 0))) (ρ 1 + 0) (ρ 2 + 0) (ρ 5 + 0) := hP _ (List.mem_of_getElem? (i := 1) rfl)
  have h2 : Γ (α 0) = 40 ∧ tyO Γ M (α 0) [(1, 41, [(0, 2)])] ∧ Q165 g (vw M (α 0) 1 [(0, 2)]) (clp [] (M.2.2.2.2 (α 0))) (ρ 1 + 0) (ρ 2 + 0) (ρ 3 + 0) := hP _ (List.mem_of_getElem? (i := 2) rfl)
  have h3 : ρ 5 + 0 ≤ ρ 4 + 0 := hP _ (List.mem_of_getElem? (i := 3) rfl)
  try simp only [Int.add_zero] at h0 h1 h2 h3
  have key : (Γ (α 0) = 40 ∧ tyO Γ M (α 0) [(1, 41, [(0, 2)])] ∧ Q165 g (vw M (α 0) 1 [(0, 2)]) (clp [] (M.2.2.2.2 (α 0))) (ρ 1 + 0) (ρ 2 + 0) (ρ 3 + 1)) ∧ True := by
    try simp only [Int.add_zero]
    have z1 : ρ 4 = tsF ((clp [(0, 2)] (M.2.2.2.2 (fl M (α 0) 1))) 0 + 4) ((clp [(0, 2)] (M.2.2.2.2 (fl M (α 0) 1))) 1 + 4) (ρ 1) (ρ 3) := h0.2.2
    have z2 : ρ 5 = tsF ((clp [(0, 2)] (M.2.2.2.2 (fl M (α 0) 1))) 0 + 4) ((clp [(0, 2)] (M.2.2.2.2 (fl M (α 0) 1))) 1 + 4) (ρ 1) (ρ 2) := h1.2.2
    obtain ⟨-, -, hb, h⟩ := h2
    have h : ∀ t : Int, 0 ≤ t → t < ρ 3 → tsF ((clp [(0, 2)] (M.2.2.2.2 (fl M (α 0) 1))) 0 + 4) ((clp [(0, 2)] (M.2.2.2.2 (fl M (α 0) 1))) 1 + 4) (ρ 1) (ρ 2) ≤ tsF ((clp [(0, 2)] (M.2.2.2.2 (fl M (α 0) 1))) 0 + 4) ((clp [(0, 2)] (M.2.2.2.2 (fl M (α 0) 1))) 1 + 4) (ρ 1) t := h
    refine ⟨⟨g0, tyO_of hT g0 (by decide) (by decide), ⟨by omega, by omega⟩, fun t h1 h2 => ?_⟩, trivial⟩
    show tsF ((clp [(0, 2)] (M.2.2.2.2 (fl M (α 0) 1))) 0 + 4) ((clp [(0, 2)] (M.2.2.2.2 (fl M (α 0) 1))) 1 + 4) (ρ 1) (ρ 2) ≤ tsF ((clp [(0, 2)] (M.2.2.2.2 (fl M (α 0) 1))) 0 + 4) ((clp [(0, 2)] (M.2.2.2.2 (fl M (α 0) 1))) 1 + 4) (ρ 1) t
    by_cases hc : t < ρ 3
    · exact h t h1 hc
    · rw [show t = ρ 3 by omega]
      omega
  exact ⟨nB, qB (key.1) (nB)⟩
def t_ns3 : KT := ((0, 0, 0, 0), [(2, 0, 40, 0), (1, 1, 0, 0), (1, 2, 0, 0), (1, 3, 0, 0)], [(0, 0), (0, 143), (-2147483648, 2147483647), (4, 4)], [(165, [(2, 0, 40, 0), (1, 1, 0, 0), (1, 2, 0, 0), (1, 3, 0, 0)])], (0, 0, 0), [], [], ([], [(165, [(2, 0, 40, 0), (1, 1, 0, 0), (1, 2, 0, 0), (0, 0, 0, 4)])]), ([], []))
set_option maxRecDepth 100000 in
theorem l_ns3 (g : GG) : LOK Yt (PSt g) t_ns3 := by
  intro ρ α Γ M as hT hB hA hP
  have g0 : Γ (α 0) = 40 := tyAt hA (i := 0) rfl
  have b1 : 0 ≤ ρ 1 ∧ ρ 1 ≤ 143 := hB 1
  have b2 : -2147483648 ≤ ρ 2 ∧ ρ 2 ≤ 2147483647 := hB 2
  have b3 : 4 ≤ ρ 3 ∧ ρ 3 ≤ 4 := hB 3
  have h0 : Γ (α 0) = 40 ∧ tyO Γ M (α 0) [(1, 41, [(0, 2)])] ∧ Q165 g (vw M (α 0) 1 [(0, 2)]) (clp [] (M.2.2.2.2 (α 0))) (ρ 1 + 0) (ρ 2 + 0) (ρ 3 + 0) := hP _ (List.mem_of_getElem? (i := 0) rfl)
  try simp only [Int.add_zero] at h0
  have key : (Γ (α 0) = 40 ∧ tyO Γ M (α 0) [(1, 41, [(0, 2)])] ∧ Q165 g (vw M (α 0) 1 [(0, 2)]) (clp [] (M.2.2.2.2 (α 0))) (ρ 1 + 0) (ρ 2 + 0) (4)) ∧ True := by
    try simp only [Int.add_zero]
    obtain ⟨-, -, hb, h⟩ := h0
    exact ⟨⟨g0, tyO_of hT g0 (by decide) (by decide), hb, fun t h1 h2 => h t h1 (by omega)⟩, trivial⟩
  exact ⟨nB, qB (key.1) (nB)⟩
def t_fb0 : KT := ((0, 0, 0, 0), [(2, 0, 40, 0), (1, 1, 0, 0), (1, 2, 0, 0), (1, 3, 0, 0)], [(0, 0), (0, 143), (-2147483648, 2147483647), (-2147483648, 2147483647)], [(164, [(2, 0, 40, 0), (1, 1, 0, 0), (1, 2, 0, 0), (1, 3, 0, 0)]), (165, [(2, 0, 40, 0), (1, 1, 0, 0), (1, 2, 0, 0), (0, 0, 0, 4)])], (0, 0, 0), [], [], ([], [(150, [(2, 0, 40, 0), (1, 1, 0, 0), (1, 3, 0, 0)])]), ([], []))
set_option maxRecDepth 100000 in
theorem l_fb0 (g : GG) : LOK Yt (PSt g) t_fb0 := by
  intro ρ α Γ M as hT hB hA hP
  have g0 : Γ (α 0) = 40 := tyAt hA (i := 0) rfl
  have b1 : 0 ≤ ρ 1 ∧ ρ 1 ≤ 143 := hB 1
  have b2 : -2147483648 ≤ ρ 2 ∧ ρ 2 ≤ 2147483647 := hB 2
  have b3 : -2147483648 ≤ ρ 3 ∧ ρ 3 ≤ 2147483647 := hB 3
  have h0 : Γ (α 0) = 40 ∧ tyO Γ M (α 0) [(1, 41, [(0, 2)])] ∧ Q164 g (vw M (α 0) 1 [(0, 2)]) (clp [] (M.2.2.2.2 (α 0))) (ρ 1 + 0) (ρ 2 + 0) (ρ 3 + 0) := hP _ (List.mem_of_getElem? (i := 0) rfl)
  have h1 : Γ (α 0) = 40 ∧ tyO Γ M (α 0) [(1, 41, [(0, 2)])] ∧ Q165 g (vw M (α 0) 1 [(0, 2)]) (clp [] (M.2.2.2.2 (α 0))) (ρ 1 + 0) (ρ 2 + 0) (4) := hP _ (List.mem_of_getElem? (i := 1) rfl)
  try simp only [Int.add_zero] at h0 h1
  have key : (Γ (α 0) = 40 ∧ tyO Γ M (α 0) [(1, 41, [(0, 2)])] ∧ Q150 g (vw M (α 0) 1 [(0, 2)]) (clp [] (M.2.2.2.2 (α 0))) (ρ 1 + 0) (ρ 3 + 0)) ∧ True := by
    try simp only [Int.add_zero]
    have z1 : ρ 3 = tsF ((clp [(0, 2)] (M.2.2.2.2 (fl M (α 0) 1))) 0 + 4) ((clp [(0, 2)] (M.2.2.2.2 (fl M (α 0) 1))) 1 + 4) (ρ 1) (ρ 2) := h0.2.2
    obtain ⟨-, -, hb, h⟩ := h1
    refine ⟨⟨g0, tyO_of hT g0 (by decide) (by decide), ?_⟩, trivial⟩
    show ρ 3 = fbF ((clp [(0, 2)] (M.2.2.2.2 (fl M (α 0) 1))) 0 + 4) ((clp [(0, 2)] (M.2.2.2.2 (fl M (α 0) 1))) 1 + 4) (ρ 1)
    rw [z1]
    exact fb_of hb.1 hb.2 h
  exact ⟨nB, qB (key.1) (nB)⟩
def t_lt1 : KT := ((0, 0, 0, 0), [(2, 0, 40, 0), (1, 1, 0, 0), (1, 2, 0, 0)], [(0, 0), (0, 0), (0, 0)], [], (0, 0, 0), [], [], ([], [(126, [(2, 0, 40, 0), (1, 1, 0, 0), (1, 2, 0, 0)])]), ([], []))
set_option maxRecDepth 100000 in
theorem l_lt1 (g : GG) : LOK Yt (PSt g) t_lt1 := by
  intro ρ α Γ M as hT hB hA hP
  have g0 : Γ (α 0) = 40 := tyAt hA (i := 0) rfl
  have b1 : 0 ≤ ρ 1 ∧ ρ 1 ≤ 0 := hB 1
  have b2 : 0 ≤ ρ 2 ∧ ρ 2 ≤ 0 := hB 2
  have key : (Γ (α 0) = 40 ∧ tyO Γ M (α 0) [(1, 41, [(0, 2), (10, 154), (298, 442)])] ∧ Q126 g (vw M (α 0) 1 [(0, 2), (10, 154), (298, 442)]) (clp [] (M.2.2.2.2 (α 0))) (ρ 1 + 0) (ρ 2 + 0)) ∧ True := by
    try simp only [Int.add_zero]
    refine ⟨⟨g0, tyO_of hT g0 (by decide) (by decide), ?_⟩, trivial⟩
    show ρ 2 = (cntT (clp [(0, 2), (10, 154), (298, 442)] (M.2.2.2.2 (fl M (α 0) 1))) (ρ 1).toNat : Int)
    rw [show (ρ 1).toNat = 0 by omega]
    show ρ 2 = 0
    omega
  exact ⟨nB, qB (key.1) (nB)⟩
def t_lt2 : KT := ((0, 0, 0, 0), [(2, 0, 40, 0), (1, 1, 0, 0), (1, 2, 0, 0), (1, 3, 0, 0)], [(0, 0), (0, 143), (-2147483648, 2147483647), (0, 0)], [(126, [(2, 0, 40, 0), (1, 1, 0, 0), (1, 2, 0, 0)]), (120, [(2, 0, 40, 0), (1, 1, 0, 0), (1, 3, 0, 0)])], (0, 0, 0), [], [], ([], [(126, [(2, 0, 40, 0), (1, 1, 0, 1), (1, 2, 0, 0)])]), ([], []))
set_option maxRecDepth 100000 in
theorem l_lt2 (g : GG) : LOK Yt (PSt g) t_lt2 := by
  intro ρ α Γ M as hT hB hA hP
  have g0 : Γ (α 0) = 40 := tyAt hA (i := 0) rfl
  have b1 : 0 ≤ ρ 1 ∧ ρ 1 ≤ 143 := hB 1
  have b2 : -2147483648 ≤ ρ 2 ∧ ρ 2 ≤ 2147483647 := hB 2
  have b3 : 0 ≤ ρ 3 ∧ ρ 3 ≤ 0 := hB 3
  have h0 : Γ (α 0) = 40 ∧ tyO Γ M (α 0) [(1, 41, [(0, 2), (10, 154), (298, 442)])] ∧ Q126 g (vw M (α 0) 1 [(0, 2), (10, 154), (298, 442)]) (clp [] (M.2.2.2.2 (α 0))) (ρ 1 + 0) (ρ 2 + 0) := hP _ (List.mem_of_getElem? (i := 0) rfl)
  have h1 : Γ (α 0) = 40 ∧ tyO Γ M (α 0) [(1, 41, [(0, 2), (10, 154), (298, 442)])] ∧ Q120 g (vw M (α 0) 1 [(0, 2), (10, 154), (298, 442)]) (clp [] (M.2.2.2.2 (α 0))) (ρ 1 + 0) (ρ 3 + 0) := hP _ (List.mem_of_getElem? (i := 1) rfl)
  try simp only [Int.add_zero] at h0 h1
  have key : (Γ (α 0) = 40 ∧ tyO Γ M (α 0) [(1, 41, [(0, 2), (10, 154), (298, 442)])] ∧ Q126 g (vw M (α 0) 1 [(0, 2), (10, 154), (298, 442)]) (clp [] (M.2.2.2.2 (α 0))) (ρ 1 + 1) (ρ 2 + 0)) ∧ True := by
    try simp only [Int.add_zero]
    have a : ρ 2 = (cntT (clp [(0, 2), (10, 154), (298, 442)] (M.2.2.2.2 (fl M (α 0) 1))) (ρ 1).toNat : Int) := h0.2.2
    have b : ρ 3 = chg (clp [(0, 2), (10, 154), (298, 442)] (M.2.2.2.2 (fl M (α 0) 1))) (ρ 1) := h1.2.2
    have q := cntT_s (clp [(0, 2), (10, 154), (298, 442)] (M.2.2.2.2 (fl M (α 0) 1))) (ρ 1).toNat
    rw [show (((ρ 1).toNat : Nat) : Int) = ρ 1 by omega] at q
    refine ⟨⟨g0, tyO_of hT g0 (by decide) (by decide), ?_⟩, trivial⟩
    show ρ 2 = (cntT (clp [(0, 2), (10, 154), (298, 442)] (M.2.2.2.2 (fl M (α 0) 1))) (ρ 1 + 1).toNat : Int)
    rw [show (ρ 1 + 1).toNat = (ρ 1).toNat + 1 by omega]
    rw [q.1 (by omega)]
    exact a
  exact ⟨nB, qB (key.1) (nB)⟩
def t_lt3 : KT := ((0, 0, 0, 0), [(2, 0, 40, 0), (1, 1, 0, 0), (1, 2, 0, 0), (1, 3, 0, 0)], [(0, 0), (0, 143), (-2147483648, 2147483647), (-2147483648, 2147483647)], [(126, [(2, 0, 40, 0), (1, 1, 0, 0), (1, 2, 0, -1)]), (120, [(2, 0, 40, 0), (1, 1, 0, 0), (1, 3, 0, 0)]), (99, [(1, 3, 0, 0), (0, 0, 0, 0), (0, 0, 0, 0)])], (0, 0, 0), [], [], ([], [(126, [(2, 0, 40, 0), (1, 1, 0, 1), (1, 2, 0, 0)])]), ([], []))
set_option maxRecDepth 100000 in
theorem l_lt3 (g : GG) : LOK Yt (PSt g) t_lt3 := by
  intro ρ α Γ M as hT hB hA hP
  have g0 : Γ (α 0) = 40 := tyAt hA (i := 0) rfl
  have b1 : 0 ≤ ρ 1 ∧ ρ 1 ≤ 143 := hB 1
  have b2 : -2147483648 ≤ ρ 2 ∧ ρ 2 ≤ 2147483647 := hB 2
  have b3 : -2147483648 ≤ ρ 3 ∧ ρ 3 ≤ 2147483647 := hB 3
  have h0 : Γ (α 0) = 40 ∧ tyO Γ M (α 0) [(1, 41, [(0, 2), (10, 154), (298, 442)])] ∧ Q126 g (vw M (α 0) 1 [(0, 2), (10, 154), (298, 442)]) (clp [] (M.2.2.2.2 (α 0))) (ρ 1 + 0) (ρ 2 + (-1)) := hP _ (List.mem_of_getElem? (i := 0) rfl)
  have h1 : Γ (α 0) = 40 ∧ tyO Γ M (α 0) [(1, 41, [(0, 2), (10, 154), (298, 442)])] ∧ Q120 g (vw M (α 0) 1 [(0, 2), (10, 154), (298, 442)]) (clp [] (M.2.2.2.2 (α 0))) (ρ 1 + 0) (ρ 3 + 0) := hP _ (List.mem_of_getElem? (i := 1) rfl)
  have h2 : (ρ 3 + 0 : Int) ≠ 0 := hP _ (List.mem_of_getElem? (i := 2) rfl)
  try simp only [Int.add_zero] at h0 h1 h2
  have key : (Γ (α 0) = 40 ∧ tyO Γ M (α 0) [(1, 41, [(0, 2), (10, 154), (298, 442)])] ∧ Q126 g (vw M (α 0) 1 [(0, 2), (10, 154), (298, 442)]) (clp [] (M.2.2.2.2 (α 0))) (ρ 1 + 1) (ρ 2 + 0)) ∧ True := by
    try simp only [Int.add_zero]
    have a : ρ 2 + (-1) = (cntT (clp [(0, 2), (10, 154), (298, 442)] (M.2.2.2.2 (fl M (α 0) 1))) (ρ 1).toNat : Int) := h0.2.2
    have b : ρ 3 = chg (clp [(0, 2), (10, 154), (298, 442)] (M.2.2.2.2 (fl M (α 0) 1))) (ρ 1) := h1.2.2
    have q := cntT_s (clp [(0, 2), (10, 154), (298, 442)] (M.2.2.2.2 (fl M (α 0) 1))) (ρ 1).toNat
    rw [show (((ρ 1).toNat : Nat) : Int) = ρ 1 by omega] at q
    refine ⟨⟨g0, tyO_of hT g0 (by decide) (by decide), ?_⟩, trivial⟩
    show ρ 2 = (cntT (clp [(0, 2), (10, 154), (298, 442)] (M.2.2.2.2 (fl M (α 0) 1))) (ρ 1 + 1).toNat : Int)
    rw [show (ρ 1 + 1).toNat = (ρ 1).toNat + 1 by omega]
    rw [q.2 (by omega)]
    omega
  exact ⟨nB, qB (key.1) (nB)⟩
def t_lt4 : KT := ((0, 0, 0, 0), [(2, 0, 40, 0), (1, 1, 0, 0), (1, 2, 0, 0), (1, 3, 0, 0)], [(0, 0), (0, 144), (-2147483648, 2147483647), (-2147483648, 2147483647)], [(126, [(2, 0, 40, 0), (1, 1, 0, 0), (1, 2, 0, 0)]), (10, [(2, 0, 40, 0), (0, 0, 0, 9), (1, 2, 0, 0)]), (94, [(2, 0, 40, 0), (1, 3, 0, 0)]), (6, [(1, 3, 0, 0), (1, 1, 0, 0)])], (0, 0, 0), [], [], ([], [(129, [(2, 0, 40, 0)])]), ([], []))
set_option maxRecDepth 100000 in
theorem l_lt4 (g : GG) : LOK Yt (PSt g) t_lt4 := by
  intro ρ α Γ M as hT hB hA hP
  have g0 : Γ (α 0) = 40 := tyAt hA (i := 0) rfl
  have b1 : 0 ≤ ρ 1 ∧ ρ 1 ≤ 144 := hB 1
  have b2 : -2147483648 ≤ ρ 2 ∧ ρ 2 ≤ 2147483647 := hB 2
  have b3 : -2147483648 ≤ ρ 3 ∧ ρ 3 ≤ 2147483647 := hB 3
  have h0 : Γ (α 0) = 40 ∧ tyO Γ M (α 0) [(1, 41, [(0, 2), (10, 154), (298, 442)])] ∧ Q126 g (vw M (α 0) 1 [(0, 2), (10, 154), (298, 442)]) (clp [] (M.2.2.2.2 (α 0))) (ρ 1 + 0) (ρ 2 + 0) := hP _ (List.mem_of_getElem? (i := 0) rfl)
  have h1 : 0 ≤ (9 : Int) ∧ M.2.2.2.2 (α 0) (9 : Int).toNat = ρ 2 + 0 := hP _ (List.mem_of_getElem? (i := 1) rfl)
  have h2 : nwE Γ M (α 0) fun r c => ρ 3 + 0 = r * c := hP _ (List.mem_of_getElem? (i := 2) rfl)
  have h3 : ρ 3 + 0 ≤ ρ 1 + 0 := hP _ (List.mem_of_getElem? (i := 3) rfl)
  try simp only [Int.add_zero] at h0 h1 h2 h3
  have key : (Γ (α 0) = 40 ∧ tyO Γ M (α 0) [(1, 41, [(0, 2), (10, 154), (298, 442)])] ∧ Q129 g (vw M (α 0) 1 [(0, 2), (10, 154), (298, 442)]) (clp [(9, 10)] (M.2.2.2.2 (α 0))) ) ∧ True := by
    try simp only [Int.add_zero]
    have a : ρ 2 = (cntT (clp [(0, 2), (10, 154), (298, 442)] (M.2.2.2.2 (fl M (α 0) 1))) (ρ 1).toNat : Int) := h0.2.2
    have e : M.2.2.2.2 (α 0) 9 = ρ 2 := h1.2
    have hm := nwF h2
    refine ⟨⟨g0, tyO_of hT g0 (by decide) (by decide), ?_⟩, trivial⟩
    show clp [(9, 10)] (M.2.2.2.2 (α 0)) 9 = (cntT (clp [(0, 2), (10, 154), (298, 442)] (M.2.2.2.2 (fl M (α 0) 1))) (manyR (clp [(0, 2), (10, 154), (298, 442)] (M.2.2.2.2 (fl M (α 0) 1)))) : Int)
    rw [c99, e, a]
    have hq : manyR (clp [(0, 2), (10, 154), (298, 442)] (M.2.2.2.2 (fl M (α 0) 1))) ≤ (ρ 1).toNat := by
      unfold manyR
      rw [rt0, rt1]
      omega
    rw [cntT_many (clp [(0, 2), (10, 154), (298, 442)] (M.2.2.2.2 (fl M (α 0) 1))) hq]
  exact ⟨nB, qB (key.1) (nB)⟩
def t_kj1 : KT := ((0, 0, 0, 0), [(2, 0, 40, 0), (1, 1, 0, 0)], [(0, 0), (1, 1)], [], (0, 0, 0), [], [], ([], [(127, [(2, 0, 40, 0), (1, 1, 0, 0)])]), ([], []))
set_option maxRecDepth 100000 in
theorem l_kj1 (g : GG) : LOK Yt (PSt g) t_kj1 := by
  intro ρ α Γ M as hT hB hA hP
  have g0 : Γ (α 0) = 40 := tyAt hA (i := 0) rfl
  have b1 : 1 ≤ ρ 1 ∧ ρ 1 ≤ 1 := hB 1
  have key : (Γ (α 0) = 40 ∧ tyO Γ M (α 0) [(1, 41, [(0, 2), (10, 154), (298, 442)])] ∧ Q127 g (vw M (α 0) 1 [(0, 2), (10, 154), (298, 442)]) (clp [] (M.2.2.2.2 (α 0))) (ρ 1 + 0)) ∧ True := by
    try simp only [Int.add_zero]
    exact ⟨⟨g0, tyO_of hT g0 (by decide) (by decide), fun h => by omega⟩, trivial⟩
  exact ⟨nB, qB (key.1) (nB)⟩
def t_kj2 : KT := ((0, 0, 0, 0), [(2, 0, 40, 0), (1, 1, 0, 0), (1, 2, 0, 0)], [(0, 0), (-2147483648, 2147483647), (-2147483648, 12)], [(129, [(2, 0, 40, 0)]), (10, [(2, 0, 40, 0), (0, 0, 0, 9), (1, 2, 0, 0)])], (0, 0, 0), [], [], ([], [(127, [(2, 0, 40, 0), (1, 1, 0, 0)])]), ([], []))
set_option maxRecDepth 100000 in
theorem l_kj2 (g : GG) : LOK Yt (PSt g) t_kj2 := by
  intro ρ α Γ M as hT hB hA hP
  have g0 : Γ (α 0) = 40 := tyAt hA (i := 0) rfl
  have b1 : -2147483648 ≤ ρ 1 ∧ ρ 1 ≤ 2147483647 := hB 1
  have b2 : -2147483648 ≤ ρ 2 ∧ ρ 2 ≤ 12 := hB 2
  have h0 : Γ (α 0) = 40 ∧ tyO Γ M (α 0) [(1, 41, [(0, 2), (10, 154), (298, 442)])] ∧ Q129 g (vw M (α 0) 1 [(0, 2), (10, 154), (298, 442)]) (clp [(9, 10)] (M.2.2.2.2 (α 0)))  := hP _ (List.mem_of_getElem? (i := 0) rfl)
  have h1 : 0 ≤ (9 : Int) ∧ M.2.2.2.2 (α 0) (9 : Int).toNat = ρ 2 + 0 := hP _ (List.mem_of_getElem? (i := 1) rfl)
  try simp only [Int.add_zero] at h0 h1
  have key : (Γ (α 0) = 40 ∧ tyO Γ M (α 0) [(1, 41, [(0, 2), (10, 154), (298, 442)])] ∧ Q127 g (vw M (α 0) 1 [(0, 2), (10, 154), (298, 442)]) (clp [] (M.2.2.2.2 (α 0))) (ρ 1 + 0)) ∧ True := by
    try simp only [Int.add_zero]
    have a : clp [(9, 10)] (M.2.2.2.2 (α 0)) 9 = (cntT (clp [(0, 2), (10, 154), (298, 442)] (M.2.2.2.2 (fl M (α 0) 1))) (manyR (clp [(0, 2), (10, 154), (298, 442)] (M.2.2.2.2 (fl M (α 0) 1)))) : Int) := h0.2.2
    rw [c99, show M.2.2.2.2 (α 0) 9 = ρ 2 from h1.2] at a
    refine ⟨⟨g0, tyO_of hT g0 (by decide) (by decide), fun _ => ?_⟩, trivial⟩
    show cntT (clp [(0, 2), (10, 154), (298, 442)] (M.2.2.2.2 (fl M (α 0) 1))) (manyR (clp [(0, 2), (10, 154), (298, 442)] (M.2.2.2.2 (fl M (α 0) 1)))) ≤ 12
    omega
  exact ⟨nB, qB (key.1) (nB)⟩
def t_jb0 : KT := ((0, 0, 0, 0), [(2, 0, 40, 0), (1, 1, 0, 0)], [(0, 0), (0, 0)], [(127, [(2, 0, 40, 0), (1, 1, 0, 0)]), (129, [(2, 0, 40, 0)])], (0, 0, 0), [], [], ([], [(3569, [(2, 0, 40, 0), (0, 0, 0, 0), (0, 0, 0, 12)])]), ([], []))
set_option maxRecDepth 100000 in
theorem l_jb0 (g : GG) : LOK Yt (PSt g) t_jb0 := by
  intro ρ α Γ M as hT hB hA hP
  have g0 : Γ (α 0) = 40 := tyAt hA (i := 0) rfl
  have b1 : 0 ≤ ρ 1 ∧ ρ 1 ≤ 0 := hB 1
  have h0 : Γ (α 0) = 40 ∧ tyO Γ M (α 0) [(1, 41, [(0, 2), (10, 154), (298, 442)])] ∧ Q127 g (vw M (α 0) 1 [(0, 2), (10, 154), (298, 442)]) (clp [] (M.2.2.2.2 (α 0))) (ρ 1 + 0) := hP _ (List.mem_of_getElem? (i := 0) rfl)
  have h1 : Γ (α 0) = 40 ∧ tyO Γ M (α 0) [(1, 41, [(0, 2), (10, 154), (298, 442)])] ∧ Q129 g (vw M (α 0) 1 [(0, 2), (10, 154), (298, 442)]) (clp [(9, 10)] (M.2.2.2.2 (α 0)))  := hP _ (List.mem_of_getElem? (i := 1) rfl)
  try simp only [Int.add_zero] at h0 h1
  have key : (Γ (α 0) = 40 ∧ 40 ≠ 0 ∧ 0 ≤ M.2.2.2.2 (α 0) 9 ∧ M.2.2.2.2 (α 0) 9 ≤ 12) ∧ True := by
    try simp only [Int.add_zero]
    have a : clp [(9, 10)] (M.2.2.2.2 (α 0)) 9 = (cntT (clp [(0, 2), (10, 154), (298, 442)] (M.2.2.2.2 (fl M (α 0) 1))) (manyR (clp [(0, 2), (10, 154), (298, 442)] (M.2.2.2.2 (fl M (α 0) 1)))) : Int) := h1.2.2
    rw [c99] at a
    have b : ρ 1 = 0 → cntT (clp [(0, 2), (10, 154), (298, 442)] (M.2.2.2.2 (fl M (α 0) 1))) (manyR (clp [(0, 2), (10, 154), (298, 442)] (M.2.2.2.2 (fl M (α 0) 1)))) ≤ 12 := h0.2.2
    have b := b (by omega)
    exact ⟨⟨g0, by decide, by omega, by omega⟩, trivial⟩
  exact ⟨nB, qB ((fId_eq g 40 9 (α 0) (0) (12) Γ M (by decide)).mpr (key.1)) (nB)⟩
def t_bs1 : KT := ((0, 0, 0, 0), [(2, 0, 40, 0), (1, 1, 0, 0), (1, 2, 0, 0), (1, 3, 0, 0), (1, 4, 0, 0)], [(0, 0), (-2147483648, 2147483647), (-2147483648, 2147483647), (-2147483648, 2147483647), (1, 1)], [(81, [(1, 1, 0, 0), (1, 2, 0, 0), (1, 3, 0, 0)]), (82, [(1, 3, 0, 0), (0, 0, 0, 1), (1, 4, 0, 0)])], (0, 0, 0), [], [], ([], [(166, [(2, 0, 40, 0), (1, 1, 0, 0), (1, 2, 0, 0)])]), ([], []))
set_option maxRecDepth 100000 in
theorem l_bs1 (g : GG) : LOK Yt (PSt g) t_bs1 := by
  intro ρ α Γ M as hT hB hA hP
  have g0 : Γ (α 0) = 40 := tyAt hA (i := 0) rfl
  have b1 : -2147483648 ≤ ρ 1 ∧ ρ 1 ≤ 2147483647 := hB 1
  have b2 : -2147483648 ≤ ρ 2 ∧ ρ 2 ≤ 2147483647 := hB 2
  have b3 : -2147483648 ≤ ρ 3 ∧ ρ 3 ≤ 2147483647 := hB 3
  have b4 : 1 ≤ ρ 4 ∧ ρ 4 ≤ 1 := hB 4
  have h0 : ρ 3 + 0 = sHr (ρ 1 + 0) (ρ 2 + 0) := hP _ (List.mem_of_getElem? (i := 0) rfl)
  have h1 : ρ 4 + 0 = aNd (ρ 3 + 0) (1) := hP _ (List.mem_of_getElem? (i := 1) rfl)
  try simp only [Int.add_zero] at h0 h1
  have key : (Γ (α 0) = 40 ∧ tyO Γ M (α 0) [] ∧ Q166 g  (clp [] (M.2.2.2.2 (α 0))) (ρ 1 + 0) (ρ 2 + 0)) ∧ True := by
    try simp only [Int.add_zero]
    refine ⟨⟨g0, tyO_of hT g0 (by decide) (by decide), ?_⟩, trivial⟩
    show aNd (sHr (ρ 1) (ρ 2)) 1 ≠ 0
    rw [← h0, ← h1]
    omega
  exact ⟨nB, qB (key.1) (nB)⟩
def t_bs0 : KT := ((0, 0, 0, 0), [(2, 0, 40, 0), (1, 1, 0, 0), (1, 2, 0, 0), (1, 3, 0, 0), (1, 4, 0, 0)], [(0, 0), (-2147483648, 2147483647), (-2147483648, 2147483647), (-2147483648, 2147483647), (0, 0)], [(81, [(1, 1, 0, 0), (1, 2, 0, 0), (1, 3, 0, 0)]), (82, [(1, 3, 0, 0), (0, 0, 0, 1), (1, 4, 0, 0)])], (0, 0, 0), [], [], ([], [(167, [(2, 0, 40, 0), (1, 1, 0, 0), (1, 2, 0, 0)])]), ([], []))
set_option maxRecDepth 100000 in
theorem l_bs0 (g : GG) : LOK Yt (PSt g) t_bs0 := by
  intro ρ α Γ M as hT hB hA hP
  have g0 : Γ (α 0) = 40 := tyAt hA (i := 0) rfl
  have b1 : -2147483648 ≤ ρ 1 ∧ ρ 1 ≤ 2147483647 := hB 1
  have b2 : -2147483648 ≤ ρ 2 ∧ ρ 2 ≤ 2147483647 := hB 2
  have b3 : -2147483648 ≤ ρ 3 ∧ ρ 3 ≤ 2147483647 := hB 3
  have b4 : 0 ≤ ρ 4 ∧ ρ 4 ≤ 0 := hB 4
  have h0 : ρ 3 + 0 = sHr (ρ 1 + 0) (ρ 2 + 0) := hP _ (List.mem_of_getElem? (i := 0) rfl)
  have h1 : ρ 4 + 0 = aNd (ρ 3 + 0) (1) := hP _ (List.mem_of_getElem? (i := 1) rfl)
  try simp only [Int.add_zero] at h0 h1
  have key : (Γ (α 0) = 40 ∧ tyO Γ M (α 0) [] ∧ Q167 g  (clp [] (M.2.2.2.2 (α 0))) (ρ 1 + 0) (ρ 2 + 0)) ∧ True := by
    try simp only [Int.add_zero]
    refine ⟨⟨g0, tyO_of hT g0 (by decide) (by decide), fun q => ?_⟩, trivial⟩
    have q : aNd (sHr (ρ 1) (ρ 2)) 1 ≠ 0 := q
    rw [← h0, ← h1] at q
    omega
  exact ⟨nB, qB (key.1) (nB)⟩
def t_ws0 : KT := ((0, 0, 0, 0), [(2, 0, 40, 0), (1, 1, 0, 0), (1, 2, 0, 0), (1, 3, 0, 0), (1, 4, 0, 0), (1, 5, 0, 0)], [(0, 0), (0, 4095), (0, 11), (-2147483648, 2147483647), (-2147483648, 2147483647), (-2147483648, 2147483647)], [(80, [(0, 0, 0, 1), (1, 2, 0, 0), (1, 3, 0, 0)]), (83, [(1, 3, 0, 0), (0, 0, 0, -1), (1, 4, 0, 0)]), (82, [(1, 1, 0, 0), (1, 4, 0, 0), (1, 5, 0, 0)])], (0, 0, 0), [], [], ([(5, 0, 4095)], [(168, [(2, 0, 40, 0), (1, 1, 0, 0), (1, 2, 0, 0), (1, 5, 0, 0)]), (6, [(1, 5, 0, 0), (1, 1, 0, 0)])]), ([], []))
set_option maxRecDepth 100000 in
theorem l_ws0 (g : GG) : LOK Yt (PSt g) t_ws0 := by
  intro ρ α Γ M as hT hB hA hP
  have g0 : Γ (α 0) = 40 := tyAt hA (i := 0) rfl
  have b1 : 0 ≤ ρ 1 ∧ ρ 1 ≤ 4095 := hB 1
  have b2 : 0 ≤ ρ 2 ∧ ρ 2 ≤ 11 := hB 2
  have b3 : -2147483648 ≤ ρ 3 ∧ ρ 3 ≤ 2147483647 := hB 3
  have b4 : -2147483648 ≤ ρ 4 ∧ ρ 4 ≤ 2147483647 := hB 4
  have b5 : -2147483648 ≤ ρ 5 ∧ ρ 5 ≤ 2147483647 := hB 5
  have h0 : ρ 3 + 0 = sHl (1) (ρ 2 + 0) := hP _ (List.mem_of_getElem? (i := 0) rfl)
  have h1 : ρ 4 + 0 = xOr (ρ 3 + 0) ((-1)) := hP _ (List.mem_of_getElem? (i := 1) rfl)
  have h2 : ρ 5 + 0 = aNd (ρ 1 + 0) (ρ 4 + 0) := hP _ (List.mem_of_getElem? (i := 2) rfl)
  try simp only [Int.add_zero] at h0 h1 h2
  have key : (0 ≤ ρ 5 ∧ ρ 5 ≤ 4095) ∧ (Γ (α 0) = 40 ∧ tyO Γ M (α 0) [] ∧ Q168 g  (clp [] (M.2.2.2.2 (α 0))) (ρ 1 + 0) (ρ 2 + 0) (ρ 5 + 0)) ∧ (ρ 5 + 0 ≤ ρ 1 + 0) ∧ True := by
    try simp only [Int.add_zero]
    have e : ρ 5 = wtS (ρ 1) (ρ 2) := by
      unfold wtS
      rw [← h0, ← h1]
      exact h2
    have w := wt_le b1.1 b1.2 b2.1 b2.2
    exact ⟨⟨by omega, by omega⟩, ⟨g0, tyO_of hT g0 (by decide) (by decide), e⟩, by omega, trivial⟩
  exact ⟨qB (key.1) (nB), qB (key.2.1) (qB (key.2.2.1) (nB))⟩
def t_lb0 : KT := ((0, 0, 0, 0), [(2, 0, 40, 0), (1, 1, 0, 0), (1, 2, 0, 0)], [(0, 0), (-2147483648, 2147483647), (0, 0)], [], (0, 0, 0), [], [], ([], [(169, [(2, 0, 40, 0), (1, 1, 0, 0), (1, 2, 0, 0)])]), ([], []))
set_option maxRecDepth 100000 in
theorem l_lb0 (g : GG) : LOK Yt (PSt g) t_lb0 := by
  intro ρ α Γ M as hT hB hA hP
  have g0 : Γ (α 0) = 40 := tyAt hA (i := 0) rfl
  have b1 : -2147483648 ≤ ρ 1 ∧ ρ 1 ≤ 2147483647 := hB 1
  have b2 : 0 ≤ ρ 2 ∧ ρ 2 ≤ 0 := hB 2
  have key : (Γ (α 0) = 40 ∧ tyO Γ M (α 0) [] ∧ Q169 g  (clp [] (M.2.2.2.2 (α 0))) (ρ 1 + 0) (ρ 2 + 0)) ∧ True := by
    try simp only [Int.add_zero]
    exact ⟨⟨g0, tyO_of hT g0 (by decide) (by decide), fun j h1 h2 => by omega⟩, trivial⟩
  exact ⟨nB, qB (key.1) (nB)⟩
def t_lb1 : KT := ((0, 0, 0, 0), [(2, 0, 40, 0), (1, 1, 0, 0), (1, 2, 0, 0)], [(0, 0), (1, 4095), (0, 11)], [(169, [(2, 0, 40, 0), (1, 1, 0, 0), (1, 2, 0, 0)]), (167, [(2, 0, 40, 0), (1, 1, 0, 0), (1, 2, 0, 0)])], (0, 0, 0), [], [], ([(2, 0, 10)], [(169, [(2, 0, 40, 0), (1, 1, 0, 0), (1, 2, 0, 1)])]), ([], []))
set_option maxRecDepth 100000 in
theorem l_lb1 (g : GG) : LOK Yt (PSt g) t_lb1 := by
  intro ρ α Γ M as hT hB hA hP
  have g0 : Γ (α 0) = 40 := tyAt hA (i := 0) rfl
  have b1 : 1 ≤ ρ 1 ∧ ρ 1 ≤ 4095 := hB 1
  have b2 : 0 ≤ ρ 2 ∧ ρ 2 ≤ 11 := hB 2
  have h0 : Γ (α 0) = 40 ∧ tyO Γ M (α 0) [] ∧ Q169 g  (clp [] (M.2.2.2.2 (α 0))) (ρ 1 + 0) (ρ 2 + 0) := hP _ (List.mem_of_getElem? (i := 0) rfl)
  have h1 : Γ (α 0) = 40 ∧ tyO Γ M (α 0) [] ∧ Q167 g  (clp [] (M.2.2.2.2 (α 0))) (ρ 1 + 0) (ρ 2 + 0) := hP _ (List.mem_of_getElem? (i := 1) rfl)
  try simp only [Int.add_zero] at h0 h1
  have key : (0 ≤ ρ 2 ∧ ρ 2 ≤ 10) ∧ (Γ (α 0) = 40 ∧ tyO Γ M (α 0) [] ∧ Q169 g  (clp [] (M.2.2.2.2 (α 0))) (ρ 1 + 0) (ρ 2 + 1)) ∧ True := by
    try simp only [Int.add_zero]
    have a : ∀ j : Int, 0 ≤ j → j < ρ 2 → ¬ btS (ρ 1) j := h0.2.2
    have b : ¬ btS (ρ 1) (ρ 2) := h1.2.2
    have k : ∀ j : Int, 0 ≤ j → j < ρ 2 + 1 → ¬ btS (ρ 1) j := fun j j1 j2 => by
      by_cases hc : j < ρ 2
      · exact a j j1 hc
      · rw [show j = ρ 2 by omega]
        exact b
    have hb : ρ 2 ≤ 10 := by
      by_cases hc : ρ 2 ≤ 10
      · exact hc
      · have := bt_all (s := ρ 1) (by omega) b1.2 (fun i i1 i2 => k i i1 (by omega))
        omega
    exact ⟨⟨b2.1, hb⟩, ⟨g0, tyO_of hT g0 (by decide) (by decide), k⟩, trivial⟩
  exact ⟨qB (key.1) (nB), qB (key.2.1) (nB)⟩
def t_ll0 : KT := ((0, 0, 0, 0), [(2, 0, 40, 0), (1, 1, 0, 0)], [(0, 0), (1, 1)], [], (0, 0, 0), [], [], ([], [(154, [(2, 0, 40, 0), (1, 1, 0, 0)])]), ([], []))
set_option maxRecDepth 100000 in
theorem l_ll0 (g : GG) : LOK Yt (PSt g) t_ll0 := by
  intro ρ α Γ M as hT hB hA hP
  have g0 : Γ (α 0) = 40 := tyAt hA (i := 0) rfl
  have b1 : 1 ≤ ρ 1 ∧ ρ 1 ≤ 1 := hB 1
  have key : (Γ (α 0) = 40 ∧ tyO Γ M (α 0) [(1, 41, [(0, 2), (10, 154), (298, 442)]), (8, 44, [(0, 144)]), (11, 46, [(0, 4096)])] ∧ Q154 g (vw M (α 0) 1 [(0, 2), (10, 154), (298, 442)]) (vw M (α 0) 8 [(0, 144)]) (vw M (α 0) 11 [(0, 4096)]) (clp [(9, 10)] (M.2.2.2.2 (α 0))) (ρ 1 + 0)) ∧ True := by
    try simp only [Int.add_zero]
    exact ⟨⟨g0, tyO_of hT g0 (by decide) (by decide), fun s h1 h2 => by omega⟩, trivial⟩
  exact ⟨nB, qB (key.1) (nB)⟩
def t_ll1 : KT := ((0, 0, 0, 0), [(2, 0, 40, 0), (2, 1, 44, 0), (2, 2, 46, 0), (1, 3, 0, 0), (1, 4, 0, 0), (1, 5, 0, 0), (1, 6, 0, 0), (1, 7, 0, 0), (1, 8, 0, 0), (1, 9, 0, 0)], [(0, 0), (0, 0), (0, 0), (1, 4095), (0, 11), (0, 4095), (0, 143), (-2147483648, 2147483647), (-2147483648, 2147483647), (-2147483648, 2147483647)], [(154, [(2, 0, 40, 0), (1, 3, 0, 0)]), (166, [(2, 0, 40, 0), (1, 3, 0, 0), (1, 4, 0, 0)]), (168, [(2, 0, 40, 0), (1, 3, 0, 0), (1, 4, 0, 0), (1, 5, 0, 0)]), (150, [(2, 0, 40, 0), (1, 6, 0, 0), (1, 7, 0, 0)]), (11, [(2, 0, 40, 0), (0, 0, 0, 8), (2, 1, 44, 0)]), (10, [(2, 1, 44, 0), (1, 4, 0, 0), (1, 6, 0, 0)]), (11, [(2, 0, 40, 0), (0, 0, 0, 11), (2, 2, 46, 0)]), (10, [(2, 2, 46, 0), (1, 5, 0, 0), (1, 8, 0, 0)]), (23, [(1, 7, 0, 0), (1, 8, 0, 0), (1, 9, 0, 0)]), (3569, [(2, 0, 40, 0), (0, 0, 0, 0), (0, 0, 0, 12)])], (0, 0, 0), [], [], ([], [(214, [(2, 2, 46, 0), (1, 3, 0, 0), (2, 0, 40, 0), (1, 4, 0, 0), (1, 9, 0, 0)])]), ([], []))
set_option maxRecDepth 100000 in
theorem l_ll1 (g : GG) : LOK Yt (PSt g) t_ll1 := by
  intro ρ α Γ M as hT hB hA hP
  have g0 : Γ (α 0) = 40 := tyAt hA (i := 0) rfl
  have g1 : Γ (α 1) = 44 := tyAt hA (i := 1) rfl
  have g2 : Γ (α 2) = 46 := tyAt hA (i := 2) rfl
  have b3 : 1 ≤ ρ 3 ∧ ρ 3 ≤ 4095 := hB 3
  have b4 : 0 ≤ ρ 4 ∧ ρ 4 ≤ 11 := hB 4
  have b5 : 0 ≤ ρ 5 ∧ ρ 5 ≤ 4095 := hB 5
  have b6 : 0 ≤ ρ 6 ∧ ρ 6 ≤ 143 := hB 6
  have b7 : -2147483648 ≤ ρ 7 ∧ ρ 7 ≤ 2147483647 := hB 7
  have b8 : -2147483648 ≤ ρ 8 ∧ ρ 8 ≤ 2147483647 := hB 8
  have b9 : -2147483648 ≤ ρ 9 ∧ ρ 9 ≤ 2147483647 := hB 9
  have h0 : Γ (α 0) = 40 ∧ tyO Γ M (α 0) [(1, 41, [(0, 2), (10, 154), (298, 442)]), (8, 44, [(0, 144)]), (11, 46, [(0, 4096)])] ∧ Q154 g (vw M (α 0) 1 [(0, 2), (10, 154), (298, 442)]) (vw M (α 0) 8 [(0, 144)]) (vw M (α 0) 11 [(0, 4096)]) (clp [(9, 10)] (M.2.2.2.2 (α 0))) (ρ 3 + 0) := hP _ (List.mem_of_getElem? (i := 0) rfl)
  have h1 : Γ (α 0) = 40 ∧ tyO Γ M (α 0) [] ∧ Q166 g  (clp [] (M.2.2.2.2 (α 0))) (ρ 3 + 0) (ρ 4 + 0) := hP _ (List.mem_of_getElem? (i := 1) rfl)
  have h2 : Γ (α 0) = 40 ∧ tyO Γ M (α 0) [] ∧ Q168 g  (clp [] (M.2.2.2.2 (α 0))) (ρ 3 + 0) (ρ 4 + 0) (ρ 5 + 0) := hP _ (List.mem_of_getElem? (i := 2) rfl)
  have h3 : Γ (α 0) = 40 ∧ tyO Γ M (α 0) [(1, 41, [(0, 2)])] ∧ Q150 g (vw M (α 0) 1 [(0, 2)]) (clp [] (M.2.2.2.2 (α 0))) (ρ 6 + 0) (ρ 7 + 0) := hP _ (List.mem_of_getElem? (i := 3) rfl)
  have h4 : 0 ≤ (8 : Int) ∧ M.2.2.2.1 (α 0) (8 : Int).toNat = some (α 1) := hP _ (List.mem_of_getElem? (i := 4) rfl)
  have h5 : 0 ≤ (ρ 4 + 0 : Int) ∧ M.2.2.2.2 (α 1) (ρ 4 + 0 : Int).toNat = ρ 6 + 0 := hP _ (List.mem_of_getElem? (i := 5) rfl)
  have h6 : 0 ≤ (11 : Int) ∧ M.2.2.2.1 (α 0) (11 : Int).toNat = some (α 2) := hP _ (List.mem_of_getElem? (i := 6) rfl)
  have h7 : 0 ≤ (ρ 5 + 0 : Int) ∧ M.2.2.2.2 (α 2) (ρ 5 + 0 : Int).toNat = ρ 8 + 0 := hP _ (List.mem_of_getElem? (i := 7) rfl)
  have h8 : ρ 9 + 0 = wI ((ρ 7 + 0) + (ρ 8 + 0)) := hP _ (List.mem_of_getElem? (i := 8) rfl)
  have h9 : Γ (α 0) = 40 ∧ 40 ≠ 0 ∧ 0 ≤ M.2.2.2.2 (α 0) 9 ∧ M.2.2.2.2 (α 0) 9 ≤ 12 := (fId_eq g 40 9 (α 0) (0) (12) Γ M (by decide)).mp (hP _ (List.mem_of_getElem? (i := 9) rfl))
  try simp only [Int.add_zero] at h0 h1 h2 h3 h4 h5 h6 h7 h8 h9
  have key : (Γ (α 0) = 40 ∧ M.2.2.2.1 (α 0) 11 = some (α 2) ∧ Γ (α 2) = 46 ∧ tyO Γ M (α 0) [(1, 41, [(0, 2), (10, 154), (298, 442)]), (8, 44, [(0, 144)])] ∧ Q214 g (hcl [vi (ρ 3 + 0)] (clp [(0, 4096)] (M.2.2.2.2 (α 2)))) (vw M (α 0) 1 [(0, 2), (10, 154), (298, 442)]) (vw M (α 0) 8 [(0, 144)]) (clp [(9, 10)] (M.2.2.2.2 (α 0))) (ρ 3 + 0) (ρ 4 + 0) (ρ 9 + 0)) ∧ True := by
    try simp only [Int.add_zero]
    have e8 : fl M (α 0) 8 = α 1 := fl_eq (show M.2.2.2.1 (α 0) 8 = some (α 1) from h4.2)
    have e11 : fl M (α 0) 11 = α 2 := fl_eq (show M.2.2.2.1 (α 0) 11 = some (α 2) from h6.2)
    
    have hl : ∀ s : Int, 1 ≤ s → s < ρ 3 → LTg (clp [(0, 2), (10, 154), (298, 442)] (M.2.2.2.2 (fl M (α 0) 1))) (clp [(0, 144)] (M.2.2.2.2 (fl M (α 0) 8))) (clp [(0, 4096)] (M.2.2.2.2 (fl M (α 0) 11))) (clp [(9, 10)] (M.2.2.2.2 (α 0)) 9) s := h0.2.2
    have hw : ρ 5 = wtS (ρ 3) (ρ 4) := h2.2.2
    have hf : ρ 7 = fbF ((clp [(0, 2)] (M.2.2.2.2 (fl M (α 0) 1))) 0 + 4) ((clp [(0, 2)] (M.2.2.2.2 (fl M (α 0) 1))) 1 + 4) (ρ 6) := h3.2.2
    rw [rc0, rc1'] at hf
    have hti : M.2.2.2.2 (α 1) (ρ 4).toNat = ρ 6 := h5.2
    have hlr : M.2.2.2.2 (α 2) (ρ 5).toNat = ρ 8 := h7.2
    have hT9 : (clp [(9, 10)] (M.2.2.2.2 (α 0)) 9) ≤ 12 := by rw [c99]; exact h9.2.2.2
    have wl := wt_lt (by omega) b3.2 b4.1 b4.2 h1.2.2
    have hh : ∀ x : Nat, (x : Int) < ρ 3 → hcl [vi (ρ 3)] (clp [(0, 4096)] (M.2.2.2.2 (α 2))) x = (clp [(0, 4096)] (M.2.2.2.2 (fl M (α 0) 11))) x := fun x hx => by rw [hcl1 (by omega), e11]
    refine ⟨⟨g0, h6.2, g2, tyO_of hT g0 (by decide) (by decide), fun x x1 x2 => LTg_c hT9 (by omega) (by omega) (fun y hy => hh y (by omega)) (hl x x1 x2), Or.inl ?_⟩, trivial⟩
    show ρ 9 = wI (fbF ((clp [(0, 2), (10, 154), (298, 442)] (M.2.2.2.2 (fl M (α 0) 1))) 0 + 4) ((clp [(0, 2), (10, 154), (298, 442)] (M.2.2.2.2 (fl M (α 0) 1))) 1 + 4) ((clp [(0, 144)] (M.2.2.2.2 (fl M (α 0) 8))) (ρ 4).toNat) + hcl [vi (ρ 3)] (clp [(0, 4096)] (M.2.2.2.2 (α 2))) (wtS (ρ 3) (ρ 4)).toNat)
    rw [← hw, hcl1 (by omega), cA4 (by omega), hlr, e8, cA1 (by omega), hti, rt0, rt1, ← hf]
    exact h8
  exact ⟨nB, qB (key.1) (nB)⟩
def t_ll2 : KT := ((0, 0, 0, 0), [(2, 0, 40, 0), (2, 1, 46, 0), (1, 2, 0, 0), (1, 3, 0, 0), (1, 4, 0, 0)], [(0, 0), (0, 0), (1, 4095), (0, 11), (-2147483648, 2147483647)], [(214, [(2, 1, 46, 0), (1, 2, 0, 0), (2, 0, 40, 0), (1, 3, 0, 0), (1, 4, 0, 0)]), (10, [(2, 1, 46, 0), (1, 2, 0, 0), (1, 4, 0, 0)]), (166, [(2, 0, 40, 0), (1, 2, 0, 0), (1, 3, 0, 0)]), (3569, [(2, 0, 40, 0), (0, 0, 0, 0), (0, 0, 0, 12)])], (0, 0, 0), [], [], ([], [(170, [(2, 0, 40, 0), (1, 2, 0, 0), (1, 3, 0, 0)])]), ([], []))
set_option maxRecDepth 100000 in
theorem l_ll2 (g : GG) : LOK Yt (PSt g) t_ll2 := by
  intro ρ α Γ M as hT hB hA hP
  have g0 : Γ (α 0) = 40 := tyAt hA (i := 0) rfl
  have g1 : Γ (α 1) = 46 := tyAt hA (i := 1) rfl
  have b2 : 1 ≤ ρ 2 ∧ ρ 2 ≤ 4095 := hB 2
  have b3 : 0 ≤ ρ 3 ∧ ρ 3 ≤ 11 := hB 3
  have b4 : -2147483648 ≤ ρ 4 ∧ ρ 4 ≤ 2147483647 := hB 4
  have h0 : Γ (α 0) = 40 ∧ M.2.2.2.1 (α 0) 11 = some (α 1) ∧ Γ (α 1) = 46 ∧ tyO Γ M (α 0) [(1, 41, [(0, 2), (10, 154), (298, 442)]), (8, 44, [(0, 144)])] ∧ Q214 g (hcl [vi (ρ 2 + 0)] (clp [(0, 4096)] (M.2.2.2.2 (α 1)))) (vw M (α 0) 1 [(0, 2), (10, 154), (298, 442)]) (vw M (α 0) 8 [(0, 144)]) (clp [(9, 10)] (M.2.2.2.2 (α 0))) (ρ 2 + 0) (ρ 3 + 0) (ρ 4 + 0) := hP _ (List.mem_of_getElem? (i := 0) rfl)
  have h1 : 0 ≤ (ρ 2 + 0 : Int) ∧ M.2.2.2.2 (α 1) (ρ 2 + 0 : Int).toNat = ρ 4 + 0 := hP _ (List.mem_of_getElem? (i := 1) rfl)
  have h2 : Γ (α 0) = 40 ∧ tyO Γ M (α 0) [] ∧ Q166 g  (clp [] (M.2.2.2.2 (α 0))) (ρ 2 + 0) (ρ 3 + 0) := hP _ (List.mem_of_getElem? (i := 2) rfl)
  have h3 : Γ (α 0) = 40 ∧ 40 ≠ 0 ∧ 0 ≤ M.2.2.2.2 (α 0) 9 ∧ M.2.2.2.2 (α 0) 9 ≤ 12 := (fId_eq g 40 9 (α 0) (0) (12) Γ M (by decide)).mp (hP _ (List.mem_of_getElem? (i := 3) rfl))
  try simp only [Int.add_zero] at h0 h1 h2 h3
  have key : (Γ (α 0) = 40 ∧ tyO Γ M (α 0) [(1, 41, [(0, 2), (10, 154), (298, 442)]), (8, 44, [(0, 144)]), (11, 46, [(0, 4096)])] ∧ Q170 g (vw M (α 0) 1 [(0, 2), (10, 154), (298, 442)]) (vw M (α 0) 8 [(0, 144)]) (vw M (α 0) 11 [(0, 4096)]) (clp [(9, 10)] (M.2.2.2.2 (α 0))) (ρ 2 + 0) (ρ 3 + 0)) ∧ True := by
    try simp only [Int.add_zero]
    obtain ⟨-, hr, -, -, h, hv⟩ := h0
    have e11 : fl M (α 0) 11 = α 1 := fl_eq hr
    have hT9 : (clp [(9, 10)] (M.2.2.2.2 (α 0)) 9) ≤ 12 := by rw [c99]; exact h3.2.2.2
    have hh : ∀ x : Nat, (x : Int) < ρ 2 → (clp [(0, 4096)] (M.2.2.2.2 (fl M (α 0) 11))) x = hcl [vi (ρ 2)] (clp [(0, 4096)] (M.2.2.2.2 (α 1))) x := fun x hx => by rw [hcl1 (by omega), e11]
    have hv2 : (clp [(0, 4096)] (M.2.2.2.2 (fl M (α 0) 11))) (ρ 2).toNat = ρ 4 := by rw [e11, cA4 (by omega)]; exact h1.2
    refine ⟨⟨g0, tyO_of hT g0 (by decide) (by decide), fun x x1 x2 => LTg_c hT9 (by omega) (by omega) (fun y hy => hh y (by omega)) (h x x1 x2), ?_⟩, trivial⟩
    show LTe (clp [(0, 2), (10, 154), (298, 442)] (M.2.2.2.2 (fl M (α 0) 1))) (clp [(0, 144)] (M.2.2.2.2 (fl M (α 0) 8))) (clp [(0, 4096)] (M.2.2.2.2 (fl M (α 0) 11))) (clp [(9, 10)] (M.2.2.2.2 (α 0)) 9) (ρ 2) (ρ 3) ((clp [(0, 4096)] (M.2.2.2.2 (fl M (α 0) 11))) (ρ 2).toNat)
    rw [hv2]
    exact LTe_c hT9 (by omega) b2.2 b3.1 b3.2 h2.2.2 hh hv
  exact ⟨nB, qB (key.1) (nB)⟩
def t_ll3 : KT := ((0, 0, 0, 0), [(2, 0, 40, 0), (2, 1, 44, 0), (1, 2, 0, 0), (1, 3, 0, 0), (1, 4, 0, 0), (1, 5, 0, 0), (1, 6, 0, 0), (1, 7, 0, 0), (1, 8, 0, 0)], [(0, 0), (0, 0), (1, 4095), (0, 11), (0, 4095), (0, 11), (0, 143), (0, 143), (-2147483648, 2147483647)], [(170, [(2, 0, 40, 0), (1, 2, 0, 0), (1, 3, 0, 0)]), (166, [(2, 0, 40, 0), (1, 2, 0, 0), (1, 3, 0, 0)]), (168, [(2, 0, 40, 0), (1, 2, 0, 0), (1, 3, 0, 0), (1, 4, 0, 0)]), (166, [(2, 0, 40, 0), (1, 4, 0, 0), (1, 5, 0, 0)]), (152, [(2, 0, 40, 0), (1, 3, 0, 0), (1, 5, 0, 0)]), (21, [(1, 3, 0, 0), (1, 5, 0, 0)]), (151, [(2, 0, 40, 0), (1, 6, 0, 0), (1, 7, 0, 0), (1, 8, 0, 0)]), (11, [(2, 0, 40, 0), (0, 0, 0, 8), (2, 1, 44, 0)]), (10, [(2, 1, 44, 0), (1, 3, 0, 0), (1, 6, 0, 0)]), (10, [(2, 1, 44, 0), (1, 5, 0, 0), (1, 7, 0, 0)])], (0, 0, 0), [], [], ([], [(413, [(2, 0, 40, 0), (1, 2, 0, 0), (1, 3, 0, 0), (1, 5, 0, 0), (1, 8, 0, 0)])]), ([], []))
set_option maxRecDepth 100000 in
theorem l_ll3 (g : GG) : LOK Yt (PSt g) t_ll3 := by
  intro ρ α Γ M as hT hB hA hP
  have g0 : Γ (α 0) = 40 := tyAt hA (i := 0) rfl
  have g1 : Γ (α 1) = 44 := tyAt hA (i := 1) rfl
  have b2 : 1 ≤ ρ 2 ∧ ρ 2 ≤ 4095 := hB 2
  have b3 : 0 ≤ ρ 3 ∧ ρ 3 ≤ 11 := hB 3
  have b4 : 0 ≤ ρ 4 ∧ ρ 4 ≤ 4095 := hB 4
  have b5 : 0 ≤ ρ 5 ∧ ρ 5 ≤ 11 := hB 5
  have b6 : 0 ≤ ρ 6 ∧ ρ 6 ≤ 143 := hB 6
  have b7 : 0 ≤ ρ 7 ∧ ρ 7 ≤ 143 := hB 7
  have b8 : -2147483648 ≤ ρ 8 ∧ ρ 8 ≤ 2147483647 := hB 8
  have h0 : Γ (α 0) = 40 ∧ tyO Γ M (α 0) [(1, 41, [(0, 2), (10, 154), (298, 442)]), (8, 44, [(0, 144)]), (11, 46, [(0, 4096)])] ∧ Q170 g (vw M (α 0) 1 [(0, 2), (10, 154), (298, 442)]) (vw M (α 0) 8 [(0, 144)]) (vw M (α 0) 11 [(0, 4096)]) (clp [(9, 10)] (M.2.2.2.2 (α 0))) (ρ 2 + 0) (ρ 3 + 0) := hP _ (List.mem_of_getElem? (i := 0) rfl)
  have h1 : Γ (α 0) = 40 ∧ tyO Γ M (α 0) [] ∧ Q166 g  (clp [] (M.2.2.2.2 (α 0))) (ρ 2 + 0) (ρ 3 + 0) := hP _ (List.mem_of_getElem? (i := 1) rfl)
  have h2 : Γ (α 0) = 40 ∧ tyO Γ M (α 0) [] ∧ Q168 g  (clp [] (M.2.2.2.2 (α 0))) (ρ 2 + 0) (ρ 3 + 0) (ρ 4 + 0) := hP _ (List.mem_of_getElem? (i := 2) rfl)
  have h3 : Γ (α 0) = 40 ∧ tyO Γ M (α 0) [] ∧ Q166 g  (clp [] (M.2.2.2.2 (α 0))) (ρ 4 + 0) (ρ 5 + 0) := hP _ (List.mem_of_getElem? (i := 3) rfl)
  have h4 : Γ (α 0) = 40 ∧ tyO Γ M (α 0) [(1, 41, [(0, 2), (10, 154), (298, 442)]), (8, 44, [(0, 144)])] ∧ Q152 g (vw M (α 0) 1 [(0, 2), (10, 154), (298, 442)]) (vw M (α 0) 8 [(0, 144)]) (clp [] (M.2.2.2.2 (α 0))) (ρ 3 + 0) (ρ 5 + 0) := hP _ (List.mem_of_getElem? (i := 4) rfl)
  have h5 : ρ 3 + 0 < ρ 5 + 0 := hP _ (List.mem_of_getElem? (i := 5) rfl)
  have h6 : Γ (α 0) = 40 ∧ tyO Γ M (α 0) [(1, 41, [(1, 2)])] ∧ Q151 g (vw M (α 0) 1 [(1, 2)]) (clp [] (M.2.2.2.2 (α 0))) (ρ 6 + 0) (ρ 7 + 0) (ρ 8 + 0) := hP _ (List.mem_of_getElem? (i := 6) rfl)
  have h7 : 0 ≤ (8 : Int) ∧ M.2.2.2.1 (α 0) (8 : Int).toNat = some (α 1) := hP _ (List.mem_of_getElem? (i := 7) rfl)
  have h8 : 0 ≤ (ρ 3 + 0 : Int) ∧ M.2.2.2.2 (α 1) (ρ 3 + 0 : Int).toNat = ρ 6 + 0 := hP _ (List.mem_of_getElem? (i := 8) rfl)
  have h9 : 0 ≤ (ρ 5 + 0 : Int) ∧ M.2.2.2.2 (α 1) (ρ 5 + 0 : Int).toNat = ρ 7 + 0 := hP _ (List.mem_of_getElem? (i := 9) rfl)
  try simp only [Int.add_zero] at h0 h1 h2 h3 h4 h5 h6 h7 h8 h9
  have key : (Γ (α 0) = 40 ∧ tyO Γ M (α 0) [(1, 41, [(0, 2), (10, 154), (298, 442)]), (8, 44, [(0, 144)])] ∧ Q413 g (vw M (α 0) 1 [(0, 2), (10, 154), (298, 442)]) (vw M (α 0) 8 [(0, 144)]) (clp [] (M.2.2.2.2 (α 0))) (ρ 2 + 0) (ρ 3 + 0) (ρ 5 + 0) (ρ 8 + 0)) ∧ True := by
    try simp only [Int.add_zero]
    have e8 : fl M (α 0) 8 = α 1 := fl_eq (show M.2.2.2.1 (α 0) 8 = some (α 1) from h7.2)
    
    have hw : ρ 4 = wtS (ρ 2) (ρ 3) := h2.2.2
    have hb : btS (ρ 4) (ρ 5) := h3.2.2
    have hu : chg (clp [(0, 2), (10, 154), (298, 442)] (M.2.2.2.2 (fl M (α 0) 1))) ((clp [(0, 144)] (M.2.2.2.2 (fl M (α 0) 8))) (ρ 3).toNat) + chg (clp [(0, 2), (10, 154), (298, 442)] (M.2.2.2.2 (fl M (α 0) 1))) ((clp [(0, 144)] (M.2.2.2.2 (fl M (α 0) 8))) (ρ 5).toNat) = 0 := h4.2.2
    have hf : ρ 8 = foF ((clp [(1, 2)] (M.2.2.2.2 (fl M (α 0) 1))) 1 + 4) (ρ 6) (ρ 7) := h6.2.2
    have t1 : M.2.2.2.2 (α 1) (ρ 3).toNat = ρ 6 := h8.2
    have t2 : M.2.2.2.2 (α 1) (ρ 5).toNat = ρ 7 := h9.2
    refine ⟨⟨g0, tyO_of hT g0 (by decide) (by decide), h5, ?_, hu, ?_⟩, trivial⟩
    · show btS (wtS (ρ 2) (ρ 3)) (ρ 5)
      rw [← hw]
      exact hb
    · show ρ 8 = foF ((clp [(0, 2), (10, 154), (298, 442)] (M.2.2.2.2 (fl M (α 0) 1))) 1 + 4) ((clp [(0, 144)] (M.2.2.2.2 (fl M (α 0) 8))) (ρ 3).toNat) ((clp [(0, 144)] (M.2.2.2.2 (fl M (α 0) 8))) (ρ 5).toNat)
      rw [e8, cA1 (by omega), cA1 (by omega), t1, t2, rt1, hf, c11]
  exact ⟨nB, qB (key.1) (nB)⟩
def t_ll4 : KT := ((0, 0, 0, 0), [(2, 0, 40, 0), (2, 1, 46, 0), (1, 2, 0, 0), (1, 3, 0, 0), (1, 4, 0, 0), (1, 5, 0, 0), (1, 6, 0, 0), (1, 7, 0, 0), (1, 8, 0, 0), (1, 9, 0, 0)], [(0, 0), (0, 0), (1, 4095), (0, 11), (0, 4095), (0, 11), (-2147483648, 2147483647), (-2147483648, 2147483647), (-2147483648, 2147483647), (-2147483648, 2147483647)], [(170, [(2, 0, 40, 0), (1, 2, 0, 0), (1, 3, 0, 0)]), (166, [(2, 0, 40, 0), (1, 2, 0, 0), (1, 3, 0, 0)]), (168, [(2, 0, 40, 0), (1, 2, 0, 0), (1, 3, 0, 0), (1, 4, 0, 0)]), (413, [(2, 0, 40, 0), (1, 2, 0, 0), (1, 3, 0, 0), (1, 5, 0, 0), (1, 6, 0, 0)]), (168, [(2, 0, 40, 0), (1, 4, 0, 0), (1, 5, 0, 0), (1, 7, 0, 0)]), (11, [(2, 0, 40, 0), (0, 0, 0, 11), (2, 1, 46, 0)]), (10, [(2, 1, 46, 0), (1, 7, 0, 0), (1, 8, 0, 0)]), (23, [(1, 6, 0, 0), (1, 8, 0, 0), (1, 9, 0, 0)]), (3569, [(2, 0, 40, 0), (0, 0, 0, 0), (0, 0, 0, 12)]), (414, [(2, 0, 40, 0), (1, 5, 0, 0)])], (0, 0, 0), [], [], ([], [(214, [(2, 1, 46, 0), (1, 2, 0, 0), (2, 0, 40, 0), (1, 3, 0, 0), (1, 9, 0, 0)])]), ([], []))
set_option maxRecDepth 100000 in
theorem l_ll4 (g : GG) : LOK Yt (PSt g) t_ll4 := by
  intro ρ α Γ M as hT hB hA hP
  have g0 : Γ (α 0) = 40 := tyAt hA (i := 0) rfl
  have g1 : Γ (α 1) = 46 := tyAt hA (i := 1) rfl
  have b2 : 1 ≤ ρ 2 ∧ ρ 2 ≤ 4095 := hB 2
  have b3 : 0 ≤ ρ 3 ∧ ρ 3 ≤ 11 := hB 3
  have b4 : 0 ≤ ρ 4 ∧ ρ 4 ≤ 4095 := hB 4
  have b5 : 0 ≤ ρ 5 ∧ ρ 5 ≤ 11 := hB 5
  have b6 : -2147483648 ≤ ρ 6 ∧ ρ 6 ≤ 2147483647 := hB 6
  have b7 : -2147483648 ≤ ρ 7 ∧ ρ 7 ≤ 2147483647 := hB 7
  have b8 : -2147483648 ≤ ρ 8 ∧ ρ 8 ≤ 2147483647 := hB 8
  have b9 : -2147483648 ≤ ρ 9 ∧ ρ 9 ≤ 2147483647 := hB 9
  have h0 : Γ (α 0) = 40 ∧ tyO Γ M (α 0) [(1, 41, [(0, 2), (10, 154), (298, 442)]), (8, 44, [(0, 144)]), (11, 46, [(0, 4096)])] ∧ Q170 g (vw M (α 0) 1 [(0, 2), (10, 154), (298, 442)]) (vw M (α 0) 8 [(0, 144)]) (vw M (α 0) 11 [(0, 4096)]) (clp [(9, 10)] (M.2.2.2.2 (α 0))) (ρ 2 + 0) (ρ 3 + 0) := hP _ (List.mem_of_getElem? (i := 0) rfl)
  have h1 : Γ (α 0) = 40 ∧ tyO Γ M (α 0) [] ∧ Q166 g  (clp [] (M.2.2.2.2 (α 0))) (ρ 2 + 0) (ρ 3 + 0) := hP _ (List.mem_of_getElem? (i := 1) rfl)
  have h2 : Γ (α 0) = 40 ∧ tyO Γ M (α 0) [] ∧ Q168 g  (clp [] (M.2.2.2.2 (α 0))) (ρ 2 + 0) (ρ 3 + 0) (ρ 4 + 0) := hP _ (List.mem_of_getElem? (i := 2) rfl)
  have h3 : Γ (α 0) = 40 ∧ tyO Γ M (α 0) [(1, 41, [(0, 2), (10, 154), (298, 442)]), (8, 44, [(0, 144)])] ∧ Q413 g (vw M (α 0) 1 [(0, 2), (10, 154), (298, 442)]) (vw M (α 0) 8 [(0, 144)]) (clp [] (M.2.2.2.2 (α 0))) (ρ 2 + 0) (ρ 3 + 0) (ρ 5 + 0) (ρ 6 + 0) := hP _ (List.mem_of_getElem? (i := 3) rfl)
  have h4 : Γ (α 0) = 40 ∧ tyO Γ M (α 0) [] ∧ Q168 g  (clp [] (M.2.2.2.2 (α 0))) (ρ 4 + 0) (ρ 5 + 0) (ρ 7 + 0) := hP _ (List.mem_of_getElem? (i := 4) rfl)
  have h5 : 0 ≤ (11 : Int) ∧ M.2.2.2.1 (α 0) (11 : Int).toNat = some (α 1) := hP _ (List.mem_of_getElem? (i := 5) rfl)
  have h6 : 0 ≤ (ρ 7 + 0 : Int) ∧ M.2.2.2.2 (α 1) (ρ 7 + 0 : Int).toNat = ρ 8 + 0 := hP _ (List.mem_of_getElem? (i := 6) rfl)
  have h7 : ρ 9 + 0 = wI ((ρ 6 + 0) + (ρ 8 + 0)) := hP _ (List.mem_of_getElem? (i := 7) rfl)
  have h8 : Γ (α 0) = 40 ∧ 40 ≠ 0 ∧ 0 ≤ M.2.2.2.2 (α 0) 9 ∧ M.2.2.2.2 (α 0) 9 ≤ 12 := (fId_eq g 40 9 (α 0) (0) (12) Γ M (by decide)).mp (hP _ (List.mem_of_getElem? (i := 8) rfl))
  have h9 : Γ (α 0) = 40 ∧ tyO Γ M (α 0) [] ∧ Q414 g  (clp [(9, 10)] (M.2.2.2.2 (α 0))) (ρ 5 + 0) := hP _ (List.mem_of_getElem? (i := 9) rfl)
  try simp only [Int.add_zero] at h0 h1 h2 h3 h4 h5 h6 h7 h8 h9
  have key : (Γ (α 0) = 40 ∧ M.2.2.2.1 (α 0) 11 = some (α 1) ∧ Γ (α 1) = 46 ∧ tyO Γ M (α 0) [(1, 41, [(0, 2), (10, 154), (298, 442)]), (8, 44, [(0, 144)])] ∧ Q214 g (hcl [vi (ρ 2 + 0)] (clp [(0, 4096)] (M.2.2.2.2 (α 1)))) (vw M (α 0) 1 [(0, 2), (10, 154), (298, 442)]) (vw M (α 0) 8 [(0, 144)]) (clp [(9, 10)] (M.2.2.2.2 (α 0))) (ρ 2 + 0) (ρ 3 + 0) (ρ 9 + 0)) ∧ True := by
    try simp only [Int.add_zero]
    have e11 : fl M (α 0) 11 = α 1 := fl_eq (show M.2.2.2.1 (α 0) 11 = some (α 1) from h5.2)
    
    obtain ⟨-, -, hl, -⟩ := h0
    have hl : ∀ x : Int, 1 ≤ x → x < ρ 2 → LTg (clp [(0, 2), (10, 154), (298, 442)] (M.2.2.2.2 (fl M (α 0) 1))) (clp [(0, 144)] (M.2.2.2.2 (fl M (α 0) 8))) (clp [(0, 4096)] (M.2.2.2.2 (fl M (α 0) 11))) (clp [(9, 10)] (M.2.2.2.2 (α 0)) 9) x := hl
    have hw : ρ 4 = wtS (ρ 2) (ρ 3) := h2.2.2
    have hw2 : ρ 7 = wtS (ρ 4) (ρ 5) := h4.2.2
    obtain ⟨-, -, k1, k2, k3, k4⟩ := h3
    have hT9 : (clp [(9, 10)] (M.2.2.2.2 (α 0)) 9) ≤ 12 := by rw [c99]; exact h8.2.2.2
    have hk : ρ 5 < (clp [(9, 10)] (M.2.2.2.2 (α 0)) 9) := h9.2.2
    have wl := wt_lt (by omega) b2.2 b3.1 b3.2 h1.2.2
    have w2 := wt_le (s := ρ 4) (i := ρ 5) (by omega) (by omega) b5.1 b5.2
    have hlr : M.2.2.2.2 (α 1) (ρ 7).toNat = ρ 8 := h6.2
    have hh : ∀ x : Nat, (x : Int) < ρ 2 → hcl [vi (ρ 2)] (clp [(0, 4096)] (M.2.2.2.2 (α 1))) x = (clp [(0, 4096)] (M.2.2.2.2 (fl M (α 0) 11))) x := fun x hx => by rw [hcl1 (by omega), e11]
    refine ⟨⟨g0, h5.2, g1, tyO_of hT g0 (by decide) (by decide), fun x x1 x2 => LTg_c hT9 (by omega) (by omega) (fun y hy => hh y (by omega)) (hl x x1 x2), Or.inr ⟨ρ 5, k1, hk, k2, k3, ?_⟩⟩, trivial⟩
    show ρ 9 = wI (foF ((clp [(0, 2), (10, 154), (298, 442)] (M.2.2.2.2 (fl M (α 0) 1))) 1 + 4) ((clp [(0, 144)] (M.2.2.2.2 (fl M (α 0) 8))) (ρ 3).toNat) ((clp [(0, 144)] (M.2.2.2.2 (fl M (α 0) 8))) (ρ 5).toNat) + hcl [vi (ρ 2)] (clp [(0, 4096)] (M.2.2.2.2 (α 1))) (wtS (wtS (ρ 2) (ρ 3)) (ρ 5)).toNat)
    have k4 : ρ 6 = foF ((clp [(0, 2), (10, 154), (298, 442)] (M.2.2.2.2 (fl M (α 0) 1))) 1 + 4) ((clp [(0, 144)] (M.2.2.2.2 (fl M (α 0) 8))) (ρ 3).toNat) ((clp [(0, 144)] (M.2.2.2.2 (fl M (α 0) 8))) (ρ 5).toNat) := k4
    rw [← k4, ← hw, ← hw2, hcl1 (by omega), cA4 (by omega), hlr]
    exact h7
  exact ⟨nB, qB (key.1) (nB)⟩
def t_ll5 : KT := ((0, 0, 0, 0), [(2, 0, 40, 0), (1, 1, 0, 0), (1, 2, 0, 0)], [(0, 0), (-2147483648, 2147483647), (-2147483648, 2147483647)], [(21, [(1, 1, 0, 0), (1, 2, 0, 0)]), (10, [(2, 0, 40, 0), (0, 0, 0, 9), (1, 2, 0, 0)])], (0, 0, 0), [], [], ([], [(414, [(2, 0, 40, 0), (1, 1, 0, 0)])]), ([], []))
set_option maxRecDepth 100000 in
theorem l_ll5 (g : GG) : LOK Yt (PSt g) t_ll5 := by
  intro ρ α Γ M as hT hB hA hP
  have g0 : Γ (α 0) = 40 := tyAt hA (i := 0) rfl
  have b1 : -2147483648 ≤ ρ 1 ∧ ρ 1 ≤ 2147483647 := hB 1
  have b2 : -2147483648 ≤ ρ 2 ∧ ρ 2 ≤ 2147483647 := hB 2
  have h0 : ρ 1 + 0 < ρ 2 + 0 := hP _ (List.mem_of_getElem? (i := 0) rfl)
  have h1 : 0 ≤ (9 : Int) ∧ M.2.2.2.2 (α 0) (9 : Int).toNat = ρ 2 + 0 := hP _ (List.mem_of_getElem? (i := 1) rfl)
  try simp only [Int.add_zero] at h0 h1
  have key : (Γ (α 0) = 40 ∧ tyO Γ M (α 0) [] ∧ Q414 g  (clp [(9, 10)] (M.2.2.2.2 (α 0))) (ρ 1 + 0)) ∧ True := by
    try simp only [Int.add_zero]
    refine ⟨⟨g0, tyO_of hT g0 (by decide) (by decide), ?_⟩, trivial⟩
    show ρ 1 < (clp [(9, 10)] (M.2.2.2.2 (α 0)) 9)
    rw [c99, show M.2.2.2.2 (α 0) 9 = ρ 2 from h1.2]
    exact h0
  exact ⟨nB, qB (key.1) (nB)⟩
def t_ll6 : KT := ((0, 0, 0, 0), [(2, 0, 40, 0), (1, 1, 0, 0), (1, 2, 0, 0)], [(0, 0), (1, 4095), (0, 11)], [(170, [(2, 0, 40, 0), (1, 1, 0, 0), (1, 2, 0, 0)]), (166, [(2, 0, 40, 0), (1, 1, 0, 0), (1, 2, 0, 0)]), (169, [(2, 0, 40, 0), (1, 1, 0, 0), (1, 2, 0, 0)])], (0, 0, 0), [], [], ([], [(154, [(2, 0, 40, 0), (1, 1, 0, 1)])]), ([], []))
set_option maxRecDepth 100000 in
theorem l_ll6 (g : GG) : LOK Yt (PSt g) t_ll6 := by
  intro ρ α Γ M as hT hB hA hP
  have g0 : Γ (α 0) = 40 := tyAt hA (i := 0) rfl
  have b1 : 1 ≤ ρ 1 ∧ ρ 1 ≤ 4095 := hB 1
  have b2 : 0 ≤ ρ 2 ∧ ρ 2 ≤ 11 := hB 2
  have h0 : Γ (α 0) = 40 ∧ tyO Γ M (α 0) [(1, 41, [(0, 2), (10, 154), (298, 442)]), (8, 44, [(0, 144)]), (11, 46, [(0, 4096)])] ∧ Q170 g (vw M (α 0) 1 [(0, 2), (10, 154), (298, 442)]) (vw M (α 0) 8 [(0, 144)]) (vw M (α 0) 11 [(0, 4096)]) (clp [(9, 10)] (M.2.2.2.2 (α 0))) (ρ 1 + 0) (ρ 2 + 0) := hP _ (List.mem_of_getElem? (i := 0) rfl)
  have h1 : Γ (α 0) = 40 ∧ tyO Γ M (α 0) [] ∧ Q166 g  (clp [] (M.2.2.2.2 (α 0))) (ρ 1 + 0) (ρ 2 + 0) := hP _ (List.mem_of_getElem? (i := 1) rfl)
  have h2 : Γ (α 0) = 40 ∧ tyO Γ M (α 0) [] ∧ Q169 g  (clp [] (M.2.2.2.2 (α 0))) (ρ 1 + 0) (ρ 2 + 0) := hP _ (List.mem_of_getElem? (i := 2) rfl)
  try simp only [Int.add_zero] at h0 h1 h2
  have key : (Γ (α 0) = 40 ∧ tyO Γ M (α 0) [(1, 41, [(0, 2), (10, 154), (298, 442)]), (8, 44, [(0, 144)]), (11, 46, [(0, 4096)])] ∧ Q154 g (vw M (α 0) 1 [(0, 2), (10, 154), (298, 442)]) (vw M (α 0) 8 [(0, 144)]) (vw M (α 0) 11 [(0, 4096)]) (clp [(9, 10)] (M.2.2.2.2 (α 0))) (ρ 1 + 1)) ∧ True := by
    try simp only [Int.add_zero]
    obtain ⟨-, -, hl, he⟩ := h0
    refine ⟨⟨g0, tyO_of hT g0 (by decide) (by decide), fun s s1 s2 => ?_⟩, trivial⟩
    have hl : ∀ x : Int, 1 ≤ x → x < ρ 1 → LTg (clp [(0, 2), (10, 154), (298, 442)] (M.2.2.2.2 (fl M (α 0) 1))) (clp [(0, 144)] (M.2.2.2.2 (fl M (α 0) 8))) (clp [(0, 4096)] (M.2.2.2.2 (fl M (α 0) 11))) (clp [(9, 10)] (M.2.2.2.2 (α 0)) 9) x := hl
    show LTg (clp [(0, 2), (10, 154), (298, 442)] (M.2.2.2.2 (fl M (α 0) 1))) (clp [(0, 144)] (M.2.2.2.2 (fl M (α 0) 8))) (clp [(0, 4096)] (M.2.2.2.2 (fl M (α 0) 11))) (clp [(9, 10)] (M.2.2.2.2 (α 0)) 9) s
    by_cases hc : s < ρ 1
    · exact hl s s1 hc
    · rw [show s = ρ 1 by omega]
      exact ⟨ρ 2, b2, h1.2.2, h2.2.2, he⟩
  exact ⟨nB, qB (key.1) (nB)⟩
def t_ll7 : KT := ((0, 0, 0, 0), [(2, 0, 40, 0), (1, 1, 0, 0), (1, 2, 0, 0), (1, 3, 0, 0)], [(0, 0), (-2147483648, 2147483647), (-2147483648, 2147483647), (-2147483648, 2147483647)], [(154, [(2, 0, 40, 0), (1, 1, 0, 0)]), (6, [(1, 2, 0, 0), (1, 1, 0, 0)]), (80, [(0, 0, 0, 1), (1, 3, 0, 0), (1, 2, 0, 0)]), (10, [(2, 0, 40, 0), (0, 0, 0, 9), (1, 3, 0, 0)])], (0, 0, 0), [], [], ([], [(171, [(2, 0, 40, 0)])]), ([], []))
set_option maxRecDepth 100000 in
theorem l_ll7 (g : GG) : LOK Yt (PSt g) t_ll7 := by
  intro ρ α Γ M as hT hB hA hP
  have g0 : Γ (α 0) = 40 := tyAt hA (i := 0) rfl
  have b1 : -2147483648 ≤ ρ 1 ∧ ρ 1 ≤ 2147483647 := hB 1
  have b2 : -2147483648 ≤ ρ 2 ∧ ρ 2 ≤ 2147483647 := hB 2
  have b3 : -2147483648 ≤ ρ 3 ∧ ρ 3 ≤ 2147483647 := hB 3
  have h0 : Γ (α 0) = 40 ∧ tyO Γ M (α 0) [(1, 41, [(0, 2), (10, 154), (298, 442)]), (8, 44, [(0, 144)]), (11, 46, [(0, 4096)])] ∧ Q154 g (vw M (α 0) 1 [(0, 2), (10, 154), (298, 442)]) (vw M (α 0) 8 [(0, 144)]) (vw M (α 0) 11 [(0, 4096)]) (clp [(9, 10)] (M.2.2.2.2 (α 0))) (ρ 1 + 0) := hP _ (List.mem_of_getElem? (i := 0) rfl)
  have h1 : ρ 2 + 0 ≤ ρ 1 + 0 := hP _ (List.mem_of_getElem? (i := 1) rfl)
  have h2 : ρ 2 + 0 = sHl (1) (ρ 3 + 0) := hP _ (List.mem_of_getElem? (i := 2) rfl)
  have h3 : 0 ≤ (9 : Int) ∧ M.2.2.2.2 (α 0) (9 : Int).toNat = ρ 3 + 0 := hP _ (List.mem_of_getElem? (i := 3) rfl)
  try simp only [Int.add_zero] at h0 h1 h2 h3
  have key : (Γ (α 0) = 40 ∧ tyO Γ M (α 0) [(1, 41, [(0, 2), (10, 154), (298, 442)]), (8, 44, [(0, 144)]), (11, 46, [(0, 4096)])] ∧ Q171 g (vw M (α 0) 1 [(0, 2), (10, 154), (298, 442)]) (vw M (α 0) 8 [(0, 144)]) (vw M (α 0) 11 [(0, 4096)]) (clp [(9, 10)] (M.2.2.2.2 (α 0))) ) ∧ True := by
    try simp only [Int.add_zero]
    have hl : ∀ x : Int, 1 ≤ x → x < ρ 1 → LTg (clp [(0, 2), (10, 154), (298, 442)] (M.2.2.2.2 (fl M (α 0) 1))) (clp [(0, 144)] (M.2.2.2.2 (fl M (α 0) 8))) (clp [(0, 4096)] (M.2.2.2.2 (fl M (α 0) 11))) (clp [(9, 10)] (M.2.2.2.2 (α 0)) 9) x := h0.2.2
    refine ⟨⟨g0, tyO_of hT g0 (by decide) (by decide), fun s s1 s2 => ?_⟩, trivial⟩
    have s2 : s < sHl 1 (clp [(9, 10)] (M.2.2.2.2 (α 0)) 9) := s2
    rw [c99, show M.2.2.2.2 (α 0) 9 = ρ 3 from h3.2, ← h2] at s2
    exact hl s s1 (by omega)
  exact ⟨nB, qB (key.1) (nB)⟩
def t_lti : KT := ((0, 0, 0, 0), [(1, 0, 0, 0), (1, 1, 0, 0)], [(-2147483648, 2147483647), (-2147483648, 2147483647)], [(21, [(1, 0, 0, 0), (1, 1, 0, 0)])], (0, 0, 0), [], [], ([], [(21, [(1, 0, 0, 0), (1, 1, 0, 1)])]), ([], []))
set_option maxRecDepth 100000 in
theorem l_lti (g : GG) : LOK Yt (PSt g) t_lti := by
  intro ρ α Γ M as hT hB hA hP
  have b0 : -2147483648 ≤ ρ 0 ∧ ρ 0 ≤ 2147483647 := hB 0
  have b1 : -2147483648 ≤ ρ 1 ∧ ρ 1 ≤ 2147483647 := hB 1
  have h0 : ρ 0 + 0 < ρ 1 + 0 := hP _ (List.mem_of_getElem? (i := 0) rfl)
  try simp only [Int.add_zero] at h0
  have key : (ρ 0 + 0 < ρ 1 + 1) ∧ True := by
    try simp only [Int.add_zero]
    exact ⟨by omega, trivial⟩
  exact ⟨nB, qB (key.1) (nB)⟩
def t_lt0 : KT := ((0, 0, 0, 0), [(1, 0, 0, 0)], [(-2147483648, 2147483647)], [], (0, 0, 0), [], [], ([], [(21, [(1, 0, 0, 0), (1, 0, 0, 1)])]), ([], []))
set_option maxRecDepth 100000 in
theorem l_lt0 (g : GG) : LOK Yt (PSt g) t_lt0 := by
  intro ρ α Γ M as hT hB hA hP
  have b0 : -2147483648 ≤ ρ 0 ∧ ρ 0 ≤ 2147483647 := hB 0
  have key : (ρ 0 + 0 < ρ 0 + 1) ∧ True := by
    try simp only [Int.add_zero]
    exact ⟨by omega, trivial⟩
  exact ⟨nB, qB (key.1) (nB)⟩
def t_jl0 : KT := ((0, 0, 0, 0), [(2, 0, 40, 0), (1, 1, 0, 0), (1, 2, 0, 0), (1, 3, 0, 0)], [(0, 0), (0, 12), (-2147483648, 2147483647), (0, 0)], [(80, [(0, 0, 0, 1), (1, 1, 0, 0), (1, 2, 0, 0)]), (10, [(2, 0, 40, 0), (0, 0, 0, 9), (1, 1, 0, 0)])], (0, 0, 0), [], [], ([], [(172, [(2, 0, 40, 0), (1, 2, 0, -1)]), (169, [(2, 0, 40, 0), (1, 2, 0, -1), (1, 3, 0, 0)]), (418, [(2, 0, 40, 0), (1, 2, 0, -1)])]), ([], []))
set_option maxRecDepth 100000 in
theorem l_jl0 (g : GG) : LOK Yt (PSt g) t_jl0 := by
  intro ρ α Γ M as hT hB hA hP
  have g0 : Γ (α 0) = 40 := tyAt hA (i := 0) rfl
  have b1 : 0 ≤ ρ 1 ∧ ρ 1 ≤ 12 := hB 1
  have b2 : -2147483648 ≤ ρ 2 ∧ ρ 2 ≤ 2147483647 := hB 2
  have b3 : 0 ≤ ρ 3 ∧ ρ 3 ≤ 0 := hB 3
  have h0 : ρ 2 + 0 = sHl (1) (ρ 1 + 0) := hP _ (List.mem_of_getElem? (i := 0) rfl)
  have h1 : 0 ≤ (9 : Int) ∧ M.2.2.2.2 (α 0) (9 : Int).toNat = ρ 1 + 0 := hP _ (List.mem_of_getElem? (i := 1) rfl)
  try simp only [Int.add_zero] at h0 h1
  have key : (Γ (α 0) = 40 ∧ tyO Γ M (α 0) [(10, 45, [(0, 144)])] ∧ Q172 g (vw M (α 0) 10 [(0, 144)]) (clp [(9, 10)] (M.2.2.2.2 (α 0))) (ρ 2 + (-1))) ∧ (Γ (α 0) = 40 ∧ tyO Γ M (α 0) [] ∧ Q169 g  (clp [] (M.2.2.2.2 (α 0))) (ρ 2 + (-1)) (ρ 3 + 0)) ∧ (Γ (α 0) = 40 ∧ tyO Γ M (α 0) [] ∧ Q418 g  (clp [(9, 10)] (M.2.2.2.2 (α 0))) (ρ 2 + (-1))) ∧ True := by
    try simp only [Int.add_zero]
    have e9 : M.2.2.2.2 (α 0) 9 = ρ 1 := h1.2
    refine ⟨⟨g0, tyO_of hT g0 (by decide) (by decide), fun j j1 j2 => absurd ?_ j2⟩, ⟨g0, tyO_of hT g0 (by decide) (by decide), fun j j1 j2 => by omega⟩, ⟨g0, tyO_of hT g0 (by decide) (by decide), ?_⟩, trivial⟩
    · have j1 : (j : Int) < (clp [(9, 10)] (M.2.2.2.2 (α 0)) 9) := j1
      rw [c99, e9] at j1
      have := bt_full (T := ρ 1) (j := (j : Int)) b1.1 b1.2 (by omega) j1
      rw [← h0] at this
      exact this
    · show ρ 2 + (-1) < sHl 1 (clp [(9, 10)] (M.2.2.2.2 (α 0)) 9)
      rw [c99, e9, ← h0]
      omega
  exact ⟨nB, qB (key.1) (qB (key.2.1) (qB (key.2.2.1) (nB)))⟩
def t_jl1 : KT := ((0, 0, 0, 0), [(2, 0, 40, 0), (2, 1, 44, 0), (2, 2, 46, 0), (1, 3, 0, 0), (1, 4, 0, 0), (1, 5, 0, 0), (1, 6, 0, 0), (1, 7, 0, 0), (1, 8, 0, 0), (1, 9, 0, 0)], [(0, 0), (0, 0), (0, 0), (0, 4095), (0, 11), (0, 4095), (0, 143), (-2147483648, 2147483647), (-2147483648, 2147483647), (-2147483648, 2147483647)], [(166, [(2, 0, 40, 0), (1, 3, 0, 0), (1, 4, 0, 0)]), (168, [(2, 0, 40, 0), (1, 3, 0, 0), (1, 4, 0, 0), (1, 5, 0, 0)]), (150, [(2, 0, 40, 0), (1, 6, 0, 0), (1, 7, 0, 0)]), (11, [(2, 0, 40, 0), (0, 0, 0, 8), (2, 1, 44, 0)]), (10, [(2, 1, 44, 0), (1, 4, 0, 0), (1, 6, 0, 0)]), (11, [(2, 0, 40, 0), (0, 0, 0, 11), (2, 2, 46, 0)]), (10, [(2, 2, 46, 0), (1, 5, 0, 0), (1, 8, 0, 0)]), (23, [(1, 7, 0, 0), (1, 8, 0, 0), (1, 9, 0, 0)])], (0, 0, 0), [], [], ([], [(415, [(2, 0, 40, 0), (1, 3, 0, 0), (1, 4, 0, 0), (1, 9, 0, 0)])]), ([], []))
set_option maxRecDepth 100000 in
theorem l_jl1 (g : GG) : LOK Yt (PSt g) t_jl1 := by
  intro ρ α Γ M as hT hB hA hP
  have g0 : Γ (α 0) = 40 := tyAt hA (i := 0) rfl
  have g1 : Γ (α 1) = 44 := tyAt hA (i := 1) rfl
  have g2 : Γ (α 2) = 46 := tyAt hA (i := 2) rfl
  have b3 : 0 ≤ ρ 3 ∧ ρ 3 ≤ 4095 := hB 3
  have b4 : 0 ≤ ρ 4 ∧ ρ 4 ≤ 11 := hB 4
  have b5 : 0 ≤ ρ 5 ∧ ρ 5 ≤ 4095 := hB 5
  have b6 : 0 ≤ ρ 6 ∧ ρ 6 ≤ 143 := hB 6
  have b7 : -2147483648 ≤ ρ 7 ∧ ρ 7 ≤ 2147483647 := hB 7
  have b8 : -2147483648 ≤ ρ 8 ∧ ρ 8 ≤ 2147483647 := hB 8
  have b9 : -2147483648 ≤ ρ 9 ∧ ρ 9 ≤ 2147483647 := hB 9
  have h0 : Γ (α 0) = 40 ∧ tyO Γ M (α 0) [] ∧ Q166 g  (clp [] (M.2.2.2.2 (α 0))) (ρ 3 + 0) (ρ 4 + 0) := hP _ (List.mem_of_getElem? (i := 0) rfl)
  have h1 : Γ (α 0) = 40 ∧ tyO Γ M (α 0) [] ∧ Q168 g  (clp [] (M.2.2.2.2 (α 0))) (ρ 3 + 0) (ρ 4 + 0) (ρ 5 + 0) := hP _ (List.mem_of_getElem? (i := 1) rfl)
  have h2 : Γ (α 0) = 40 ∧ tyO Γ M (α 0) [(1, 41, [(0, 2)])] ∧ Q150 g (vw M (α 0) 1 [(0, 2)]) (clp [] (M.2.2.2.2 (α 0))) (ρ 6 + 0) (ρ 7 + 0) := hP _ (List.mem_of_getElem? (i := 2) rfl)
  have h3 : 0 ≤ (8 : Int) ∧ M.2.2.2.1 (α 0) (8 : Int).toNat = some (α 1) := hP _ (List.mem_of_getElem? (i := 3) rfl)
  have h4 : 0 ≤ (ρ 4 + 0 : Int) ∧ M.2.2.2.2 (α 1) (ρ 4 + 0 : Int).toNat = ρ 6 + 0 := hP _ (List.mem_of_getElem? (i := 4) rfl)
  have h5 : 0 ≤ (11 : Int) ∧ M.2.2.2.1 (α 0) (11 : Int).toNat = some (α 2) := hP _ (List.mem_of_getElem? (i := 5) rfl)
  have h6 : 0 ≤ (ρ 5 + 0 : Int) ∧ M.2.2.2.2 (α 2) (ρ 5 + 0 : Int).toNat = ρ 8 + 0 := hP _ (List.mem_of_getElem? (i := 6) rfl)
  have h7 : ρ 9 + 0 = wI ((ρ 7 + 0) + (ρ 8 + 0)) := hP _ (List.mem_of_getElem? (i := 7) rfl)
  try simp only [Int.add_zero] at h0 h1 h2 h3 h4 h5 h6 h7
  have key : (Γ (α 0) = 40 ∧ tyO Γ M (α 0) [(1, 41, [(0, 2), (10, 154), (298, 442)]), (8, 44, [(0, 144)]), (11, 46, [(0, 4096)])] ∧ Q415 g (vw M (α 0) 1 [(0, 2), (10, 154), (298, 442)]) (vw M (α 0) 8 [(0, 144)]) (vw M (α 0) 11 [(0, 4096)]) (clp [] (M.2.2.2.2 (α 0))) (ρ 3 + 0) (ρ 4 + 0) (ρ 9 + 0)) ∧ True := by
    try simp only [Int.add_zero]
    have e8 : fl M (α 0) 8 = α 1 := fl_eq (show M.2.2.2.1 (α 0) 8 = some (α 1) from h3.2)
    have e11 : fl M (α 0) 11 = α 2 := fl_eq (show M.2.2.2.1 (α 0) 11 = some (α 2) from h5.2)
    
    have hw : ρ 5 = wtS (ρ 3) (ρ 4) := h1.2.2
    have hf : ρ 7 = fbF ((clp [(0, 2)] (M.2.2.2.2 (fl M (α 0) 1))) 0 + 4) ((clp [(0, 2)] (M.2.2.2.2 (fl M (α 0) 1))) 1 + 4) (ρ 6) := h2.2.2
    rw [rc0, rc1'] at hf
    have hti : M.2.2.2.2 (α 1) (ρ 4).toNat = ρ 6 := h4.2
    have hlr : M.2.2.2.2 (α 2) (ρ 5).toNat = ρ 8 := h6.2
    refine ⟨⟨g0, tyO_of hT g0 (by decide) (by decide), ?_⟩, trivial⟩
    show ρ 9 = wI (fbF ((clp [(0, 2)] (M.2.2.2.2 (fl M (α 0) 1))) 0 + 4) ((clp [(0, 2)] (M.2.2.2.2 (fl M (α 0) 1))) 1 + 4) ((clp [(0, 144)] (M.2.2.2.2 (fl M (α 0) 8))) (ρ 4).toNat) + (clp [(0, 4096)] (M.2.2.2.2 (fl M (α 0) 11))) (wtS (ρ 3) (ρ 4)).toNat)
    rw [← hw, e11, cA4 (by omega), hlr, e8, cA1 (by omega), hti, rc0, rc1', ← hf]
    exact h7
  exact ⟨nB, qB (key.1) (nB)⟩
def t_jl2 : KT := ((0, 0, 0, 0), [(2, 0, 40, 0), (2, 1, 46, 0), (1, 2, 0, 0), (1, 3, 0, 0), (1, 4, 0, 0), (1, 5, 0, 0)], [(0, 0), (0, 0), (0, 4095), (0, 11), (-2147483648, 2147483647), (-2147483648, 2147483647)], [(169, [(2, 0, 40, 0), (1, 2, 0, 0), (1, 3, 0, 0)]), (418, [(2, 0, 40, 0), (1, 2, 0, 0)]), (171, [(2, 0, 40, 0)]), (166, [(2, 0, 40, 0), (1, 2, 0, 0), (1, 3, 0, 0)]), (415, [(2, 0, 40, 0), (1, 2, 0, 0), (1, 3, 0, 0), (1, 4, 0, 0)]), (11, [(2, 0, 40, 0), (0, 0, 0, 11), (2, 1, 46, 0)]), (10, [(2, 1, 46, 0), (1, 2, 0, 0), (1, 5, 0, 0)]), (99, [(1, 4, 0, 0), (1, 5, 0, 0), (0, 0, 0, 0)])], (0, 0, 0), [], [], ([], [(173, [(2, 0, 40, 0), (1, 2, 0, 0), (1, 3, 0, 0), (1, 3, 0, 1)])]), ([], []))
set_option maxRecDepth 100000 in
theorem l_jl2 (g : GG) : LOK Yt (PSt g) t_jl2 := by
  intro ρ α Γ M as hT hB hA hP
  have g0 : Γ (α 0) = 40 := tyAt hA (i := 0) rfl
  have g1 : Γ (α 1) = 46 := tyAt hA (i := 1) rfl
  have b2 : 0 ≤ ρ 2 ∧ ρ 2 ≤ 4095 := hB 2
  have b3 : 0 ≤ ρ 3 ∧ ρ 3 ≤ 11 := hB 3
  have b4 : -2147483648 ≤ ρ 4 ∧ ρ 4 ≤ 2147483647 := hB 4
  have b5 : -2147483648 ≤ ρ 5 ∧ ρ 5 ≤ 2147483647 := hB 5
  have h0 : Γ (α 0) = 40 ∧ tyO Γ M (α 0) [] ∧ Q169 g  (clp [] (M.2.2.2.2 (α 0))) (ρ 2 + 0) (ρ 3 + 0) := hP _ (List.mem_of_getElem? (i := 0) rfl)
  have h1 : Γ (α 0) = 40 ∧ tyO Γ M (α 0) [] ∧ Q418 g  (clp [(9, 10)] (M.2.2.2.2 (α 0))) (ρ 2 + 0) := hP _ (List.mem_of_getElem? (i := 1) rfl)
  have h2 : Γ (α 0) = 40 ∧ tyO Γ M (α 0) [(1, 41, [(0, 2), (10, 154), (298, 442)]), (8, 44, [(0, 144)]), (11, 46, [(0, 4096)])] ∧ Q171 g (vw M (α 0) 1 [(0, 2), (10, 154), (298, 442)]) (vw M (α 0) 8 [(0, 144)]) (vw M (α 0) 11 [(0, 4096)]) (clp [(9, 10)] (M.2.2.2.2 (α 0)))  := hP _ (List.mem_of_getElem? (i := 2) rfl)
  have h3 : Γ (α 0) = 40 ∧ tyO Γ M (α 0) [] ∧ Q166 g  (clp [] (M.2.2.2.2 (α 0))) (ρ 2 + 0) (ρ 3 + 0) := hP _ (List.mem_of_getElem? (i := 3) rfl)
  have h4 : Γ (α 0) = 40 ∧ tyO Γ M (α 0) [(1, 41, [(0, 2), (10, 154), (298, 442)]), (8, 44, [(0, 144)]), (11, 46, [(0, 4096)])] ∧ Q415 g (vw M (α 0) 1 [(0, 2), (10, 154), (298, 442)]) (vw M (α 0) 8 [(0, 144)]) (vw M (α 0) 11 [(0, 4096)]) (clp [] (M.2.2.2.2 (α 0))) (ρ 2 + 0) (ρ 3 + 0) (ρ 4 + 0) := hP _ (List.mem_of_getElem? (i := 4) rfl)
  have h5 : 0 ≤ (11 : Int) ∧ M.2.2.2.1 (α 0) (11 : Int).toNat = some (α 1) := hP _ (List.mem_of_getElem? (i := 5) rfl)
  have h6 : 0 ≤ (ρ 2 + 0 : Int) ∧ M.2.2.2.2 (α 1) (ρ 2 + 0 : Int).toNat = ρ 5 + 0 := hP _ (List.mem_of_getElem? (i := 6) rfl)
  have h7 : (ρ 4 + 0 : Int) ≠ ρ 5 + 0 := hP _ (List.mem_of_getElem? (i := 7) rfl)
  try simp only [Int.add_zero] at h0 h1 h2 h3 h4 h5 h6 h7
  have key : (Γ (α 0) = 40 ∧ tyO Γ M (α 0) [(1, 41, [(0, 2), (10, 154), (298, 442)]), (8, 44, [(0, 144)]), (11, 46, [(0, 4096)])] ∧ Q173 g (vw M (α 0) 1 [(0, 2), (10, 154), (298, 442)]) (vw M (α 0) 8 [(0, 144)]) (vw M (α 0) 11 [(0, 4096)]) (clp [(9, 10)] (M.2.2.2.2 (α 0))) (ρ 2 + 0) (ρ 3 + 0) (ρ 3 + 1)) ∧ True := by
    try simp only [Int.add_zero]
    have e11 : fl M (α 0) 11 = α 1 := fl_eq (show M.2.2.2.1 (α 0) 11 = some (α 1) from h5.2)
    
    have hm : ∀ j : Int, 0 ≤ j → j < ρ 3 → ¬ btS (ρ 2) j := h0.2.2
    have hs : ρ 2 < sHl 1 (clp [(9, 10)] (M.2.2.2.2 (α 0)) 9) := h1.2.2
    have hl : ∀ s : Int, 1 ≤ s → s < sHl 1 (clp [(9, 10)] (M.2.2.2.2 (α 0)) 9) → LTg (clp [(0, 2), (10, 154), (298, 442)] (M.2.2.2.2 (fl M (α 0) 1))) (clp [(0, 144)] (M.2.2.2.2 (fl M (α 0) 8))) (clp [(0, 4096)] (M.2.2.2.2 (fl M (α 0) 11))) (clp [(9, 10)] (M.2.2.2.2 (α 0)) 9) s := h2.2.2
    have hb : btS (ρ 2) (ρ 3) := h3.2.2
    have h1s := bt0 b2.1 b2.2 b3.1 b3.2 hb
    obtain ⟨i, hi, ib, im, ie⟩ := hl (ρ 2) h1s hs
    have hii : i = ρ 3 := by
      rcases Int.lt_trichotomy i (ρ 3) with q | q | q
      · exact absurd ib (hm i hi.1 q)
      · exact q
      · exact absurd hb (im (ρ 3) b3.1 q)
    rw [hii] at ie
    have hv : ρ 4 = wI (fbF ((clp [(0, 2)] (M.2.2.2.2 (fl M (α 0) 1))) 0 + 4) ((clp [(0, 2)] (M.2.2.2.2 (fl M (α 0) 1))) 1 + 4) ((clp [(0, 144)] (M.2.2.2.2 (fl M (α 0) 8))) (ρ 3).toNat) + (clp [(0, 4096)] (M.2.2.2.2 (fl M (α 0) 11))) (wtS (ρ 2) (ρ 3)).toNat) := h4.2.2
    rw [rc0, rc1'] at hv
    have hl2 : (clp [(0, 4096)] (M.2.2.2.2 (fl M (α 0) 11))) (ρ 2).toNat = ρ 5 := by rw [e11, cA4 (by omega)]; exact h6.2
    refine ⟨⟨g0, tyO_of hT g0 (by decide) (by decide), ?_⟩, trivial⟩
    rcases ie with ie | ⟨k, k1, k2, k3, k4, k5⟩
    · rw [rt0, rt1, hl2, ← hv] at ie
      exact absurd ie.symm h7
    · exact ⟨k, by omega, k2, k3, k4, k5⟩
  exact ⟨nB, qB (key.1) (nB)⟩
def t_jl3 : KT := ((0, 0, 0, 0), [(2, 0, 40, 0), (1, 1, 0, 0), (1, 2, 0, 0), (1, 3, 0, 0), (1, 4, 0, 0)], [(0, 0), (-2147483648, 2147483647), (-2147483648, 2147483647), (-2147483648, 2147483647), (0, 12)], [(173, [(2, 0, 40, 0), (1, 1, 0, 0), (1, 2, 0, 0), (1, 3, 0, 0)]), (10, [(2, 0, 40, 0), (0, 0, 0, 9), (1, 4, 0, 0)])], (0, 0, 0), [], [], ([(3, -2147483648, 11)], []), ([], []))
set_option maxRecDepth 100000 in
theorem l_jl3 (g : GG) : LOK Yt (PSt g) t_jl3 := by
  intro ρ α Γ M as hT hB hA hP
  have g0 : Γ (α 0) = 40 := tyAt hA (i := 0) rfl
  have b1 : -2147483648 ≤ ρ 1 ∧ ρ 1 ≤ 2147483647 := hB 1
  have b2 : -2147483648 ≤ ρ 2 ∧ ρ 2 ≤ 2147483647 := hB 2
  have b3 : -2147483648 ≤ ρ 3 ∧ ρ 3 ≤ 2147483647 := hB 3
  have b4 : 0 ≤ ρ 4 ∧ ρ 4 ≤ 12 := hB 4
  have h0 : Γ (α 0) = 40 ∧ tyO Γ M (α 0) [(1, 41, [(0, 2), (10, 154), (298, 442)]), (8, 44, [(0, 144)]), (11, 46, [(0, 4096)])] ∧ Q173 g (vw M (α 0) 1 [(0, 2), (10, 154), (298, 442)]) (vw M (α 0) 8 [(0, 144)]) (vw M (α 0) 11 [(0, 4096)]) (clp [(9, 10)] (M.2.2.2.2 (α 0))) (ρ 1 + 0) (ρ 2 + 0) (ρ 3 + 0) := hP _ (List.mem_of_getElem? (i := 0) rfl)
  have h1 : 0 ≤ (9 : Int) ∧ M.2.2.2.2 (α 0) (9 : Int).toNat = ρ 4 + 0 := hP _ (List.mem_of_getElem? (i := 1) rfl)
  try simp only [Int.add_zero] at h0 h1
  have key : (-2147483648 ≤ ρ 3 ∧ ρ 3 ≤ 11) ∧ True := by
    try simp only [Int.add_zero]
    obtain ⟨-, -, k, k1, k2, -⟩ := h0
    have k2 : k < (clp [(9, 10)] (M.2.2.2.2 (α 0)) 9) := k2
    rw [c99, show M.2.2.2.2 (α 0) 9 = ρ 4 from h1.2] at k2
    exact ⟨⟨b3.1, by omega⟩, trivial⟩
  exact ⟨qB (key.1) (nB), nB⟩
def t_jl4 : KT := ((0, 0, 0, 0), [(2, 0, 40, 0), (1, 1, 0, 0), (1, 2, 0, 0), (1, 3, 0, 0), (1, 4, 0, 0)], [(0, 0), (-2147483648, 2147483647), (-2147483648, 2147483647), (-2147483648, 2147483647), (-2147483648, 2147483647)], [(173, [(2, 0, 40, 0), (1, 1, 0, 0), (1, 2, 0, 0), (1, 3, 0, 0)]), (168, [(2, 0, 40, 0), (1, 1, 0, 0), (1, 2, 0, 0), (1, 4, 0, 0)]), (167, [(2, 0, 40, 0), (1, 4, 0, 0), (1, 3, 0, 0)])], (0, 0, 0), [], [], ([], [(173, [(2, 0, 40, 0), (1, 1, 0, 0), (1, 2, 0, 0), (1, 3, 0, 1)])]), ([], []))
set_option maxRecDepth 100000 in
theorem l_jl4 (g : GG) : LOK Yt (PSt g) t_jl4 := by
  intro ρ α Γ M as hT hB hA hP
  have g0 : Γ (α 0) = 40 := tyAt hA (i := 0) rfl
  have b1 : -2147483648 ≤ ρ 1 ∧ ρ 1 ≤ 2147483647 := hB 1
  have b2 : -2147483648 ≤ ρ 2 ∧ ρ 2 ≤ 2147483647 := hB 2
  have b3 : -2147483648 ≤ ρ 3 ∧ ρ 3 ≤ 2147483647 := hB 3
  have b4 : -2147483648 ≤ ρ 4 ∧ ρ 4 ≤ 2147483647 := hB 4
  have h0 : Γ (α 0) = 40 ∧ tyO Γ M (α 0) [(1, 41, [(0, 2), (10, 154), (298, 442)]), (8, 44, [(0, 144)]), (11, 46, [(0, 4096)])] ∧ Q173 g (vw M (α 0) 1 [(0, 2), (10, 154), (298, 442)]) (vw M (α 0) 8 [(0, 144)]) (vw M (α 0) 11 [(0, 4096)]) (clp [(9, 10)] (M.2.2.2.2 (α 0))) (ρ 1 + 0) (ρ 2 + 0) (ρ 3 + 0) := hP _ (List.mem_of_getElem? (i := 0) rfl)
  have h1 : Γ (α 0) = 40 ∧ tyO Γ M (α 0) [] ∧ Q168 g  (clp [] (M.2.2.2.2 (α 0))) (ρ 1 + 0) (ρ 2 + 0) (ρ 4 + 0) := hP _ (List.mem_of_getElem? (i := 1) rfl)
  have h2 : Γ (α 0) = 40 ∧ tyO Γ M (α 0) [] ∧ Q167 g  (clp [] (M.2.2.2.2 (α 0))) (ρ 4 + 0) (ρ 3 + 0) := hP _ (List.mem_of_getElem? (i := 2) rfl)
  try simp only [Int.add_zero] at h0 h1 h2
  have key : (Γ (α 0) = 40 ∧ tyO Γ M (α 0) [(1, 41, [(0, 2), (10, 154), (298, 442)]), (8, 44, [(0, 144)]), (11, 46, [(0, 4096)])] ∧ Q173 g (vw M (α 0) 1 [(0, 2), (10, 154), (298, 442)]) (vw M (α 0) 8 [(0, 144)]) (vw M (α 0) 11 [(0, 4096)]) (clp [(9, 10)] (M.2.2.2.2 (α 0))) (ρ 1 + 0) (ρ 2 + 0) (ρ 3 + 1)) ∧ True := by
    try simp only [Int.add_zero]
    obtain ⟨-, -, k, k1, k2, k3, k4, k5⟩ := h0
    have k3 : btS (wtS (ρ 1) (ρ 2)) k := k3
    have k4 : chg (clp [(0, 2), (10, 154), (298, 442)] (M.2.2.2.2 (fl M (α 0) 1))) ((clp [(0, 144)] (M.2.2.2.2 (fl M (α 0) 8))) (ρ 2).toNat) + chg (clp [(0, 2), (10, 154), (298, 442)] (M.2.2.2.2 (fl M (α 0) 1))) ((clp [(0, 144)] (M.2.2.2.2 (fl M (α 0) 8))) k.toNat) = 0 := k4
    have k5 : (clp [(0, 4096)] (M.2.2.2.2 (fl M (α 0) 11))) (ρ 1).toNat = wI (foF ((clp [(0, 2), (10, 154), (298, 442)] (M.2.2.2.2 (fl M (α 0) 1))) 1 + 4) ((clp [(0, 144)] (M.2.2.2.2 (fl M (α 0) 8))) (ρ 2).toNat) ((clp [(0, 144)] (M.2.2.2.2 (fl M (α 0) 8))) k.toNat) + (clp [(0, 4096)] (M.2.2.2.2 (fl M (α 0) 11))) (wtS (wtS (ρ 1) (ρ 2)) k).toNat) := k5
    refine ⟨⟨g0, tyO_of hT g0 (by decide) (by decide), k, ?_, k2, k3, k4, k5⟩, trivial⟩
    by_cases hc : k = ρ 3
    · exfalso
      subst hc
      have hw : ρ 4 = wtS (ρ 1) (ρ 2) := h1.2.2
      rw [← hw] at k3
      exact h2.2.2 k3
    · omega
  exact ⟨nB, qB (key.1) (nB)⟩
def t_jl5 : KT := ((0, 0, 0, 0), [(2, 0, 40, 0), (1, 1, 0, 0), (1, 2, 0, 0), (1, 3, 0, 0)], [(0, 0), (-2147483648, 2147483647), (-2147483648, 2147483647), (-2147483648, 2147483647)], [(173, [(2, 0, 40, 0), (1, 1, 0, 0), (1, 2, 0, 0), (1, 3, 0, 0)]), (153, [(2, 0, 40, 0), (1, 2, 0, 0), (1, 3, 0, 0)])], (0, 0, 0), [], [], ([], [(173, [(2, 0, 40, 0), (1, 1, 0, 0), (1, 2, 0, 0), (1, 3, 0, 1)])]), ([], []))
set_option maxRecDepth 100000 in
theorem l_jl5 (g : GG) : LOK Yt (PSt g) t_jl5 := by
  intro ρ α Γ M as hT hB hA hP
  have g0 : Γ (α 0) = 40 := tyAt hA (i := 0) rfl
  have b1 : -2147483648 ≤ ρ 1 ∧ ρ 1 ≤ 2147483647 := hB 1
  have b2 : -2147483648 ≤ ρ 2 ∧ ρ 2 ≤ 2147483647 := hB 2
  have b3 : -2147483648 ≤ ρ 3 ∧ ρ 3 ≤ 2147483647 := hB 3
  have h0 : Γ (α 0) = 40 ∧ tyO Γ M (α 0) [(1, 41, [(0, 2), (10, 154), (298, 442)]), (8, 44, [(0, 144)]), (11, 46, [(0, 4096)])] ∧ Q173 g (vw M (α 0) 1 [(0, 2), (10, 154), (298, 442)]) (vw M (α 0) 8 [(0, 144)]) (vw M (α 0) 11 [(0, 4096)]) (clp [(9, 10)] (M.2.2.2.2 (α 0))) (ρ 1 + 0) (ρ 2 + 0) (ρ 3 + 0) := hP _ (List.mem_of_getElem? (i := 0) rfl)
  have h1 : Γ (α 0) = 40 ∧ tyO Γ M (α 0) [(1, 41, [(0, 2), (10, 154), (298, 442)]), (8, 44, [(0, 144)])] ∧ Q153 g (vw M (α 0) 1 [(0, 2), (10, 154), (298, 442)]) (vw M (α 0) 8 [(0, 144)]) (clp [] (M.2.2.2.2 (α 0))) (ρ 2 + 0) (ρ 3 + 0) := hP _ (List.mem_of_getElem? (i := 1) rfl)
  try simp only [Int.add_zero] at h0 h1
  have key : (Γ (α 0) = 40 ∧ tyO Γ M (α 0) [(1, 41, [(0, 2), (10, 154), (298, 442)]), (8, 44, [(0, 144)]), (11, 46, [(0, 4096)])] ∧ Q173 g (vw M (α 0) 1 [(0, 2), (10, 154), (298, 442)]) (vw M (α 0) 8 [(0, 144)]) (vw M (α 0) 11 [(0, 4096)]) (clp [(9, 10)] (M.2.2.2.2 (α 0))) (ρ 1 + 0) (ρ 2 + 0) (ρ 3 + 1)) ∧ True := by
    try simp only [Int.add_zero]
    obtain ⟨-, -, k, k1, k2, k3, k4, k5⟩ := h0
    have k3 : btS (wtS (ρ 1) (ρ 2)) k := k3
    have k4 : chg (clp [(0, 2), (10, 154), (298, 442)] (M.2.2.2.2 (fl M (α 0) 1))) ((clp [(0, 144)] (M.2.2.2.2 (fl M (α 0) 8))) (ρ 2).toNat) + chg (clp [(0, 2), (10, 154), (298, 442)] (M.2.2.2.2 (fl M (α 0) 1))) ((clp [(0, 144)] (M.2.2.2.2 (fl M (α 0) 8))) k.toNat) = 0 := k4
    have k5 : (clp [(0, 4096)] (M.2.2.2.2 (fl M (α 0) 11))) (ρ 1).toNat = wI (foF ((clp [(0, 2), (10, 154), (298, 442)] (M.2.2.2.2 (fl M (α 0) 1))) 1 + 4) ((clp [(0, 144)] (M.2.2.2.2 (fl M (α 0) 8))) (ρ 2).toNat) ((clp [(0, 144)] (M.2.2.2.2 (fl M (α 0) 8))) k.toNat) + (clp [(0, 4096)] (M.2.2.2.2 (fl M (α 0) 11))) (wtS (wtS (ρ 1) (ρ 2)) k).toNat) := k5
    refine ⟨⟨g0, tyO_of hT g0 (by decide) (by decide), k, ?_, k2, k3, k4, k5⟩, trivial⟩
    by_cases hc : k = ρ 3
    · exfalso
      subst hc
      exact h1.2.2 k4
    · omega
  exact ⟨nB, qB (key.1) (nB)⟩
def t_jl6 : KT := ((0, 0, 0, 0), [(2, 0, 40, 0), (2, 1, 44, 0), (1, 2, 0, 0), (1, 3, 0, 0), (1, 4, 0, 0), (1, 5, 0, 0), (1, 6, 0, 0)], [(0, 0), (0, 0), (0, 11), (0, 11), (0, 143), (0, 143), (-2147483648, 2147483647)], [(151, [(2, 0, 40, 0), (1, 4, 0, 0), (1, 5, 0, 0), (1, 6, 0, 0)]), (11, [(2, 0, 40, 0), (0, 0, 0, 8), (2, 1, 44, 0)]), (10, [(2, 1, 44, 0), (1, 2, 0, 0), (1, 4, 0, 0)]), (10, [(2, 1, 44, 0), (1, 3, 0, 0), (1, 5, 0, 0)])], (0, 0, 0), [], [], ([], [(416, [(2, 0, 40, 0), (1, 2, 0, 0), (1, 3, 0, 0), (1, 6, 0, 0)])]), ([], []))
set_option maxRecDepth 100000 in
theorem l_jl6 (g : GG) : LOK Yt (PSt g) t_jl6 := by
  intro ρ α Γ M as hT hB hA hP
  have g0 : Γ (α 0) = 40 := tyAt hA (i := 0) rfl
  have g1 : Γ (α 1) = 44 := tyAt hA (i := 1) rfl
  have b2 : 0 ≤ ρ 2 ∧ ρ 2 ≤ 11 := hB 2
  have b3 : 0 ≤ ρ 3 ∧ ρ 3 ≤ 11 := hB 3
  have b4 : 0 ≤ ρ 4 ∧ ρ 4 ≤ 143 := hB 4
  have b5 : 0 ≤ ρ 5 ∧ ρ 5 ≤ 143 := hB 5
  have b6 : -2147483648 ≤ ρ 6 ∧ ρ 6 ≤ 2147483647 := hB 6
  have h0 : Γ (α 0) = 40 ∧ tyO Γ M (α 0) [(1, 41, [(1, 2)])] ∧ Q151 g (vw M (α 0) 1 [(1, 2)]) (clp [] (M.2.2.2.2 (α 0))) (ρ 4 + 0) (ρ 5 + 0) (ρ 6 + 0) := hP _ (List.mem_of_getElem? (i := 0) rfl)
  have h1 : 0 ≤ (8 : Int) ∧ M.2.2.2.1 (α 0) (8 : Int).toNat = some (α 1) := hP _ (List.mem_of_getElem? (i := 1) rfl)
  have h2 : 0 ≤ (ρ 2 + 0 : Int) ∧ M.2.2.2.2 (α 1) (ρ 2 + 0 : Int).toNat = ρ 4 + 0 := hP _ (List.mem_of_getElem? (i := 2) rfl)
  have h3 : 0 ≤ (ρ 3 + 0 : Int) ∧ M.2.2.2.2 (α 1) (ρ 3 + 0 : Int).toNat = ρ 5 + 0 := hP _ (List.mem_of_getElem? (i := 3) rfl)
  try simp only [Int.add_zero] at h0 h1 h2 h3
  have key : (Γ (α 0) = 40 ∧ tyO Γ M (α 0) [(1, 41, [(0, 2), (10, 154), (298, 442)]), (8, 44, [(0, 144)])] ∧ Q416 g (vw M (α 0) 1 [(0, 2), (10, 154), (298, 442)]) (vw M (α 0) 8 [(0, 144)]) (clp [] (M.2.2.2.2 (α 0))) (ρ 2 + 0) (ρ 3 + 0) (ρ 6 + 0)) ∧ True := by
    try simp only [Int.add_zero]
    have e8 : fl M (α 0) 8 = α 1 := fl_eq (show M.2.2.2.1 (α 0) 8 = some (α 1) from h1.2)
    
    have hf : ρ 6 = foF ((clp [(1, 2)] (M.2.2.2.2 (fl M (α 0) 1))) 1 + 4) (ρ 4) (ρ 5) := h0.2.2
    have t1 : M.2.2.2.2 (α 1) (ρ 2).toNat = ρ 4 := h2.2
    have t2 : M.2.2.2.2 (α 1) (ρ 3).toNat = ρ 5 := h3.2
    refine ⟨⟨g0, tyO_of hT g0 (by decide) (by decide), ?_⟩, trivial⟩
    show ρ 6 = foF ((clp [(0, 2), (10, 154), (298, 442)] (M.2.2.2.2 (fl M (α 0) 1))) 1 + 4) ((clp [(0, 144)] (M.2.2.2.2 (fl M (α 0) 8))) (ρ 2).toNat) ((clp [(0, 144)] (M.2.2.2.2 (fl M (α 0) 8))) (ρ 3).toNat)
    rw [e8, cA1 (by omega), cA1 (by omega), t1, t2, rt1, hf, c11]
  exact ⟨nB, qB (key.1) (nB)⟩
def t_jl7 : KT := ((0, 0, 0, 0), [(2, 0, 40, 0), (2, 1, 46, 0), (1, 2, 0, 0), (1, 3, 0, 0), (1, 4, 0, 0), (1, 5, 0, 0), (1, 6, 0, 0), (1, 7, 0, 0), (1, 8, 0, 0), (1, 9, 0, 0)], [(0, 0), (0, 0), (0, 4095), (0, 11), (0, 11), (0, 4095), (-2147483648, 2147483647), (-2147483648, 2147483647), (-2147483648, 2147483647), (-2147483648, 2147483647)], [(416, [(2, 0, 40, 0), (1, 3, 0, 0), (1, 4, 0, 0), (1, 6, 0, 0)]), (168, [(2, 0, 40, 0), (1, 2, 0, 0), (1, 3, 0, 0), (1, 5, 0, 0)]), (168, [(2, 0, 40, 0), (1, 5, 0, 0), (1, 4, 0, 0), (1, 7, 0, 0)]), (11, [(2, 0, 40, 0), (0, 0, 0, 11), (2, 1, 46, 0)]), (10, [(2, 1, 46, 0), (1, 7, 0, 0), (1, 8, 0, 0)]), (23, [(1, 6, 0, 0), (1, 8, 0, 0), (1, 9, 0, 0)]), (6, [(1, 7, 0, 0), (1, 5, 0, 0)])], (0, 0, 0), [], [], ([], [(417, [(2, 0, 40, 0), (1, 2, 0, 0), (1, 3, 0, 0), (1, 4, 0, 0), (1, 9, 0, 0)])]), ([], []))
set_option maxRecDepth 100000 in
theorem l_jl7 (g : GG) : LOK Yt (PSt g) t_jl7 := by
  intro ρ α Γ M as hT hB hA hP
  have g0 : Γ (α 0) = 40 := tyAt hA (i := 0) rfl
  have g1 : Γ (α 1) = 46 := tyAt hA (i := 1) rfl
  have b2 : 0 ≤ ρ 2 ∧ ρ 2 ≤ 4095 := hB 2
  have b3 : 0 ≤ ρ 3 ∧ ρ 3 ≤ 11 := hB 3
  have b4 : 0 ≤ ρ 4 ∧ ρ 4 ≤ 11 := hB 4
  have b5 : 0 ≤ ρ 5 ∧ ρ 5 ≤ 4095 := hB 5
  have b6 : -2147483648 ≤ ρ 6 ∧ ρ 6 ≤ 2147483647 := hB 6
  have b7 : -2147483648 ≤ ρ 7 ∧ ρ 7 ≤ 2147483647 := hB 7
  have b8 : -2147483648 ≤ ρ 8 ∧ ρ 8 ≤ 2147483647 := hB 8
  have b9 : -2147483648 ≤ ρ 9 ∧ ρ 9 ≤ 2147483647 := hB 9
  have h0 : Γ (α 0) = 40 ∧ tyO Γ M (α 0) [(1, 41, [(0, 2), (10, 154), (298, 442)]), (8, 44, [(0, 144)])] ∧ Q416 g (vw M (α 0) 1 [(0, 2), (10, 154), (298, 442)]) (vw M (α 0) 8 [(0, 144)]) (clp [] (M.2.2.2.2 (α 0))) (ρ 3 + 0) (ρ 4 + 0) (ρ 6 + 0) := hP _ (List.mem_of_getElem? (i := 0) rfl)
  have h1 : Γ (α 0) = 40 ∧ tyO Γ M (α 0) [] ∧ Q168 g  (clp [] (M.2.2.2.2 (α 0))) (ρ 2 + 0) (ρ 3 + 0) (ρ 5 + 0) := hP _ (List.mem_of_getElem? (i := 1) rfl)
  have h2 : Γ (α 0) = 40 ∧ tyO Γ M (α 0) [] ∧ Q168 g  (clp [] (M.2.2.2.2 (α 0))) (ρ 5 + 0) (ρ 4 + 0) (ρ 7 + 0) := hP _ (List.mem_of_getElem? (i := 2) rfl)
  have h3 : 0 ≤ (11 : Int) ∧ M.2.2.2.1 (α 0) (11 : Int).toNat = some (α 1) := hP _ (List.mem_of_getElem? (i := 3) rfl)
  have h4 : 0 ≤ (ρ 7 + 0 : Int) ∧ M.2.2.2.2 (α 1) (ρ 7 + 0 : Int).toNat = ρ 8 + 0 := hP _ (List.mem_of_getElem? (i := 4) rfl)
  have h5 : ρ 9 + 0 = wI ((ρ 6 + 0) + (ρ 8 + 0)) := hP _ (List.mem_of_getElem? (i := 5) rfl)
  have h6 : ρ 7 + 0 ≤ ρ 5 + 0 := hP _ (List.mem_of_getElem? (i := 6) rfl)
  try simp only [Int.add_zero] at h0 h1 h2 h3 h4 h5 h6
  have key : (Γ (α 0) = 40 ∧ tyO Γ M (α 0) [(1, 41, [(0, 2), (10, 154), (298, 442)]), (8, 44, [(0, 144)]), (11, 46, [(0, 4096)])] ∧ Q417 g (vw M (α 0) 1 [(0, 2), (10, 154), (298, 442)]) (vw M (α 0) 8 [(0, 144)]) (vw M (α 0) 11 [(0, 4096)]) (clp [] (M.2.2.2.2 (α 0))) (ρ 2 + 0) (ρ 3 + 0) (ρ 4 + 0) (ρ 9 + 0)) ∧ True := by
    try simp only [Int.add_zero]
    have e11 : fl M (α 0) 11 = α 1 := fl_eq (show M.2.2.2.1 (α 0) 11 = some (α 1) from h3.2)
    
    have hf : ρ 6 = foF ((clp [(0, 2), (10, 154), (298, 442)] (M.2.2.2.2 (fl M (α 0) 1))) 1 + 4) ((clp [(0, 144)] (M.2.2.2.2 (fl M (α 0) 8))) (ρ 3).toNat) ((clp [(0, 144)] (M.2.2.2.2 (fl M (α 0) 8))) (ρ 4).toNat) := h0.2.2
    have hw : ρ 5 = wtS (ρ 2) (ρ 3) := h1.2.2
    have hw2 : ρ 7 = wtS (ρ 5) (ρ 4) := h2.2.2
    have w2 := wt_le (s := ρ 5) (i := ρ 4) b5.1 b5.2 b4.1 b4.2
    refine ⟨⟨g0, tyO_of hT g0 (by decide) (by decide), ?_⟩, trivial⟩
    show ρ 9 = wI (foF ((clp [(0, 2), (10, 154), (298, 442)] (M.2.2.2.2 (fl M (α 0) 1))) 1 + 4) ((clp [(0, 144)] (M.2.2.2.2 (fl M (α 0) 8))) (ρ 3).toNat) ((clp [(0, 144)] (M.2.2.2.2 (fl M (α 0) 8))) (ρ 4).toNat) + (clp [(0, 4096)] (M.2.2.2.2 (fl M (α 0) 11))) (wtS (wtS (ρ 2) (ρ 3)) (ρ 4)).toNat)
    rw [← hf, ← hw, ← hw2, e11, cA4 (by omega), show M.2.2.2.2 (α 1) (ρ 7).toNat = ρ 8 from h4.2]
    exact h5
  exact ⟨nB, qB (key.1) (nB)⟩
def t_jl8 : KT := ((0, 0, 0, 0), [(2, 0, 40, 0), (2, 1, 46, 0), (1, 2, 0, 0), (1, 3, 0, 0), (1, 4, 0, 0), (1, 5, 0, 0), (1, 6, 0, 0)], [(0, 0), (0, 0), (0, 4095), (0, 11), (0, 11), (-2147483648, 2147483647), (-2147483648, 2147483647)], [(173, [(2, 0, 40, 0), (1, 2, 0, 0), (1, 3, 0, 0), (1, 4, 0, 0)]), (417, [(2, 0, 40, 0), (1, 2, 0, 0), (1, 3, 0, 0), (1, 4, 0, 0), (1, 5, 0, 0)]), (11, [(2, 0, 40, 0), (0, 0, 0, 11), (2, 1, 46, 0)]), (10, [(2, 1, 46, 0), (1, 2, 0, 0), (1, 6, 0, 0)]), (99, [(1, 5, 0, 0), (1, 6, 0, 0), (0, 0, 0, 0)])], (0, 0, 0), [], [], ([], [(173, [(2, 0, 40, 0), (1, 2, 0, 0), (1, 3, 0, 0), (1, 4, 0, 1)])]), ([], []))
set_option maxRecDepth 100000 in
theorem l_jl8 (g : GG) : LOK Yt (PSt g) t_jl8 := by
  intro ρ α Γ M as hT hB hA hP
  have g0 : Γ (α 0) = 40 := tyAt hA (i := 0) rfl
  have g1 : Γ (α 1) = 46 := tyAt hA (i := 1) rfl
  have b2 : 0 ≤ ρ 2 ∧ ρ 2 ≤ 4095 := hB 2
  have b3 : 0 ≤ ρ 3 ∧ ρ 3 ≤ 11 := hB 3
  have b4 : 0 ≤ ρ 4 ∧ ρ 4 ≤ 11 := hB 4
  have b5 : -2147483648 ≤ ρ 5 ∧ ρ 5 ≤ 2147483647 := hB 5
  have b6 : -2147483648 ≤ ρ 6 ∧ ρ 6 ≤ 2147483647 := hB 6
  have h0 : Γ (α 0) = 40 ∧ tyO Γ M (α 0) [(1, 41, [(0, 2), (10, 154), (298, 442)]), (8, 44, [(0, 144)]), (11, 46, [(0, 4096)])] ∧ Q173 g (vw M (α 0) 1 [(0, 2), (10, 154), (298, 442)]) (vw M (α 0) 8 [(0, 144)]) (vw M (α 0) 11 [(0, 4096)]) (clp [(9, 10)] (M.2.2.2.2 (α 0))) (ρ 2 + 0) (ρ 3 + 0) (ρ 4 + 0) := hP _ (List.mem_of_getElem? (i := 0) rfl)
  have h1 : Γ (α 0) = 40 ∧ tyO Γ M (α 0) [(1, 41, [(0, 2), (10, 154), (298, 442)]), (8, 44, [(0, 144)]), (11, 46, [(0, 4096)])] ∧ Q417 g (vw M (α 0) 1 [(0, 2), (10, 154), (298, 442)]) (vw M (α 0) 8 [(0, 144)]) (vw M (α 0) 11 [(0, 4096)]) (clp [] (M.2.2.2.2 (α 0))) (ρ 2 + 0) (ρ 3 + 0) (ρ 4 + 0) (ρ 5 + 0) := hP _ (List.mem_of_getElem? (i := 1) rfl)
  have h2 : 0 ≤ (11 : Int) ∧ M.2.2.2.1 (α 0) (11 : Int).toNat = some (α 1) := hP _ (List.mem_of_getElem? (i := 2) rfl)
  have h3 : 0 ≤ (ρ 2 + 0 : Int) ∧ M.2.2.2.2 (α 1) (ρ 2 + 0 : Int).toNat = ρ 6 + 0 := hP _ (List.mem_of_getElem? (i := 3) rfl)
  have h4 : (ρ 5 + 0 : Int) ≠ ρ 6 + 0 := hP _ (List.mem_of_getElem? (i := 4) rfl)
  try simp only [Int.add_zero] at h0 h1 h2 h3 h4
  have key : (Γ (α 0) = 40 ∧ tyO Γ M (α 0) [(1, 41, [(0, 2), (10, 154), (298, 442)]), (8, 44, [(0, 144)]), (11, 46, [(0, 4096)])] ∧ Q173 g (vw M (α 0) 1 [(0, 2), (10, 154), (298, 442)]) (vw M (α 0) 8 [(0, 144)]) (vw M (α 0) 11 [(0, 4096)]) (clp [(9, 10)] (M.2.2.2.2 (α 0))) (ρ 2 + 0) (ρ 3 + 0) (ρ 4 + 1)) ∧ True := by
    try simp only [Int.add_zero]
    have e11 : fl M (α 0) 11 = α 1 := fl_eq (show M.2.2.2.1 (α 0) 11 = some (α 1) from h2.2)
    
    obtain ⟨-, -, k, k1, k2, k3, k4, k5⟩ := h0
    have k5 : (clp [(0, 4096)] (M.2.2.2.2 (fl M (α 0) 11))) (ρ 2).toNat = wI (foF ((clp [(0, 2), (10, 154), (298, 442)] (M.2.2.2.2 (fl M (α 0) 1))) 1 + 4) ((clp [(0, 144)] (M.2.2.2.2 (fl M (α 0) 8))) (ρ 3).toNat) ((clp [(0, 144)] (M.2.2.2.2 (fl M (α 0) 8))) k.toNat) + (clp [(0, 4096)] (M.2.2.2.2 (fl M (α 0) 11))) (wtS (wtS (ρ 2) (ρ 3)) k).toNat) := k5
    have hv : ρ 5 = wI (foF ((clp [(0, 2), (10, 154), (298, 442)] (M.2.2.2.2 (fl M (α 0) 1))) 1 + 4) ((clp [(0, 144)] (M.2.2.2.2 (fl M (α 0) 8))) (ρ 3).toNat) ((clp [(0, 144)] (M.2.2.2.2 (fl M (α 0) 8))) (ρ 4).toNat) + (clp [(0, 4096)] (M.2.2.2.2 (fl M (α 0) 11))) (wtS (wtS (ρ 2) (ρ 3)) (ρ 4)).toNat) := h1.2.2
    have hl2 : (clp [(0, 4096)] (M.2.2.2.2 (fl M (α 0) 11))) (ρ 2).toNat = ρ 6 := by rw [e11, cA4 (by omega)]; exact h3.2
    refine ⟨⟨g0, tyO_of hT g0 (by decide) (by decide), k, ?_, k2, k3, k4, k5⟩, trivial⟩
    by_cases hc : k = ρ 4
    · exfalso
      subst hc
      exact h4 (by rw [hv, ← k5, hl2])
    · omega
  exact ⟨nB, qB (key.1) (nB)⟩
def t_jl9 : KT := ((0, 0, 0, 0), [(2, 0, 40, 0), (1, 1, 0, 0), (1, 2, 0, 0), (1, 3, 0, 0)], [(0, 0), (-2147483648, 2147483647), (-2147483648, 2147483647), (-2147483648, 2147483647)], [(173, [(2, 0, 40, 0), (1, 1, 0, 0), (1, 2, 0, 0), (1, 3, 0, 0)])], (0, 0, 0), [], [], ([], [(414, [(2, 0, 40, 0), (1, 3, 0, 0)])]), ([], []))
set_option maxRecDepth 100000 in
theorem l_jl9 (g : GG) : LOK Yt (PSt g) t_jl9 := by
  intro ρ α Γ M as hT hB hA hP
  have g0 : Γ (α 0) = 40 := tyAt hA (i := 0) rfl
  have b1 : -2147483648 ≤ ρ 1 ∧ ρ 1 ≤ 2147483647 := hB 1
  have b2 : -2147483648 ≤ ρ 2 ∧ ρ 2 ≤ 2147483647 := hB 2
  have b3 : -2147483648 ≤ ρ 3 ∧ ρ 3 ≤ 2147483647 := hB 3
  have h0 : Γ (α 0) = 40 ∧ tyO Γ M (α 0) [(1, 41, [(0, 2), (10, 154), (298, 442)]), (8, 44, [(0, 144)]), (11, 46, [(0, 4096)])] ∧ Q173 g (vw M (α 0) 1 [(0, 2), (10, 154), (298, 442)]) (vw M (α 0) 8 [(0, 144)]) (vw M (α 0) 11 [(0, 4096)]) (clp [(9, 10)] (M.2.2.2.2 (α 0))) (ρ 1 + 0) (ρ 2 + 0) (ρ 3 + 0) := hP _ (List.mem_of_getElem? (i := 0) rfl)
  try simp only [Int.add_zero] at h0
  have key : (Γ (α 0) = 40 ∧ tyO Γ M (α 0) [] ∧ Q414 g  (clp [(9, 10)] (M.2.2.2.2 (α 0))) (ρ 3 + 0)) ∧ True := by
    try simp only [Int.add_zero]
    obtain ⟨-, -, k, k1, k2, -⟩ := h0
    have k2 : k < (clp [(9, 10)] (M.2.2.2.2 (α 0)) 9) := k2
    refine ⟨⟨g0, tyO_of hT g0 (by decide) (by decide), ?_⟩, trivial⟩
    show ρ 3 < (clp [(9, 10)] (M.2.2.2.2 (α 0)) 9)
    omega
  exact ⟨nB, qB (key.1) (nB)⟩
def t_jp1 : KT := ((0, 0, 0, 0), [(2, 0, 40, 0), (2, 1, 45, 0), (1, 2, 0, 0), (1, 3, 0, 0), (1, 4, 0, 0)], [(0, 0), (0, 0), (0, 4095), (0, 11), (0, 11)], [(172, [(2, 0, 40, 0), (1, 2, 0, 0)]), (11, [(2, 0, 40, 0), (0, 0, 0, 10), (2, 1, 45, 0)]), (414, [(2, 0, 40, 0), (1, 4, 0, 0)])], (0, 0, 0), [], [], ([], [(215, [(2, 1, 45, 0), (1, 3, 0, 0), (2, 0, 40, 0), (1, 2, 0, 0), (1, 4, 0, 0)])]), ([], []))
set_option maxRecDepth 100000 in
theorem l_jp1 (g : GG) : LOK Yt (PSt g) t_jp1 := by
  intro ρ α Γ M as hT hB hA hP
  have g0 : Γ (α 0) = 40 := tyAt hA (i := 0) rfl
  have g1 : Γ (α 1) = 45 := tyAt hA (i := 1) rfl
  have b2 : 0 ≤ ρ 2 ∧ ρ 2 ≤ 4095 := hB 2
  have b3 : 0 ≤ ρ 3 ∧ ρ 3 ≤ 11 := hB 3
  have b4 : 0 ≤ ρ 4 ∧ ρ 4 ≤ 11 := hB 4
  have h0 : Γ (α 0) = 40 ∧ tyO Γ M (α 0) [(10, 45, [(0, 144)])] ∧ Q172 g (vw M (α 0) 10 [(0, 144)]) (clp [(9, 10)] (M.2.2.2.2 (α 0))) (ρ 2 + 0) := hP _ (List.mem_of_getElem? (i := 0) rfl)
  have h1 : 0 ≤ (10 : Int) ∧ M.2.2.2.1 (α 0) (10 : Int).toNat = some (α 1) := hP _ (List.mem_of_getElem? (i := 1) rfl)
  have h2 : Γ (α 0) = 40 ∧ tyO Γ M (α 0) [] ∧ Q414 g  (clp [(9, 10)] (M.2.2.2.2 (α 0))) (ρ 4 + 0) := hP _ (List.mem_of_getElem? (i := 2) rfl)
  try simp only [Int.add_zero] at h0 h1 h2
  have key : (Γ (α 0) = 40 ∧ M.2.2.2.1 (α 0) 10 = some (α 1) ∧ Γ (α 1) = 45 ∧ tyO Γ M (α 0) [] ∧ Q215 g (hcl [vi (ρ 3 + 0)] (clp [(0, 144)] (M.2.2.2.2 (α 1))))  (clp [(9, 10)] (M.2.2.2.2 (α 0))) (ρ 3 + 0) (ρ 2 + 0) (ρ 4 + 0)) ∧ True := by
    try simp only [Int.add_zero]
    have e10 : fl M (α 0) 10 = α 1 := fl_eq (show M.2.2.2.1 (α 0) 10 = some (α 1) from h1.2)
    
    have h : ∀ j : Nat, (j : Int) < (clp [(9, 10)] (M.2.2.2.2 (α 0)) 9) → ¬ btS (ρ 2) j → 0 ≤ (clp [(0, 144)] (M.2.2.2.2 (fl M (α 0) 10))) j ∧ (clp [(0, 144)] (M.2.2.2.2 (fl M (α 0) 10))) j < (clp [(9, 10)] (M.2.2.2.2 (α 0)) 9) := h0.2.2
    refine ⟨⟨g0, h1.2, g1, tyO_of hT g0 (by decide) (by decide), ⟨b4.1, h2.2.2⟩, fun j j1 j2 j3 => ?_⟩, trivial⟩
    rw [hcl1 j2, ← e10]
    exact h j j1 j3
  exact ⟨nB, qB (key.1) (nB)⟩
def t_jp2 : KT := ((0, 0, 0, 0), [(2, 0, 40, 0), (2, 1, 45, 0), (1, 2, 0, 0), (1, 3, 0, 0), (1, 4, 0, 0)], [(0, 0), (0, 0), (0, 4095), (0, 11), (0, 11)], [(215, [(2, 1, 45, 0), (1, 3, 0, 0), (2, 0, 40, 0), (1, 2, 0, 0), (1, 4, 0, 0)]), (10, [(2, 1, 45, 0), (1, 3, 0, 0), (1, 4, 0, 0)])], (0, 0, 0), [], [], ([], [(174, [(2, 0, 40, 0), (1, 2, 0, 0), (1, 3, 0, 0)])]), ([], []))
set_option maxRecDepth 100000 in
theorem l_jp2 (g : GG) : LOK Yt (PSt g) t_jp2 := by
  intro ρ α Γ M as hT hB hA hP
  have g0 : Γ (α 0) = 40 := tyAt hA (i := 0) rfl
  have g1 : Γ (α 1) = 45 := tyAt hA (i := 1) rfl
  have b2 : 0 ≤ ρ 2 ∧ ρ 2 ≤ 4095 := hB 2
  have b3 : 0 ≤ ρ 3 ∧ ρ 3 ≤ 11 := hB 3
  have b4 : 0 ≤ ρ 4 ∧ ρ 4 ≤ 11 := hB 4
  have h0 : Γ (α 0) = 40 ∧ M.2.2.2.1 (α 0) 10 = some (α 1) ∧ Γ (α 1) = 45 ∧ tyO Γ M (α 0) [] ∧ Q215 g (hcl [vi (ρ 3 + 0)] (clp [(0, 144)] (M.2.2.2.2 (α 1))))  (clp [(9, 10)] (M.2.2.2.2 (α 0))) (ρ 3 + 0) (ρ 2 + 0) (ρ 4 + 0) := hP _ (List.mem_of_getElem? (i := 0) rfl)
  have h1 : 0 ≤ (ρ 3 + 0 : Int) ∧ M.2.2.2.2 (α 1) (ρ 3 + 0 : Int).toNat = ρ 4 + 0 := hP _ (List.mem_of_getElem? (i := 1) rfl)
  try simp only [Int.add_zero] at h0 h1
  have key : (Γ (α 0) = 40 ∧ tyO Γ M (α 0) [(10, 45, [(0, 144)])] ∧ Q174 g (vw M (α 0) 10 [(0, 144)]) (clp [(9, 10)] (M.2.2.2.2 (α 0))) (ρ 2 + 0) (ρ 3 + 0)) ∧ True := by
    try simp only [Int.add_zero]
    obtain ⟨-, hr, -, -, hb, h⟩ := h0
    have e10 : fl M (α 0) 10 = α 1 := fl_eq hr
    refine ⟨⟨g0, tyO_of hT g0 (by decide) (by decide), fun j j1 j2 => ?_⟩, trivial⟩
    show 0 ≤ (clp [(0, 144)] (M.2.2.2.2 (fl M (α 0) 10))) j ∧ (clp [(0, 144)] (M.2.2.2.2 (fl M (α 0) 10))) j < (clp [(9, 10)] (M.2.2.2.2 (α 0)) 9)
    rw [e10]
    by_cases hc : (j : Int) = ρ 3
    · rw [show j = (ρ 3).toNat by omega, cA1 (by omega), show M.2.2.2.2 (α 1) (ρ 3).toNat = ρ 4 from h1.2]
      exact hb
    · have := h j j1 hc (by
        rcases j2 with j2 | j2
        · exact j2
        · exact absurd j2 hc)
      rw [hcl1 hc] at this
      exact this
  exact ⟨nB, qB (key.1) (nB)⟩
def t_jp3 : KT := ((0, 0, 0, 0), [(2, 0, 40, 0), (2, 1, 45, 0), (1, 2, 0, 0), (1, 3, 0, 0), (1, 4, 0, 0)], [(0, 0), (0, 0), (0, 4095), (0, 11), (0, 11)], [(174, [(2, 0, 40, 0), (1, 2, 0, 0), (1, 3, 0, 0)]), (11, [(2, 0, 40, 0), (0, 0, 0, 10), (2, 1, 45, 0)]), (414, [(2, 0, 40, 0), (1, 3, 0, 0)])], (0, 0, 0), [], [], ([], [(216, [(2, 1, 45, 0), (1, 4, 0, 0), (2, 0, 40, 0), (1, 2, 0, 0), (1, 3, 0, 0)])]), ([], []))
set_option maxRecDepth 100000 in
theorem l_jp3 (g : GG) : LOK Yt (PSt g) t_jp3 := by
  intro ρ α Γ M as hT hB hA hP
  have g0 : Γ (α 0) = 40 := tyAt hA (i := 0) rfl
  have g1 : Γ (α 1) = 45 := tyAt hA (i := 1) rfl
  have b2 : 0 ≤ ρ 2 ∧ ρ 2 ≤ 4095 := hB 2
  have b3 : 0 ≤ ρ 3 ∧ ρ 3 ≤ 11 := hB 3
  have b4 : 0 ≤ ρ 4 ∧ ρ 4 ≤ 11 := hB 4
  have h0 : Γ (α 0) = 40 ∧ tyO Γ M (α 0) [(10, 45, [(0, 144)])] ∧ Q174 g (vw M (α 0) 10 [(0, 144)]) (clp [(9, 10)] (M.2.2.2.2 (α 0))) (ρ 2 + 0) (ρ 3 + 0) := hP _ (List.mem_of_getElem? (i := 0) rfl)
  have h1 : 0 ≤ (10 : Int) ∧ M.2.2.2.1 (α 0) (10 : Int).toNat = some (α 1) := hP _ (List.mem_of_getElem? (i := 1) rfl)
  have h2 : Γ (α 0) = 40 ∧ tyO Γ M (α 0) [] ∧ Q414 g  (clp [(9, 10)] (M.2.2.2.2 (α 0))) (ρ 3 + 0) := hP _ (List.mem_of_getElem? (i := 2) rfl)
  try simp only [Int.add_zero] at h0 h1 h2
  have key : (Γ (α 0) = 40 ∧ M.2.2.2.1 (α 0) 10 = some (α 1) ∧ Γ (α 1) = 45 ∧ tyO Γ M (α 0) [] ∧ Q216 g (hcl [vi (ρ 4 + 0)] (clp [(0, 144)] (M.2.2.2.2 (α 1))))  (clp [(9, 10)] (M.2.2.2.2 (α 0))) (ρ 4 + 0) (ρ 2 + 0) (ρ 3 + 0)) ∧ True := by
    try simp only [Int.add_zero]
    have e10 : fl M (α 0) 10 = α 1 := fl_eq (show M.2.2.2.1 (α 0) 10 = some (α 1) from h1.2)
    
    have h : ∀ j : Nat, (j : Int) < (clp [(9, 10)] (M.2.2.2.2 (α 0)) 9) → (¬ btS (ρ 2) j ∨ (j : Int) = ρ 3) → 0 ≤ (clp [(0, 144)] (M.2.2.2.2 (fl M (α 0) 10))) j ∧ (clp [(0, 144)] (M.2.2.2.2 (fl M (α 0) 10))) j < (clp [(9, 10)] (M.2.2.2.2 (α 0)) 9) := h0.2.2
    refine ⟨⟨g0, h1.2, g1, tyO_of hT g0 (by decide) (by decide), ⟨b3.1, h2.2.2⟩, fun j j1 j2 j3 => ?_⟩, trivial⟩
    rw [hcl1 j2, ← e10]
    exact h j j1 j3
  exact ⟨nB, qB (key.1) (nB)⟩
def t_jp4 : KT := ((0, 0, 0, 0), [(2, 0, 40, 0), (2, 1, 45, 0), (1, 2, 0, 0), (1, 3, 0, 0), (1, 4, 0, 0)], [(0, 0), (0, 0), (0, 4095), (0, 11), (0, 11)], [(216, [(2, 1, 45, 0), (1, 4, 0, 0), (2, 0, 40, 0), (1, 2, 0, 0), (1, 3, 0, 0)]), (10, [(2, 1, 45, 0), (1, 4, 0, 0), (1, 3, 0, 0)])], (0, 0, 0), [], [], ([], [(175, [(2, 0, 40, 0), (1, 2, 0, 0), (1, 3, 0, 0), (1, 4, 0, 0)])]), ([], []))
set_option maxRecDepth 100000 in
theorem l_jp4 (g : GG) : LOK Yt (PSt g) t_jp4 := by
  intro ρ α Γ M as hT hB hA hP
  have g0 : Γ (α 0) = 40 := tyAt hA (i := 0) rfl
  have g1 : Γ (α 1) = 45 := tyAt hA (i := 1) rfl
  have b2 : 0 ≤ ρ 2 ∧ ρ 2 ≤ 4095 := hB 2
  have b3 : 0 ≤ ρ 3 ∧ ρ 3 ≤ 11 := hB 3
  have b4 : 0 ≤ ρ 4 ∧ ρ 4 ≤ 11 := hB 4
  have h0 : Γ (α 0) = 40 ∧ M.2.2.2.1 (α 0) 10 = some (α 1) ∧ Γ (α 1) = 45 ∧ tyO Γ M (α 0) [] ∧ Q216 g (hcl [vi (ρ 4 + 0)] (clp [(0, 144)] (M.2.2.2.2 (α 1))))  (clp [(9, 10)] (M.2.2.2.2 (α 0))) (ρ 4 + 0) (ρ 2 + 0) (ρ 3 + 0) := hP _ (List.mem_of_getElem? (i := 0) rfl)
  have h1 : 0 ≤ (ρ 4 + 0 : Int) ∧ M.2.2.2.2 (α 1) (ρ 4 + 0 : Int).toNat = ρ 3 + 0 := hP _ (List.mem_of_getElem? (i := 1) rfl)
  try simp only [Int.add_zero] at h0 h1
  have key : (Γ (α 0) = 40 ∧ tyO Γ M (α 0) [(10, 45, [(0, 144)])] ∧ Q175 g (vw M (α 0) 10 [(0, 144)]) (clp [(9, 10)] (M.2.2.2.2 (α 0))) (ρ 2 + 0) (ρ 3 + 0) (ρ 4 + 0)) ∧ True := by
    try simp only [Int.add_zero]
    obtain ⟨-, hr, -, -, hb, h⟩ := h0
    have e10 : fl M (α 0) 10 = α 1 := fl_eq hr
    refine ⟨⟨g0, tyO_of hT g0 (by decide) (by decide), fun j j1 j2 => ?_⟩, trivial⟩
    show 0 ≤ (clp [(0, 144)] (M.2.2.2.2 (fl M (α 0) 10))) j ∧ (clp [(0, 144)] (M.2.2.2.2 (fl M (α 0) 10))) j < (clp [(9, 10)] (M.2.2.2.2 (α 0)) 9)
    rw [e10]
    by_cases hc : (j : Int) = ρ 4
    · rw [show j = (ρ 4).toNat by omega, cA1 (by omega), show M.2.2.2.2 (α 1) (ρ 4).toNat = ρ 3 from h1.2]
      exact hb
    · have := h j j1 hc (by
        rcases j2 with j2 | j2 | j2
        · exact Or.inl j2
        · exact Or.inr j2
        · exact absurd j2 hc)
      rw [hcl1 hc] at this
      exact this
  exact ⟨nB, qB (key.1) (nB)⟩
def t_jp5 : KT := ((0, 0, 0, 0), [(2, 0, 40, 0), (1, 1, 0, 0), (1, 2, 0, 0), (1, 3, 0, 0), (1, 4, 0, 0), (1, 5, 0, 0)], [(0, 0), (0, 4095), (0, 11), (0, 11), (0, 4095), (0, 4095)], [(169, [(2, 0, 40, 0), (1, 1, 0, 0), (1, 2, 0, 0)]), (418, [(2, 0, 40, 0), (1, 1, 0, 0)]), (175, [(2, 0, 40, 0), (1, 1, 0, 0), (1, 2, 0, 0), (1, 3, 0, 0)]), (168, [(2, 0, 40, 0), (1, 1, 0, 0), (1, 2, 0, 0), (1, 4, 0, 0)]), (168, [(2, 0, 40, 0), (1, 4, 0, 0), (1, 3, 0, 0), (1, 5, 0, 0)]), (3569, [(2, 0, 40, 0), (0, 0, 0, 0), (0, 0, 0, 12)])], (0, 0, 0), [], [], ([], [(169, [(2, 0, 40, 0), (1, 5, 0, 0), (1, 2, 0, 1)]), (418, [(2, 0, 40, 0), (1, 5, 0, 0)]), (172, [(2, 0, 40, 0), (1, 5, 0, 0)])]), ([], []))
set_option maxRecDepth 100000 in
theorem l_jp5 (g : GG) : LOK Yt (PSt g) t_jp5 := by
  intro ρ α Γ M as hT hB hA hP
  have g0 : Γ (α 0) = 40 := tyAt hA (i := 0) rfl
  have b1 : 0 ≤ ρ 1 ∧ ρ 1 ≤ 4095 := hB 1
  have b2 : 0 ≤ ρ 2 ∧ ρ 2 ≤ 11 := hB 2
  have b3 : 0 ≤ ρ 3 ∧ ρ 3 ≤ 11 := hB 3
  have b4 : 0 ≤ ρ 4 ∧ ρ 4 ≤ 4095 := hB 4
  have b5 : 0 ≤ ρ 5 ∧ ρ 5 ≤ 4095 := hB 5
  have h0 : Γ (α 0) = 40 ∧ tyO Γ M (α 0) [] ∧ Q169 g  (clp [] (M.2.2.2.2 (α 0))) (ρ 1 + 0) (ρ 2 + 0) := hP _ (List.mem_of_getElem? (i := 0) rfl)
  have h1 : Γ (α 0) = 40 ∧ tyO Γ M (α 0) [] ∧ Q418 g  (clp [(9, 10)] (M.2.2.2.2 (α 0))) (ρ 1 + 0) := hP _ (List.mem_of_getElem? (i := 1) rfl)
  have h2 : Γ (α 0) = 40 ∧ tyO Γ M (α 0) [(10, 45, [(0, 144)])] ∧ Q175 g (vw M (α 0) 10 [(0, 144)]) (clp [(9, 10)] (M.2.2.2.2 (α 0))) (ρ 1 + 0) (ρ 2 + 0) (ρ 3 + 0) := hP _ (List.mem_of_getElem? (i := 2) rfl)
  have h3 : Γ (α 0) = 40 ∧ tyO Γ M (α 0) [] ∧ Q168 g  (clp [] (M.2.2.2.2 (α 0))) (ρ 1 + 0) (ρ 2 + 0) (ρ 4 + 0) := hP _ (List.mem_of_getElem? (i := 3) rfl)
  have h4 : Γ (α 0) = 40 ∧ tyO Γ M (α 0) [] ∧ Q168 g  (clp [] (M.2.2.2.2 (α 0))) (ρ 4 + 0) (ρ 3 + 0) (ρ 5 + 0) := hP _ (List.mem_of_getElem? (i := 4) rfl)
  have h5 : Γ (α 0) = 40 ∧ 40 ≠ 0 ∧ 0 ≤ M.2.2.2.2 (α 0) 9 ∧ M.2.2.2.2 (α 0) 9 ≤ 12 := (fId_eq g 40 9 (α 0) (0) (12) Γ M (by decide)).mp (hP _ (List.mem_of_getElem? (i := 5) rfl))
  try simp only [Int.add_zero] at h0 h1 h2 h3 h4 h5
  have key : (Γ (α 0) = 40 ∧ tyO Γ M (α 0) [] ∧ Q169 g  (clp [] (M.2.2.2.2 (α 0))) (ρ 5 + 0) (ρ 2 + 1)) ∧ (Γ (α 0) = 40 ∧ tyO Γ M (α 0) [] ∧ Q418 g  (clp [(9, 10)] (M.2.2.2.2 (α 0))) (ρ 5 + 0)) ∧ (Γ (α 0) = 40 ∧ tyO Γ M (α 0) [(10, 45, [(0, 144)])] ∧ Q172 g (vw M (α 0) 10 [(0, 144)]) (clp [(9, 10)] (M.2.2.2.2 (α 0))) (ρ 5 + 0)) ∧ True := by
    try simp only [Int.add_zero]
    have hm : ∀ j : Int, 0 ≤ j → j < ρ 2 → ¬ btS (ρ 1) j := h0.2.2
    have hs : ρ 1 < sHl 1 (clp [(9, 10)] (M.2.2.2.2 (α 0)) 9) := h1.2.2
    have h : ∀ j : Nat, (j : Int) < (clp [(9, 10)] (M.2.2.2.2 (α 0)) 9) → (¬ btS (ρ 1) j ∨ (j : Int) = ρ 2 ∨ (j : Int) = ρ 3) → 0 ≤ (clp [(0, 144)] (M.2.2.2.2 (fl M (α 0) 10))) j ∧ (clp [(0, 144)] (M.2.2.2.2 (fl M (α 0) 10))) j < (clp [(9, 10)] (M.2.2.2.2 (α 0)) 9) := h2.2.2
    have w1 : ρ 4 = wtS (ρ 1) (ρ 2) := h3.2.2
    have w2 : ρ 5 = wtS (ρ 4) (ρ 3) := h4.2.2
    have hT9 : (clp [(9, 10)] (M.2.2.2.2 (α 0)) 9) ≤ 12 := by rw [c99]; exact h5.2.2.2
    have l1 := wt_le b1.1 b1.2 b2.1 b2.2
    have l2 := wt_le b4.1 b4.2 b3.1 b3.2
    have key : ∀ j : Int, 0 ≤ j → j ≤ 11 → (btS (ρ 5) j ↔ (btS (ρ 1) j ∧ j ≠ ρ 2) ∧ j ≠ ρ 3) := fun j j1 j2 => by
      rw [w2, wt_bt b4.1 b4.2 b3.1 b3.2 j1 j2, w1, wt_bt b1.1 b1.2 b2.1 b2.2 j1 j2]
    refine ⟨⟨g0, tyO_of hT g0 (by decide) (by decide), fun j j1 j2 q => ?_⟩, ⟨g0, tyO_of hT g0 (by decide) (by decide), ?_⟩, ⟨g0, tyO_of hT g0 (by decide) (by decide), fun j j1 j2 => ?_⟩, trivial⟩
    · have := (key j j1 (by omega)).mp q
      by_cases hc : j < ρ 2
      · exact hm j j1 hc this.1.1
      · exact this.1.2 (by omega)
    · show ρ 5 < sHl 1 (clp [(9, 10)] (M.2.2.2.2 (α 0)) 9)
      omega
    · have j1 : (j : Int) < (clp [(9, 10)] (M.2.2.2.2 (α 0)) 9) := j1
      refine h j j1 ?_
      by_cases q1 : (j : Int) = ρ 2
      · exact Or.inr (Or.inl q1)
      · by_cases q2 : (j : Int) = ρ 3
        · exact Or.inr (Or.inr q2)
        · left
          intro q
          exact j2 ((key j (by omega) (by omega)).mpr ⟨⟨q, q1⟩, q2⟩)
  exact ⟨nB, qB (key.1) (qB (key.2.1) (qB (key.2.2.1) (nB)))⟩
def t_jp6 : KT := ((0, 0, 0, 0), [(2, 0, 40, 0), (1, 1, 0, 0), (1, 2, 0, 0)], [(0, 0), (-2147483648, 2147483647), (0, 143)], [(169, [(2, 0, 40, 0), (1, 1, 0, 0), (1, 2, 0, 0)]), (167, [(2, 0, 40, 0), (1, 1, 0, 0), (1, 2, 0, 0)])], (0, 0, 0), [], [], ([], [(169, [(2, 0, 40, 0), (1, 1, 0, 0), (1, 2, 0, 1)])]), ([], []))
set_option maxRecDepth 100000 in
theorem l_jp6 (g : GG) : LOK Yt (PSt g) t_jp6 := by
  intro ρ α Γ M as hT hB hA hP
  have g0 : Γ (α 0) = 40 := tyAt hA (i := 0) rfl
  have b1 : -2147483648 ≤ ρ 1 ∧ ρ 1 ≤ 2147483647 := hB 1
  have b2 : 0 ≤ ρ 2 ∧ ρ 2 ≤ 143 := hB 2
  have h0 : Γ (α 0) = 40 ∧ tyO Γ M (α 0) [] ∧ Q169 g  (clp [] (M.2.2.2.2 (α 0))) (ρ 1 + 0) (ρ 2 + 0) := hP _ (List.mem_of_getElem? (i := 0) rfl)
  have h1 : Γ (α 0) = 40 ∧ tyO Γ M (α 0) [] ∧ Q167 g  (clp [] (M.2.2.2.2 (α 0))) (ρ 1 + 0) (ρ 2 + 0) := hP _ (List.mem_of_getElem? (i := 1) rfl)
  try simp only [Int.add_zero] at h0 h1
  have key : (Γ (α 0) = 40 ∧ tyO Γ M (α 0) [] ∧ Q169 g  (clp [] (M.2.2.2.2 (α 0))) (ρ 1 + 0) (ρ 2 + 1)) ∧ True := by
    try simp only [Int.add_zero]
    have hm : ∀ j : Int, 0 ≤ j → j < ρ 2 → ¬ btS (ρ 1) j := h0.2.2
    refine ⟨⟨g0, tyO_of hT g0 (by decide) (by decide), fun j j1 j2 => ?_⟩, trivial⟩
    by_cases hc : j < ρ 2
    · exact hm j j1 hc
    · rw [show j = ρ 2 by omega]
      exact h1.2.2
  exact ⟨nB, qB (key.1) (nB)⟩
def t_jp7 : KT := ((0, 0, 0, 0), [(2, 0, 40, 0), (1, 1, 0, 0), (1, 2, 0, 0), (1, 3, 0, 0)], [(0, 0), (-2147483648, 2147483647), (0, 144), (-2147483648, 2147483647)], [(169, [(2, 0, 40, 0), (1, 1, 0, 0), (1, 2, 0, 0)]), (172, [(2, 0, 40, 0), (1, 1, 0, 0)]), (6, [(1, 3, 0, 0), (1, 2, 0, 0)]), (10, [(2, 0, 40, 0), (0, 0, 0, 9), (1, 3, 0, 0)])], (0, 0, 0), [], [], ([], [(176, [(2, 0, 40, 0)])]), ([], []))
set_option maxRecDepth 100000 in
theorem l_jp7 (g : GG) : LOK Yt (PSt g) t_jp7 := by
  intro ρ α Γ M as hT hB hA hP
  have g0 : Γ (α 0) = 40 := tyAt hA (i := 0) rfl
  have b1 : -2147483648 ≤ ρ 1 ∧ ρ 1 ≤ 2147483647 := hB 1
  have b2 : 0 ≤ ρ 2 ∧ ρ 2 ≤ 144 := hB 2
  have b3 : -2147483648 ≤ ρ 3 ∧ ρ 3 ≤ 2147483647 := hB 3
  have h0 : Γ (α 0) = 40 ∧ tyO Γ M (α 0) [] ∧ Q169 g  (clp [] (M.2.2.2.2 (α 0))) (ρ 1 + 0) (ρ 2 + 0) := hP _ (List.mem_of_getElem? (i := 0) rfl)
  have h1 : Γ (α 0) = 40 ∧ tyO Γ M (α 0) [(10, 45, [(0, 144)])] ∧ Q172 g (vw M (α 0) 10 [(0, 144)]) (clp [(9, 10)] (M.2.2.2.2 (α 0))) (ρ 1 + 0) := hP _ (List.mem_of_getElem? (i := 1) rfl)
  have h2 : ρ 3 + 0 ≤ ρ 2 + 0 := hP _ (List.mem_of_getElem? (i := 2) rfl)
  have h3 : 0 ≤ (9 : Int) ∧ M.2.2.2.2 (α 0) (9 : Int).toNat = ρ 3 + 0 := hP _ (List.mem_of_getElem? (i := 3) rfl)
  try simp only [Int.add_zero] at h0 h1 h2 h3
  have key : (Γ (α 0) = 40 ∧ tyO Γ M (α 0) [(10, 45, [(0, 144)])] ∧ Q176 g (vw M (α 0) 10 [(0, 144)]) (clp [(9, 10)] (M.2.2.2.2 (α 0))) ) ∧ True := by
    try simp only [Int.add_zero]
    have hm : ∀ j : Int, 0 ≤ j → j < ρ 2 → ¬ btS (ρ 1) j := h0.2.2
    have h : ∀ j : Nat, (j : Int) < (clp [(9, 10)] (M.2.2.2.2 (α 0)) 9) → ¬ btS (ρ 1) j → 0 ≤ (clp [(0, 144)] (M.2.2.2.2 (fl M (α 0) 10))) j ∧ (clp [(0, 144)] (M.2.2.2.2 (fl M (α 0) 10))) j < (clp [(9, 10)] (M.2.2.2.2 (α 0)) 9) := h1.2.2
    refine ⟨⟨g0, tyO_of hT g0 (by decide) (by decide), fun j j1 => h j j1 (hm j (by omega) ?_)⟩, trivial⟩
    have j1 : (j : Int) < (clp [(9, 10)] (M.2.2.2.2 (α 0)) 9) := j1
    rw [c99, show M.2.2.2.2 (α 0) 9 = ρ 3 from h3.2] at j1
    omega
  exact ⟨nB, qB (key.1) (nB)⟩
def t_jn0 : KT := ((0, 0, 0, 0), [(2, 0, 40, 0), (1, 1, 0, 0)], [(0, 0), (0, 0)], [], (0, 0, 0), [], [], ([], [(177, [(2, 0, 40, 0), (1, 1, 0, 0)])]), ([], []))
set_option maxRecDepth 100000 in
theorem l_jn0 (g : GG) : LOK Yt (PSt g) t_jn0 := by
  intro ρ α Γ M as hT hB hA hP
  have g0 : Γ (α 0) = 40 := tyAt hA (i := 0) rfl
  have b1 : 0 ≤ ρ 1 ∧ ρ 1 ≤ 0 := hB 1
  have key : (Γ (α 0) = 40 ∧ tyO Γ M (α 0) [(10, 45, [(0, 144)])] ∧ Q177 g (vw M (α 0) 10 [(0, 144)]) (clp [] (M.2.2.2.2 (α 0))) (ρ 1 + 0)) ∧ True := by
    try simp only [Int.add_zero]
    exact ⟨⟨g0, tyO_of hT g0 (by decide) (by decide), fun j j1 => by omega⟩, trivial⟩
  exact ⟨nB, qB (key.1) (nB)⟩
def t_jn1 : KT := ((0, 0, 0, 0), [(2, 0, 40, 0), (2, 1, 45, 0), (1, 2, 0, 0)], [(0, 0), (0, 0), (0, 143)], [(177, [(2, 0, 40, 0), (1, 2, 0, 0)]), (11, [(2, 0, 40, 0), (0, 0, 0, 10), (2, 1, 45, 0)])], (0, 0, 0), [], [], ([], [(220, [(2, 1, 45, 0), (1, 2, 0, 0), (2, 0, 40, 0)])]), ([], []))
set_option maxRecDepth 100000 in
theorem l_jn1 (g : GG) : LOK Yt (PSt g) t_jn1 := by
  intro ρ α Γ M as hT hB hA hP
  have g0 : Γ (α 0) = 40 := tyAt hA (i := 0) rfl
  have g1 : Γ (α 1) = 45 := tyAt hA (i := 1) rfl
  have b2 : 0 ≤ ρ 2 ∧ ρ 2 ≤ 143 := hB 2
  have h0 : Γ (α 0) = 40 ∧ tyO Γ M (α 0) [(10, 45, [(0, 144)])] ∧ Q177 g (vw M (α 0) 10 [(0, 144)]) (clp [] (M.2.2.2.2 (α 0))) (ρ 2 + 0) := hP _ (List.mem_of_getElem? (i := 0) rfl)
  have h1 : 0 ≤ (10 : Int) ∧ M.2.2.2.1 (α 0) (10 : Int).toNat = some (α 1) := hP _ (List.mem_of_getElem? (i := 1) rfl)
  try simp only [Int.add_zero] at h0 h1
  have key : (Γ (α 0) = 40 ∧ M.2.2.2.1 (α 0) 10 = some (α 1) ∧ Γ (α 1) = 45 ∧ tyO Γ M (α 0) [] ∧ Q220 g (hcl [vi (ρ 2 + 0)] (clp [(0, 144)] (M.2.2.2.2 (α 1))))  (clp [] (M.2.2.2.2 (α 0))) (ρ 2 + 0)) ∧ True := by
    try simp only [Int.add_zero]
    have e10 : fl M (α 0) 10 = α 1 := fl_eq (show M.2.2.2.1 (α 0) 10 = some (α 1) from h1.2)
    
    have h : ∀ j : Nat, (j : Int) < ρ 2 → (clp [(0, 144)] (M.2.2.2.2 (fl M (α 0) 10))) j = -1 := h0.2.2
    refine ⟨⟨g0, h1.2, g1, tyO_of hT g0 (by decide) (by decide), fun j j1 => ?_⟩, trivial⟩
    rw [hcl1 (by omega), ← e10]
    exact h j j1
  exact ⟨nB, qB (key.1) (nB)⟩
def t_jn2 : KT := ((0, 0, 0, 0), [(2, 0, 40, 0), (2, 1, 45, 0), (1, 2, 0, 0)], [(0, 0), (0, 0), (0, 143)], [(220, [(2, 1, 45, 0), (1, 2, 0, 0), (2, 0, 40, 0)]), (10, [(2, 1, 45, 0), (1, 2, 0, 0), (0, 0, 0, -1)])], (0, 0, 0), [], [], ([], [(177, [(2, 0, 40, 0), (1, 2, 0, 1)])]), ([], []))
set_option maxRecDepth 100000 in
theorem l_jn2 (g : GG) : LOK Yt (PSt g) t_jn2 := by
  intro ρ α Γ M as hT hB hA hP
  have g0 : Γ (α 0) = 40 := tyAt hA (i := 0) rfl
  have g1 : Γ (α 1) = 45 := tyAt hA (i := 1) rfl
  have b2 : 0 ≤ ρ 2 ∧ ρ 2 ≤ 143 := hB 2
  have h0 : Γ (α 0) = 40 ∧ M.2.2.2.1 (α 0) 10 = some (α 1) ∧ Γ (α 1) = 45 ∧ tyO Γ M (α 0) [] ∧ Q220 g (hcl [vi (ρ 2 + 0)] (clp [(0, 144)] (M.2.2.2.2 (α 1))))  (clp [] (M.2.2.2.2 (α 0))) (ρ 2 + 0) := hP _ (List.mem_of_getElem? (i := 0) rfl)
  have h1 : 0 ≤ (ρ 2 + 0 : Int) ∧ M.2.2.2.2 (α 1) (ρ 2 + 0 : Int).toNat = (-1) := hP _ (List.mem_of_getElem? (i := 1) rfl)
  try simp only [Int.add_zero] at h0 h1
  have key : (Γ (α 0) = 40 ∧ tyO Γ M (α 0) [(10, 45, [(0, 144)])] ∧ Q177 g (vw M (α 0) 10 [(0, 144)]) (clp [] (M.2.2.2.2 (α 0))) (ρ 2 + 1)) ∧ True := by
    try simp only [Int.add_zero]
    obtain ⟨-, hr, -, -, h⟩ := h0
    have e10 : fl M (α 0) 10 = α 1 := fl_eq hr
    refine ⟨⟨g0, tyO_of hT g0 (by decide) (by decide), fun j j1 => ?_⟩, trivial⟩
    show (clp [(0, 144)] (M.2.2.2.2 (fl M (α 0) 10))) j = -1
    rw [e10]
    by_cases hc : (j : Int) < ρ 2
    · have := h j hc
      rw [hcl1 (by omega)] at this
      exact this
    · rw [show j = (ρ 2).toNat by omega, cA1 (by omega)]
      exact h1.2
  exact ⟨nB, qB (key.1) (nB)⟩
def t_jn3 : KT := ((0, 0, 0, 0), [(2, 0, 40, 0), (1, 1, 0, 0), (1, 2, 0, 0)], [(0, 0), (0, 144), (0, 144)], [(177, [(2, 0, 40, 0), (1, 1, 0, 0)]), (6, [(1, 2, 0, 0), (1, 1, 0, 0)]), (10, [(2, 0, 40, 0), (0, 0, 0, 9), (1, 2, 0, 0)])], (0, 0, 0), [], [], ([], [(178, [(2, 0, 40, 0), (1, 2, 0, 0)])]), ([], []))
set_option maxRecDepth 100000 in
theorem l_jn3 (g : GG) : LOK Yt (PSt g) t_jn3 := by
  intro ρ α Γ M as hT hB hA hP
  have g0 : Γ (α 0) = 40 := tyAt hA (i := 0) rfl
  have b1 : 0 ≤ ρ 1 ∧ ρ 1 ≤ 144 := hB 1
  have b2 : 0 ≤ ρ 2 ∧ ρ 2 ≤ 144 := hB 2
  have h0 : Γ (α 0) = 40 ∧ tyO Γ M (α 0) [(10, 45, [(0, 144)])] ∧ Q177 g (vw M (α 0) 10 [(0, 144)]) (clp [] (M.2.2.2.2 (α 0))) (ρ 1 + 0) := hP _ (List.mem_of_getElem? (i := 0) rfl)
  have h1 : ρ 2 + 0 ≤ ρ 1 + 0 := hP _ (List.mem_of_getElem? (i := 1) rfl)
  have h2 : 0 ≤ (9 : Int) ∧ M.2.2.2.2 (α 0) (9 : Int).toNat = ρ 2 + 0 := hP _ (List.mem_of_getElem? (i := 2) rfl)
  try simp only [Int.add_zero] at h0 h1 h2
  have key : (Γ (α 0) = 40 ∧ tyO Γ M (α 0) [(10, 45, [(0, 144)])] ∧ Q178 g (vw M (α 0) 10 [(0, 144)]) (clp [(9, 10)] (M.2.2.2.2 (α 0))) (ρ 2 + 0)) ∧ True := by
    try simp only [Int.add_zero]
    have h : ∀ j : Nat, (j : Int) < ρ 1 → (clp [(0, 144)] (M.2.2.2.2 (fl M (α 0) 10))) j = -1 := h0.2.2
    have e9 : (clp [(9, 10)] (M.2.2.2.2 (α 0)) 9) = ρ 2 := by rw [c99]; exact h2.2
    refine ⟨⟨g0, tyO_of hT g0 (by decide) (by decide), ?_, fun j j1 => ?_⟩, trivial⟩
    · show ρ 2 = (cntP (clp [(0, 144)] (M.2.2.2.2 (fl M (α 0) 10))) (clp [(9, 10)] (M.2.2.2.2 (α 0)) 9) : Int)
      rw [e9, cntP_all b2.1 (fun j j1 => h j (by omega))]
    · have j1 : (j : Int) < (clp [(9, 10)] (M.2.2.2.2 (α 0)) 9) := j1
      show (clp [(0, 144)] (M.2.2.2.2 (fl M (α 0) 10))) j < (clp [(9, 10)] (M.2.2.2.2 (α 0)) 9)
      rw [e9] at j1 ⊢
      rw [h j (by omega)]
      omega
  exact ⟨nB, qB (key.1) (nB)⟩
def t_jn4 : KT := ((0, 0, 0, 0), [(2, 0, 40, 0), (1, 1, 0, 0), (1, 2, 0, 0), (1, 3, 0, 0), (1, 4, 0, 0)], [(0, 0), (-1, -1), (-1, -1), (1000000, 1000000), (0, 0)], [], (0, 0, 0), [], [], ([], [(179, [(2, 0, 40, 0), (1, 4, 0, 0), (1, 1, 0, 0), (1, 2, 0, 0), (1, 3, 0, 0)])]), ([], []))
set_option maxRecDepth 100000 in
theorem l_jn4 (g : GG) : LOK Yt (PSt g) t_jn4 := by
  intro ρ α Γ M as hT hB hA hP
  have g0 : Γ (α 0) = 40 := tyAt hA (i := 0) rfl
  have b1 : -1 ≤ ρ 1 ∧ ρ 1 ≤ -1 := hB 1
  have b2 : -1 ≤ ρ 2 ∧ ρ 2 ≤ -1 := hB 2
  have b3 : 1000000 ≤ ρ 3 ∧ ρ 3 ≤ 1000000 := hB 3
  have b4 : 0 ≤ ρ 4 ∧ ρ 4 ≤ 0 := hB 4
  have key : (Γ (α 0) = 40 ∧ tyO Γ M (α 0) [(10, 45, [(0, 144)])] ∧ Q179 g (vw M (α 0) 10 [(0, 144)]) (clp [(9, 10)] (M.2.2.2.2 (α 0))) (ρ 4 + 0) (ρ 1 + 0) (ρ 2 + 0) (ρ 3 + 0)) ∧ True := by
    try simp only [Int.add_zero]
    refine ⟨⟨g0, tyO_of hT g0 (by decide) (by decide), fun _ => ⟨by omega, fun j j1 => by omega⟩, fun h => absurd (by omega) h⟩, trivial⟩
  exact ⟨nB, qB (key.1) (nB)⟩
def t_jn5 : KT := ((0, 0, 0, 0), [(2, 0, 40, 0), (2, 1, 45, 0), (1, 2, 0, 0), (1, 3, 0, 0)], [(0, 0), (0, 0), (0, 143), (-2147483648, 2147483647)], [(11, [(2, 0, 40, 0), (0, 0, 0, 10), (2, 1, 45, 0)]), (10, [(2, 1, 45, 0), (1, 2, 0, 0), (1, 3, 0, 0)])], (0, 0, 0), [], [], ([], [(181, [(2, 0, 40, 0), (1, 2, 0, 0), (1, 3, 0, 0)])]), ([], []))
set_option maxRecDepth 100000 in
theorem l_jn5 (g : GG) : LOK Yt (PSt g) t_jn5 := by
  intro ρ α Γ M as hT hB hA hP
  have g0 : Γ (α 0) = 40 := tyAt hA (i := 0) rfl
  have g1 : Γ (α 1) = 45 := tyAt hA (i := 1) rfl
  have b2 : 0 ≤ ρ 2 ∧ ρ 2 ≤ 143 := hB 2
  have b3 : -2147483648 ≤ ρ 3 ∧ ρ 3 ≤ 2147483647 := hB 3
  have h0 : 0 ≤ (10 : Int) ∧ M.2.2.2.1 (α 0) (10 : Int).toNat = some (α 1) := hP _ (List.mem_of_getElem? (i := 0) rfl)
  have h1 : 0 ≤ (ρ 2 + 0 : Int) ∧ M.2.2.2.2 (α 1) (ρ 2 + 0 : Int).toNat = ρ 3 + 0 := hP _ (List.mem_of_getElem? (i := 1) rfl)
  try simp only [Int.add_zero] at h0 h1
  have key : (Γ (α 0) = 40 ∧ tyO Γ M (α 0) [(10, 45, [(0, 144)])] ∧ Q181 g (vw M (α 0) 10 [(0, 144)]) (clp [] (M.2.2.2.2 (α 0))) (ρ 2 + 0) (ρ 3 + 0)) ∧ True := by
    try simp only [Int.add_zero]
    have e10 : fl M (α 0) 10 = α 1 := fl_eq (show M.2.2.2.1 (α 0) 10 = some (α 1) from h0.2)
    
    refine ⟨⟨g0, tyO_of hT g0 (by decide) (by decide), ?_⟩, trivial⟩
    show (clp [(0, 144)] (M.2.2.2.2 (fl M (α 0) 10))) (ρ 2).toNat = ρ 3
    rw [e10, cA1 (by omega)]
    exact h1.2
  exact ⟨nB, qB (key.1) (nB)⟩
def t_jn6 : KT := ((0, 0, 0, 0), [(2, 0, 40, 0), (1, 1, 0, 0), (1, 2, 0, 0), (1, 3, 0, 0)], [(0, 0), (0, 143), (-1, -1), (-2147483648, 2147483647)], [(181, [(2, 0, 40, 0), (1, 1, 0, 0), (1, 2, 0, 0)]), (21, [(1, 1, 0, 0), (1, 3, 0, 0)]), (10, [(2, 0, 40, 0), (0, 0, 0, 9), (1, 3, 0, 0)])], (0, 0, 0), [], [], ([], [(180, [(2, 0, 40, 0), (1, 1, 0, 0)])]), ([], []))
set_option maxRecDepth 100000 in
theorem l_jn6 (g : GG) : LOK Yt (PSt g) t_jn6 := by
  intro ρ α Γ M as hT hB hA hP
  have g0 : Γ (α 0) = 40 := tyAt hA (i := 0) rfl
  have b1 : 0 ≤ ρ 1 ∧ ρ 1 ≤ 143 := hB 1
  have b2 : -1 ≤ ρ 2 ∧ ρ 2 ≤ -1 := hB 2
  have b3 : -2147483648 ≤ ρ 3 ∧ ρ 3 ≤ 2147483647 := hB 3
  have h0 : Γ (α 0) = 40 ∧ tyO Γ M (α 0) [(10, 45, [(0, 144)])] ∧ Q181 g (vw M (α 0) 10 [(0, 144)]) (clp [] (M.2.2.2.2 (α 0))) (ρ 1 + 0) (ρ 2 + 0) := hP _ (List.mem_of_getElem? (i := 0) rfl)
  have h1 : ρ 1 + 0 < ρ 3 + 0 := hP _ (List.mem_of_getElem? (i := 1) rfl)
  have h2 : 0 ≤ (9 : Int) ∧ M.2.2.2.2 (α 0) (9 : Int).toNat = ρ 3 + 0 := hP _ (List.mem_of_getElem? (i := 2) rfl)
  try simp only [Int.add_zero] at h0 h1 h2
  have key : (Γ (α 0) = 40 ∧ tyO Γ M (α 0) [(10, 45, [(0, 144)])] ∧ Q180 g (vw M (α 0) 10 [(0, 144)]) (clp [(9, 10)] (M.2.2.2.2 (α 0))) (ρ 1 + 0)) ∧ True := by
    try simp only [Int.add_zero]
    have e9 : (clp [(9, 10)] (M.2.2.2.2 (α 0)) 9) = ρ 3 := by rw [c99]; exact h2.2
    have h : (clp [(0, 144)] (M.2.2.2.2 (fl M (α 0) 10))) (ρ 1).toNat = ρ 2 := h0.2.2
    refine ⟨⟨g0, tyO_of hT g0 (by decide) (by decide), ⟨b1.1, ?_⟩, ?_⟩, trivial⟩
    · show ρ 1 < (clp [(9, 10)] (M.2.2.2.2 (α 0)) 9)
      rw [e9]
      exact h1
    · show (clp [(0, 144)] (M.2.2.2.2 (fl M (α 0) 10))) (ρ 1).toNat = -1
      omega
  exact ⟨nB, qB (key.1) (nB)⟩
def t_jn7 : KT := ((0, 0, 0, 0), [(2, 0, 40, 0), (1, 1, 0, 0), (1, 2, 0, 0), (1, 3, 0, 0), (1, 4, 0, 0), (1, 5, 0, 0)], [(0, 0), (0, 143), (-1, 143), (-2147483648, 2147483647), (-2147483648, 2147483647), (-2147483648, 2147483647)], [(179, [(2, 0, 40, 0), (1, 1, 0, 0), (1, 2, 0, 0), (1, 3, 0, 0), (1, 4, 0, 0)]), (181, [(2, 0, 40, 0), (1, 1, 0, 0), (1, 5, 0, 0)]), (99, [(1, 5, 0, 0), (0, 0, 0, -1), (0, 0, 0, 0)])], (0, 0, 0), [], [], ([], [(179, [(2, 0, 40, 0), (1, 1, 0, 1), (1, 2, 0, 0), (1, 3, 0, 0), (1, 4, 0, 0)])]), ([], []))
set_option maxRecDepth 100000 in
theorem l_jn7 (g : GG) : LOK Yt (PSt g) t_jn7 := by
  intro ρ α Γ M as hT hB hA hP
  have g0 : Γ (α 0) = 40 := tyAt hA (i := 0) rfl
  have b1 : 0 ≤ ρ 1 ∧ ρ 1 ≤ 143 := hB 1
  have b2 : -1 ≤ ρ 2 ∧ ρ 2 ≤ 143 := hB 2
  have b3 : -2147483648 ≤ ρ 3 ∧ ρ 3 ≤ 2147483647 := hB 3
  have b4 : -2147483648 ≤ ρ 4 ∧ ρ 4 ≤ 2147483647 := hB 4
  have b5 : -2147483648 ≤ ρ 5 ∧ ρ 5 ≤ 2147483647 := hB 5
  have h0 : Γ (α 0) = 40 ∧ tyO Γ M (α 0) [(10, 45, [(0, 144)])] ∧ Q179 g (vw M (α 0) 10 [(0, 144)]) (clp [(9, 10)] (M.2.2.2.2 (α 0))) (ρ 1 + 0) (ρ 2 + 0) (ρ 3 + 0) (ρ 4 + 0) := hP _ (List.mem_of_getElem? (i := 0) rfl)
  have h1 : Γ (α 0) = 40 ∧ tyO Γ M (α 0) [(10, 45, [(0, 144)])] ∧ Q181 g (vw M (α 0) 10 [(0, 144)]) (clp [] (M.2.2.2.2 (α 0))) (ρ 1 + 0) (ρ 5 + 0) := hP _ (List.mem_of_getElem? (i := 1) rfl)
  have h2 : (ρ 5 + 0 : Int) ≠ (-1) := hP _ (List.mem_of_getElem? (i := 2) rfl)
  try simp only [Int.add_zero] at h0 h1 h2
  have key : (Γ (α 0) = 40 ∧ tyO Γ M (α 0) [(10, 45, [(0, 144)])] ∧ Q179 g (vw M (α 0) 10 [(0, 144)]) (clp [(9, 10)] (M.2.2.2.2 (α 0))) (ρ 1 + 1) (ρ 2 + 0) (ρ 3 + 0) (ρ 4 + 0)) ∧ True := by
    try simp only [Int.add_zero]
    obtain ⟨-, -, h, h3⟩ := h0
    have hx : (clp [(0, 144)] (M.2.2.2.2 (fl M (α 0) 10))) (ρ 1).toNat = ρ 5 := h1.2.2
    refine ⟨⟨g0, tyO_of hT g0 (by decide) (by decide), fun hb => ⟨(h hb).1, fun j j1 j2 => ?_⟩, h3⟩, trivial⟩
    by_cases hc : (j : Int) < ρ 1
    · exact (h hb).2 j hc j2
    · show (clp [(0, 144)] (M.2.2.2.2 (fl M (α 0) 10))) j ≠ -1
      rw [show j = (ρ 1).toNat by omega, hx]
      exact h2
  exact ⟨nB, qB (key.1) (nB)⟩
def t_jn8 : KT := ((0, 0, 0, 0), [(2, 0, 40, 0), (1, 1, 0, 0), (1, 2, 0, 0)], [(0, 0), (0, 143), (-2147483648, 2147483647)], [(180, [(2, 0, 40, 0), (1, 1, 0, 0)])], (0, 0, 0), [], [], ([], [(179, [(2, 0, 40, 0), (1, 1, 0, 1), (1, 1, 0, 0), (1, 1, 0, 0), (1, 2, 0, 0)])]), ([], []))
set_option maxRecDepth 100000 in
theorem l_jn8 (g : GG) : LOK Yt (PSt g) t_jn8 := by
  intro ρ α Γ M as hT hB hA hP
  have g0 : Γ (α 0) = 40 := tyAt hA (i := 0) rfl
  have b1 : 0 ≤ ρ 1 ∧ ρ 1 ≤ 143 := hB 1
  have b2 : -2147483648 ≤ ρ 2 ∧ ρ 2 ≤ 2147483647 := hB 2
  have h0 : Γ (α 0) = 40 ∧ tyO Γ M (α 0) [(10, 45, [(0, 144)])] ∧ Q180 g (vw M (α 0) 10 [(0, 144)]) (clp [(9, 10)] (M.2.2.2.2 (α 0))) (ρ 1 + 0) := hP _ (List.mem_of_getElem? (i := 0) rfl)
  try simp only [Int.add_zero] at h0
  have key : (Γ (α 0) = 40 ∧ tyO Γ M (α 0) [(10, 45, [(0, 144)])] ∧ Q179 g (vw M (α 0) 10 [(0, 144)]) (clp [(9, 10)] (M.2.2.2.2 (α 0))) (ρ 1 + 1) (ρ 1 + 0) (ρ 1 + 0) (ρ 2 + 0)) ∧ True := by
    try simp only [Int.add_zero]
    obtain ⟨-, -, h, h3⟩ := h0
    exact ⟨⟨g0, tyO_of hT g0 (by decide) (by decide), fun hb => by omega, fun _ => ⟨h, h, h3, h3⟩⟩, trivial⟩
  exact ⟨nB, qB (key.1) (nB)⟩
def t_jn9 : KT := ((0, 0, 0, 0), [(2, 0, 40, 0), (1, 1, 0, 0), (1, 2, 0, 0), (1, 3, 0, 0), (1, 4, 0, 0)], [(0, 0), (0, 143), (-1, 143), (-2147483648, 2147483647), (-2147483648, 999999)], [(179, [(2, 0, 40, 0), (1, 1, 0, 0), (1, 2, 0, 0), (1, 3, 0, 0), (1, 4, 0, 0)])], (0, 0, 0), [], [], ([], [(179, [(2, 0, 40, 0), (1, 1, 0, 1), (1, 2, 0, 0), (1, 3, 0, 0), (1, 4, 0, 0)])]), ([], []))
set_option maxRecDepth 100000 in
theorem l_jn9 (g : GG) : LOK Yt (PSt g) t_jn9 := by
  intro ρ α Γ M as hT hB hA hP
  have g0 : Γ (α 0) = 40 := tyAt hA (i := 0) rfl
  have b1 : 0 ≤ ρ 1 ∧ ρ 1 ≤ 143 := hB 1
  have b2 : -1 ≤ ρ 2 ∧ ρ 2 ≤ 143 := hB 2
  have b3 : -2147483648 ≤ ρ 3 ∧ ρ 3 ≤ 2147483647 := hB 3
  have b4 : -2147483648 ≤ ρ 4 ∧ ρ 4 ≤ 999999 := hB 4
  have h0 : Γ (α 0) = 40 ∧ tyO Γ M (α 0) [(10, 45, [(0, 144)])] ∧ Q179 g (vw M (α 0) 10 [(0, 144)]) (clp [(9, 10)] (M.2.2.2.2 (α 0))) (ρ 1 + 0) (ρ 2 + 0) (ρ 3 + 0) (ρ 4 + 0) := hP _ (List.mem_of_getElem? (i := 0) rfl)
  try simp only [Int.add_zero] at h0
  have key : (Γ (α 0) = 40 ∧ tyO Γ M (α 0) [(10, 45, [(0, 144)])] ∧ Q179 g (vw M (α 0) 10 [(0, 144)]) (clp [(9, 10)] (M.2.2.2.2 (α 0))) (ρ 1 + 1) (ρ 2 + 0) (ρ 3 + 0) (ρ 4 + 0)) ∧ True := by
    try simp only [Int.add_zero]
    obtain ⟨-, -, h, h3⟩ := h0
    exact ⟨⟨g0, tyO_of hT g0 (by decide) (by decide), fun hb => by have := (h hb).1; omega, h3⟩, trivial⟩
  exact ⟨nB, qB (key.1) (nB)⟩
def t_jnA : KT := ((0, 0, 0, 0), [(2, 0, 40, 0), (1, 1, 0, 0), (1, 2, 0, 0), (1, 3, 0, 0), (1, 4, 0, 0), (1, 5, 0, 0)], [(0, 0), (0, 143), (0, 143), (-2147483648, 2147483647), (-1, -1), (-2147483648, 2147483647)], [(180, [(2, 0, 40, 0), (1, 1, 0, 0)]), (181, [(2, 0, 40, 0), (1, 2, 0, 0), (1, 4, 0, 0)]), (21, [(1, 2, 0, 0), (1, 5, 0, 0)]), (10, [(2, 0, 40, 0), (0, 0, 0, 9), (1, 5, 0, 0)])], (0, 0, 0), [], [], ([], [(179, [(2, 0, 40, 0), (1, 1, 0, 1), (1, 1, 0, 0), (1, 2, 0, 0), (1, 3, 0, 0)])]), ([], []))
set_option maxRecDepth 100000 in
theorem l_jnA (g : GG) : LOK Yt (PSt g) t_jnA := by
  intro ρ α Γ M as hT hB hA hP
  have g0 : Γ (α 0) = 40 := tyAt hA (i := 0) rfl
  have b1 : 0 ≤ ρ 1 ∧ ρ 1 ≤ 143 := hB 1
  have b2 : 0 ≤ ρ 2 ∧ ρ 2 ≤ 143 := hB 2
  have b3 : -2147483648 ≤ ρ 3 ∧ ρ 3 ≤ 2147483647 := hB 3
  have b4 : -1 ≤ ρ 4 ∧ ρ 4 ≤ -1 := hB 4
  have b5 : -2147483648 ≤ ρ 5 ∧ ρ 5 ≤ 2147483647 := hB 5
  have h0 : Γ (α 0) = 40 ∧ tyO Γ M (α 0) [(10, 45, [(0, 144)])] ∧ Q180 g (vw M (α 0) 10 [(0, 144)]) (clp [(9, 10)] (M.2.2.2.2 (α 0))) (ρ 1 + 0) := hP _ (List.mem_of_getElem? (i := 0) rfl)
  have h1 : Γ (α 0) = 40 ∧ tyO Γ M (α 0) [(10, 45, [(0, 144)])] ∧ Q181 g (vw M (α 0) 10 [(0, 144)]) (clp [] (M.2.2.2.2 (α 0))) (ρ 2 + 0) (ρ 4 + 0) := hP _ (List.mem_of_getElem? (i := 1) rfl)
  have h2 : ρ 2 + 0 < ρ 5 + 0 := hP _ (List.mem_of_getElem? (i := 2) rfl)
  have h3 : 0 ≤ (9 : Int) ∧ M.2.2.2.2 (α 0) (9 : Int).toNat = ρ 5 + 0 := hP _ (List.mem_of_getElem? (i := 3) rfl)
  try simp only [Int.add_zero] at h0 h1 h2 h3
  have key : (Γ (α 0) = 40 ∧ tyO Γ M (α 0) [(10, 45, [(0, 144)])] ∧ Q179 g (vw M (α 0) 10 [(0, 144)]) (clp [(9, 10)] (M.2.2.2.2 (α 0))) (ρ 1 + 1) (ρ 1 + 0) (ρ 2 + 0) (ρ 3 + 0)) ∧ True := by
    try simp only [Int.add_zero]
    have e9 : (clp [(9, 10)] (M.2.2.2.2 (α 0)) 9) = ρ 5 := by rw [c99]; exact h3.2
    obtain ⟨-, -, h, h3⟩ := h0
    have hx : (clp [(0, 144)] (M.2.2.2.2 (fl M (α 0) 10))) (ρ 2).toNat = ρ 4 := h1.2.2
    refine ⟨⟨g0, tyO_of hT g0 (by decide) (by decide), fun hb => by omega, fun _ => ⟨h, ⟨b2.1, ?_⟩, h3, ?_⟩⟩, trivial⟩
    · show ρ 2 < (clp [(9, 10)] (M.2.2.2.2 (α 0)) 9)
      rw [e9]
      exact h2
    · show (clp [(0, 144)] (M.2.2.2.2 (fl M (α 0) 10))) (ρ 2).toNat = -1
      omega
  exact ⟨nB, qB (key.1) (nB)⟩
def t_jnB : KT := ((0, 0, 0, 0), [(2, 0, 40, 0), (1, 1, 0, 0), (1, 2, 0, 0), (1, 3, 0, 0), (1, 4, 0, 0), (1, 5, 0, 0), (1, 6, 0, 0)], [(0, 0), (0, 144), (-1, 143), (-2147483648, 2147483647), (-2147483648, 2147483647), (1, 144), (0, 144)], [(179, [(2, 0, 40, 0), (1, 1, 0, 0), (1, 2, 0, 0), (1, 3, 0, 0), (1, 4, 0, 0)]), (178, [(2, 0, 40, 0), (1, 5, 0, 0)]), (6, [(1, 6, 0, 0), (1, 1, 0, 0)]), (10, [(2, 0, 40, 0), (0, 0, 0, 9), (1, 6, 0, 0)])], (0, 0, 0), [], [], ([(2, 0, 143), (3, 0, 143)], []), ([], []))
set_option maxRecDepth 100000 in
theorem l_jnB (g : GG) : LOK Yt (PSt g) t_jnB := by
  intro ρ α Γ M as hT hB hA hP
  have g0 : Γ (α 0) = 40 := tyAt hA (i := 0) rfl
  have b1 : 0 ≤ ρ 1 ∧ ρ 1 ≤ 144 := hB 1
  have b2 : -1 ≤ ρ 2 ∧ ρ 2 ≤ 143 := hB 2
  have b3 : -2147483648 ≤ ρ 3 ∧ ρ 3 ≤ 2147483647 := hB 3
  have b4 : -2147483648 ≤ ρ 4 ∧ ρ 4 ≤ 2147483647 := hB 4
  have b5 : 1 ≤ ρ 5 ∧ ρ 5 ≤ 144 := hB 5
  have b6 : 0 ≤ ρ 6 ∧ ρ 6 ≤ 144 := hB 6
  have h0 : Γ (α 0) = 40 ∧ tyO Γ M (α 0) [(10, 45, [(0, 144)])] ∧ Q179 g (vw M (α 0) 10 [(0, 144)]) (clp [(9, 10)] (M.2.2.2.2 (α 0))) (ρ 1 + 0) (ρ 2 + 0) (ρ 3 + 0) (ρ 4 + 0) := hP _ (List.mem_of_getElem? (i := 0) rfl)
  have h1 : Γ (α 0) = 40 ∧ tyO Γ M (α 0) [(10, 45, [(0, 144)])] ∧ Q178 g (vw M (α 0) 10 [(0, 144)]) (clp [(9, 10)] (M.2.2.2.2 (α 0))) (ρ 5 + 0) := hP _ (List.mem_of_getElem? (i := 1) rfl)
  have h2 : ρ 6 + 0 ≤ ρ 1 + 0 := hP _ (List.mem_of_getElem? (i := 2) rfl)
  have h3 : 0 ≤ (9 : Int) ∧ M.2.2.2.2 (α 0) (9 : Int).toNat = ρ 6 + 0 := hP _ (List.mem_of_getElem? (i := 3) rfl)
  try simp only [Int.add_zero] at h0 h1 h2 h3
  have key : (0 ≤ ρ 2 ∧ ρ 2 ≤ 143) ∧ (0 ≤ ρ 3 ∧ ρ 3 ≤ 143) ∧ True := by
    try simp only [Int.add_zero]
    have e9 : (clp [(9, 10)] (M.2.2.2.2 (α 0)) 9) = ρ 6 := by rw [c99]; exact h3.2
    obtain ⟨-, -, h, hq⟩ := h0
    have hc : ρ 5 = (cntP (clp [(0, 144)] (M.2.2.2.2 (fl M (α 0) 10))) (clp [(9, 10)] (M.2.2.2.2 (α 0)) 9) : Int) := h1.2.2.1
    have hb : ρ 2 ≠ -1 := by
      intro hb
      have hz : cntP (clp [(0, 144)] (M.2.2.2.2 (fl M (α 0) 10))) (clp [(9, 10)] (M.2.2.2.2 (α 0)) 9) = 0 := cntP_z fun j j1 => (h hb).2 j (by rw [e9] at j1; omega) j1
      omega
    have := hq hb
    have w : 0 ≤ ρ 3 ∧ ρ 3 < (clp [(9, 10)] (M.2.2.2.2 (α 0)) 9) := this.2.1
    rw [e9] at w
    exact ⟨⟨by omega, by omega⟩, ⟨by omega, by omega⟩, trivial⟩
  exact ⟨qB (key.1) (qB (key.2.1) (nB)), nB⟩
def t_jnC : KT := ((0, 0, 0, 0), [(2, 0, 40, 0), (2, 1, 45, 0), (1, 2, 0, 0), (1, 3, 0, 0), (1, 4, 0, 0), (1, 5, 0, 0), (1, 6, 0, 0)], [(0, 0), (0, 0), (-2147483648, 2147483647), (0, 143), (0, 143), (-2147483648, 2147483647), (1, 144)], [(179, [(2, 0, 40, 0), (1, 2, 0, 0), (1, 3, 0, 0), (1, 4, 0, 0), (1, 5, 0, 0)]), (178, [(2, 0, 40, 0), (1, 6, 0, 0)]), (11, [(2, 0, 40, 0), (0, 0, 0, 10), (2, 1, 45, 0)])], (0, 0, 0), [], [], ([], [(217, [(2, 1, 45, 0), (1, 3, 0, 0), (2, 0, 40, 0), (1, 4, 0, 0), (1, 6, 0, 0)])]), ([], []))
set_option maxRecDepth 100000 in
theorem l_jnC (g : GG) : LOK Yt (PSt g) t_jnC := by
  intro ρ α Γ M as hT hB hA hP
  have g0 : Γ (α 0) = 40 := tyAt hA (i := 0) rfl
  have g1 : Γ (α 1) = 45 := tyAt hA (i := 1) rfl
  have b2 : -2147483648 ≤ ρ 2 ∧ ρ 2 ≤ 2147483647 := hB 2
  have b3 : 0 ≤ ρ 3 ∧ ρ 3 ≤ 143 := hB 3
  have b4 : 0 ≤ ρ 4 ∧ ρ 4 ≤ 143 := hB 4
  have b5 : -2147483648 ≤ ρ 5 ∧ ρ 5 ≤ 2147483647 := hB 5
  have b6 : 1 ≤ ρ 6 ∧ ρ 6 ≤ 144 := hB 6
  have h0 : Γ (α 0) = 40 ∧ tyO Γ M (α 0) [(10, 45, [(0, 144)])] ∧ Q179 g (vw M (α 0) 10 [(0, 144)]) (clp [(9, 10)] (M.2.2.2.2 (α 0))) (ρ 2 + 0) (ρ 3 + 0) (ρ 4 + 0) (ρ 5 + 0) := hP _ (List.mem_of_getElem? (i := 0) rfl)
  have h1 : Γ (α 0) = 40 ∧ tyO Γ M (α 0) [(10, 45, [(0, 144)])] ∧ Q178 g (vw M (α 0) 10 [(0, 144)]) (clp [(9, 10)] (M.2.2.2.2 (α 0))) (ρ 6 + 0) := hP _ (List.mem_of_getElem? (i := 1) rfl)
  have h2 : 0 ≤ (10 : Int) ∧ M.2.2.2.1 (α 0) (10 : Int).toNat = some (α 1) := hP _ (List.mem_of_getElem? (i := 2) rfl)
  try simp only [Int.add_zero] at h0 h1 h2
  have key : (Γ (α 0) = 40 ∧ M.2.2.2.1 (α 0) 10 = some (α 1) ∧ Γ (α 1) = 45 ∧ tyO Γ M (α 0) [] ∧ Q217 g (hcl [vi (ρ 3 + 0)] (clp [(0, 144)] (M.2.2.2.2 (α 1))))  (clp [(9, 10)] (M.2.2.2.2 (α 0))) (ρ 3 + 0) (ρ 4 + 0) (ρ 6 + 0)) ∧ True := by
    try simp only [Int.add_zero]
    have e10 : fl M (α 0) 10 = α 1 := fl_eq (show M.2.2.2.1 (α 0) 10 = some (α 1) from h2.2)
    
    obtain ⟨-, -, -, hq⟩ := h0
    have hq := hq (by omega)
    have hb : 0 ≤ ρ 3 ∧ ρ 3 < (clp [(9, 10)] (M.2.2.2.2 (α 0)) 9) := hq.1
    have hw : 0 ≤ ρ 4 ∧ ρ 4 < (clp [(9, 10)] (M.2.2.2.2 (α 0)) 9) := hq.2.1
    have fb : (clp [(0, 144)] (M.2.2.2.2 (fl M (α 0) 10))) (ρ 3).toNat = -1 := hq.2.2.1
    have fw : (clp [(0, 144)] (M.2.2.2.2 (fl M (α 0) 10))) (ρ 4).toNat = -1 := hq.2.2.2
    have hc : ρ 6 = (cntP (clp [(0, 144)] (M.2.2.2.2 (fl M (α 0) 10))) (clp [(9, 10)] (M.2.2.2.2 (α 0)) 9) : Int) := h1.2.2.1
    have hl : ∀ j : Nat, (j : Int) < (clp [(9, 10)] (M.2.2.2.2 (α 0)) 9) → (clp [(0, 144)] (M.2.2.2.2 (fl M (α 0) 10))) j < (clp [(9, 10)] (M.2.2.2.2 (α 0)) 9) := h1.2.2.2
    have hz : hcl [vi (ρ 3)] (clp [(0, 144)] (M.2.2.2.2 (α 1))) (ρ 3).toNat = 0 := by
      unfold hcl
      have : ([vi (ρ 3)] : List MV).any (isVi (ρ 3).toNat) = true := List.any_eq_true.mpr ⟨_, List.mem_cons_self, decide_eq_true (by omega)⟩
      rw [this]
      rfl
    have hk := cntP_1 (f := (clp [(0, 144)] (M.2.2.2.2 (fl M (α 0) 10)))) (f2 := hcl [vi (ρ 3)] (clp [(0, 144)] (M.2.2.2.2 (α 1)))) (T := (clp [(9, 10)] (M.2.2.2.2 (α 0)) 9)) (p := (ρ 3).toNat) (by omega) fb (by rw [hz]; decide) (fun j j1 j2 => by rw [hcl1 (by omega), e10])
    refine ⟨⟨g0, h2.2, g1, tyO_of hT g0 (by decide) (by decide), ⟨hb, hw⟩, by show (cntP _ (clp [(9, 10)] (M.2.2.2.2 (α 0)) 9) : Int) = _; omega, fun j j1 => ?_, fun hn => ?_⟩, trivial⟩
    · show hcl [vi (ρ 3)] (clp [(0, 144)] (M.2.2.2.2 (α 1))) j < (clp [(9, 10)] (M.2.2.2.2 (α 0)) 9)
      by_cases hj : j = (ρ 3).toNat
      · rw [hj, hz]
        omega
      · rw [hcl1 (by omega), ← e10]
        exact hl j j1
    · rw [hcl1 (by omega), ← e10]
      exact fw
  exact ⟨nB, qB (key.1) (nB)⟩
def t_jnD : KT := ((0, 0, 0, 0), [(2, 0, 40, 0), (2, 1, 45, 0), (1, 2, 0, 0), (1, 3, 0, 0), (1, 4, 0, 0)], [(0, 0), (0, 0), (0, 143), (0, 143), (1, 144)], [(217, [(2, 1, 45, 0), (1, 2, 0, 0), (2, 0, 40, 0), (1, 3, 0, 0), (1, 4, 0, 0)]), (10, [(2, 1, 45, 0), (1, 2, 0, 0), (1, 3, 0, 0)])], (0, 0, 0), [], [], ([], [(183, [(2, 0, 40, 0), (1, 2, 0, 0), (1, 3, 0, 0), (1, 4, 0, 0)])]), ([], []))
set_option maxRecDepth 100000 in
theorem l_jnD (g : GG) : LOK Yt (PSt g) t_jnD := by
  intro ρ α Γ M as hT hB hA hP
  have g0 : Γ (α 0) = 40 := tyAt hA (i := 0) rfl
  have g1 : Γ (α 1) = 45 := tyAt hA (i := 1) rfl
  have b2 : 0 ≤ ρ 2 ∧ ρ 2 ≤ 143 := hB 2
  have b3 : 0 ≤ ρ 3 ∧ ρ 3 ≤ 143 := hB 3
  have b4 : 1 ≤ ρ 4 ∧ ρ 4 ≤ 144 := hB 4
  have h0 : Γ (α 0) = 40 ∧ M.2.2.2.1 (α 0) 10 = some (α 1) ∧ Γ (α 1) = 45 ∧ tyO Γ M (α 0) [] ∧ Q217 g (hcl [vi (ρ 2 + 0)] (clp [(0, 144)] (M.2.2.2.2 (α 1))))  (clp [(9, 10)] (M.2.2.2.2 (α 0))) (ρ 2 + 0) (ρ 3 + 0) (ρ 4 + 0) := hP _ (List.mem_of_getElem? (i := 0) rfl)
  have h1 : 0 ≤ (ρ 2 + 0 : Int) ∧ M.2.2.2.2 (α 1) (ρ 2 + 0 : Int).toNat = ρ 3 + 0 := hP _ (List.mem_of_getElem? (i := 1) rfl)
  try simp only [Int.add_zero] at h0 h1
  have key : (Γ (α 0) = 40 ∧ tyO Γ M (α 0) [(10, 45, [(0, 144)])] ∧ Q183 g (vw M (α 0) 10 [(0, 144)]) (clp [(9, 10)] (M.2.2.2.2 (α 0))) (ρ 2 + 0) (ρ 3 + 0) (ρ 4 + 0)) ∧ True := by
    try simp only [Int.add_zero]
    obtain ⟨-, hr, -, -, ⟨hb, hw⟩, hc, hl, hq⟩ := h0
    have e10 : fl M (α 0) 10 = α 1 := fl_eq hr
    have fb : (clp [(0, 144)] (M.2.2.2.2 (fl M (α 0) 10))) (ρ 2).toNat = ρ 3 := by rw [e10, cA1 (by omega)]; exact h1.2
    have hz : hcl [vi (ρ 2)] (clp [(0, 144)] (M.2.2.2.2 (α 1))) (ρ 2).toNat = 0 := by
      unfold hcl
      have : ([vi (ρ 2)] : List MV).any (isVi (ρ 2).toNat) = true := List.any_eq_true.mpr ⟨_, List.mem_cons_self, decide_eq_true (by omega)⟩
      rw [this]
      rfl
    have hs : ∀ j : Nat, j ≠ (ρ 2).toNat → (clp [(0, 144)] (M.2.2.2.2 (fl M (α 0) 10))) j = hcl [vi (ρ 2)] (clp [(0, 144)] (M.2.2.2.2 (α 1))) j := fun j j2 => by rw [hcl1 (by omega), e10]
    have hk : cntP (clp [(0, 144)] (M.2.2.2.2 (fl M (α 0) 10))) (clp [(9, 10)] (M.2.2.2.2 (α 0)) 9) = cntP (hcl [vi (ρ 2)] (clp [(0, 144)] (M.2.2.2.2 (α 1)))) (clp [(9, 10)] (M.2.2.2.2 (α 0)) 9) := cnt_c fun q hq2 => by
      by_cases hj : q = (ρ 2).toNat
      · rw [hj, fb, hz]
        exact (decide_eq_false (by omega)).trans (decide_eq_false (by decide)).symm
      · rw [hs q hj]
    refine ⟨⟨g0, tyO_of hT g0 (by decide) (by decide), ⟨hb, hw⟩, ?_, fun j j1 => ?_, fun hn => ?_⟩, trivial⟩
    · show (cntP (clp [(0, 144)] (M.2.2.2.2 (fl M (α 0) 10))) (clp [(9, 10)] (M.2.2.2.2 (α 0)) 9) : Int) = _
      rw [hk]
      exact hc
    · show (clp [(0, 144)] (M.2.2.2.2 (fl M (α 0) 10))) j < (clp [(9, 10)] (M.2.2.2.2 (α 0)) 9)
      by_cases hj : j = (ρ 2).toNat
      · rw [hj, fb]
        exact hw.2
      · rw [hs j hj]
        exact hl j j1
    · show (clp [(0, 144)] (M.2.2.2.2 (fl M (α 0) 10))) (ρ 3).toNat = -1
      rw [hs _ (by omega)]
      exact hq hn
  exact ⟨nB, qB (key.1) (nB)⟩
def t_jnE : KT := ((0, 0, 0, 0), [(2, 0, 40, 0), (2, 1, 45, 0), (1, 2, 0, 0), (1, 3, 0, 0), (1, 4, 0, 0)], [(0, 0), (0, 0), (0, 143), (0, 143), (1, 144)], [(183, [(2, 0, 40, 0), (1, 2, 0, 0), (1, 3, 0, 0), (1, 4, 0, 0)]), (11, [(2, 0, 40, 0), (0, 0, 0, 10), (2, 1, 45, 0)]), (419, [(2, 0, 40, 0), (1, 2, 0, 0), (1, 3, 0, 0)])], (0, 0, 0), [], [], ([], [(218, [(2, 1, 45, 0), (1, 3, 0, 0), (2, 0, 40, 0), (1, 2, 0, 0), (1, 4, 0, 0)])]), ([], []))
set_option maxRecDepth 100000 in
theorem l_jnE (g : GG) : LOK Yt (PSt g) t_jnE := by
  intro ρ α Γ M as hT hB hA hP
  have g0 : Γ (α 0) = 40 := tyAt hA (i := 0) rfl
  have g1 : Γ (α 1) = 45 := tyAt hA (i := 1) rfl
  have b2 : 0 ≤ ρ 2 ∧ ρ 2 ≤ 143 := hB 2
  have b3 : 0 ≤ ρ 3 ∧ ρ 3 ≤ 143 := hB 3
  have b4 : 1 ≤ ρ 4 ∧ ρ 4 ≤ 144 := hB 4
  have h0 : Γ (α 0) = 40 ∧ tyO Γ M (α 0) [(10, 45, [(0, 144)])] ∧ Q183 g (vw M (α 0) 10 [(0, 144)]) (clp [(9, 10)] (M.2.2.2.2 (α 0))) (ρ 2 + 0) (ρ 3 + 0) (ρ 4 + 0) := hP _ (List.mem_of_getElem? (i := 0) rfl)
  have h1 : 0 ≤ (10 : Int) ∧ M.2.2.2.1 (α 0) (10 : Int).toNat = some (α 1) := hP _ (List.mem_of_getElem? (i := 1) rfl)
  have h2 : Γ (α 0) = 40 ∧ tyO Γ M (α 0) [(10, 45, [(0, 144)])] ∧ Q419 g (vw M (α 0) 10 [(0, 144)]) (clp [] (M.2.2.2.2 (α 0))) (ρ 2 + 0) (ρ 3 + 0) := hP _ (List.mem_of_getElem? (i := 2) rfl)
  try simp only [Int.add_zero] at h0 h1 h2
  have key : (Γ (α 0) = 40 ∧ M.2.2.2.1 (α 0) 10 = some (α 1) ∧ Γ (α 1) = 45 ∧ tyO Γ M (α 0) [] ∧ Q218 g (hcl [vi (ρ 3 + 0)] (clp [(0, 144)] (M.2.2.2.2 (α 1))))  (clp [(9, 10)] (M.2.2.2.2 (α 0))) (ρ 3 + 0) (ρ 2 + 0) (ρ 4 + 0)) ∧ True := by
    try simp only [Int.add_zero]
    have e10 : fl M (α 0) 10 = α 1 := fl_eq (show M.2.2.2.1 (α 0) 10 = some (α 1) from h1.2)
    
    obtain ⟨-, -, ⟨hb, hw⟩, hc, hl, hq⟩ := h0
    have hb : 0 ≤ ρ 2 ∧ ρ 2 < (clp [(9, 10)] (M.2.2.2.2 (α 0)) 9) := hb
    have hw : 0 ≤ ρ 3 ∧ ρ 3 < (clp [(9, 10)] (M.2.2.2.2 (α 0)) 9) := hw
    have hc : (cntP (clp [(0, 144)] (M.2.2.2.2 (fl M (α 0) 10))) (clp [(9, 10)] (M.2.2.2.2 (α 0)) 9) : Int) = ρ 4 - 1 := hc
    have hl : ∀ j : Nat, (j : Int) < (clp [(9, 10)] (M.2.2.2.2 (α 0)) 9) → (clp [(0, 144)] (M.2.2.2.2 (fl M (α 0) 10))) j < (clp [(9, 10)] (M.2.2.2.2 (α 0)) 9) := hl
    have hq : ρ 2 ≠ ρ 3 → (clp [(0, 144)] (M.2.2.2.2 (fl M (α 0) 10))) (ρ 3).toNat = -1 := hq
    have fb : (clp [(0, 144)] (M.2.2.2.2 (fl M (α 0) 10))) (ρ 2).toNat = ρ 3 := h2.2.2
    have hz : hcl [vi (ρ 3)] (clp [(0, 144)] (M.2.2.2.2 (α 1))) (ρ 3).toNat = 0 := by
      unfold hcl
      have : ([vi (ρ 3)] : List MV).any (isVi (ρ 3).toNat) = true := List.any_eq_true.mpr ⟨_, List.mem_cons_self, decide_eq_true (by omega)⟩
      rw [this]
      rfl
    have hs : ∀ j : Nat, j ≠ (ρ 3).toNat → hcl [vi (ρ 3)] (clp [(0, 144)] (M.2.2.2.2 (α 1))) j = (clp [(0, 144)] (M.2.2.2.2 (fl M (α 0) 10))) j := fun j j2 => by rw [hcl1 (by omega), e10]
    refine ⟨⟨g0, h1.2, g1, tyO_of hT g0 (by decide) (by decide), hb, fun he => ?_, fun hn => ?_, fun j j1 => ?_⟩, trivial⟩
    · show (cntP _ (clp [(9, 10)] (M.2.2.2.2 (α 0)) 9) : Int) = _
      rw [← hc]
      have : cntP (hcl [vi (ρ 3)] (clp [(0, 144)] (M.2.2.2.2 (α 1)))) (clp [(9, 10)] (M.2.2.2.2 (α 0)) 9) = cntP (clp [(0, 144)] (M.2.2.2.2 (fl M (α 0) 10))) (clp [(9, 10)] (M.2.2.2.2 (α 0)) 9) := cnt_c fun q hq2 => by
        by_cases hj : q = (ρ 3).toNat
        · rw [hj, hz, ← he, fb]
          exact (decide_eq_false (by decide)).trans (decide_eq_false (by omega)).symm
        · rw [hs q hj]
      rw [this]
    · show (cntP _ (clp [(9, 10)] (M.2.2.2.2 (α 0)) 9) : Int) = _
      have := cntP_1 (f := (clp [(0, 144)] (M.2.2.2.2 (fl M (α 0) 10)))) (f2 := hcl [vi (ρ 3)] (clp [(0, 144)] (M.2.2.2.2 (α 1)))) (T := (clp [(9, 10)] (M.2.2.2.2 (α 0)) 9)) (p := (ρ 3).toNat) (by omega) (hq hn) (by rw [hz]; decide) (fun j j1 j2 => hs j j2)
      omega
    · show hcl [vi (ρ 3)] (clp [(0, 144)] (M.2.2.2.2 (α 1))) j < (clp [(9, 10)] (M.2.2.2.2 (α 0)) 9)
      by_cases hj : j = (ρ 3).toNat
      · rw [hj, hz]
        omega
      · rw [hs j hj]
        exact hl j j1
  exact ⟨nB, qB (key.1) (nB)⟩
def t_jnP : KT := ((0, 0, 0, 0), [(2, 0, 40, 0), (2, 1, 45, 0), (1, 2, 0, 0), (1, 3, 0, 0)], [(0, 0), (0, 0), (0, 143), (0, 143)], [(11, [(2, 0, 40, 0), (0, 0, 0, 10), (2, 1, 45, 0)]), (10, [(2, 1, 45, 0), (1, 2, 0, 0), (1, 3, 0, 0)])], (0, 0, 0), [], [], ([], [(419, [(2, 0, 40, 0), (1, 2, 0, 0), (1, 3, 0, 0)])]), ([], []))
set_option maxRecDepth 100000 in
theorem l_jnP (g : GG) : LOK Yt (PSt g) t_jnP := by
  intro ρ α Γ M as hT hB hA hP
  have g0 : Γ (α 0) = 40 := tyAt hA (i := 0) rfl
  have g1 : Γ (α 1) = 45 := tyAt hA (i := 1) rfl
  have b2 : 0 ≤ ρ 2 ∧ ρ 2 ≤ 143 := hB 2
  have b3 : 0 ≤ ρ 3 ∧ ρ 3 ≤ 143 := hB 3
  have h0 : 0 ≤ (10 : Int) ∧ M.2.2.2.1 (α 0) (10 : Int).toNat = some (α 1) := hP _ (List.mem_of_getElem? (i := 0) rfl)
  have h1 : 0 ≤ (ρ 2 + 0 : Int) ∧ M.2.2.2.2 (α 1) (ρ 2 + 0 : Int).toNat = ρ 3 + 0 := hP _ (List.mem_of_getElem? (i := 1) rfl)
  try simp only [Int.add_zero] at h0 h1
  have key : (Γ (α 0) = 40 ∧ tyO Γ M (α 0) [(10, 45, [(0, 144)])] ∧ Q419 g (vw M (α 0) 10 [(0, 144)]) (clp [] (M.2.2.2.2 (α 0))) (ρ 2 + 0) (ρ 3 + 0)) ∧ True := by
    try simp only [Int.add_zero]
    have e10 : fl M (α 0) 10 = α 1 := fl_eq (show M.2.2.2.1 (α 0) 10 = some (α 1) from h0.2)
    
    refine ⟨⟨g0, tyO_of hT g0 (by decide) (by decide), ?_⟩, trivial⟩
    show (clp [(0, 144)] (M.2.2.2.2 (fl M (α 0) 10))) (ρ 2).toNat = ρ 3
    rw [e10, cA1 (by omega)]
    exact h1.2
  exact ⟨nB, qB (key.1) (nB)⟩
def t_jnF : KT := ((0, 0, 0, 0), [(2, 0, 40, 0), (2, 1, 45, 0), (1, 2, 0, 0), (1, 3, 0, 0), (1, 4, 0, 0)], [(0, 0), (0, 0), (0, 143), (0, 143), (1, 144)], [(218, [(2, 1, 45, 0), (1, 3, 0, 0), (2, 0, 40, 0), (1, 2, 0, 0), (1, 4, 0, 0)]), (10, [(2, 1, 45, 0), (1, 3, 0, 0), (1, 2, 0, 0)])], (0, 0, 0), [], [], ([], [(184, [(2, 0, 40, 0), (1, 2, 0, 0), (1, 3, 0, 0), (1, 4, 0, 0)])]), ([], []))
set_option maxRecDepth 100000 in
theorem l_jnF (g : GG) : LOK Yt (PSt g) t_jnF := by
  intro ρ α Γ M as hT hB hA hP
  have g0 : Γ (α 0) = 40 := tyAt hA (i := 0) rfl
  have g1 : Γ (α 1) = 45 := tyAt hA (i := 1) rfl
  have b2 : 0 ≤ ρ 2 ∧ ρ 2 ≤ 143 := hB 2
  have b3 : 0 ≤ ρ 3 ∧ ρ 3 ≤ 143 := hB 3
  have b4 : 1 ≤ ρ 4 ∧ ρ 4 ≤ 144 := hB 4
  have h0 : Γ (α 0) = 40 ∧ M.2.2.2.1 (α 0) 10 = some (α 1) ∧ Γ (α 1) = 45 ∧ tyO Γ M (α 0) [] ∧ Q218 g (hcl [vi (ρ 3 + 0)] (clp [(0, 144)] (M.2.2.2.2 (α 1))))  (clp [(9, 10)] (M.2.2.2.2 (α 0))) (ρ 3 + 0) (ρ 2 + 0) (ρ 4 + 0) := hP _ (List.mem_of_getElem? (i := 0) rfl)
  have h1 : 0 ≤ (ρ 3 + 0 : Int) ∧ M.2.2.2.2 (α 1) (ρ 3 + 0 : Int).toNat = ρ 2 + 0 := hP _ (List.mem_of_getElem? (i := 1) rfl)
  try simp only [Int.add_zero] at h0 h1
  have key : (Γ (α 0) = 40 ∧ tyO Γ M (α 0) [(10, 45, [(0, 144)])] ∧ Q184 g (vw M (α 0) 10 [(0, 144)]) (clp [(9, 10)] (M.2.2.2.2 (α 0))) (ρ 2 + 0) (ρ 3 + 0) (ρ 4 + 0)) ∧ True := by
    try simp only [Int.add_zero]
    obtain ⟨-, hr, -, -, hb, hc1, hc2, hl⟩ := h0
    have e10 : fl M (α 0) 10 = α 1 := fl_eq hr
    have fb : (clp [(0, 144)] (M.2.2.2.2 (fl M (α 0) 10))) (ρ 3).toNat = ρ 2 := by rw [e10, cA1 (by omega)]; exact h1.2
    have hz : hcl [vi (ρ 3)] (clp [(0, 144)] (M.2.2.2.2 (α 1))) (ρ 3).toNat = 0 := by
      unfold hcl
      have : ([vi (ρ 3)] : List MV).any (isVi (ρ 3).toNat) = true := List.any_eq_true.mpr ⟨_, List.mem_cons_self, decide_eq_true (by omega)⟩
      rw [this]
      rfl
    have hs : ∀ j : Nat, j ≠ (ρ 3).toNat → (clp [(0, 144)] (M.2.2.2.2 (fl M (α 0) 10))) j = hcl [vi (ρ 3)] (clp [(0, 144)] (M.2.2.2.2 (α 1))) j := fun j j2 => by rw [hcl1 (by omega), e10]
    have hk : cntP (clp [(0, 144)] (M.2.2.2.2 (fl M (α 0) 10))) (clp [(9, 10)] (M.2.2.2.2 (α 0)) 9) = cntP (hcl [vi (ρ 3)] (clp [(0, 144)] (M.2.2.2.2 (α 1)))) (clp [(9, 10)] (M.2.2.2.2 (α 0)) 9) := cnt_c fun q hq2 => by
      by_cases hj : q = (ρ 3).toNat
      · rw [hj, fb, hz]
        exact (decide_eq_false (by omega)).trans (decide_eq_false (by decide)).symm
      · rw [hs q hj]
    refine ⟨⟨g0, tyO_of hT g0 (by decide) (by decide), fun he => ?_, fun hn => ?_, fun j j1 => ?_⟩, trivial⟩
    · show (cntP (clp [(0, 144)] (M.2.2.2.2 (fl M (α 0) 10))) (clp [(9, 10)] (M.2.2.2.2 (α 0)) 9) : Int) = _
      rw [hk]
      exact hc1 he
    · show (cntP (clp [(0, 144)] (M.2.2.2.2 (fl M (α 0) 10))) (clp [(9, 10)] (M.2.2.2.2 (α 0)) 9) : Int) = _
      rw [hk]
      exact hc2 hn
    · show (clp [(0, 144)] (M.2.2.2.2 (fl M (α 0) 10))) j < (clp [(9, 10)] (M.2.2.2.2 (α 0)) 9)
      by_cases hj : j = (ρ 3).toNat
      · rw [hj, fb]
        exact hb.2
      · rw [hs j hj]
        exact hl j j1
  exact ⟨nB, qB (key.1) (nB)⟩
def t_jnG : KT := ((0, 0, 0, 0), [(2, 0, 40, 0), (1, 1, 0, 0), (1, 2, 0, 0), (1, 3, 0, 0)], [(0, 0), (0, 143), (0, 143), (1, 144)], [(184, [(2, 0, 40, 0), (1, 1, 0, 0), (1, 2, 0, 0), (1, 3, 0, 0)]), (6, [(1, 1, 0, 0), (1, 2, 0, 0)]), (6, [(1, 2, 0, 0), (1, 1, 0, 0)])], (0, 0, 0), [], [], ([], [(178, [(2, 0, 40, 0), (1, 3, 0, -1)])]), ([], []))
set_option maxRecDepth 100000 in
theorem l_jnG (g : GG) : LOK Yt (PSt g) t_jnG := by
  intro ρ α Γ M as hT hB hA hP
  have g0 : Γ (α 0) = 40 := tyAt hA (i := 0) rfl
  have b1 : 0 ≤ ρ 1 ∧ ρ 1 ≤ 143 := hB 1
  have b2 : 0 ≤ ρ 2 ∧ ρ 2 ≤ 143 := hB 2
  have b3 : 1 ≤ ρ 3 ∧ ρ 3 ≤ 144 := hB 3
  have h0 : Γ (α 0) = 40 ∧ tyO Γ M (α 0) [(10, 45, [(0, 144)])] ∧ Q184 g (vw M (α 0) 10 [(0, 144)]) (clp [(9, 10)] (M.2.2.2.2 (α 0))) (ρ 1 + 0) (ρ 2 + 0) (ρ 3 + 0) := hP _ (List.mem_of_getElem? (i := 0) rfl)
  have h1 : ρ 1 + 0 ≤ ρ 2 + 0 := hP _ (List.mem_of_getElem? (i := 1) rfl)
  have h2 : ρ 2 + 0 ≤ ρ 1 + 0 := hP _ (List.mem_of_getElem? (i := 2) rfl)
  try simp only [Int.add_zero] at h0 h1 h2
  have key : (Γ (α 0) = 40 ∧ tyO Γ M (α 0) [(10, 45, [(0, 144)])] ∧ Q178 g (vw M (α 0) 10 [(0, 144)]) (clp [(9, 10)] (M.2.2.2.2 (α 0))) (ρ 3 + (-1))) ∧ True := by
    try simp only [Int.add_zero]
    obtain ⟨-, -, hc1, -, hl⟩ := h0
    have hc1 : ρ 1 = ρ 2 → (cntP (clp [(0, 144)] (M.2.2.2.2 (fl M (α 0) 10))) (clp [(9, 10)] (M.2.2.2.2 (α 0)) 9) : Int) = ρ 3 - 1 := hc1
    exact ⟨⟨g0, tyO_of hT g0 (by decide) (by decide), by show ρ 3 + (-1) = (cntP (clp [(0, 144)] (M.2.2.2.2 (fl M (α 0) 10))) (clp [(9, 10)] (M.2.2.2.2 (α 0)) 9) : Int); have := hc1 (by omega); omega, hl⟩, trivial⟩
  exact ⟨nB, qB (key.1) (nB)⟩
def t_jnH : KT := ((0, 0, 0, 0), [(2, 0, 40, 0), (1, 1, 0, 0), (1, 2, 0, 0), (1, 3, 0, 0)], [(0, 0), (0, 143), (0, 143), (1, 144)], [(184, [(2, 0, 40, 0), (1, 1, 0, 0), (1, 2, 0, 0), (1, 3, 0, 0)]), (99, [(1, 1, 0, 0), (1, 2, 0, 0), (0, 0, 0, 0)])], (0, 0, 0), [], [], ([(3, 2, 144)], [(178, [(2, 0, 40, 0), (1, 3, 0, -2)])]), ([], []))
set_option maxRecDepth 100000 in
theorem l_jnH (g : GG) : LOK Yt (PSt g) t_jnH := by
  intro ρ α Γ M as hT hB hA hP
  have g0 : Γ (α 0) = 40 := tyAt hA (i := 0) rfl
  have b1 : 0 ≤ ρ 1 ∧ ρ 1 ≤ 143 := hB 1
  have b2 : 0 ≤ ρ 2 ∧ ρ 2 ≤ 143 := hB 2
  have b3 : 1 ≤ ρ 3 ∧ ρ 3 ≤ 144 := hB 3
  have h0 : Γ (α 0) = 40 ∧ tyO Γ M (α 0) [(10, 45, [(0, 144)])] ∧ Q184 g (vw M (α 0) 10 [(0, 144)]) (clp [(9, 10)] (M.2.2.2.2 (α 0))) (ρ 1 + 0) (ρ 2 + 0) (ρ 3 + 0) := hP _ (List.mem_of_getElem? (i := 0) rfl)
  have h1 : (ρ 1 + 0 : Int) ≠ ρ 2 + 0 := hP _ (List.mem_of_getElem? (i := 1) rfl)
  try simp only [Int.add_zero] at h0 h1
  have key : (2 ≤ ρ 3 ∧ ρ 3 ≤ 144) ∧ (Γ (α 0) = 40 ∧ tyO Γ M (α 0) [(10, 45, [(0, 144)])] ∧ Q178 g (vw M (α 0) 10 [(0, 144)]) (clp [(9, 10)] (M.2.2.2.2 (α 0))) (ρ 3 + (-2))) ∧ True := by
    try simp only [Int.add_zero]
    obtain ⟨-, -, -, hc2, hl⟩ := h0
    have hc2 : ρ 1 ≠ ρ 2 → (cntP (clp [(0, 144)] (M.2.2.2.2 (fl M (α 0) 10))) (clp [(9, 10)] (M.2.2.2.2 (α 0)) 9) : Int) = ρ 3 - 2 := hc2
    have := hc2 h1
    exact ⟨⟨by omega, b3.2⟩, ⟨g0, tyO_of hT g0 (by decide) (by decide), by show ρ 3 + (-2) = (cntP (clp [(0, 144)] (M.2.2.2.2 (fl M (α 0) 10))) (clp [(9, 10)] (M.2.2.2.2 (α 0)) 9) : Int); omega, hl⟩, trivial⟩
  exact ⟨qB (key.1) (nB), qB (key.2.1) (nB)⟩
def t_jnI : KT := ((0, 0, 0, 0), [(2, 0, 40, 0), (1, 1, 0, 0)], [(0, 0), (0, 0)], [(178, [(2, 0, 40, 0), (1, 1, 0, 0)])], (0, 0, 0), [], [], ([], [(176, [(2, 0, 40, 0)])]), ([], []))
set_option maxRecDepth 100000 in
theorem l_jnI (g : GG) : LOK Yt (PSt g) t_jnI := by
  intro ρ α Γ M as hT hB hA hP
  have g0 : Γ (α 0) = 40 := tyAt hA (i := 0) rfl
  have b1 : 0 ≤ ρ 1 ∧ ρ 1 ≤ 0 := hB 1
  have h0 : Γ (α 0) = 40 ∧ tyO Γ M (α 0) [(10, 45, [(0, 144)])] ∧ Q178 g (vw M (α 0) 10 [(0, 144)]) (clp [(9, 10)] (M.2.2.2.2 (α 0))) (ρ 1 + 0) := hP _ (List.mem_of_getElem? (i := 0) rfl)
  try simp only [Int.add_zero] at h0
  have key : (Γ (α 0) = 40 ∧ tyO Γ M (α 0) [(10, 45, [(0, 144)])] ∧ Q176 g (vw M (α 0) 10 [(0, 144)]) (clp [(9, 10)] (M.2.2.2.2 (α 0))) ) ∧ True := by
    try simp only [Int.add_zero]
    obtain ⟨-, -, hc, hl⟩ := h0
    have hc : ρ 1 = (cntP (clp [(0, 144)] (M.2.2.2.2 (fl M (α 0) 10))) (clp [(9, 10)] (M.2.2.2.2 (α 0)) 9) : Int) := hc
    have hz := cntP_0 (f := (clp [(0, 144)] (M.2.2.2.2 (fl M (α 0) 10)))) (T := (clp [(9, 10)] (M.2.2.2.2 (α 0)) 9)) (by omega)
    refine ⟨⟨g0, tyO_of hT g0 (by decide) (by decide), fun j j1 => ⟨?_, hl j j1⟩⟩, trivial⟩
    have hn := hz j j1
    show 0 ≤ (clp [(0, 144)] (M.2.2.2.2 (fl M (α 0) 10))) j
    have j1 : (j : Int) < (clp [(9, 10)] (M.2.2.2.2 (α 0)) 9) := j1
    rw [c99] at j1
    have b9 := tyB hT g0 (by decide) (r := (9, 10, 0, 144)) (by decide) (j := 9) (Nat.le_refl _) (by decide)
    have b9 : 0 ≤ M.2.2.2.2 (α 0) 9 ∧ M.2.2.2.2 (α 0) 9 ≤ 144 := b9
    obtain ⟨p, p1, p2⟩ := tyR hT g0 (by decide) (j := 10) (τ2 := 45) (by decide)
    rw [fl_eq p1] at hn ⊢
    rw [cA1 (by omega)] at hn ⊢
    have := tyB hT p2 (by decide) (r := (0, 144, -1, 143)) (by decide) (j := j) (Nat.zero_le _) (show j < 144 by omega)
    have : -1 ≤ M.2.2.2.2 p j ∧ M.2.2.2.2 p j ≤ 143 := this
    omega
  exact ⟨nB, qB (key.1) (nB)⟩
def t_jb1 : KT := ((0, 0, 0, 0), [(2, 0, 40, 0), (2, 1, 41, 0), (1, 2, 0, 0)], [(0, 0), (0, 0), (0, 0)], [(11, [(2, 0, 40, 0), (0, 0, 0, 1), (2, 1, 41, 0)]), (10, [(2, 1, 41, 0), (0, 0, 0, 5), (0, 0, 0, 0)])], (0, 0, 0), [], [], ([], [(185, [(2, 0, 40, 0), (1, 2, 0, 0)])]), ([], []))
set_option maxRecDepth 100000 in
theorem l_jb1 (g : GG) : LOK Yt (PSt g) t_jb1 := by
  intro ρ α Γ M as hT hB hA hP
  have g0 : Γ (α 0) = 40 := tyAt hA (i := 0) rfl
  have g1 : Γ (α 1) = 41 := tyAt hA (i := 1) rfl
  have b2 : 0 ≤ ρ 2 ∧ ρ 2 ≤ 0 := hB 2
  have h0 : 0 ≤ (1 : Int) ∧ M.2.2.2.1 (α 0) (1 : Int).toNat = some (α 1) := hP _ (List.mem_of_getElem? (i := 0) rfl)
  have h1 : 0 ≤ (5 : Int) ∧ M.2.2.2.2 (α 1) (5 : Int).toNat = 0 := hP _ (List.mem_of_getElem? (i := 1) rfl)
  try simp only [Int.add_zero] at h0 h1
  have key : (Γ (α 0) = 40 ∧ tyO Γ M (α 0) [(1, 41, [(5, 6)])] ∧ Q185 g (vw M (α 0) 1 [(5, 6)]) (clp [] (M.2.2.2.2 (α 0))) (ρ 2 + 0)) ∧ True := by
    try simp only [Int.add_zero]
    have e1 : fl M (α 0) 1 = α 1 := fl_eq (show M.2.2.2.1 (α 0) 1 = some (α 1) from h0.2)
    
    have e5 : M.2.2.2.2 (α 1) 5 = 0 := h1.2
    refine ⟨⟨g0, tyO_of hT g0 (by decide) (by decide), ?_⟩, trivial⟩
    show 0 ≤ clp [(5, 6)] (M.2.2.2.2 (fl M (α 0) 1)) 5 ∧ clp [(5, 6)] (M.2.2.2.2 (fl M (α 0) 1)) 5 ≤ ρ 2
    rw [c55, e1, e5]
    omega
  exact ⟨nB, qB (key.1) (nB)⟩
def t_jb2 : KT := ((0, 0, 0, 0), [(2, 0, 40, 0), (1, 1, 0, 0)], [(0, 0), (-2147483648, 2147483647)], [(185, [(2, 0, 40, 0), (1, 1, 0, 0)])], (0, 0, 0), [], [], ([], [(185, [(2, 0, 40, 0), (1, 1, 0, 1)])]), ([], []))
set_option maxRecDepth 100000 in
theorem l_jb2 (g : GG) : LOK Yt (PSt g) t_jb2 := by
  intro ρ α Γ M as hT hB hA hP
  have g0 : Γ (α 0) = 40 := tyAt hA (i := 0) rfl
  have b1 : -2147483648 ≤ ρ 1 ∧ ρ 1 ≤ 2147483647 := hB 1
  have h0 : Γ (α 0) = 40 ∧ tyO Γ M (α 0) [(1, 41, [(5, 6)])] ∧ Q185 g (vw M (α 0) 1 [(5, 6)]) (clp [] (M.2.2.2.2 (α 0))) (ρ 1 + 0) := hP _ (List.mem_of_getElem? (i := 0) rfl)
  try simp only [Int.add_zero] at h0
  have key : (Γ (α 0) = 40 ∧ tyO Γ M (α 0) [(1, 41, [(5, 6)])] ∧ Q185 g (vw M (α 0) 1 [(5, 6)]) (clp [] (M.2.2.2.2 (α 0))) (ρ 1 + 1)) ∧ True := by
    try simp only [Int.add_zero]
    obtain ⟨-, -, h1, h2⟩ := h0
    exact ⟨⟨g0, tyO_of hT g0 (by decide) (by decide), h1, by show clp [(5, 6)] (M.2.2.2.2 (fl M (α 0) 1)) 5 ≤ ρ 1 + 1; have h2 : clp [(5, 6)] (M.2.2.2.2 (fl M (α 0) 1)) 5 ≤ ρ 1 := h2; omega⟩, trivial⟩
  exact ⟨nB, qB (key.1) (nB)⟩
def t_jb3 : KT := ((0, 0, 0, 0), [(2, 0, 40, 0), (2, 1, 45, 0), (1, 2, 0, 0), (1, 3, 0, 0), (1, 4, 0, 0)], [(0, 0), (0, 0), (0, 143), (-2147483648, 2147483647), (-2147483648, 2147483647)], [(176, [(2, 0, 40, 0)]), (11, [(2, 0, 40, 0), (0, 0, 0, 10), (2, 1, 45, 0)]), (10, [(2, 1, 45, 0), (1, 2, 0, 0), (1, 3, 0, 0)]), (21, [(1, 2, 0, 0), (1, 4, 0, 0)]), (10, [(2, 0, 40, 0), (0, 0, 0, 9), (1, 4, 0, 0)])], (0, 0, 0), [], [], ([], [(21, [(1, 3, 0, 0), (1, 4, 0, 0)])]), ([], []))
set_option maxRecDepth 100000 in
theorem l_jb3 (g : GG) : LOK Yt (PSt g) t_jb3 := by
  intro ρ α Γ M as hT hB hA hP
  have g0 : Γ (α 0) = 40 := tyAt hA (i := 0) rfl
  have g1 : Γ (α 1) = 45 := tyAt hA (i := 1) rfl
  have b2 : 0 ≤ ρ 2 ∧ ρ 2 ≤ 143 := hB 2
  have b3 : -2147483648 ≤ ρ 3 ∧ ρ 3 ≤ 2147483647 := hB 3
  have b4 : -2147483648 ≤ ρ 4 ∧ ρ 4 ≤ 2147483647 := hB 4
  have h0 : Γ (α 0) = 40 ∧ tyO Γ M (α 0) [(10, 45, [(0, 144)])] ∧ Q176 g (vw M (α 0) 10 [(0, 144)]) (clp [(9, 10)] (M.2.2.2.2 (α 0)))  := hP _ (List.mem_of_getElem? (i := 0) rfl)
  have h1 : 0 ≤ (10 : Int) ∧ M.2.2.2.1 (α 0) (10 : Int).toNat = some (α 1) := hP _ (List.mem_of_getElem? (i := 1) rfl)
  have h2 : 0 ≤ (ρ 2 + 0 : Int) ∧ M.2.2.2.2 (α 1) (ρ 2 + 0 : Int).toNat = ρ 3 + 0 := hP _ (List.mem_of_getElem? (i := 2) rfl)
  have h3 : ρ 2 + 0 < ρ 4 + 0 := hP _ (List.mem_of_getElem? (i := 3) rfl)
  have h4 : 0 ≤ (9 : Int) ∧ M.2.2.2.2 (α 0) (9 : Int).toNat = ρ 4 + 0 := hP _ (List.mem_of_getElem? (i := 4) rfl)
  try simp only [Int.add_zero] at h0 h1 h2 h3 h4
  have key : (ρ 3 + 0 < ρ 4 + 0) ∧ True := by
    try simp only [Int.add_zero]
    have e10 : fl M (α 0) 10 = α 1 := fl_eq (show M.2.2.2.1 (α 0) 10 = some (α 1) from h1.2)
    
    have e9 : (clp [(9, 10)] (M.2.2.2.2 (α 0)) 9) = ρ 4 := by rw [c99]; exact h4.2
    have h : ∀ j : Nat, (j : Int) < (clp [(9, 10)] (M.2.2.2.2 (α 0)) 9) → 0 ≤ (clp [(0, 144)] (M.2.2.2.2 (fl M (α 0) 10))) j ∧ (clp [(0, 144)] (M.2.2.2.2 (fl M (α 0) 10))) j < (clp [(9, 10)] (M.2.2.2.2 (α 0)) 9) := h0.2.2
    have := (h (ρ 2).toNat (by rw [e9]; omega)).2
    rw [e9, e10, cA1 (by omega), show M.2.2.2.2 (α 1) (ρ 2).toNat = ρ 3 from h2.2] at this
    exact ⟨this, trivial⟩
  exact ⟨nB, qB (key.1) (nB)⟩
def t_tn4 : KT := ((0, 0, 0, 0), [(2, 0, 40, 0), (2, 1, 44, 0), (1, 2, 0, 0), (1, 3, 0, 0), (1, 4, 0, 0)], [(0, 0), (0, 0), (0, 143), (-2147483648, 2147483647), (-2147483648, 2147483647)], [(91, [(2, 0, 40, 0)]), (11, [(2, 0, 40, 0), (0, 0, 0, 8), (2, 1, 44, 0)]), (10, [(2, 1, 44, 0), (1, 2, 0, 0), (1, 3, 0, 0)]), (21, [(1, 2, 0, 0), (1, 4, 0, 0)]), (10, [(2, 0, 40, 0), (0, 0, 0, 9), (1, 4, 0, 0)])], (0, 0, 0), [], [], ([], [(95, [(2, 0, 40, 0), (1, 3, 0, 0)])]), ([], []))
set_option maxRecDepth 100000 in
theorem l_tn4 (g : GG) : LOK Yt (PSt g) t_tn4 := by
  intro ρ α Γ M as hT hB hA hP
  have g0 : Γ (α 0) = 40 := tyAt hA (i := 0) rfl
  have g1 : Γ (α 1) = 44 := tyAt hA (i := 1) rfl
  have b2 : 0 ≤ ρ 2 ∧ ρ 2 ≤ 143 := hB 2
  have b3 : -2147483648 ≤ ρ 3 ∧ ρ 3 ≤ 2147483647 := hB 3
  have b4 : -2147483648 ≤ ρ 4 ∧ ρ 4 ≤ 2147483647 := hB 4
  have h0 : Γ (α 0) = 40 ∧ ∃ a, M.2.2.2.1 (α 0) 8 = some a ∧ Γ a = 44 ∧ nwE Γ M (α 0) fun r c => ∀ j : Nat, (j : Int) < M.2.2.2.2 (α 0) 9 → isPx r c (M.2.2.2.2 a j) := hP _ (List.mem_of_getElem? (i := 0) rfl)
  have h1 : 0 ≤ (8 : Int) ∧ M.2.2.2.1 (α 0) (8 : Int).toNat = some (α 1) := hP _ (List.mem_of_getElem? (i := 1) rfl)
  have h2 : 0 ≤ (ρ 2 + 0 : Int) ∧ M.2.2.2.2 (α 1) (ρ 2 + 0 : Int).toNat = ρ 3 + 0 := hP _ (List.mem_of_getElem? (i := 2) rfl)
  have h3 : ρ 2 + 0 < ρ 4 + 0 := hP _ (List.mem_of_getElem? (i := 3) rfl)
  have h4 : 0 ≤ (9 : Int) ∧ M.2.2.2.2 (α 0) (9 : Int).toNat = ρ 4 + 0 := hP _ (List.mem_of_getElem? (i := 4) rfl)
  try simp only [Int.add_zero] at h0 h1 h2 h3 h4
  have key : (nwE Γ M (α 0) fun r c => isPx r c (ρ 3 + 0)) ∧ True := by
    try simp only [Int.add_zero]
    obtain ⟨-, a, x1, x2, x3⟩ := h0
    have e1 : M.2.2.2.1 (α 0) 8 = some (α 1) := h1.2
    rw [e1] at x1
    cases x1
    have e9 : M.2.2.2.2 (α 0) 9 = ρ 4 := h4.2
    have et : M.2.2.2.2 (α 1) (ρ 2).toNat = ρ 3 := h2.2
    refine ⟨x3.imp fun r c q => ?_, trivial⟩
    rw [← et]
    exact q (ρ 2).toNat (by rw [e9]; omega)
  exact ⟨nB, qB (key.1) (nB)⟩
def t_jb4 : KT := ((0, 0, 0, 0), [(2, 0, 40, 0), (2, 1, 41, 0), (1, 2, 0, 0), (1, 3, 0, 0)], [(0, 0), (0, 0), (0, 143), (-2147483648, 2147483647)], [(185, [(2, 0, 40, 0), (1, 2, 0, 0)]), (11, [(2, 0, 40, 0), (0, 0, 0, 1), (2, 1, 41, 0)]), (10, [(2, 1, 41, 0), (0, 0, 0, 5), (1, 3, 0, 0)])], (0, 0, 0), [], [], ([(3, 0, 143)], [(6, [(1, 3, 0, 0), (1, 2, 0, 0)])]), ([], []))
set_option maxRecDepth 100000 in
theorem l_jb4 (g : GG) : LOK Yt (PSt g) t_jb4 := by
  intro ρ α Γ M as hT hB hA hP
  have g0 : Γ (α 0) = 40 := tyAt hA (i := 0) rfl
  have g1 : Γ (α 1) = 41 := tyAt hA (i := 1) rfl
  have b2 : 0 ≤ ρ 2 ∧ ρ 2 ≤ 143 := hB 2
  have b3 : -2147483648 ≤ ρ 3 ∧ ρ 3 ≤ 2147483647 := hB 3
  have h0 : Γ (α 0) = 40 ∧ tyO Γ M (α 0) [(1, 41, [(5, 6)])] ∧ Q185 g (vw M (α 0) 1 [(5, 6)]) (clp [] (M.2.2.2.2 (α 0))) (ρ 2 + 0) := hP _ (List.mem_of_getElem? (i := 0) rfl)
  have h1 : 0 ≤ (1 : Int) ∧ M.2.2.2.1 (α 0) (1 : Int).toNat = some (α 1) := hP _ (List.mem_of_getElem? (i := 1) rfl)
  have h2 : 0 ≤ (5 : Int) ∧ M.2.2.2.2 (α 1) (5 : Int).toNat = ρ 3 + 0 := hP _ (List.mem_of_getElem? (i := 2) rfl)
  try simp only [Int.add_zero] at h0 h1 h2
  have key : (0 ≤ ρ 3 ∧ ρ 3 ≤ 143) ∧ (ρ 3 + 0 ≤ ρ 2 + 0) ∧ True := by
    try simp only [Int.add_zero]
    have e1 : fl M (α 0) 1 = α 1 := fl_eq (show M.2.2.2.1 (α 0) 1 = some (α 1) from h1.2)
    
    obtain ⟨-, -, q1, q2⟩ := h0
    have q1 : 0 ≤ clp [(5, 6)] (M.2.2.2.2 (fl M (α 0) 1)) 5 := q1
    have q2 : clp [(5, 6)] (M.2.2.2.2 (fl M (α 0) 1)) 5 ≤ ρ 2 := q2
    rw [c55, e1, show M.2.2.2.2 (α 1) 5 = ρ 3 from h2.2] at q1 q2
    exact ⟨⟨q1, by omega⟩, q2, trivial⟩
  exact ⟨qB (key.1) (nB), qB (key.2.1) (nB)⟩
def t_jb5 : KT := ((0, 0, 0, 0), [(2, 0, 40, 0), (2, 1, 41, 0), (1, 2, 0, 0), (1, 3, 0, 0)], [(0, 0), (0, 0), (0, 143), (0, 143)], [(11, [(2, 0, 40, 0), (0, 0, 0, 1), (2, 1, 41, 0)]), (10, [(2, 1, 41, 0), (0, 0, 0, 5), (1, 3, 0, 1)]), (6, [(1, 3, 0, 0), (1, 2, 0, 0)])], (0, 0, 0), [], [], ([], [(185, [(2, 0, 40, 0), (1, 2, 0, 1)])]), ([], []))
set_option maxRecDepth 100000 in
theorem l_jb5 (g : GG) : LOK Yt (PSt g) t_jb5 := by
  intro ρ α Γ M as hT hB hA hP
  have g0 : Γ (α 0) = 40 := tyAt hA (i := 0) rfl
  have g1 : Γ (α 1) = 41 := tyAt hA (i := 1) rfl
  have b2 : 0 ≤ ρ 2 ∧ ρ 2 ≤ 143 := hB 2
  have b3 : 0 ≤ ρ 3 ∧ ρ 3 ≤ 143 := hB 3
  have h0 : 0 ≤ (1 : Int) ∧ M.2.2.2.1 (α 0) (1 : Int).toNat = some (α 1) := hP _ (List.mem_of_getElem? (i := 0) rfl)
  have h1 : 0 ≤ (5 : Int) ∧ M.2.2.2.2 (α 1) (5 : Int).toNat = ρ 3 + 1 := hP _ (List.mem_of_getElem? (i := 1) rfl)
  have h2 : ρ 3 + 0 ≤ ρ 2 + 0 := hP _ (List.mem_of_getElem? (i := 2) rfl)
  try simp only [Int.add_zero] at h0 h1 h2
  have key : (Γ (α 0) = 40 ∧ tyO Γ M (α 0) [(1, 41, [(5, 6)])] ∧ Q185 g (vw M (α 0) 1 [(5, 6)]) (clp [] (M.2.2.2.2 (α 0))) (ρ 2 + 1)) ∧ True := by
    try simp only [Int.add_zero]
    have e1 : fl M (α 0) 1 = α 1 := fl_eq (show M.2.2.2.1 (α 0) 1 = some (α 1) from h0.2)
    
    have e5 : M.2.2.2.2 (α 1) 5 = ρ 3 + 1 := h1.2
    refine ⟨⟨g0, tyO_of hT g0 (by decide) (by decide), ?_⟩, trivial⟩
    show 0 ≤ clp [(5, 6)] (M.2.2.2.2 (fl M (α 0) 1)) 5 ∧ clp [(5, 6)] (M.2.2.2.2 (fl M (α 0) 1)) 5 ≤ ρ 2 + 1
    rw [c55, e1, e5]
    omega
  exact ⟨nB, qB (key.1) (nB)⟩
def t_se0 : KT := ((0, 0, 0, 0), [(2, 0, 40, 0), (1, 1, 0, 0)], [(0, 0), (0, 0)], [], (0, 0, 0), [], [], ([], [(402, [(2, 0, 40, 0), (1, 1, 0, 0)])]), ([], []))
set_option maxRecDepth 100000 in
theorem l_se0 (g : GG) : LOK Yt (PSt g) t_se0 := by
  intro ρ α Γ M as hT hB hA hP
  have g0 : Γ (α 0) = 40 := tyAt hA (i := 0) rfl
  have b1 : 0 ≤ ρ 1 ∧ ρ 1 ≤ 0 := hB 1
  have key : (Γ (α 0) = 40 ∧ tyO Γ M (α 0) [(14, 47, [(0, 144)])] ∧ Q402 g (vw M (α 0) 14 [(0, 144)]) (clp [] (M.2.2.2.2 (α 0))) (ρ 1 + 0)) ∧ True := by
    try simp only [Int.add_zero]
    exact ⟨⟨g0, tyO_of hT g0 (by decide) (by decide), fun j j1 => by omega⟩, trivial⟩
  exact ⟨nB, qB (key.1) (nB)⟩
def t_se1 : KT := ((0, 0, 0, 0), [(2, 0, 40, 0), (2, 1, 47, 0), (1, 2, 0, 0)], [(0, 0), (0, 0), (0, 143)], [(402, [(2, 0, 40, 0), (1, 2, 0, 0)]), (11, [(2, 0, 40, 0), (0, 0, 0, 14), (2, 1, 47, 0)])], (0, 0, 0), [], [], ([], [(221, [(2, 1, 47, 0), (1, 2, 0, 0), (2, 0, 40, 0)])]), ([], []))
set_option maxRecDepth 100000 in
theorem l_se1 (g : GG) : LOK Yt (PSt g) t_se1 := by
  intro ρ α Γ M as hT hB hA hP
  have g0 : Γ (α 0) = 40 := tyAt hA (i := 0) rfl
  have g1 : Γ (α 1) = 47 := tyAt hA (i := 1) rfl
  have b2 : 0 ≤ ρ 2 ∧ ρ 2 ≤ 143 := hB 2
  have h0 : Γ (α 0) = 40 ∧ tyO Γ M (α 0) [(14, 47, [(0, 144)])] ∧ Q402 g (vw M (α 0) 14 [(0, 144)]) (clp [] (M.2.2.2.2 (α 0))) (ρ 2 + 0) := hP _ (List.mem_of_getElem? (i := 0) rfl)
  have h1 : 0 ≤ (14 : Int) ∧ M.2.2.2.1 (α 0) (14 : Int).toNat = some (α 1) := hP _ (List.mem_of_getElem? (i := 1) rfl)
  try simp only [Int.add_zero] at h0 h1
  have key : (Γ (α 0) = 40 ∧ M.2.2.2.1 (α 0) 14 = some (α 1) ∧ Γ (α 1) = 47 ∧ tyO Γ M (α 0) [] ∧ Q221 g (hcl [vi (ρ 2 + 0)] (clp [(0, 144)] (M.2.2.2.2 (α 1))))  (clp [] (M.2.2.2.2 (α 0))) (ρ 2 + 0)) ∧ True := by
    try simp only [Int.add_zero]
    have e14 : fl M (α 0) 14 = α 1 := fl_eq (show M.2.2.2.1 (α 0) 14 = some (α 1) from h1.2)
    
    have h : ∀ j : Nat, (j : Int) < ρ 2 → (clp [(0, 144)] (M.2.2.2.2 (fl M (α 0) 14))) j = (j : Int) := h0.2.2
    refine ⟨⟨g0, h1.2, g1, tyO_of hT g0 (by decide) (by decide), fun j j1 => ?_⟩, trivial⟩
    rw [hcl1 (by omega), ← e14]
    exact h j j1
  exact ⟨nB, qB (key.1) (nB)⟩
def t_se2 : KT := ((0, 0, 0, 0), [(2, 0, 40, 0), (2, 1, 47, 0), (1, 2, 0, 0)], [(0, 0), (0, 0), (0, 143)], [(221, [(2, 1, 47, 0), (1, 2, 0, 0), (2, 0, 40, 0)]), (10, [(2, 1, 47, 0), (1, 2, 0, 0), (1, 2, 0, 0)])], (0, 0, 0), [], [], ([], [(402, [(2, 0, 40, 0), (1, 2, 0, 1)])]), ([], []))
set_option maxRecDepth 100000 in
theorem l_se2 (g : GG) : LOK Yt (PSt g) t_se2 := by
  intro ρ α Γ M as hT hB hA hP
  have g0 : Γ (α 0) = 40 := tyAt hA (i := 0) rfl
  have g1 : Γ (α 1) = 47 := tyAt hA (i := 1) rfl
  have b2 : 0 ≤ ρ 2 ∧ ρ 2 ≤ 143 := hB 2
  have h0 : Γ (α 0) = 40 ∧ M.2.2.2.1 (α 0) 14 = some (α 1) ∧ Γ (α 1) = 47 ∧ tyO Γ M (α 0) [] ∧ Q221 g (hcl [vi (ρ 2 + 0)] (clp [(0, 144)] (M.2.2.2.2 (α 1))))  (clp [] (M.2.2.2.2 (α 0))) (ρ 2 + 0) := hP _ (List.mem_of_getElem? (i := 0) rfl)
  have h1 : 0 ≤ (ρ 2 + 0 : Int) ∧ M.2.2.2.2 (α 1) (ρ 2 + 0 : Int).toNat = ρ 2 + 0 := hP _ (List.mem_of_getElem? (i := 1) rfl)
  try simp only [Int.add_zero] at h0 h1
  have key : (Γ (α 0) = 40 ∧ tyO Γ M (α 0) [(14, 47, [(0, 144)])] ∧ Q402 g (vw M (α 0) 14 [(0, 144)]) (clp [] (M.2.2.2.2 (α 0))) (ρ 2 + 1)) ∧ True := by
    try simp only [Int.add_zero]
    obtain ⟨-, hr, -, -, h⟩ := h0
    have e14 : fl M (α 0) 14 = α 1 := fl_eq hr
    refine ⟨⟨g0, tyO_of hT g0 (by decide) (by decide), fun j j1 => ?_⟩, trivial⟩
    show (clp [(0, 144)] (M.2.2.2.2 (fl M (α 0) 14))) j = (j : Int)
    rw [e14]
    by_cases hc : (j : Int) < ρ 2
    · have := h j hc
      rw [hcl1 (by omega)] at this
      exact this
    · rw [show j = (ρ 2).toNat by omega, cA1 (by omega), h1.2]
      omega
  exact ⟨nB, qB (key.1) (nB)⟩
def t_se3 : KT := ((0, 0, 0, 0), [(2, 0, 40, 0), (2, 1, 41, 0), (1, 2, 0, 0)], [(0, 0), (0, 0), (-2147483648, 2147483647)], [(11, [(2, 0, 40, 0), (0, 0, 0, 1), (2, 1, 41, 0)]), (10, [(2, 1, 41, 0), (0, 0, 0, 3), (1, 2, 0, 0)])], (0, 0, 0), [], [], ([], [(403, [(2, 0, 40, 0), (1, 2, 0, 0)])]), ([], []))
set_option maxRecDepth 100000 in
theorem l_se3 (g : GG) : LOK Yt (PSt g) t_se3 := by
  intro ρ α Γ M as hT hB hA hP
  have g0 : Γ (α 0) = 40 := tyAt hA (i := 0) rfl
  have g1 : Γ (α 1) = 41 := tyAt hA (i := 1) rfl
  have b2 : -2147483648 ≤ ρ 2 ∧ ρ 2 ≤ 2147483647 := hB 2
  have h0 : 0 ≤ (1 : Int) ∧ M.2.2.2.1 (α 0) (1 : Int).toNat = some (α 1) := hP _ (List.mem_of_getElem? (i := 0) rfl)
  have h1 : 0 ≤ (3 : Int) ∧ M.2.2.2.2 (α 1) (3 : Int).toNat = ρ 2 + 0 := hP _ (List.mem_of_getElem? (i := 1) rfl)
  try simp only [Int.add_zero] at h0 h1
  have key : (Γ (α 0) = 40 ∧ tyO Γ M (α 0) [(1, 41, [(3, 4)])] ∧ Q403 g (vw M (α 0) 1 [(3, 4)]) (clp [] (M.2.2.2.2 (α 0))) (ρ 2 + 0)) ∧ True := by
    try simp only [Int.add_zero]
    have e1 : fl M (α 0) 1 = α 1 := fl_eq (show M.2.2.2.1 (α 0) 1 = some (α 1) from h0.2)
    
    refine ⟨⟨g0, tyO_of hT g0 (by decide) (by decide), ?_⟩, trivial⟩
    show ρ 2 = (clp [(3, 4)] (M.2.2.2.2 (fl M (α 0) 1))) 3
    rw [c33, e1]
    exact h1.2.symm
  exact ⟨nB, qB (key.1) (nB)⟩
def t_se4 : KT := ((0, 0, 0, 0), [(2, 0, 40, 0), (1, 1, 0, 0), (1, 2, 0, 0), (2, 3, 41, 0), (1, 4, 0, 0)], [(0, 0), (0, 144), (0, 144), (0, 0), (-2147483648, 2147483647)], [(402, [(2, 0, 40, 0), (1, 1, 0, 0)]), (403, [(2, 0, 40, 0), (1, 2, 0, 0)]), (6, [(1, 4, 0, 0), (1, 1, 0, 0)]), (11, [(2, 0, 40, 0), (0, 0, 0, 1), (2, 3, 41, 0)]), (10, [(2, 3, 41, 0), (0, 0, 0, 3), (1, 4, 0, 0)])], (0, 0, 0), [], [], ([], [(401, [(2, 0, 40, 0), (1, 2, 0, 0)])]), ([], []))
set_option maxRecDepth 100000 in
theorem l_se4 (g : GG) : LOK Yt (PSt g) t_se4 := by
  intro ρ α Γ M as hT hB hA hP
  have g0 : Γ (α 0) = 40 := tyAt hA (i := 0) rfl
  have b1 : 0 ≤ ρ 1 ∧ ρ 1 ≤ 144 := hB 1
  have b2 : 0 ≤ ρ 2 ∧ ρ 2 ≤ 144 := hB 2
  have g3 : Γ (α 3) = 41 := tyAt hA (i := 3) rfl
  have b4 : -2147483648 ≤ ρ 4 ∧ ρ 4 ≤ 2147483647 := hB 4
  have h0 : Γ (α 0) = 40 ∧ tyO Γ M (α 0) [(14, 47, [(0, 144)])] ∧ Q402 g (vw M (α 0) 14 [(0, 144)]) (clp [] (M.2.2.2.2 (α 0))) (ρ 1 + 0) := hP _ (List.mem_of_getElem? (i := 0) rfl)
  have h1 : Γ (α 0) = 40 ∧ tyO Γ M (α 0) [(1, 41, [(3, 4)])] ∧ Q403 g (vw M (α 0) 1 [(3, 4)]) (clp [] (M.2.2.2.2 (α 0))) (ρ 2 + 0) := hP _ (List.mem_of_getElem? (i := 1) rfl)
  have h2 : ρ 4 + 0 ≤ ρ 1 + 0 := hP _ (List.mem_of_getElem? (i := 2) rfl)
  have h3 : 0 ≤ (1 : Int) ∧ M.2.2.2.1 (α 0) (1 : Int).toNat = some (α 3) := hP _ (List.mem_of_getElem? (i := 3) rfl)
  have h4 : 0 ≤ (3 : Int) ∧ M.2.2.2.2 (α 3) (3 : Int).toNat = ρ 4 + 0 := hP _ (List.mem_of_getElem? (i := 4) rfl)
  try simp only [Int.add_zero] at h0 h1 h2 h3 h4
  have key : (Γ (α 0) = 40 ∧ tyO Γ M (α 0) [(14, 47, [(0, 144)]), (1, 41, [(3, 4)])] ∧ Q401 g (vw M (α 0) 14 [(0, 144)]) (vw M (α 0) 1 [(3, 4)]) (clp [] (M.2.2.2.2 (α 0))) (ρ 2 + 0)) ∧ True := by
    try simp only [Int.add_zero]
    have e1 : fl M (α 0) 1 = α 3 := fl_eq (show M.2.2.2.1 (α 0) 1 = some (α 3) from h3.2)
    
    have h : ∀ j : Nat, (j : Int) < ρ 1 → (clp [(0, 144)] (M.2.2.2.2 (fl M (α 0) 14))) j = (j : Int) := h0.2.2
    have hn : ρ 2 = (clp [(3, 4)] (M.2.2.2.2 (fl M (α 0) 1))) 3 := h1.2.2
    have hx : (clp [(3, 4)] (M.2.2.2.2 (fl M (α 0) 1))) 3 = ρ 4 := by rw [c33, e1]; exact h4.2
    refine ⟨⟨g0, tyO_of hT g0 (by decide) (by decide), ?_, fun i i1 => ?_⟩, trivial⟩
    · show ρ 2 = (cntV (clp [(0, 144)] (M.2.2.2.2 (fl M (α 0) 14))) ((clp [(3, 4)] (M.2.2.2.2 (fl M (α 0) 1))) 3) : Int)
      rw [← hn, cntV_id b2.1 b2.2 (fun j j1 => h j (by omega))]
    · have i1 : (i : Int) < (clp [(3, 4)] (M.2.2.2.2 (fl M (α 0) 1))) 3 := i1
      show 0 ≤ (clp [(0, 144)] (M.2.2.2.2 (fl M (α 0) 14))) i ∧ (clp [(0, 144)] (M.2.2.2.2 (fl M (α 0) 14))) i < 144
      rw [h i (by omega)]
      omega
  exact ⟨nB, qB (key.1) (nB)⟩
def t_se5 : KT := ((0, 0, 0, 0), [(2, 0, 40, 0), (1, 1, 0, 0), (1, 2, 0, 0)], [(0, 0), (-1, -1), (-1, -1)], [], (0, 0, 0), [], [], ([], [(404, [(2, 0, 40, 0), (1, 1, 0, 0), (1, 2, 0, 0)])]), ([], []))
set_option maxRecDepth 100000 in
theorem l_se5 (g : GG) : LOK Yt (PSt g) t_se5 := by
  intro ρ α Γ M as hT hB hA hP
  have g0 : Γ (α 0) = 40 := tyAt hA (i := 0) rfl
  have b1 : -1 ≤ ρ 1 ∧ ρ 1 ≤ -1 := hB 1
  have b2 : -1 ≤ ρ 2 ∧ ρ 2 ≤ -1 := hB 2
  have key : (Γ (α 0) = 40 ∧ tyO Γ M (α 0) [(14, 47, [(0, 144)]), (1, 41, [(3, 4)])] ∧ Q404 g (vw M (α 0) 14 [(0, 144)]) (vw M (α 0) 1 [(3, 4)]) (clp [] (M.2.2.2.2 (α 0))) (ρ 1 + 0) (ρ 2 + 0)) ∧ True := by
    try simp only [Int.add_zero]
    exact ⟨⟨g0, tyO_of hT g0 (by decide) (by decide), Or.inl (by omega)⟩, trivial⟩
  exact ⟨nB, qB (key.1) (nB)⟩
def t_se6 : KT := ((0, 0, 0, 0), [(2, 0, 40, 0), (2, 1, 41, 0), (1, 2, 0, 0), (1, 3, 0, 0)], [(0, 0), (0, 0), (0, 144), (-2147483648, 2147483647)], [(11, [(2, 0, 40, 0), (0, 0, 0, 1), (2, 1, 41, 0)]), (10, [(2, 1, 41, 0), (0, 0, 0, 3), (1, 3, 0, 0)]), (21, [(1, 2, 0, 0), (1, 3, 0, 0)])], (0, 0, 0), [], [], ([], [(405, [(2, 0, 40, 0), (1, 2, 0, 0)])]), ([], []))
set_option maxRecDepth 100000 in
theorem l_se6 (g : GG) : LOK Yt (PSt g) t_se6 := by
  intro ρ α Γ M as hT hB hA hP
  have g0 : Γ (α 0) = 40 := tyAt hA (i := 0) rfl
  have g1 : Γ (α 1) = 41 := tyAt hA (i := 1) rfl
  have b2 : 0 ≤ ρ 2 ∧ ρ 2 ≤ 144 := hB 2
  have b3 : -2147483648 ≤ ρ 3 ∧ ρ 3 ≤ 2147483647 := hB 3
  have h0 : 0 ≤ (1 : Int) ∧ M.2.2.2.1 (α 0) (1 : Int).toNat = some (α 1) := hP _ (List.mem_of_getElem? (i := 0) rfl)
  have h1 : 0 ≤ (3 : Int) ∧ M.2.2.2.2 (α 1) (3 : Int).toNat = ρ 3 + 0 := hP _ (List.mem_of_getElem? (i := 1) rfl)
  have h2 : ρ 2 + 0 < ρ 3 + 0 := hP _ (List.mem_of_getElem? (i := 2) rfl)
  try simp only [Int.add_zero] at h0 h1 h2
  have key : (Γ (α 0) = 40 ∧ tyO Γ M (α 0) [(1, 41, [(3, 4)])] ∧ Q405 g (vw M (α 0) 1 [(3, 4)]) (clp [] (M.2.2.2.2 (α 0))) (ρ 2 + 0)) ∧ True := by
    try simp only [Int.add_zero]
    have e1 : fl M (α 0) 1 = α 1 := fl_eq (show M.2.2.2.1 (α 0) 1 = some (α 1) from h0.2)
    
    refine ⟨⟨g0, tyO_of hT g0 (by decide) (by decide), b2.1, ?_⟩, trivial⟩
    show ρ 2 < (clp [(3, 4)] (M.2.2.2.2 (fl M (α 0) 1))) 3
    rw [c33, e1, show M.2.2.2.2 (α 1) 3 = ρ 3 from h1.2]
    exact h2
  exact ⟨nB, qB (key.1) (nB)⟩
def t_se7 : KT := ((0, 0, 0, 0), [(2, 0, 40, 0), (2, 1, 47, 0), (1, 2, 0, 0), (1, 3, 0, 0), (1, 4, 0, 0), (1, 5, 0, 0)], [(0, 0), (0, 0), (0, 143), (0, 143), (-2147483648, 2147483647), (-2147483648, 2147483647)], [(405, [(2, 0, 40, 0), (1, 2, 0, 0)]), (405, [(2, 0, 40, 0), (1, 3, 0, 0)]), (11, [(2, 0, 40, 0), (0, 0, 0, 14), (2, 1, 47, 0)]), (10, [(2, 1, 47, 0), (1, 2, 0, 0), (1, 4, 0, 0)]), (10, [(2, 1, 47, 0), (1, 3, 0, 0), (1, 5, 0, 0)]), (99, [(1, 4, 0, 0), (1, 5, 0, 0), (0, 0, 0, 0)])], (0, 0, 0), [], [], ([], [(404, [(2, 0, 40, 0), (1, 2, 0, 0), (1, 3, 0, 0)])]), ([], []))
set_option maxRecDepth 100000 in
theorem l_se7 (g : GG) : LOK Yt (PSt g) t_se7 := by
  intro ρ α Γ M as hT hB hA hP
  have g0 : Γ (α 0) = 40 := tyAt hA (i := 0) rfl
  have g1 : Γ (α 1) = 47 := tyAt hA (i := 1) rfl
  have b2 : 0 ≤ ρ 2 ∧ ρ 2 ≤ 143 := hB 2
  have b3 : 0 ≤ ρ 3 ∧ ρ 3 ≤ 143 := hB 3
  have b4 : -2147483648 ≤ ρ 4 ∧ ρ 4 ≤ 2147483647 := hB 4
  have b5 : -2147483648 ≤ ρ 5 ∧ ρ 5 ≤ 2147483647 := hB 5
  have h0 : Γ (α 0) = 40 ∧ tyO Γ M (α 0) [(1, 41, [(3, 4)])] ∧ Q405 g (vw M (α 0) 1 [(3, 4)]) (clp [] (M.2.2.2.2 (α 0))) (ρ 2 + 0) := hP _ (List.mem_of_getElem? (i := 0) rfl)
  have h1 : Γ (α 0) = 40 ∧ tyO Γ M (α 0) [(1, 41, [(3, 4)])] ∧ Q405 g (vw M (α 0) 1 [(3, 4)]) (clp [] (M.2.2.2.2 (α 0))) (ρ 3 + 0) := hP _ (List.mem_of_getElem? (i := 1) rfl)
  have h2 : 0 ≤ (14 : Int) ∧ M.2.2.2.1 (α 0) (14 : Int).toNat = some (α 1) := hP _ (List.mem_of_getElem? (i := 2) rfl)
  have h3 : 0 ≤ (ρ 2 + 0 : Int) ∧ M.2.2.2.2 (α 1) (ρ 2 + 0 : Int).toNat = ρ 4 + 0 := hP _ (List.mem_of_getElem? (i := 3) rfl)
  have h4 : 0 ≤ (ρ 3 + 0 : Int) ∧ M.2.2.2.2 (α 1) (ρ 3 + 0 : Int).toNat = ρ 5 + 0 := hP _ (List.mem_of_getElem? (i := 4) rfl)
  have h5 : (ρ 4 + 0 : Int) ≠ ρ 5 + 0 := hP _ (List.mem_of_getElem? (i := 5) rfl)
  try simp only [Int.add_zero] at h0 h1 h2 h3 h4 h5
  have key : (Γ (α 0) = 40 ∧ tyO Γ M (α 0) [(14, 47, [(0, 144)]), (1, 41, [(3, 4)])] ∧ Q404 g (vw M (α 0) 14 [(0, 144)]) (vw M (α 0) 1 [(3, 4)]) (clp [] (M.2.2.2.2 (α 0))) (ρ 2 + 0) (ρ 3 + 0)) ∧ True := by
    try simp only [Int.add_zero]
    have e14 : fl M (α 0) 14 = α 1 := fl_eq (show M.2.2.2.1 (α 0) 14 = some (α 1) from h2.2)
    
    refine ⟨⟨g0, tyO_of hT g0 (by decide) (by decide), Or.inr ⟨h0.2.2, h1.2.2, ?_⟩⟩, trivial⟩
    show (clp [(0, 144)] (M.2.2.2.2 (fl M (α 0) 14))) (ρ 2).toNat ≠ (clp [(0, 144)] (M.2.2.2.2 (fl M (α 0) 14))) (ρ 3).toNat
    rw [e14, cA1 (by omega), cA1 (by omega), show M.2.2.2.2 (α 1) (ρ 2).toNat = ρ 4 from h3.2, show M.2.2.2.2 (α 1) (ρ 3).toNat = ρ 5 from h4.2]
    exact h5
  exact ⟨nB, qB (key.1) (nB)⟩
def t_se8 : KT := ((0, 0, 0, 0), [(2, 0, 40, 0), (2, 1, 41, 0), (1, 2, 0, 0), (1, 3, 0, 0), (1, 4, 0, 0)], [(0, 0), (0, 0), (0, 143), (-2147483648, 2147483647), (-2147483648, 2147483647)], [(404, [(2, 0, 40, 0), (1, 2, 0, 0), (1, 3, 0, 0)]), (11, [(2, 0, 40, 0), (0, 0, 0, 1), (2, 1, 41, 0)]), (10, [(2, 1, 41, 0), (0, 0, 0, 3), (1, 4, 0, 0)])], (0, 0, 0), [], [], ([(3, 0, 143)], []), ([], []))
set_option maxRecDepth 100000 in
theorem l_se8 (g : GG) : LOK Yt (PSt g) t_se8 := by
  intro ρ α Γ M as hT hB hA hP
  have g0 : Γ (α 0) = 40 := tyAt hA (i := 0) rfl
  have g1 : Γ (α 1) = 41 := tyAt hA (i := 1) rfl
  have b2 : 0 ≤ ρ 2 ∧ ρ 2 ≤ 143 := hB 2
  have b3 : -2147483648 ≤ ρ 3 ∧ ρ 3 ≤ 2147483647 := hB 3
  have b4 : -2147483648 ≤ ρ 4 ∧ ρ 4 ≤ 2147483647 := hB 4
  have h0 : Γ (α 0) = 40 ∧ tyO Γ M (α 0) [(14, 47, [(0, 144)]), (1, 41, [(3, 4)])] ∧ Q404 g (vw M (α 0) 14 [(0, 144)]) (vw M (α 0) 1 [(3, 4)]) (clp [] (M.2.2.2.2 (α 0))) (ρ 2 + 0) (ρ 3 + 0) := hP _ (List.mem_of_getElem? (i := 0) rfl)
  have h1 : 0 ≤ (1 : Int) ∧ M.2.2.2.1 (α 0) (1 : Int).toNat = some (α 1) := hP _ (List.mem_of_getElem? (i := 1) rfl)
  have h2 : 0 ≤ (3 : Int) ∧ M.2.2.2.2 (α 1) (3 : Int).toNat = ρ 4 + 0 := hP _ (List.mem_of_getElem? (i := 2) rfl)
  try simp only [Int.add_zero] at h0 h1 h2
  have key : (0 ≤ ρ 3 ∧ ρ 3 ≤ 143) ∧ True := by
    try simp only [Int.add_zero]
    have e1 : fl M (α 0) 1 = α 1 := fl_eq (show M.2.2.2.1 (α 0) 1 = some (α 1) from h1.2)
    
    have hi := tyB hT g1 (by decide) (r := (3, 4, 0, 144)) (by decide) (j := 3) (Nat.le_refl _) (by decide)
    have hi : 0 ≤ M.2.2.2.2 (α 1) 3 ∧ M.2.2.2.2 (α 1) 3 ≤ 144 := hi
    obtain ⟨-, -, h⟩ := h0
    rcases h with h | ⟨-, h, -⟩
    · omega
    · have h : 0 ≤ ρ 3 ∧ ρ 3 < (clp [(3, 4)] (M.2.2.2.2 (fl M (α 0) 1))) 3 := h
      rw [c33, e1] at h
      exact ⟨⟨h.1, by omega⟩, trivial⟩
  exact ⟨qB (key.1) (nB), nB⟩
def t_se9 : KT := ((0, 0, 0, 0), [(2, 0, 40, 0), (2, 1, 47, 0), (1, 2, 0, 0), (1, 3, 0, 0), (1, 4, 0, 0), (1, 5, 0, 0), (1, 6, 0, 0)], [(0, 0), (0, 0), (-2147483648, 2147483647), (0, 143), (0, 143), (-2147483648, 2147483647), (0, 0)], [(401, [(2, 0, 40, 0), (1, 2, 0, 0)]), (404, [(2, 0, 40, 0), (1, 3, 0, 0), (1, 4, 0, 0)]), (11, [(2, 0, 40, 0), (0, 0, 0, 14), (2, 1, 47, 0)]), (10, [(2, 1, 47, 0), (1, 4, 0, 0), (1, 5, 0, 0)])], (0, 0, 0), [], [], ([], [(408, [(2, 0, 40, 0), (1, 2, 0, 0), (1, 3, 0, 0), (1, 5, 0, 0), (1, 6, 0, 0)])]), ([], []))
set_option maxRecDepth 100000 in
theorem l_se9 (g : GG) : LOK Yt (PSt g) t_se9 := by
  intro ρ α Γ M as hT hB hA hP
  have g0 : Γ (α 0) = 40 := tyAt hA (i := 0) rfl
  have g1 : Γ (α 1) = 47 := tyAt hA (i := 1) rfl
  have b2 : -2147483648 ≤ ρ 2 ∧ ρ 2 ≤ 2147483647 := hB 2
  have b3 : 0 ≤ ρ 3 ∧ ρ 3 ≤ 143 := hB 3
  have b4 : 0 ≤ ρ 4 ∧ ρ 4 ≤ 143 := hB 4
  have b5 : -2147483648 ≤ ρ 5 ∧ ρ 5 ≤ 2147483647 := hB 5
  have b6 : 0 ≤ ρ 6 ∧ ρ 6 ≤ 0 := hB 6
  have h0 : Γ (α 0) = 40 ∧ tyO Γ M (α 0) [(14, 47, [(0, 144)]), (1, 41, [(3, 4)])] ∧ Q401 g (vw M (α 0) 14 [(0, 144)]) (vw M (α 0) 1 [(3, 4)]) (clp [] (M.2.2.2.2 (α 0))) (ρ 2 + 0) := hP _ (List.mem_of_getElem? (i := 0) rfl)
  have h1 : Γ (α 0) = 40 ∧ tyO Γ M (α 0) [(14, 47, [(0, 144)]), (1, 41, [(3, 4)])] ∧ Q404 g (vw M (α 0) 14 [(0, 144)]) (vw M (α 0) 1 [(3, 4)]) (clp [] (M.2.2.2.2 (α 0))) (ρ 3 + 0) (ρ 4 + 0) := hP _ (List.mem_of_getElem? (i := 1) rfl)
  have h2 : 0 ≤ (14 : Int) ∧ M.2.2.2.1 (α 0) (14 : Int).toNat = some (α 1) := hP _ (List.mem_of_getElem? (i := 2) rfl)
  have h3 : 0 ≤ (ρ 4 + 0 : Int) ∧ M.2.2.2.2 (α 1) (ρ 4 + 0 : Int).toNat = ρ 5 + 0 := hP _ (List.mem_of_getElem? (i := 3) rfl)
  try simp only [Int.add_zero] at h0 h1 h2 h3
  have key : (Γ (α 0) = 40 ∧ tyO Γ M (α 0) [(14, 47, [(0, 144)]), (1, 41, [(3, 4)])] ∧ Q408 g (vw M (α 0) 14 [(0, 144)]) (vw M (α 0) 1 [(3, 4)]) (clp [] (M.2.2.2.2 (α 0))) (ρ 2 + 0) (ρ 3 + 0) (ρ 5 + 0) (ρ 6 + 0)) ∧ True := by
    try simp only [Int.add_zero]
    have e14 : fl M (α 0) 14 = α 1 := fl_eq (show M.2.2.2.1 (α 0) 14 = some (α 1) from h2.2)
    
    obtain ⟨-, -, hc, hv⟩ := h0
    obtain ⟨-, -, h⟩ := h1
    rcases h with h | ⟨h1, h2, hn⟩
    · omega
    · have hn : (clp [(0, 144)] (M.2.2.2.2 (fl M (α 0) 14))) (ρ 3).toNat ≠ (clp [(0, 144)] (M.2.2.2.2 (fl M (α 0) 14))) (ρ 4).toNat := hn
      have hz : (clp [(0, 144)] (M.2.2.2.2 (fl M (α 0) 14))) (ρ 4).toNat = ρ 5 := by rw [e14, cA1 (by omega)]; exact h3.2
      refine ⟨⟨g0, tyO_of hT g0 (by decide) (by decide), (clp [(0, 144)] (M.2.2.2.2 (fl M (α 0) 14))), hv, hc, ⟨(ρ 4).toNat, ?_, hz⟩, h1, by rw [← hz]; exact hn, fun i i1 => ⟨fun q => by omega, fun _ => rfl⟩⟩, trivial⟩
      show (((ρ 4).toNat : Nat) : Int) < (clp [(3, 4)] (M.2.2.2.2 (fl M (α 0) 1))) 3
      have h2 : 0 ≤ ρ 4 ∧ ρ 4 < (clp [(3, 4)] (M.2.2.2.2 (fl M (α 0) 1))) 3 := h2
      omega
  exact ⟨nB, qB (key.1) (nB)⟩
def t_seA : KT := ((0, 0, 0, 0), [(2, 0, 40, 0), (2, 1, 47, 0), (1, 2, 0, 0), (1, 3, 0, 0)], [(0, 0), (0, 0), (0, 143), (-2147483648, 2147483647)], [(11, [(2, 0, 40, 0), (0, 0, 0, 14), (2, 1, 47, 0)]), (10, [(2, 1, 47, 0), (1, 2, 0, 0), (1, 3, 0, 0)])], (0, 0, 0), [], [], ([], [(409, [(2, 0, 40, 0), (1, 2, 0, 0), (1, 3, 0, 0)])]), ([], []))
set_option maxRecDepth 100000 in
theorem l_seA (g : GG) : LOK Yt (PSt g) t_seA := by
  intro ρ α Γ M as hT hB hA hP
  have g0 : Γ (α 0) = 40 := tyAt hA (i := 0) rfl
  have g1 : Γ (α 1) = 47 := tyAt hA (i := 1) rfl
  have b2 : 0 ≤ ρ 2 ∧ ρ 2 ≤ 143 := hB 2
  have b3 : -2147483648 ≤ ρ 3 ∧ ρ 3 ≤ 2147483647 := hB 3
  have h0 : 0 ≤ (14 : Int) ∧ M.2.2.2.1 (α 0) (14 : Int).toNat = some (α 1) := hP _ (List.mem_of_getElem? (i := 0) rfl)
  have h1 : 0 ≤ (ρ 2 + 0 : Int) ∧ M.2.2.2.2 (α 1) (ρ 2 + 0 : Int).toNat = ρ 3 + 0 := hP _ (List.mem_of_getElem? (i := 1) rfl)
  try simp only [Int.add_zero] at h0 h1
  have key : (Γ (α 0) = 40 ∧ tyO Γ M (α 0) [(14, 47, [(0, 144)])] ∧ Q409 g (vw M (α 0) 14 [(0, 144)]) (clp [] (M.2.2.2.2 (α 0))) (ρ 2 + 0) (ρ 3 + 0)) ∧ True := by
    try simp only [Int.add_zero]
    have e14 : fl M (α 0) 14 = α 1 := fl_eq (show M.2.2.2.1 (α 0) 14 = some (α 1) from h0.2)
    
    refine ⟨⟨g0, tyO_of hT g0 (by decide) (by decide), ?_⟩, trivial⟩
    show (clp [(0, 144)] (M.2.2.2.2 (fl M (α 0) 14))) (ρ 2).toNat = ρ 3
    rw [e14, cA1 (by omega)]
    exact h1.2
  exact ⟨nB, qB (key.1) (nB)⟩
def t_seB : KT := ((0, 0, 0, 0), [(2, 0, 40, 0), (1, 1, 0, 0), (1, 2, 0, 0), (1, 3, 0, 0), (1, 4, 0, 0), (1, 5, 0, 0)], [(0, 0), (-2147483648, 2147483647), (-2147483648, 2147483647), (-2147483648, 2147483647), (0, 143), (-2147483648, 2147483647)], [(408, [(2, 0, 40, 0), (1, 1, 0, 0), (1, 2, 0, 0), (1, 3, 0, 0), (1, 4, 0, 0)]), (409, [(2, 0, 40, 0), (1, 4, 0, 0), (1, 5, 0, 0)]), (99, [(1, 5, 0, 0), (1, 3, 0, 0), (0, 0, 0, 0)])], (0, 0, 0), [], [], ([], [(408, [(2, 0, 40, 0), (1, 1, 0, 0), (1, 2, 0, 0), (1, 3, 0, 0), (1, 4, 0, 1)])]), ([], []))
set_option maxRecDepth 100000 in
theorem l_seB (g : GG) : LOK Yt (PSt g) t_seB := by
  intro ρ α Γ M as hT hB hA hP
  have g0 : Γ (α 0) = 40 := tyAt hA (i := 0) rfl
  have b1 : -2147483648 ≤ ρ 1 ∧ ρ 1 ≤ 2147483647 := hB 1
  have b2 : -2147483648 ≤ ρ 2 ∧ ρ 2 ≤ 2147483647 := hB 2
  have b3 : -2147483648 ≤ ρ 3 ∧ ρ 3 ≤ 2147483647 := hB 3
  have b4 : 0 ≤ ρ 4 ∧ ρ 4 ≤ 143 := hB 4
  have b5 : -2147483648 ≤ ρ 5 ∧ ρ 5 ≤ 2147483647 := hB 5
  have h0 : Γ (α 0) = 40 ∧ tyO Γ M (α 0) [(14, 47, [(0, 144)]), (1, 41, [(3, 4)])] ∧ Q408 g (vw M (α 0) 14 [(0, 144)]) (vw M (α 0) 1 [(3, 4)]) (clp [] (M.2.2.2.2 (α 0))) (ρ 1 + 0) (ρ 2 + 0) (ρ 3 + 0) (ρ 4 + 0) := hP _ (List.mem_of_getElem? (i := 0) rfl)
  have h1 : Γ (α 0) = 40 ∧ tyO Γ M (α 0) [(14, 47, [(0, 144)])] ∧ Q409 g (vw M (α 0) 14 [(0, 144)]) (clp [] (M.2.2.2.2 (α 0))) (ρ 4 + 0) (ρ 5 + 0) := hP _ (List.mem_of_getElem? (i := 1) rfl)
  have h2 : (ρ 5 + 0 : Int) ≠ ρ 3 + 0 := hP _ (List.mem_of_getElem? (i := 2) rfl)
  try simp only [Int.add_zero] at h0 h1 h2
  have key : (Γ (α 0) = 40 ∧ tyO Γ M (α 0) [(14, 47, [(0, 144)]), (1, 41, [(3, 4)])] ∧ Q408 g (vw M (α 0) 14 [(0, 144)]) (vw M (α 0) 1 [(3, 4)]) (clp [] (M.2.2.2.2 (α 0))) (ρ 1 + 0) (ρ 2 + 0) (ρ 3 + 0) (ρ 4 + 1)) ∧ True := by
    try simp only [Int.add_zero]
    obtain ⟨-, -, f, f1, f2, f3, f4, f5, f6⟩ := h0
    have hx : (clp [(0, 144)] (M.2.2.2.2 (fl M (α 0) 14))) (ρ 4).toNat = ρ 5 := h1.2.2
    refine ⟨⟨g0, tyO_of hT g0 (by decide) (by decide), f, f1, f2, f3, f4, f5, fun i i1 => ⟨fun q => (f6 i i1).1 ⟨?_, q.2⟩, fun q => (f6 i i1).2 (fun q2 => q ⟨by omega, q2.2⟩)⟩⟩, trivial⟩
    by_cases hc : (i : Int) < ρ 4
    · exact hc
    · exfalso
      have hf : (clp [(0, 144)] (M.2.2.2.2 (fl M (α 0) 14))) i = f i := (f6 i i1).2 (fun q2 => hc q2.1)
      rw [show i = (ρ 4).toNat by omega, hx] at hf
      rw [show i = (ρ 4).toNat by omega] at q
      exact h2 (by rw [hf]; exact q.2)
  exact ⟨nB, qB (key.1) (nB)⟩
def t_seC : KT := ((0, 0, 0, 0), [(2, 0, 40, 0), (2, 1, 47, 0), (1, 2, 0, 0), (1, 3, 0, 0), (1, 4, 0, 0), (1, 5, 0, 0), (1, 6, 0, 0), (1, 7, 0, 0)], [(0, 0), (0, 0), (-2147483648, 2147483647), (0, 143), (-2147483648, 2147483647), (0, 143), (-2147483648, 2147483647), (-2147483648, 2147483647)], [(408, [(2, 0, 40, 0), (1, 2, 0, 0), (1, 3, 0, 0), (1, 4, 0, 0), (1, 5, 0, 0)]), (409, [(2, 0, 40, 0), (1, 5, 0, 0), (1, 6, 0, 0)]), (6, [(1, 6, 0, 0), (1, 4, 0, 0)]), (6, [(1, 4, 0, 0), (1, 6, 0, 0)]), (405, [(2, 0, 40, 0), (1, 5, 0, 0)]), (11, [(2, 0, 40, 0), (0, 0, 0, 14), (2, 1, 47, 0)]), (10, [(2, 1, 47, 0), (1, 3, 0, 0), (1, 7, 0, 0)])], (0, 0, 0), [], [], ([], [(219, [(2, 1, 47, 0), (1, 5, 0, 0), (2, 0, 40, 0), (1, 2, 0, 0), (1, 3, 0, 0), (1, 4, 0, 0), (1, 7, 0, 0)])]), ([], []))
set_option maxRecDepth 100000 in
theorem l_seC (g : GG) : LOK Yt (PSt g) t_seC := by
  intro ρ α Γ M as hT hB hA hP
  have g0 : Γ (α 0) = 40 := tyAt hA (i := 0) rfl
  have g1 : Γ (α 1) = 47 := tyAt hA (i := 1) rfl
  have b2 : -2147483648 ≤ ρ 2 ∧ ρ 2 ≤ 2147483647 := hB 2
  have b3 : 0 ≤ ρ 3 ∧ ρ 3 ≤ 143 := hB 3
  have b4 : -2147483648 ≤ ρ 4 ∧ ρ 4 ≤ 2147483647 := hB 4
  have b5 : 0 ≤ ρ 5 ∧ ρ 5 ≤ 143 := hB 5
  have b6 : -2147483648 ≤ ρ 6 ∧ ρ 6 ≤ 2147483647 := hB 6
  have b7 : -2147483648 ≤ ρ 7 ∧ ρ 7 ≤ 2147483647 := hB 7
  have h0 : Γ (α 0) = 40 ∧ tyO Γ M (α 0) [(14, 47, [(0, 144)]), (1, 41, [(3, 4)])] ∧ Q408 g (vw M (α 0) 14 [(0, 144)]) (vw M (α 0) 1 [(3, 4)]) (clp [] (M.2.2.2.2 (α 0))) (ρ 2 + 0) (ρ 3 + 0) (ρ 4 + 0) (ρ 5 + 0) := hP _ (List.mem_of_getElem? (i := 0) rfl)
  have h1 : Γ (α 0) = 40 ∧ tyO Γ M (α 0) [(14, 47, [(0, 144)])] ∧ Q409 g (vw M (α 0) 14 [(0, 144)]) (clp [] (M.2.2.2.2 (α 0))) (ρ 5 + 0) (ρ 6 + 0) := hP _ (List.mem_of_getElem? (i := 1) rfl)
  have h2 : ρ 6 + 0 ≤ ρ 4 + 0 := hP _ (List.mem_of_getElem? (i := 2) rfl)
  have h3 : ρ 4 + 0 ≤ ρ 6 + 0 := hP _ (List.mem_of_getElem? (i := 3) rfl)
  have h4 : Γ (α 0) = 40 ∧ tyO Γ M (α 0) [(1, 41, [(3, 4)])] ∧ Q405 g (vw M (α 0) 1 [(3, 4)]) (clp [] (M.2.2.2.2 (α 0))) (ρ 5 + 0) := hP _ (List.mem_of_getElem? (i := 4) rfl)
  have h5 : 0 ≤ (14 : Int) ∧ M.2.2.2.1 (α 0) (14 : Int).toNat = some (α 1) := hP _ (List.mem_of_getElem? (i := 5) rfl)
  have h6 : 0 ≤ (ρ 3 + 0 : Int) ∧ M.2.2.2.2 (α 1) (ρ 3 + 0 : Int).toNat = ρ 7 + 0 := hP _ (List.mem_of_getElem? (i := 6) rfl)
  try simp only [Int.add_zero] at h0 h1 h2 h3 h4 h5 h6
  have key : (Γ (α 0) = 40 ∧ M.2.2.2.1 (α 0) 14 = some (α 1) ∧ Γ (α 1) = 47 ∧ tyO Γ M (α 0) [(1, 41, [(3, 4)])] ∧ Q219 g (hcl [vi (ρ 5 + 0)] (clp [(0, 144)] (M.2.2.2.2 (α 1)))) (vw M (α 0) 1 [(3, 4)]) (clp [] (M.2.2.2.2 (α 0))) (ρ 5 + 0) (ρ 2 + 0) (ρ 3 + 0) (ρ 4 + 0) (ρ 7 + 0)) ∧ True := by
    try simp only [Int.add_zero]
    have e14 : fl M (α 0) 14 = α 1 := fl_eq (show M.2.2.2.1 (α 0) 14 = some (α 1) from h5.2)
    
    obtain ⟨-, -, f, f1, f2, f3, f4, f5, f6⟩ := h0
    have hx : (clp [(0, 144)] (M.2.2.2.2 (fl M (α 0) 14))) (ρ 5).toNat = ρ 6 := h1.2.2
    have hj : 0 ≤ ρ 5 ∧ ρ 5 < (clp [(3, 4)] (M.2.2.2.2 (fl M (α 0) 1))) 3 := h4.2.2
    have hw : (clp [(0, 144)] (M.2.2.2.2 (fl M (α 0) 14))) (ρ 3).toNat = ρ 7 := by rw [e14, cA1 (by omega)]; exact h6.2
    have f4 : 0 ≤ ρ 3 ∧ ρ 3 < (clp [(3, 4)] (M.2.2.2.2 (fl M (α 0) 1))) 3 := f4
    refine ⟨⟨g0, h5.2, g1, tyO_of hT g0 (by decide) (by decide), f, f1, f2, f3, f4, f5, ?_, ?_, fun i i1 i2 => ?_⟩, trivial⟩
    · have hf : (clp [(0, 144)] (M.2.2.2.2 (fl M (α 0) 14))) (ρ 5).toNat = f (ρ 5).toNat := (f6 (ρ 5).toNat (by show (((ρ 5).toNat : Nat) : Int) < (clp [(3, 4)] (M.2.2.2.2 (fl M (α 0) 1))) 3; omega)).2 (fun q2 => by omega)
      rw [← hf, hx]
      omega
    · have hf : (clp [(0, 144)] (M.2.2.2.2 (fl M (α 0) 14))) (ρ 3).toNat = f (ρ 3).toNat := (f6 (ρ 3).toNat (by show (((ρ 3).toNat : Nat) : Int) < (clp [(3, 4)] (M.2.2.2.2 (fl M (α 0) 1))) 3; omega)).2 (fun q2 => f5 q2.2)
      rw [← hf, hw]
    · rw [hcl1 i2, ← e14]
      exact f6 i i1
  exact ⟨nB, qB (key.1) (nB)⟩
def t_seD : KT := ((0, 0, 0, 0), [(2, 0, 40, 0), (2, 1, 47, 0), (1, 2, 0, 0), (1, 3, 0, 0), (1, 4, 0, 0), (1, 5, 0, 0), (1, 6, 0, 0)], [(0, 0), (0, 0), (-2147483648, 2147483647), (0, 143), (-2147483648, 2147483647), (0, 143), (-2147483648, 2147483647)], [(219, [(2, 1, 47, 0), (1, 5, 0, 0), (2, 0, 40, 0), (1, 2, 0, 0), (1, 3, 0, 0), (1, 4, 0, 0), (1, 6, 0, 0)]), (10, [(2, 1, 47, 0), (1, 5, 0, 0), (1, 6, 0, 0)])], (0, 0, 0), [], [], ([], [(408, [(2, 0, 40, 0), (1, 2, 0, 0), (1, 3, 0, 0), (1, 4, 0, 0), (1, 5, 0, 1)])]), ([], []))
set_option maxRecDepth 100000 in
theorem l_seD (g : GG) : LOK Yt (PSt g) t_seD := by
  intro ρ α Γ M as hT hB hA hP
  have g0 : Γ (α 0) = 40 := tyAt hA (i := 0) rfl
  have g1 : Γ (α 1) = 47 := tyAt hA (i := 1) rfl
  have b2 : -2147483648 ≤ ρ 2 ∧ ρ 2 ≤ 2147483647 := hB 2
  have b3 : 0 ≤ ρ 3 ∧ ρ 3 ≤ 143 := hB 3
  have b4 : -2147483648 ≤ ρ 4 ∧ ρ 4 ≤ 2147483647 := hB 4
  have b5 : 0 ≤ ρ 5 ∧ ρ 5 ≤ 143 := hB 5
  have b6 : -2147483648 ≤ ρ 6 ∧ ρ 6 ≤ 2147483647 := hB 6
  have h0 : Γ (α 0) = 40 ∧ M.2.2.2.1 (α 0) 14 = some (α 1) ∧ Γ (α 1) = 47 ∧ tyO Γ M (α 0) [(1, 41, [(3, 4)])] ∧ Q219 g (hcl [vi (ρ 5 + 0)] (clp [(0, 144)] (M.2.2.2.2 (α 1)))) (vw M (α 0) 1 [(3, 4)]) (clp [] (M.2.2.2.2 (α 0))) (ρ 5 + 0) (ρ 2 + 0) (ρ 3 + 0) (ρ 4 + 0) (ρ 6 + 0) := hP _ (List.mem_of_getElem? (i := 0) rfl)
  have h1 : 0 ≤ (ρ 5 + 0 : Int) ∧ M.2.2.2.2 (α 1) (ρ 5 + 0 : Int).toNat = ρ 6 + 0 := hP _ (List.mem_of_getElem? (i := 1) rfl)
  try simp only [Int.add_zero] at h0 h1
  have key : (Γ (α 0) = 40 ∧ tyO Γ M (α 0) [(14, 47, [(0, 144)]), (1, 41, [(3, 4)])] ∧ Q408 g (vw M (α 0) 14 [(0, 144)]) (vw M (α 0) 1 [(3, 4)]) (clp [] (M.2.2.2.2 (α 0))) (ρ 2 + 0) (ρ 3 + 0) (ρ 4 + 0) (ρ 5 + 1)) ∧ True := by
    try simp only [Int.add_zero]
    obtain ⟨-, hr, -, -, f, f1, f2, f3, f4, f5, fz, fw, f6⟩ := h0
    have e14 : fl M (α 0) 14 = α 1 := fl_eq hr
    have hj : (clp [(0, 144)] (M.2.2.2.2 (fl M (α 0) 14))) (ρ 5).toNat = ρ 6 := by rw [e14, cA1 (by omega)]; exact h1.2
    have hs : ∀ i : Nat, (i : Int) ≠ ρ 5 → (clp [(0, 144)] (M.2.2.2.2 (fl M (α 0) 14))) i = hcl [vi (ρ 5)] (clp [(0, 144)] (M.2.2.2.2 (α 1))) i := fun i i2 => by rw [hcl1 i2, e14]
    refine ⟨⟨g0, tyO_of hT g0 (by decide) (by decide), f, f1, f2, f3, f4, f5, fun i i1 => ?_⟩, trivial⟩
    by_cases hc : (i : Int) = ρ 5
    · have ei : i = (ρ 5).toNat := by omega
      refine ⟨fun _ => ?_, fun q => absurd ⟨by omega, by rw [ei]; exact fz⟩ q⟩
      show (clp [(0, 144)] (M.2.2.2.2 (fl M (α 0) 14))) i = _
      rw [ei, hj]
      exact fw
    · have h9 := f6 i i1 hc
      rw [← hs i hc] at h9
      exact ⟨fun q => h9.1 ⟨by omega, q.2⟩, fun q => h9.2 (fun q2 => q ⟨by omega, q2.2⟩)⟩
  exact ⟨nB, qB (key.1) (nB)⟩
def t_seE : KT := ((0, 0, 0, 0), [(2, 0, 40, 0), (2, 1, 41, 0), (1, 2, 0, 0), (1, 3, 0, 0), (1, 4, 0, 0), (1, 5, 0, 0), (1, 6, 0, 0)], [(0, 0), (0, 0), (0, 144), (-2147483648, 2147483647), (-2147483648, 2147483647), (0, 144), (-2147483648, 2147483647)], [(408, [(2, 0, 40, 0), (1, 2, 0, 0), (1, 3, 0, 0), (1, 4, 0, 0), (1, 5, 0, 0)]), (11, [(2, 0, 40, 0), (0, 0, 0, 1), (2, 1, 41, 0)]), (10, [(2, 1, 41, 0), (0, 0, 0, 3), (1, 6, 0, 0)]), (6, [(1, 6, 0, 0), (1, 5, 0, 0)])], (0, 0, 0), [], [], ([(2, 1, 144)], [(401, [(2, 0, 40, 0), (1, 2, 0, -1)])]), ([], []))
set_option maxRecDepth 100000 in
theorem l_seE (g : GG) : LOK Yt (PSt g) t_seE := by
  intro ρ α Γ M as hT hB hA hP
  have g0 : Γ (α 0) = 40 := tyAt hA (i := 0) rfl
  have g1 : Γ (α 1) = 41 := tyAt hA (i := 1) rfl
  have b2 : 0 ≤ ρ 2 ∧ ρ 2 ≤ 144 := hB 2
  have b3 : -2147483648 ≤ ρ 3 ∧ ρ 3 ≤ 2147483647 := hB 3
  have b4 : -2147483648 ≤ ρ 4 ∧ ρ 4 ≤ 2147483647 := hB 4
  have b5 : 0 ≤ ρ 5 ∧ ρ 5 ≤ 144 := hB 5
  have b6 : -2147483648 ≤ ρ 6 ∧ ρ 6 ≤ 2147483647 := hB 6
  have h0 : Γ (α 0) = 40 ∧ tyO Γ M (α 0) [(14, 47, [(0, 144)]), (1, 41, [(3, 4)])] ∧ Q408 g (vw M (α 0) 14 [(0, 144)]) (vw M (α 0) 1 [(3, 4)]) (clp [] (M.2.2.2.2 (α 0))) (ρ 2 + 0) (ρ 3 + 0) (ρ 4 + 0) (ρ 5 + 0) := hP _ (List.mem_of_getElem? (i := 0) rfl)
  have h1 : 0 ≤ (1 : Int) ∧ M.2.2.2.1 (α 0) (1 : Int).toNat = some (α 1) := hP _ (List.mem_of_getElem? (i := 1) rfl)
  have h2 : 0 ≤ (3 : Int) ∧ M.2.2.2.2 (α 1) (3 : Int).toNat = ρ 6 + 0 := hP _ (List.mem_of_getElem? (i := 2) rfl)
  have h3 : ρ 6 + 0 ≤ ρ 5 + 0 := hP _ (List.mem_of_getElem? (i := 3) rfl)
  try simp only [Int.add_zero] at h0 h1 h2 h3
  have key : (1 ≤ ρ 2 ∧ ρ 2 ≤ 144) ∧ (Γ (α 0) = 40 ∧ tyO Γ M (α 0) [(14, 47, [(0, 144)]), (1, 41, [(3, 4)])] ∧ Q401 g (vw M (α 0) 14 [(0, 144)]) (vw M (α 0) 1 [(3, 4)]) (clp [] (M.2.2.2.2 (α 0))) (ρ 2 + (-1))) ∧ True := by
    try simp only [Int.add_zero]
    have e1 : fl M (α 0) 1 = α 1 := fl_eq (show M.2.2.2.1 (α 0) 1 = some (α 1) from h1.2)
    
    obtain ⟨-, -, f, f1, f2, f3, f4, f5, f6⟩ := h0
    have en : (clp [(3, 4)] (M.2.2.2.2 (fl M (α 0) 1))) 3 = ρ 6 := by rw [c33, e1]; exact h2.2
    have hi := tyB hT g1 (by decide) (r := (3, 4, 0, 144)) (by decide) (j := 3) (Nat.le_refl _) (by decide)
    have hi : 0 ≤ M.2.2.2.2 (α 1) 3 ∧ M.2.2.2.2 (α 1) 3 ≤ 144 := hi
    rw [show M.2.2.2.2 (α 1) 3 = ρ 6 from h2.2] at hi
    have f1 : ∀ i : Nat, (i : Int) < (clp [(3, 4)] (M.2.2.2.2 (fl M (α 0) 1))) 3 → 0 ≤ f i ∧ f i < 144 := f1
    have f2 : ρ 2 = (cntV f ((clp [(3, 4)] (M.2.2.2.2 (fl M (α 0) 1))) 3) : Int) := f2
    have f3 : ∃ o : Nat, (o : Int) < (clp [(3, 4)] (M.2.2.2.2 (fl M (α 0) 1))) 3 ∧ f o = ρ 4 := f3
    have f4 : 0 ≤ ρ 3 ∧ ρ 3 < (clp [(3, 4)] (M.2.2.2.2 (fl M (α 0) 1))) 3 := f4
    have f6 : ∀ i : Nat, (i : Int) < (clp [(3, 4)] (M.2.2.2.2 (fl M (α 0) 1))) 3 → (((i : Int) < ρ 5 ∧ f i = ρ 4) → (clp [(0, 144)] (M.2.2.2.2 (fl M (α 0) 14))) i = f (ρ 3).toNat) ∧ (¬ ((i : Int) < ρ 5 ∧ f i = ρ 4) → (clp [(0, 144)] (M.2.2.2.2 (fl M (α 0) 14))) i = f i) := f6
    rw [en] at f1 f2 f3 f4 f6
    obtain ⟨oo, o1, o2⟩ := f3
    have hz := f1 oo o1
    rw [o2] at hz
    have k := cntV_1 (f := f) (f2 := (clp [(0, 144)] (M.2.2.2.2 (fl M (α 0) 14)))) (n := ρ 6) (one := ρ 3) (gone := ρ 4) f4 f5 hz ⟨oo, o1, o2⟩ (fun i i1 => ⟨fun q => (f6 i i1).1 ⟨by omega, q⟩, fun q => (f6 i i1).2 (fun q2 => q q2.2)⟩)
    refine ⟨⟨by omega, b2.2⟩, ⟨g0, tyO_of hT g0 (by decide) (by decide), ?_, fun i i1 => ?_⟩, trivial⟩
    · show ρ 2 + (-1) = (cntV (clp [(0, 144)] (M.2.2.2.2 (fl M (α 0) 14))) ((clp [(3, 4)] (M.2.2.2.2 (fl M (α 0) 1))) 3) : Int)
      rw [en]
      omega
    · have i1 : (i : Int) < (clp [(3, 4)] (M.2.2.2.2 (fl M (α 0) 1))) 3 := i1
      rw [en] at i1
      show 0 ≤ (clp [(0, 144)] (M.2.2.2.2 (fl M (α 0) 14))) i ∧ (clp [(0, 144)] (M.2.2.2.2 (fl M (α 0) 14))) i < 144
      by_cases hc : f i = ρ 4
      · rw [(f6 i i1).1 ⟨by omega, hc⟩]
        exact f1 (ρ 3).toNat (by omega)
      · rw [(f6 i i1).2 (fun q2 => hc q2.2)]
        exact f1 i i1
  exact ⟨qB (key.1) (nB), qB (key.2.1) (nB)⟩
def t_les : KT := ((0, 0, 0, 0), [(2, 0, 40, 0), (1, 1, 0, 0), (1, 2, 0, 0)], [(0, 0), (0, 287), (-2147483648, 2147483647)], [(26, [(1, 1, 0, 0), (0, 0, 0, 2), (1, 2, 0, 0)])], (0, 0, 0), [], [], ([], [(422, [(2, 0, 40, 0), (1, 1, 0, 0), (1, 2, 0, 0)])]), ([], []))
set_option maxRecDepth 100000 in
theorem l_les (g : GG) : LOK Yt (PSt g) t_les := by
  intro ρ α Γ M as hT hB hA hP
  have g0 : Γ (α 0) = 40 := tyAt hA (i := 0) rfl
  have b1 : 0 ≤ ρ 1 ∧ ρ 1 ≤ 287 := hB 1
  have b2 : -2147483648 ≤ ρ 2 ∧ ρ 2 ≤ 2147483647 := hB 2
  have h0 : ρ 2 + 0 = wI ((ρ 1 + 0 : Int).tdiv (2)) := hP _ (List.mem_of_getElem? (i := 0) rfl)
  try simp only [Int.add_zero] at h0
  have key : (Γ (α 0) = 40 ∧ tyO Γ M (α 0) [] ∧ Q422 g  (clp [] (M.2.2.2.2 (α 0))) (ρ 1 + 0) (ρ 2 + 0)) ∧ True := by
    try simp only [Int.add_zero]
    obtain ⟨d1, -⟩ := dm (p := ρ 1) (c := 2) b1.1 (by decide)
    rw [d1, wI_id (by unfold inI; omega)] at h0
    exact ⟨⟨g0, tyO_of hT g0 (by decide) (by decide), h0⟩, trivial⟩
  exact ⟨nB, qB (key.1) (nB)⟩
def t_gr0 : KT := ((0, 0, 0, 0), [(2, 0, 40, 0), (1, 1, 0, 0), (1, 2, 0, 0), (1, 3, 0, 0)], [(0, 0), (0, 287), (-2147483648, 2147483647), (0, 0)], [(26, [(1, 1, 0, 0), (0, 0, 0, 2), (1, 2, 0, 0)]), (27, [(1, 1, 0, 0), (0, 0, 0, 2), (1, 3, 0, 0)])], (0, 0, 0), [], [], ([], [(423, [(2, 0, 40, 0), (1, 1, 0, 0), (1, 2, 0, 1)])]), ([], []))
set_option maxRecDepth 100000 in
theorem l_gr0 (g : GG) : LOK Yt (PSt g) t_gr0 := by
  intro ρ α Γ M as hT hB hA hP
  have g0 : Γ (α 0) = 40 := tyAt hA (i := 0) rfl
  have b1 : 0 ≤ ρ 1 ∧ ρ 1 ≤ 287 := hB 1
  have b2 : -2147483648 ≤ ρ 2 ∧ ρ 2 ≤ 2147483647 := hB 2
  have b3 : 0 ≤ ρ 3 ∧ ρ 3 ≤ 0 := hB 3
  have h0 : ρ 2 + 0 = wI ((ρ 1 + 0 : Int).tdiv (2)) := hP _ (List.mem_of_getElem? (i := 0) rfl)
  have h1 : ρ 3 + 0 = (ρ 1 + 0 : Int).tmod (2) := hP _ (List.mem_of_getElem? (i := 1) rfl)
  try simp only [Int.add_zero] at h0 h1
  have key : (Γ (α 0) = 40 ∧ tyO Γ M (α 0) [(1, 41, [(1, 2)])] ∧ Q423 g (vw M (α 0) 1 [(1, 2)]) (clp [] (M.2.2.2.2 (α 0))) (ρ 1 + 0) (ρ 2 + 1)) ∧ True := by
    try simp only [Int.add_zero]
    obtain ⟨d1, d2, -⟩ := dm (p := ρ 1) (c := 2) b1.1 (by decide)
    rw [d1, wI_id (by unfold inI; omega)] at h0
    rw [d2] at h1
    refine ⟨⟨g0, tyO_of hT g0 (by decide) (by decide), ?_⟩, trivial⟩
    show ρ 2 + 1 = grF ((clp [(1, 2)] (M.2.2.2.2 (fl M (α 0) 1))) 1 + 4) (ρ 1)
    unfold grF
    rw [if_pos (by omega), h0]
  exact ⟨nB, qB (key.1) (nB)⟩
def t_gr1 : KT := ((0, 0, 0, 0), [(2, 0, 40, 0), (1, 1, 0, 0), (1, 2, 0, 0), (1, 3, 0, 0), (1, 4, 0, 0), (1, 5, 0, 0)], [(0, 0), (0, 287), (-2147483648, 2147483647), (1, 2147483647), (-2147483648, 2147483647), (-2147483648, 2147483647)], [(26, [(1, 1, 0, 0), (0, 0, 0, 2), (1, 2, 0, 0)]), (27, [(1, 1, 0, 0), (0, 0, 0, 2), (1, 3, 0, 0)]), (8, [(2, 0, 40, 0), (1, 4, 0, 0)]), (23, [(1, 2, 0, 0), (1, 4, 0, 0), (1, 5, 0, 0)])], (0, 0, 0), [], [], ([], [(423, [(2, 0, 40, 0), (1, 1, 0, 0), (1, 5, 0, 0)])]), ([], []))
set_option maxRecDepth 100000 in
theorem l_gr1 (g : GG) : LOK Yt (PSt g) t_gr1 := by
  intro ρ α Γ M as hT hB hA hP
  have g0 : Γ (α 0) = 40 := tyAt hA (i := 0) rfl
  have b1 : 0 ≤ ρ 1 ∧ ρ 1 ≤ 287 := hB 1
  have b2 : -2147483648 ≤ ρ 2 ∧ ρ 2 ≤ 2147483647 := hB 2
  have b3 : 1 ≤ ρ 3 ∧ ρ 3 ≤ 2147483647 := hB 3
  have b4 : -2147483648 ≤ ρ 4 ∧ ρ 4 ≤ 2147483647 := hB 4
  have b5 : -2147483648 ≤ ρ 5 ∧ ρ 5 ≤ 2147483647 := hB 5
  have h0 : ρ 2 + 0 = wI ((ρ 1 + 0 : Int).tdiv (2)) := hP _ (List.mem_of_getElem? (i := 0) rfl)
  have h1 : ρ 3 + 0 = (ρ 1 + 0 : Int).tmod (2) := hP _ (List.mem_of_getElem? (i := 1) rfl)
  have h2 : nwE Γ M (α 0) fun r c => ρ 4 + 0 = c := hP _ (List.mem_of_getElem? (i := 2) rfl)
  have h3 : ρ 5 + 0 = wI ((ρ 2 + 0) + (ρ 4 + 0)) := hP _ (List.mem_of_getElem? (i := 3) rfl)
  try simp only [Int.add_zero] at h0 h1 h2 h3
  have key : (Γ (α 0) = 40 ∧ tyO Γ M (α 0) [(1, 41, [(1, 2)])] ∧ Q423 g (vw M (α 0) 1 [(1, 2)]) (clp [] (M.2.2.2.2 (α 0))) (ρ 1 + 0) (ρ 5 + 0)) ∧ True := by
    try simp only [Int.add_zero]
    obtain ⟨d1, d2, -⟩ := dm (p := ρ 1) (c := 2) b1.1 (by decide)
    rw [d1, wI_id (by unfold inI; omega)] at h0
    rw [d2] at h1
    have d := nwD hT g0
    have c := nwF h2
    rw [wI_id (by unfold inI; omega)] at h3
    refine ⟨⟨g0, tyO_of hT g0 (by decide) (by decide), ?_⟩, trivial⟩
    show ρ 5 = grF ((clp [(1, 2)] (M.2.2.2.2 (fl M (α 0) 1))) 1 + 4) (ρ 1)
    unfold grF
    rw [if_neg (by omega), c11, h3, h0, c]
  exact ⟨nB, qB (key.1) (nB)⟩
def t_ax : KT := ((0, 0, 0, 0), [(2, 0, 40, 0), (2, 1, 51, 0), (1, 2, 0, 0), (1, 3, 0, 0), (1, 4, 0, 0)], [(0, 0), (0, 0), (0, 287), (0, 143), (-2147483648, 2147483647)], [(422, [(2, 0, 40, 0), (1, 2, 0, 0), (1, 3, 0, 0)]), (11, [(2, 0, 40, 0), (0, 0, 0, 22), (2, 1, 51, 0)]), (10, [(2, 1, 51, 0), (1, 3, 0, 0), (1, 4, 0, 0)])], (0, 0, 0), [], [], ([], [(420, [(2, 0, 40, 0), (1, 2, 0, 0), (1, 4, 0, 0)])]), ([], []))
set_option maxRecDepth 100000 in
theorem l_ax (g : GG) : LOK Yt (PSt g) t_ax := by
  intro ρ α Γ M as hT hB hA hP
  have g0 : Γ (α 0) = 40 := tyAt hA (i := 0) rfl
  have g1 : Γ (α 1) = 51 := tyAt hA (i := 1) rfl
  have b2 : 0 ≤ ρ 2 ∧ ρ 2 ≤ 287 := hB 2
  have b3 : 0 ≤ ρ 3 ∧ ρ 3 ≤ 143 := hB 3
  have b4 : -2147483648 ≤ ρ 4 ∧ ρ 4 ≤ 2147483647 := hB 4
  have h0 : Γ (α 0) = 40 ∧ tyO Γ M (α 0) [] ∧ Q422 g  (clp [] (M.2.2.2.2 (α 0))) (ρ 2 + 0) (ρ 3 + 0) := hP _ (List.mem_of_getElem? (i := 0) rfl)
  have h1 : 0 ≤ (22 : Int) ∧ M.2.2.2.1 (α 0) (22 : Int).toNat = some (α 1) := hP _ (List.mem_of_getElem? (i := 1) rfl)
  have h2 : 0 ≤ (ρ 3 + 0 : Int) ∧ M.2.2.2.2 (α 1) (ρ 3 + 0 : Int).toNat = ρ 4 + 0 := hP _ (List.mem_of_getElem? (i := 2) rfl)
  try simp only [Int.add_zero] at h0 h1 h2
  have key : (Γ (α 0) = 40 ∧ tyO Γ M (α 0) [(22, 51, [(0, 144)])] ∧ Q420 g (vw M (α 0) 22 [(0, 144)]) (clp [] (M.2.2.2.2 (α 0))) (ρ 2 + 0) (ρ 4 + 0)) ∧ True := by
    try simp only [Int.add_zero]
    have e22 : fl M (α 0) 22 = α 1 := fl_eq (show M.2.2.2.1 (α 0) 22 = some (α 1) from h1.2)
    
    have hz : ρ 3 = ρ 2 / 2 := h0.2.2
    refine ⟨⟨g0, tyO_of hT g0 (by decide) (by decide), ?_⟩, trivial⟩
    show (clp [(0, 144)] (M.2.2.2.2 (fl M (α 0) 22))) (ρ 2 / 2).toNat = ρ 4
    rw [← hz, e22, cA1 (by omega)]
    exact h2.2
  exact ⟨nB, qB (key.1) (nB)⟩
def t_ay : KT := ((0, 0, 0, 0), [(2, 0, 40, 0), (2, 1, 51, 0), (1, 2, 0, 0), (1, 3, 0, 0), (1, 4, 0, 0)], [(0, 0), (0, 0), (0, 287), (0, 143), (-2147483648, 2147483647)], [(423, [(2, 0, 40, 0), (1, 2, 0, 0), (1, 3, 0, 0)]), (11, [(2, 0, 40, 0), (0, 0, 0, 22), (2, 1, 51, 0)]), (10, [(2, 1, 51, 0), (1, 3, 0, 0), (1, 4, 0, 0)])], (0, 0, 0), [], [], ([], [(421, [(2, 0, 40, 0), (1, 2, 0, 0), (1, 4, 0, 0)])]), ([], []))
set_option maxRecDepth 100000 in
theorem l_ay (g : GG) : LOK Yt (PSt g) t_ay := by
  intro ρ α Γ M as hT hB hA hP
  have g0 : Γ (α 0) = 40 := tyAt hA (i := 0) rfl
  have g1 : Γ (α 1) = 51 := tyAt hA (i := 1) rfl
  have b2 : 0 ≤ ρ 2 ∧ ρ 2 ≤ 287 := hB 2
  have b3 : 0 ≤ ρ 3 ∧ ρ 3 ≤ 143 := hB 3
  have b4 : -2147483648 ≤ ρ 4 ∧ ρ 4 ≤ 2147483647 := hB 4
  have h0 : Γ (α 0) = 40 ∧ tyO Γ M (α 0) [(1, 41, [(1, 2)])] ∧ Q423 g (vw M (α 0) 1 [(1, 2)]) (clp [] (M.2.2.2.2 (α 0))) (ρ 2 + 0) (ρ 3 + 0) := hP _ (List.mem_of_getElem? (i := 0) rfl)
  have h1 : 0 ≤ (22 : Int) ∧ M.2.2.2.1 (α 0) (22 : Int).toNat = some (α 1) := hP _ (List.mem_of_getElem? (i := 1) rfl)
  have h2 : 0 ≤ (ρ 3 + 0 : Int) ∧ M.2.2.2.2 (α 1) (ρ 3 + 0 : Int).toNat = ρ 4 + 0 := hP _ (List.mem_of_getElem? (i := 2) rfl)
  try simp only [Int.add_zero] at h0 h1 h2
  have key : (Γ (α 0) = 40 ∧ tyO Γ M (α 0) [(22, 51, [(0, 144)]), (1, 41, [(1, 2)])] ∧ Q421 g (vw M (α 0) 22 [(0, 144)]) (vw M (α 0) 1 [(1, 2)]) (clp [] (M.2.2.2.2 (α 0))) (ρ 2 + 0) (ρ 4 + 0)) ∧ True := by
    try simp only [Int.add_zero]
    have e22 : fl M (α 0) 22 = α 1 := fl_eq (show M.2.2.2.1 (α 0) 22 = some (α 1) from h1.2)
    
    have hz : ρ 3 = grF ((clp [(1, 2)] (M.2.2.2.2 (fl M (α 0) 1))) 1 + 4) (ρ 2) := h0.2.2
    refine ⟨⟨g0, tyO_of hT g0 (by decide) (by decide), ?_⟩, trivial⟩
    show (clp [(0, 144)] (M.2.2.2.2 (fl M (α 0) 22))) (grF ((clp [(1, 2)] (M.2.2.2.2 (fl M (α 0) 1))) 1 + 4) (ρ 2)).toNat = ρ 4
    rw [← hz, e22, cA1 (by omega)]
    exact h2.2
  exact ⟨nB, qB (key.1) (nB)⟩
def t_ane : KT := ((0, 0, 0, 0), [(2, 0, 40, 0), (1, 1, 0, 0), (1, 2, 0, 0), (1, 3, 0, 0)], [(0, 0), (0, 287), (-2147483648, 2147483647), (-2147483648, 2147483647)], [(420, [(2, 0, 40, 0), (1, 1, 0, 0), (1, 2, 0, 0)]), (421, [(2, 0, 40, 0), (1, 1, 0, 0), (1, 3, 0, 0)]), (99, [(1, 2, 0, 0), (1, 3, 0, 0), (0, 0, 0, 0)])], (0, 0, 0), [], [], ([], [(424, [(2, 0, 40, 0), (1, 1, 0, 0)])]), ([], []))
set_option maxRecDepth 100000 in
theorem l_ane (g : GG) : LOK Yt (PSt g) t_ane := by
  intro ρ α Γ M as hT hB hA hP
  have g0 : Γ (α 0) = 40 := tyAt hA (i := 0) rfl
  have b1 : 0 ≤ ρ 1 ∧ ρ 1 ≤ 287 := hB 1
  have b2 : -2147483648 ≤ ρ 2 ∧ ρ 2 ≤ 2147483647 := hB 2
  have b3 : -2147483648 ≤ ρ 3 ∧ ρ 3 ≤ 2147483647 := hB 3
  have h0 : Γ (α 0) = 40 ∧ tyO Γ M (α 0) [(22, 51, [(0, 144)])] ∧ Q420 g (vw M (α 0) 22 [(0, 144)]) (clp [] (M.2.2.2.2 (α 0))) (ρ 1 + 0) (ρ 2 + 0) := hP _ (List.mem_of_getElem? (i := 0) rfl)
  have h1 : Γ (α 0) = 40 ∧ tyO Γ M (α 0) [(22, 51, [(0, 144)]), (1, 41, [(1, 2)])] ∧ Q421 g (vw M (α 0) 22 [(0, 144)]) (vw M (α 0) 1 [(1, 2)]) (clp [] (M.2.2.2.2 (α 0))) (ρ 1 + 0) (ρ 3 + 0) := hP _ (List.mem_of_getElem? (i := 1) rfl)
  have h2 : (ρ 2 + 0 : Int) ≠ ρ 3 + 0 := hP _ (List.mem_of_getElem? (i := 2) rfl)
  try simp only [Int.add_zero] at h0 h1 h2
  have key : (Γ (α 0) = 40 ∧ tyO Γ M (α 0) [(22, 51, [(0, 144)]), (1, 41, [(1, 2)])] ∧ Q424 g (vw M (α 0) 22 [(0, 144)]) (vw M (α 0) 1 [(1, 2)]) (clp [] (M.2.2.2.2 (α 0))) (ρ 1 + 0)) ∧ True := by
    try simp only [Int.add_zero]
    have x : (clp [(0, 144)] (M.2.2.2.2 (fl M (α 0) 22))) (ρ 1 / 2).toNat = ρ 2 := h0.2.2
    have y : (clp [(0, 144)] (M.2.2.2.2 (fl M (α 0) 22))) (grF ((clp [(1, 2)] (M.2.2.2.2 (fl M (α 0) 1))) 1 + 4) (ρ 1)).toNat = ρ 3 := h1.2.2
    refine ⟨⟨g0, tyO_of hT g0 (by decide) (by decide), ?_⟩, trivial⟩
    show (clp [(0, 144)] (M.2.2.2.2 (fl M (α 0) 22))) (ρ 1 / 2).toNat ≠ (clp [(0, 144)] (M.2.2.2.2 (fl M (α 0) 22))) (grF ((clp [(1, 2)] (M.2.2.2.2 (fl M (α 0) 1))) 1 + 4) (ρ 1)).toNat
    rw [x, y]
    exact h2
  exact ⟨nB, qB (key.1) (nB)⟩
def t_alt : KT := ((0, 0, 0, 0), [(2, 0, 40, 0), (1, 1, 0, 0), (1, 2, 0, 0), (1, 3, 0, 0)], [(0, 0), (0, 287), (-2147483648, 2147483647), (-2147483648, 2147483647)], [(420, [(2, 0, 40, 0), (1, 1, 0, 0), (1, 2, 0, 0)]), (421, [(2, 0, 40, 0), (1, 1, 0, 0), (1, 3, 0, 0)]), (21, [(1, 2, 0, 0), (1, 3, 0, 0)])], (0, 0, 0), [], [], ([], [(425, [(2, 0, 40, 0), (1, 1, 0, 0)])]), ([], []))
set_option maxRecDepth 100000 in
theorem l_alt (g : GG) : LOK Yt (PSt g) t_alt := by
  intro ρ α Γ M as hT hB hA hP
  have g0 : Γ (α 0) = 40 := tyAt hA (i := 0) rfl
  have b1 : 0 ≤ ρ 1 ∧ ρ 1 ≤ 287 := hB 1
  have b2 : -2147483648 ≤ ρ 2 ∧ ρ 2 ≤ 2147483647 := hB 2
  have b3 : -2147483648 ≤ ρ 3 ∧ ρ 3 ≤ 2147483647 := hB 3
  have h0 : Γ (α 0) = 40 ∧ tyO Γ M (α 0) [(22, 51, [(0, 144)])] ∧ Q420 g (vw M (α 0) 22 [(0, 144)]) (clp [] (M.2.2.2.2 (α 0))) (ρ 1 + 0) (ρ 2 + 0) := hP _ (List.mem_of_getElem? (i := 0) rfl)
  have h1 : Γ (α 0) = 40 ∧ tyO Γ M (α 0) [(22, 51, [(0, 144)]), (1, 41, [(1, 2)])] ∧ Q421 g (vw M (α 0) 22 [(0, 144)]) (vw M (α 0) 1 [(1, 2)]) (clp [] (M.2.2.2.2 (α 0))) (ρ 1 + 0) (ρ 3 + 0) := hP _ (List.mem_of_getElem? (i := 1) rfl)
  have h2 : ρ 2 + 0 < ρ 3 + 0 := hP _ (List.mem_of_getElem? (i := 2) rfl)
  try simp only [Int.add_zero] at h0 h1 h2
  have key : (Γ (α 0) = 40 ∧ tyO Γ M (α 0) [(22, 51, [(0, 144)]), (1, 41, [(1, 2)])] ∧ Q425 g (vw M (α 0) 22 [(0, 144)]) (vw M (α 0) 1 [(1, 2)]) (clp [] (M.2.2.2.2 (α 0))) (ρ 1 + 0)) ∧ True := by
    try simp only [Int.add_zero]
    have x : (clp [(0, 144)] (M.2.2.2.2 (fl M (α 0) 22))) (ρ 1 / 2).toNat = ρ 2 := h0.2.2
    have y : (clp [(0, 144)] (M.2.2.2.2 (fl M (α 0) 22))) (grF ((clp [(1, 2)] (M.2.2.2.2 (fl M (α 0) 1))) 1 + 4) (ρ 1)).toNat = ρ 3 := h1.2.2
    refine ⟨⟨g0, tyO_of hT g0 (by decide) (by decide), ?_⟩, trivial⟩
    show (clp [(0, 144)] (M.2.2.2.2 (fl M (α 0) 22))) (ρ 1 / 2).toNat < (clp [(0, 144)] (M.2.2.2.2 (fl M (α 0) 22))) (grF ((clp [(1, 2)] (M.2.2.2.2 (fl M (α 0) 1))) 1 + 4) (ρ 1)).toNat
    rw [x, y]
    exact h2
  exact ⟨nB, qB (key.1) (nB)⟩
def t_age : KT := ((0, 0, 0, 0), [(2, 0, 40, 0), (1, 1, 0, 0), (1, 2, 0, 0), (1, 3, 0, 0)], [(0, 0), (0, 287), (-2147483648, 2147483647), (-2147483648, 2147483647)], [(420, [(2, 0, 40, 0), (1, 1, 0, 0), (1, 2, 0, 0)]), (421, [(2, 0, 40, 0), (1, 1, 0, 0), (1, 3, 0, 0)]), (6, [(1, 3, 0, 0), (1, 2, 0, 0)])], (0, 0, 0), [], [], ([], [(426, [(2, 0, 40, 0), (1, 1, 0, 0)])]), ([], []))
set_option maxRecDepth 100000 in
theorem l_age (g : GG) : LOK Yt (PSt g) t_age := by
  intro ρ α Γ M as hT hB hA hP
  have g0 : Γ (α 0) = 40 := tyAt hA (i := 0) rfl
  have b1 : 0 ≤ ρ 1 ∧ ρ 1 ≤ 287 := hB 1
  have b2 : -2147483648 ≤ ρ 2 ∧ ρ 2 ≤ 2147483647 := hB 2
  have b3 : -2147483648 ≤ ρ 3 ∧ ρ 3 ≤ 2147483647 := hB 3
  have h0 : Γ (α 0) = 40 ∧ tyO Γ M (α 0) [(22, 51, [(0, 144)])] ∧ Q420 g (vw M (α 0) 22 [(0, 144)]) (clp [] (M.2.2.2.2 (α 0))) (ρ 1 + 0) (ρ 2 + 0) := hP _ (List.mem_of_getElem? (i := 0) rfl)
  have h1 : Γ (α 0) = 40 ∧ tyO Γ M (α 0) [(22, 51, [(0, 144)]), (1, 41, [(1, 2)])] ∧ Q421 g (vw M (α 0) 22 [(0, 144)]) (vw M (α 0) 1 [(1, 2)]) (clp [] (M.2.2.2.2 (α 0))) (ρ 1 + 0) (ρ 3 + 0) := hP _ (List.mem_of_getElem? (i := 1) rfl)
  have h2 : ρ 3 + 0 ≤ ρ 2 + 0 := hP _ (List.mem_of_getElem? (i := 2) rfl)
  try simp only [Int.add_zero] at h0 h1 h2
  have key : (Γ (α 0) = 40 ∧ tyO Γ M (α 0) [(22, 51, [(0, 144)]), (1, 41, [(1, 2)])] ∧ Q426 g (vw M (α 0) 22 [(0, 144)]) (vw M (α 0) 1 [(1, 2)]) (clp [] (M.2.2.2.2 (α 0))) (ρ 1 + 0)) ∧ True := by
    try simp only [Int.add_zero]
    have x : (clp [(0, 144)] (M.2.2.2.2 (fl M (α 0) 22))) (ρ 1 / 2).toNat = ρ 2 := h0.2.2
    have y : (clp [(0, 144)] (M.2.2.2.2 (fl M (α 0) 22))) (grF ((clp [(1, 2)] (M.2.2.2.2 (fl M (α 0) 1))) 1 + 4) (ρ 1)).toNat = ρ 3 := h1.2.2
    refine ⟨⟨g0, tyO_of hT g0 (by decide) (by decide), ?_⟩, trivial⟩
    show (clp [(0, 144)] (M.2.2.2.2 (fl M (α 0) 22))) (grF ((clp [(1, 2)] (M.2.2.2.2 (fl M (α 0) 1))) 1 + 4) (ρ 1)).toNat ≤ (clp [(0, 144)] (M.2.2.2.2 (fl M (α 0) 22))) (ρ 1 / 2).toNat
    rw [x, y]
    exact h2
  exact ⟨nB, qB (key.1) (nB)⟩
def t_am1 : KT := ((0, 0, 0, 0), [(2, 0, 40, 0), (1, 1, 0, 0), (1, 2, 0, 0)], [(0, 0), (0, 287), (-2147483648, 2147483647)], [(424, [(2, 0, 40, 0), (1, 1, 0, 0)]), (425, [(2, 0, 40, 0), (1, 1, 0, 0)]), (420, [(2, 0, 40, 0), (1, 1, 0, 0), (1, 2, 0, 0)])], (0, 0, 0), [], [], ([], [(427, [(2, 0, 40, 0), (1, 1, 0, 0), (1, 2, 0, 0)])]), ([], []))
set_option maxRecDepth 100000 in
theorem l_am1 (g : GG) : LOK Yt (PSt g) t_am1 := by
  intro ρ α Γ M as hT hB hA hP
  have g0 : Γ (α 0) = 40 := tyAt hA (i := 0) rfl
  have b1 : 0 ≤ ρ 1 ∧ ρ 1 ≤ 287 := hB 1
  have b2 : -2147483648 ≤ ρ 2 ∧ ρ 2 ≤ 2147483647 := hB 2
  have h0 : Γ (α 0) = 40 ∧ tyO Γ M (α 0) [(22, 51, [(0, 144)]), (1, 41, [(1, 2)])] ∧ Q424 g (vw M (α 0) 22 [(0, 144)]) (vw M (α 0) 1 [(1, 2)]) (clp [] (M.2.2.2.2 (α 0))) (ρ 1 + 0) := hP _ (List.mem_of_getElem? (i := 0) rfl)
  have h1 : Γ (α 0) = 40 ∧ tyO Γ M (α 0) [(22, 51, [(0, 144)]), (1, 41, [(1, 2)])] ∧ Q425 g (vw M (α 0) 22 [(0, 144)]) (vw M (α 0) 1 [(1, 2)]) (clp [] (M.2.2.2.2 (α 0))) (ρ 1 + 0) := hP _ (List.mem_of_getElem? (i := 1) rfl)
  have h2 : Γ (α 0) = 40 ∧ tyO Γ M (α 0) [(22, 51, [(0, 144)])] ∧ Q420 g (vw M (α 0) 22 [(0, 144)]) (clp [] (M.2.2.2.2 (α 0))) (ρ 1 + 0) (ρ 2 + 0) := hP _ (List.mem_of_getElem? (i := 2) rfl)
  try simp only [Int.add_zero] at h0 h1 h2
  have key : (Γ (α 0) = 40 ∧ tyO Γ M (α 0) [(22, 51, [(0, 144)]), (1, 41, [(1, 2)])] ∧ Q427 g (vw M (α 0) 22 [(0, 144)]) (vw M (α 0) 1 [(1, 2)]) (clp [] (M.2.2.2.2 (α 0))) (ρ 1 + 0) (ρ 2 + 0)) ∧ True := by
    try simp only [Int.add_zero]
    have n : (clp [(0, 144)] (M.2.2.2.2 (fl M (α 0) 22))) (ρ 1 / 2).toNat ≠ (clp [(0, 144)] (M.2.2.2.2 (fl M (α 0) 22))) (grF ((clp [(1, 2)] (M.2.2.2.2 (fl M (α 0) 1))) 1 + 4) (ρ 1)).toNat := h0.2.2
    have l : (clp [(0, 144)] (M.2.2.2.2 (fl M (α 0) 22))) (ρ 1 / 2).toNat < (clp [(0, 144)] (M.2.2.2.2 (fl M (α 0) 22))) (grF ((clp [(1, 2)] (M.2.2.2.2 (fl M (α 0) 1))) 1 + 4) (ρ 1)).toNat := h1.2.2
    have v : (clp [(0, 144)] (M.2.2.2.2 (fl M (α 0) 22))) (ρ 1 / 2).toNat = ρ 2 := h2.2.2
    refine ⟨⟨g0, tyO_of hT g0 (by decide) (by decide), ?_⟩, trivial⟩
    show (ρ 2 ≤ (clp [(0, 144)] (M.2.2.2.2 (fl M (α 0) 22))) (ρ 1 / 2).toNat ∧ ρ 2 ≤ (clp [(0, 144)] (M.2.2.2.2 (fl M (α 0) 22))) (grF ((clp [(1, 2)] (M.2.2.2.2 (fl M (α 0) 1))) 1 + 4) (ρ 1)).toNat) ∧ (ρ 2 < (clp [(0, 144)] (M.2.2.2.2 (fl M (α 0) 22))) (ρ 1 / 2).toNat ∨ ρ 2 < (clp [(0, 144)] (M.2.2.2.2 (fl M (α 0) 22))) (grF ((clp [(1, 2)] (M.2.2.2.2 (fl M (α 0) 1))) 1 + 4) (ρ 1)).toNat)
    omega
  exact ⟨nB, qB (key.1) (nB)⟩
def t_am2 : KT := ((0, 0, 0, 0), [(2, 0, 40, 0), (1, 1, 0, 0), (1, 2, 0, 0)], [(0, 0), (0, 287), (-2147483648, 2147483647)], [(424, [(2, 0, 40, 0), (1, 1, 0, 0)]), (426, [(2, 0, 40, 0), (1, 1, 0, 0)]), (421, [(2, 0, 40, 0), (1, 1, 0, 0), (1, 2, 0, 0)])], (0, 0, 0), [], [], ([], [(427, [(2, 0, 40, 0), (1, 1, 0, 0), (1, 2, 0, 0)])]), ([], []))
set_option maxRecDepth 100000 in
theorem l_am2 (g : GG) : LOK Yt (PSt g) t_am2 := by
  intro ρ α Γ M as hT hB hA hP
  have g0 : Γ (α 0) = 40 := tyAt hA (i := 0) rfl
  have b1 : 0 ≤ ρ 1 ∧ ρ 1 ≤ 287 := hB 1
  have b2 : -2147483648 ≤ ρ 2 ∧ ρ 2 ≤ 2147483647 := hB 2
  have h0 : Γ (α 0) = 40 ∧ tyO Γ M (α 0) [(22, 51, [(0, 144)]), (1, 41, [(1, 2)])] ∧ Q424 g (vw M (α 0) 22 [(0, 144)]) (vw M (α 0) 1 [(1, 2)]) (clp [] (M.2.2.2.2 (α 0))) (ρ 1 + 0) := hP _ (List.mem_of_getElem? (i := 0) rfl)
  have h1 : Γ (α 0) = 40 ∧ tyO Γ M (α 0) [(22, 51, [(0, 144)]), (1, 41, [(1, 2)])] ∧ Q426 g (vw M (α 0) 22 [(0, 144)]) (vw M (α 0) 1 [(1, 2)]) (clp [] (M.2.2.2.2 (α 0))) (ρ 1 + 0) := hP _ (List.mem_of_getElem? (i := 1) rfl)
  have h2 : Γ (α 0) = 40 ∧ tyO Γ M (α 0) [(22, 51, [(0, 144)]), (1, 41, [(1, 2)])] ∧ Q421 g (vw M (α 0) 22 [(0, 144)]) (vw M (α 0) 1 [(1, 2)]) (clp [] (M.2.2.2.2 (α 0))) (ρ 1 + 0) (ρ 2 + 0) := hP _ (List.mem_of_getElem? (i := 2) rfl)
  try simp only [Int.add_zero] at h0 h1 h2
  have key : (Γ (α 0) = 40 ∧ tyO Γ M (α 0) [(22, 51, [(0, 144)]), (1, 41, [(1, 2)])] ∧ Q427 g (vw M (α 0) 22 [(0, 144)]) (vw M (α 0) 1 [(1, 2)]) (clp [] (M.2.2.2.2 (α 0))) (ρ 1 + 0) (ρ 2 + 0)) ∧ True := by
    try simp only [Int.add_zero]
    have n : (clp [(0, 144)] (M.2.2.2.2 (fl M (α 0) 22))) (ρ 1 / 2).toNat ≠ (clp [(0, 144)] (M.2.2.2.2 (fl M (α 0) 22))) (grF ((clp [(1, 2)] (M.2.2.2.2 (fl M (α 0) 1))) 1 + 4) (ρ 1)).toNat := h0.2.2
    have l : (clp [(0, 144)] (M.2.2.2.2 (fl M (α 0) 22))) (grF ((clp [(1, 2)] (M.2.2.2.2 (fl M (α 0) 1))) 1 + 4) (ρ 1)).toNat ≤ (clp [(0, 144)] (M.2.2.2.2 (fl M (α 0) 22))) (ρ 1 / 2).toNat := h1.2.2
    have v : (clp [(0, 144)] (M.2.2.2.2 (fl M (α 0) 22))) (grF ((clp [(1, 2)] (M.2.2.2.2 (fl M (α 0) 1))) 1 + 4) (ρ 1)).toNat = ρ 2 := h2.2.2
    refine ⟨⟨g0, tyO_of hT g0 (by decide) (by decide), ?_⟩, trivial⟩
    show (ρ 2 ≤ (clp [(0, 144)] (M.2.2.2.2 (fl M (α 0) 22))) (ρ 1 / 2).toNat ∧ ρ 2 ≤ (clp [(0, 144)] (M.2.2.2.2 (fl M (α 0) 22))) (grF ((clp [(1, 2)] (M.2.2.2.2 (fl M (α 0) 1))) 1 + 4) (ρ 1)).toNat) ∧ (ρ 2 < (clp [(0, 144)] (M.2.2.2.2 (fl M (α 0) 22))) (ρ 1 / 2).toNat ∨ ρ 2 < (clp [(0, 144)] (M.2.2.2.2 (fl M (α 0) 22))) (grF ((clp [(1, 2)] (M.2.2.2.2 (fl M (α 0) 1))) 1 + 4) (ρ 1)).toNat)
    omega
  exact ⟨nB, qB (key.1) (nB)⟩
def t_as1 : KT := ((0, 0, 0, 0), [(2, 0, 40, 0), (2, 1, 51, 0), (1, 2, 0, 0), (1, 3, 0, 0), (1, 4, 0, 0), (1, 5, 0, 0)], [(0, 0), (0, 0), (0, 287), (0, 143), (0, 143), (0, 1)], [(427, [(2, 0, 40, 0), (1, 2, 0, 0), (1, 4, 0, 0)]), (422, [(2, 0, 40, 0), (1, 2, 0, 0), (1, 3, 0, 0)]), (11, [(2, 0, 40, 0), (0, 0, 0, 22), (2, 1, 51, 0)]), (30, [(2, 0, 40, 0), (1, 5, 0, 0)]), (97, [(2, 0, 40, 0), (1, 2, 0, 0)])], (0, 0, 0), [], [], ([], [(291, [(2, 1, 51, 0), (1, 3, 0, 0), (2, 0, 40, 0), (1, 2, 0, 0), (1, 4, 0, 0)])]), ([], []))
set_option maxRecDepth 100000 in
theorem l_as1 (g : GG) : LOK Yt (PSt g) t_as1 := by
  intro ρ α Γ M as hT hB hA hP
  have g0 : Γ (α 0) = 40 := tyAt hA (i := 0) rfl
  have g1 : Γ (α 1) = 51 := tyAt hA (i := 1) rfl
  have b2 : 0 ≤ ρ 2 ∧ ρ 2 ≤ 287 := hB 2
  have b3 : 0 ≤ ρ 3 ∧ ρ 3 ≤ 143 := hB 3
  have b4 : 0 ≤ ρ 4 ∧ ρ 4 ≤ 143 := hB 4
  have b5 : 0 ≤ ρ 5 ∧ ρ 5 ≤ 1 := hB 5
  have h0 : Γ (α 0) = 40 ∧ tyO Γ M (α 0) [(22, 51, [(0, 144)]), (1, 41, [(1, 2)])] ∧ Q427 g (vw M (α 0) 22 [(0, 144)]) (vw M (α 0) 1 [(1, 2)]) (clp [] (M.2.2.2.2 (α 0))) (ρ 2 + 0) (ρ 4 + 0) := hP _ (List.mem_of_getElem? (i := 0) rfl)
  have h1 : Γ (α 0) = 40 ∧ tyO Γ M (α 0) [] ∧ Q422 g  (clp [] (M.2.2.2.2 (α 0))) (ρ 2 + 0) (ρ 3 + 0) := hP _ (List.mem_of_getElem? (i := 1) rfl)
  have h2 : 0 ≤ (22 : Int) ∧ M.2.2.2.1 (α 0) (22 : Int).toNat = some (α 1) := hP _ (List.mem_of_getElem? (i := 2) rfl)
  have h3 : Γ (α 0) = 40 ∧ tyO Γ M (α 0) [(22, 51, [(0, 144)])] ∧ True ∧ mu30 (vw M (α 0) 22 [(0, 144)]) (ρ 5 + 0) ≤ g.2.2 := hP _ (List.mem_of_getElem? (i := 3) rfl)
  have h4 : nwE Γ M (α 0) fun r c => edP r c (ρ 2 + 0) := hP _ (List.mem_of_getElem? (i := 4) rfl)
  try simp only [Int.add_zero] at h0 h1 h2 h3 h4
  have key : (Γ (α 0) = 40 ∧ M.2.2.2.1 (α 0) 22 = some (α 1) ∧ Γ (α 1) = 51 ∧ tyO Γ M (α 0) [(1, 41, [(1, 2)])] ∧ Q291 g (hcl [vi (ρ 3 + 0)] (clp [(0, 144)] (M.2.2.2.2 (α 1)))) (vw M (α 0) 1 [(1, 2)]) (clp [] (M.2.2.2.2 (α 0))) (ρ 3 + 0) (ρ 2 + 0) (ρ 4 + 0)) ∧ True := by
    try simp only [Int.add_zero]
    have e22 : fl M (α 0) 22 = α 1 := fl_eq (show M.2.2.2.1 (α 0) 22 = some (α 1) from h2.2)
    
    have d := nwD hT g0
    obtain ⟨i1, j1, ij⟩ := gr_in d.1 d.2 (nwF h4)
    have hz : ρ 3 = ρ 2 / 2 := h1.2.2
    obtain ⟨-, -, ⟨v1, v2⟩, v3⟩ := h0
    have v1 : ρ 4 ≤ (clp [(0, 144)] (M.2.2.2.2 (fl M (α 0) 22))) (ρ 2 / 2).toNat := v1
    have v2 : ρ 4 ≤ (clp [(0, 144)] (M.2.2.2.2 (fl M (α 0) 22))) (grF ((clp [(1, 2)] (M.2.2.2.2 (fl M (α 0) 1))) 1 + 4) (ρ 2)).toNat := v2
    have v3 : ρ 4 < (clp [(0, 144)] (M.2.2.2.2 (fl M (α 0) 22))) (ρ 2 / 2).toNat ∨ ρ 4 < (clp [(0, 144)] (M.2.2.2.2 (fl M (α 0) 22))) (grF ((clp [(1, 2)] (M.2.2.2.2 (fl M (α 0) 1))) 1 + 4) (ρ 2)).toNat := v3
    rw [c11] at v2 v3
    rw [← hz] at v1 v3
    have hg : (sumR (clp [(0, 144)] (M.2.2.2.2 (fl M (α 0) 22))) 144 + ρ 5).toNat ≤ g.2.2 := h3.2.2.2
    have hb := ar_bd hT g0
    have hs := sumR_bd (f := (clp [(0, 144)] (M.2.2.2.2 (fl M (α 0) 22)))) (n := 144) (fun j hj => (hb j hj).1)
    have hn : (grF ((M.2.2.2.2 (fl M (α 0) 1)) 1 + 4) (ρ 2)).toNat ≠ (ρ 3).toNat := by omega
    have hH : ∀ j : Nat, j ≠ (ρ 3).toNat → hcl [vi (ρ 3)] (clp [(0, 144)] (M.2.2.2.2 (α 1))) j = (clp [(0, 144)] (M.2.2.2.2 (fl M (α 0) 22))) j := fun j hj => by rw [hcl1 (by omega), e22]
    have hk := sumR_1 (f := (clp [(0, 144)] (M.2.2.2.2 (fl M (α 0) 22)))) (f2 := hcl [vi (ρ 3)] (clp [(0, 144)] (M.2.2.2.2 (α 1)))) (p := (ρ 3).toNat) (n := 144) (by omega) (fun j _ hj => hH j hj)
    rw [hcl0 (by omega)] at hk
    refine ⟨⟨g0, h2.2, g1, tyO_of hT g0 (by decide) (by decide), b3, ?_, ?_⟩, trivial⟩
    · show (grF ((clp [(1, 2)] (M.2.2.2.2 (fl M (α 0) 1))) 1 + 4) (ρ 2)).toNat ≠ (ρ 3).toNat
      rw [c11]
      exact hn
    · show sumR (hcl [vi (ρ 3)] (clp [(0, 144)] (M.2.2.2.2 (α 1)))) 144 + 2 * ρ 4 < (g.2.2 : Int) + hcl [vi (ρ 3)] (clp [(0, 144)] (M.2.2.2.2 (α 1))) (grF ((clp [(1, 2)] (M.2.2.2.2 (fl M (α 0) 1))) 1 + 4) (ρ 2)).toNat
      rw [c11, hH _ hn, hk]
      omega
  exact ⟨nB, qB (key.1) (nB)⟩
def t_as2 : KT := ((0, 0, 0, 0), [(2, 0, 40, 0), (2, 1, 51, 0), (1, 2, 0, 0), (1, 3, 0, 0), (1, 4, 0, 0)], [(0, 0), (0, 0), (0, 287), (0, 143), (0, 143)], [(291, [(2, 1, 51, 0), (1, 3, 0, 0), (2, 0, 40, 0), (1, 2, 0, 0), (1, 4, 0, 0)]), (10, [(2, 1, 51, 0), (1, 3, 0, 0), (1, 4, 0, 0)]), (97, [(2, 0, 40, 0), (1, 2, 0, 0)])], (0, 0, 0), [], [], ([], [(192, [(2, 0, 40, 0), (1, 2, 0, 0), (1, 4, 0, 0)])]), ([], []))
set_option maxRecDepth 100000 in
theorem l_as2 (g : GG) : LOK Yt (PSt g) t_as2 := by
  intro ρ α Γ M as hT hB hA hP
  have g0 : Γ (α 0) = 40 := tyAt hA (i := 0) rfl
  have g1 : Γ (α 1) = 51 := tyAt hA (i := 1) rfl
  have b2 : 0 ≤ ρ 2 ∧ ρ 2 ≤ 287 := hB 2
  have b3 : 0 ≤ ρ 3 ∧ ρ 3 ≤ 143 := hB 3
  have b4 : 0 ≤ ρ 4 ∧ ρ 4 ≤ 143 := hB 4
  have h0 : Γ (α 0) = 40 ∧ M.2.2.2.1 (α 0) 22 = some (α 1) ∧ Γ (α 1) = 51 ∧ tyO Γ M (α 0) [(1, 41, [(1, 2)])] ∧ Q291 g (hcl [vi (ρ 3 + 0)] (clp [(0, 144)] (M.2.2.2.2 (α 1)))) (vw M (α 0) 1 [(1, 2)]) (clp [] (M.2.2.2.2 (α 0))) (ρ 3 + 0) (ρ 2 + 0) (ρ 4 + 0) := hP _ (List.mem_of_getElem? (i := 0) rfl)
  have h1 : 0 ≤ (ρ 3 + 0 : Int) ∧ M.2.2.2.2 (α 1) (ρ 3 + 0 : Int).toNat = ρ 4 + 0 := hP _ (List.mem_of_getElem? (i := 1) rfl)
  have h2 : nwE Γ M (α 0) fun r c => edP r c (ρ 2 + 0) := hP _ (List.mem_of_getElem? (i := 2) rfl)
  try simp only [Int.add_zero] at h0 h1 h2
  have key : (Γ (α 0) = 40 ∧ tyO Γ M (α 0) [(22, 51, [(0, 144)]), (1, 41, [(1, 2)])] ∧ Q192 g (vw M (α 0) 22 [(0, 144)]) (vw M (α 0) 1 [(1, 2)]) (clp [] (M.2.2.2.2 (α 0))) (ρ 2 + 0) (ρ 4 + 0)) ∧ True := by
    try simp only [Int.add_zero]
    have d := nwD hT g0
    obtain ⟨i1, j1, ij⟩ := gr_in d.1 d.2 (nwF h2)
    obtain ⟨-, hr, -, -, hb, hn, hs⟩ := h0
    have e22 : fl M (α 0) 22 = α 1 := fl_eq hr
    have hn : (grF ((clp [(1, 2)] (M.2.2.2.2 (fl M (α 0) 1))) 1 + 4) (ρ 2)).toNat ≠ (ρ 3).toNat := hn
    have hs : sumR (hcl [vi (ρ 3)] (clp [(0, 144)] (M.2.2.2.2 (α 1)))) 144 + 2 * ρ 4 < (g.2.2 : Int) + hcl [vi (ρ 3)] (clp [(0, 144)] (M.2.2.2.2 (α 1))) (grF ((clp [(1, 2)] (M.2.2.2.2 (fl M (α 0) 1))) 1 + 4) (ρ 2)).toNat := hs
    have hv : (clp [(0, 144)] (M.2.2.2.2 (fl M (α 0) 22))) (ρ 3).toNat = ρ 4 := by rw [e22, cA1 (by omega)]; exact h1.2
    have hH : ∀ j : Nat, j ≠ (ρ 3).toNat → (clp [(0, 144)] (M.2.2.2.2 (fl M (α 0) 22))) j = hcl [vi (ρ 3)] (clp [(0, 144)] (M.2.2.2.2 (α 1))) j := fun j hj => by rw [hcl1 (by omega), e22]
    have hk := sumR_1 (f := hcl [vi (ρ 3)] (clp [(0, 144)] (M.2.2.2.2 (α 1)))) (f2 := (clp [(0, 144)] (M.2.2.2.2 (fl M (α 0) 22)))) (p := (ρ 3).toNat) (n := 144) (by omega) (fun j _ hj => hH j hj)
    rw [hcl0 (by omega), hv] at hk
    refine ⟨⟨g0, tyO_of hT g0 (by decide) (by decide), ?_⟩, trivial⟩
    show sumR (clp [(0, 144)] (M.2.2.2.2 (fl M (α 0) 22))) 144 + ρ 4 < (g.2.2 : Int) + (clp [(0, 144)] (M.2.2.2.2 (fl M (α 0) 22))) (grF ((clp [(1, 2)] (M.2.2.2.2 (fl M (α 0) 1))) 1 + 4) (ρ 2)).toNat
    rw [hH _ hn, hk]
    omega
  exact ⟨nB, qB (key.1) (nB)⟩
def t_as3 : KT := ((0, 0, 0, 0), [(2, 0, 40, 0), (2, 1, 51, 0), (1, 2, 0, 0), (1, 3, 0, 0), (1, 4, 0, 0)], [(0, 0), (0, 0), (0, 287), (0, 143), (0, 143)], [(192, [(2, 0, 40, 0), (1, 2, 0, 0), (1, 4, 0, 0)]), (423, [(2, 0, 40, 0), (1, 2, 0, 0), (1, 3, 0, 0)]), (11, [(2, 0, 40, 0), (0, 0, 0, 22), (2, 1, 51, 0)])], (0, 0, 0), [], [], ([], [(292, [(2, 1, 51, 0), (1, 3, 0, 0), (2, 0, 40, 0), (1, 4, 0, 0)])]), ([], []))
set_option maxRecDepth 100000 in
theorem l_as3 (g : GG) : LOK Yt (PSt g) t_as3 := by
  intro ρ α Γ M as hT hB hA hP
  have g0 : Γ (α 0) = 40 := tyAt hA (i := 0) rfl
  have g1 : Γ (α 1) = 51 := tyAt hA (i := 1) rfl
  have b2 : 0 ≤ ρ 2 ∧ ρ 2 ≤ 287 := hB 2
  have b3 : 0 ≤ ρ 3 ∧ ρ 3 ≤ 143 := hB 3
  have b4 : 0 ≤ ρ 4 ∧ ρ 4 ≤ 143 := hB 4
  have h0 : Γ (α 0) = 40 ∧ tyO Γ M (α 0) [(22, 51, [(0, 144)]), (1, 41, [(1, 2)])] ∧ Q192 g (vw M (α 0) 22 [(0, 144)]) (vw M (α 0) 1 [(1, 2)]) (clp [] (M.2.2.2.2 (α 0))) (ρ 2 + 0) (ρ 4 + 0) := hP _ (List.mem_of_getElem? (i := 0) rfl)
  have h1 : Γ (α 0) = 40 ∧ tyO Γ M (α 0) [(1, 41, [(1, 2)])] ∧ Q423 g (vw M (α 0) 1 [(1, 2)]) (clp [] (M.2.2.2.2 (α 0))) (ρ 2 + 0) (ρ 3 + 0) := hP _ (List.mem_of_getElem? (i := 1) rfl)
  have h2 : 0 ≤ (22 : Int) ∧ M.2.2.2.1 (α 0) (22 : Int).toNat = some (α 1) := hP _ (List.mem_of_getElem? (i := 2) rfl)
  try simp only [Int.add_zero] at h0 h1 h2
  have key : (Γ (α 0) = 40 ∧ M.2.2.2.1 (α 0) 22 = some (α 1) ∧ Γ (α 1) = 51 ∧ tyO Γ M (α 0) [] ∧ Q292 g (hcl [vi (ρ 3 + 0)] (clp [(0, 144)] (M.2.2.2.2 (α 1))))  (clp [] (M.2.2.2.2 (α 0))) (ρ 3 + 0) (ρ 4 + 0)) ∧ True := by
    try simp only [Int.add_zero]
    have e22 : fl M (α 0) 22 = α 1 := fl_eq (show M.2.2.2.1 (α 0) 22 = some (α 1) from h2.2)
    
    have hz : ρ 3 = grF ((clp [(1, 2)] (M.2.2.2.2 (fl M (α 0) 1))) 1 + 4) (ρ 2) := h1.2.2
    have hs : sumR (clp [(0, 144)] (M.2.2.2.2 (fl M (α 0) 22))) 144 + ρ 4 < (g.2.2 : Int) + (clp [(0, 144)] (M.2.2.2.2 (fl M (α 0) 22))) (grF ((clp [(1, 2)] (M.2.2.2.2 (fl M (α 0) 1))) 1 + 4) (ρ 2)).toNat := h0.2.2
    rw [← hz] at hs
    have hk := sumR_1 (f := (clp [(0, 144)] (M.2.2.2.2 (fl M (α 0) 22)))) (f2 := hcl [vi (ρ 3)] (clp [(0, 144)] (M.2.2.2.2 (α 1)))) (p := (ρ 3).toNat) (n := 144) (by omega) (fun j _ hj => by rw [hcl1 (by omega), e22])
    rw [hcl0 (by omega)] at hk
    refine ⟨⟨g0, h2.2, g1, tyO_of hT g0 (by decide) (by decide), b3, ?_⟩, trivial⟩
    show sumR (hcl [vi (ρ 3)] (clp [(0, 144)] (M.2.2.2.2 (α 1)))) 144 + ρ 4 < (g.2.2 : Int)
    rw [hk]
    omega
  exact ⟨nB, qB (key.1) (nB)⟩
def t_as4 : KT := ((0, 0, 0, 0), [(2, 0, 40, 0), (2, 1, 51, 0), (1, 2, 0, 0), (1, 3, 0, 0)], [(0, 0), (0, 0), (0, 143), (0, 143)], [(292, [(2, 1, 51, 0), (1, 2, 0, 0), (2, 0, 40, 0), (1, 3, 0, 0)]), (10, [(2, 1, 51, 0), (1, 2, 0, 0), (1, 3, 0, 0)])], (0, 0, 0), [], [], ([], [(30, [(2, 0, 40, 0), (0, 0, 0, 1)])]), ([], []))
set_option maxRecDepth 100000 in
theorem l_as4 (g : GG) : LOK Yt (PSt g) t_as4 := by
  intro ρ α Γ M as hT hB hA hP
  have g0 : Γ (α 0) = 40 := tyAt hA (i := 0) rfl
  have g1 : Γ (α 1) = 51 := tyAt hA (i := 1) rfl
  have b2 : 0 ≤ ρ 2 ∧ ρ 2 ≤ 143 := hB 2
  have b3 : 0 ≤ ρ 3 ∧ ρ 3 ≤ 143 := hB 3
  have h0 : Γ (α 0) = 40 ∧ M.2.2.2.1 (α 0) 22 = some (α 1) ∧ Γ (α 1) = 51 ∧ tyO Γ M (α 0) [] ∧ Q292 g (hcl [vi (ρ 2 + 0)] (clp [(0, 144)] (M.2.2.2.2 (α 1))))  (clp [] (M.2.2.2.2 (α 0))) (ρ 2 + 0) (ρ 3 + 0) := hP _ (List.mem_of_getElem? (i := 0) rfl)
  have h1 : 0 ≤ (ρ 2 + 0 : Int) ∧ M.2.2.2.2 (α 1) (ρ 2 + 0 : Int).toNat = ρ 3 + 0 := hP _ (List.mem_of_getElem? (i := 1) rfl)
  try simp only [Int.add_zero] at h0 h1
  have key : (Γ (α 0) = 40 ∧ tyO Γ M (α 0) [(22, 51, [(0, 144)])] ∧ True ∧ mu30 (vw M (α 0) 22 [(0, 144)]) (1) ≤ g.2.2) ∧ True := by
    try simp only [Int.add_zero]
    obtain ⟨-, hr, -, -, hb, hs⟩ := h0
    have e22 : fl M (α 0) 22 = α 1 := fl_eq hr
    have hs : sumR (hcl [vi (ρ 2)] (clp [(0, 144)] (M.2.2.2.2 (α 1)))) 144 + ρ 3 < (g.2.2 : Int) := hs
    have hv : (clp [(0, 144)] (M.2.2.2.2 (fl M (α 0) 22))) (ρ 2).toNat = ρ 3 := by rw [e22, cA1 (by omega)]; exact h1.2
    have hk := sumR_1 (f := hcl [vi (ρ 2)] (clp [(0, 144)] (M.2.2.2.2 (α 1)))) (f2 := (clp [(0, 144)] (M.2.2.2.2 (fl M (α 0) 22)))) (p := (ρ 2).toNat) (n := 144) (by omega) (fun j _ hj => by rw [hcl1 (by omega), e22])
    rw [hcl0 (by omega), hv] at hk
    refine ⟨⟨g0, tyO_of hT g0 (by decide) (by decide), trivial, ?_⟩, trivial⟩
    show (sumR (clp [(0, 144)] (M.2.2.2.2 (fl M (α 0) 22))) 144 + 1).toNat ≤ g.2.2
    omega
  exact ⟨nB, qB (key.1) (nB)⟩
def t_ar31 : KT := ((0, 0, 0, 0), [(2, 0, 40, 0), (1, 1, 0, 0)], [(0, 0), (1, 1)], [(30, [(2, 0, 40, 0), (1, 1, 0, 0)])], (0, 0, 0), [], [], ([], [(31, [(2, 0, 40, 0), (0, 0, 0, 0)])]), ([], []))
set_option maxRecDepth 100000 in
theorem l_ar31 (g : GG) : LOK Yt (PSt g) t_ar31 := by
  intro ρ α Γ M as hT hB hA hP
  have g0 : Γ (α 0) = 40 := tyAt hA (i := 0) rfl
  have b1 : 1 ≤ ρ 1 ∧ ρ 1 ≤ 1 := hB 1
  have h0 : Γ (α 0) = 40 ∧ tyO Γ M (α 0) [(22, 51, [(0, 144)])] ∧ True ∧ mu30 (vw M (α 0) 22 [(0, 144)]) (ρ 1 + 0) ≤ g.2.2 := hP _ (List.mem_of_getElem? (i := 0) rfl)
  try simp only [Int.add_zero] at h0
  have key : (Γ (α 0) = 40 ∧ tyO Γ M (α 0) [(22, 51, [(0, 144)])] ∧ True ∧ mu30 (vw M (α 0) 22 [(0, 144)]) (0) < g.2.2) ∧ True := by
    try simp only [Int.add_zero]
    have hg : (sumR (clp [(0, 144)] (M.2.2.2.2 (fl M (α 0) 22))) 144 + ρ 1).toNat ≤ g.2.2 := h0.2.2.2
    have hs := sumR_bd (f := (clp [(0, 144)] (M.2.2.2.2 (fl M (α 0) 22)))) (n := 144) (fun j hj => (ar_bd hT g0 j hj).1)
    refine ⟨⟨g0, tyO_of hT g0 (by decide) (by decide), trivial, ?_⟩, trivial⟩
    show (sumR (clp [(0, 144)] (M.2.2.2.2 (fl M (α 0) 22))) 144 + 0).toNat < g.2.2
    omega
  exact ⟨nB, qB (key.1) (nB)⟩
def t_ar36 : KT := ((0, 0, 0, 0), [(2, 0, 40, 0)], [(0, 0)], [], (0, 0, 0), [], [], ([], [(136, [(2, 0, 40, 0)])]), ([], []))
set_option maxRecDepth 100000 in
theorem l_ar36 (g : GG) : LOK Yt (PSt g) t_ar36 := by
  intro ρ α Γ M as hT hB hA hP
  have g0 : Γ (α 0) = 40 := tyAt hA (i := 0) rfl
  have key : (Γ (α 0) = 40 ∧ tyO Γ M (α 0) [(22, 51, [])] ∧ True) ∧ True := by
    try simp only [Int.add_zero]
    exact ⟨⟨g0, tyO_of hT g0 (by decide) (by decide), trivial⟩, trivial⟩
  exact ⟨nB, qB (key.1) (nB)⟩
def t_ar30 : KT := ((0, 0, 0, 0), [(2, 0, 40, 0), (1, 1, 0, 0)], [(0, 0), (0, 0)], [(36, [(2, 0, 40, 0)])], (0, 0, 0), [], [], ([], [(30, [(2, 0, 40, 0), (1, 1, 0, 0)])]), ([], []))
set_option maxRecDepth 100000 in
theorem l_ar30 (g : GG) : LOK Yt (PSt g) t_ar30 := by
  intro ρ α Γ M as hT hB hA hP
  have g0 : Γ (α 0) = 40 := tyAt hA (i := 0) rfl
  have b1 : 0 ≤ ρ 1 ∧ ρ 1 ≤ 0 := hB 1
  have h0 : Γ (α 0) = 40 ∧ tyO Γ M (α 0) [(22, 51, [])] ∧ True ∧ mu36 (vw M (α 0) 22 [])  ≤ g.2.2 := hP _ (List.mem_of_getElem? (i := 0) rfl)
  try simp only [Int.add_zero] at h0
  have key : (Γ (α 0) = 40 ∧ tyO Γ M (α 0) [(22, 51, [(0, 144)])] ∧ True ∧ mu30 (vw M (α 0) 22 [(0, 144)]) (ρ 1 + 0) ≤ g.2.2) ∧ True := by
    try simp only [Int.add_zero]
    have hg : 30000 ≤ g.2.2 := h0.2.2.2
    have hs := sumR_ub (f := (clp [(0, 144)] (M.2.2.2.2 (fl M (α 0) 22)))) (n := 144) (fun j hj => (ar_bd hT g0 j hj).2)
    refine ⟨⟨g0, tyO_of hT g0 (by decide) (by decide), trivial, ?_⟩, trivial⟩
    show (sumR (clp [(0, 144)] (M.2.2.2.2 (fl M (α 0) 22))) 144 + ρ 1).toNat ≤ g.2.2
    omega
  exact ⟨nB, qB (key.1) (nB)⟩
def t_wb0 : KT := ((0, 0, 0, 0), [(2, 0, 40, 0), (1, 1, 0, 0), (1, 2, 0, 0), (1, 3, 0, 0)], [(0, 0), (-2147483648, 2147483647), (0, 396), (-2147483648, 2147483647)], [(456, [(2, 0, 40, 0), (1, 2, 0, 0)]), (10, [(2, 0, 40, 0), (0, 0, 0, 16), (1, 1, 0, 0)]), (473, [(2, 0, 40, 0), (1, 2, 0, 0)]), (472, [(1, 3, 0, 0), (1, 2, 0, 0)])], (0, 0, 0), [], [], ([(1, 0, 396)], [(473, [(2, 0, 40, 0), (1, 1, 0, 0)]), (472, [(1, 3, 0, 0), (1, 1, 0, 0)]), (476, [(1, 1, 0, 0), (1, 2, 0, 0)])]), ([], []))
set_option maxRecDepth 100000 in
theorem l_wb0 (g : GG) : LOK Yt (PSt g) t_wb0 := by
  intro ρ α Γ M as hT hB hA hP
  have g0 : Γ (α 0) = 40 := tyAt hA (i := 0) rfl
  have b1 : -2147483648 ≤ ρ 1 ∧ ρ 1 ≤ 2147483647 := hB 1
  have b2 : 0 ≤ ρ 2 ∧ ρ 2 ≤ 396 := hB 2
  have b3 : -2147483648 ≤ ρ 3 ∧ ρ 3 ≤ 2147483647 := hB 3
  have h0 : Γ (α 0) = 40 ∧ tyO Γ M (α 0) [] ∧ Q456 g  (clp [(16, 17)] (M.2.2.2.2 (α 0))) (ρ 2 + 0) := hP _ (List.mem_of_getElem? (i := 0) rfl)
  have h1 : 0 ≤ (16 : Int) ∧ M.2.2.2.2 (α 0) (16 : Int).toNat = ρ 1 + 0 := hP _ (List.mem_of_getElem? (i := 1) rfl)
  have h2 : Γ (α 0) = 40 ∧ tyO Γ M (α 0) [(15, 48, [(0, 400)])] ∧ Q473 g (vw M (α 0) 15 [(0, 400)]) (clp [] (M.2.2.2.2 (α 0))) (ρ 2 + 0) := hP _ (List.mem_of_getElem? (i := 2) rfl)
  have h3 : 0 ≤ (ρ 2 + 0 : Int) ∧ ∀ r : Nat, r < 4 → tqB g ((ρ 2 + 0 : Int).toNat + r) = aNd (sHr (ρ 3 + 0) (24 - 8 * (r : Int))) 255 := hP _ (List.mem_of_getElem? (i := 3) rfl)
  try simp only [Int.add_zero] at h0 h1 h2 h3
  have key : (0 ≤ ρ 1 ∧ ρ 1 ≤ 396) ∧ (Γ (α 0) = 40 ∧ tyO Γ M (α 0) [(15, 48, [(0, 400)])] ∧ Q473 g (vw M (α 0) 15 [(0, 400)]) (clp [] (M.2.2.2.2 (α 0))) (ρ 1 + 0)) ∧ (0 ≤ (ρ 1 + 0 : Int) ∧ ∀ r : Nat, r < 4 → tqB g ((ρ 1 + 0 : Int).toNat + r) = aNd (sHr (ρ 3 + 0) (24 - 8 * (r : Int))) 255) ∧ ((ρ 1 + 0 : Int) = ρ 2 + 0) ∧ True := by
    try simp only [Int.add_zero]
    obtain ⟨-, -, q⟩ := h0
    have q : M.2.2.2.2 (α 0) 16 = ρ 2 := q
    have e : M.2.2.2.2 (α 0) 16 = ρ 1 := h1.2
    have ew : ρ 1 = ρ 2 := by omega
    rw [ew]
    exact ⟨⟨by omega, by omega⟩, h2, h3, rfl, trivial⟩
  exact ⟨qB (key.1) (nB), qB (key.2.1) (qB (key.2.2.1) (qB (key.2.2.2.1) (nB)))⟩
def t_wb1_0 : KT := ((0, 0, 0, 0), [(2, 0, 40, 0), (2, 1, 48, 0), (1, 2, 0, 0), (1, 3, 0, 0), (1, 4, 0, 0), (1, 5, 0, 0)], [(0, 0), (0, 0), (-2147483648, 2147483647), (-2147483648, 2147483647), (-2147483648, 2147483647), (-2147483648, 2147483647)], [(473, [(2, 0, 40, 0), (1, 2, 0, 0)]), (11, [(2, 0, 40, 0), (0, 0, 0, 15), (2, 1, 48, 0)]), (472, [(1, 3, 0, 0), (1, 2, 0, 0)]), (81, [(1, 3, 0, 0), (0, 0, 0, 24), (1, 4, 0, 0)]), (82, [(1, 4, 0, 0), (0, 0, 0, 255), (1, 5, 0, 0)])], (0, 0, 0), [], [], ([], [(297, [(2, 1, 48, 0), (1, 2, 0, 0), (2, 0, 40, 0)]), (475, [(1, 5, 0, 0), (1, 2, 0, 0)])]), ([], []))
set_option maxRecDepth 100000 in
theorem l_wb1_0 (g : GG) : LOK Yt (PSt g) t_wb1_0 := by
  intro ρ α Γ M as hT hB hA hP
  have g0 : Γ (α 0) = 40 := tyAt hA (i := 0) rfl
  have g1 : Γ (α 1) = 48 := tyAt hA (i := 1) rfl
  have b2 : -2147483648 ≤ ρ 2 ∧ ρ 2 ≤ 2147483647 := hB 2
  have b3 : -2147483648 ≤ ρ 3 ∧ ρ 3 ≤ 2147483647 := hB 3
  have b4 : -2147483648 ≤ ρ 4 ∧ ρ 4 ≤ 2147483647 := hB 4
  have b5 : -2147483648 ≤ ρ 5 ∧ ρ 5 ≤ 2147483647 := hB 5
  have h0 : Γ (α 0) = 40 ∧ tyO Γ M (α 0) [(15, 48, [(0, 400)])] ∧ Q473 g (vw M (α 0) 15 [(0, 400)]) (clp [] (M.2.2.2.2 (α 0))) (ρ 2 + 0) := hP _ (List.mem_of_getElem? (i := 0) rfl)
  have h1 : 0 ≤ (15 : Int) ∧ M.2.2.2.1 (α 0) (15 : Int).toNat = some (α 1) := hP _ (List.mem_of_getElem? (i := 1) rfl)
  have h2 : 0 ≤ (ρ 2 + 0 : Int) ∧ ∀ r : Nat, r < 4 → tqB g ((ρ 2 + 0 : Int).toNat + r) = aNd (sHr (ρ 3 + 0) (24 - 8 * (r : Int))) 255 := hP _ (List.mem_of_getElem? (i := 2) rfl)
  have h3 : ρ 4 + 0 = sHr (ρ 3 + 0) (24) := hP _ (List.mem_of_getElem? (i := 3) rfl)
  have h4 : ρ 5 + 0 = aNd (ρ 4 + 0) (255) := hP _ (List.mem_of_getElem? (i := 4) rfl)
  try simp only [Int.add_zero] at h0 h1 h2 h3 h4
  have key : (Γ (α 0) = 40 ∧ M.2.2.2.1 (α 0) 15 = some (α 1) ∧ Γ (α 1) = 48 ∧ tyO Γ M (α 0) [] ∧ Q297 g (hcl [vi (ρ 2 + 0)] (clp [(0, 400)] (M.2.2.2.2 (α 1))))  (clp [] (M.2.2.2.2 (α 0))) (ρ 2 + 0)) ∧ (0 ≤ (ρ 2 + 0 : Int) ∧ ρ 5 + 0 = tqB g (ρ 2 + 0 : Int).toNat) ∧ True := by
    try simp only [Int.add_zero]
    have e3 : fl M (α 0) 15 = α 1 := fl_eq (show M.2.2.2.1 (α 0) 15 = some (α 1) from h1.2)
    obtain ⟨-, -, h⟩ := h0
    have h : ∀ j : Nat, (j : Int) < ρ 2 → clp [(0, 400)] (M.2.2.2.2 (fl M (α 0) 15)) j = tqB g j := h
    rw [e3] at h
    obtain ⟨h20, h2⟩ := h2
    refine ⟨⟨g0, h1.2, g1, fun _ h => absurd h List.not_mem_nil, fun j hj => ?_⟩, ⟨by omega, ?_⟩, trivial⟩
    · rw [hcl1 (by omega)]
      exact h j hj
    · have x : tqB g ((ρ 2).toNat + 0) = aNd (sHr (ρ 3) 24) 255 := h2 0 (by decide)
      rw [h4, h3, show (ρ 2).toNat = (ρ 2).toNat + 0 by omega, x]
  exact ⟨nB, qB (key.1) (qB (key.2.1) (nB))⟩
def t_wb1_1 : KT := ((0, 0, 0, 0), [(2, 0, 40, 0), (2, 1, 48, 0), (1, 2, 0, 0), (1, 3, 0, 0), (1, 4, 0, 0), (1, 5, 0, 0)], [(0, 0), (0, 0), (-2147483648, 2147483647), (-2147483648, 2147483647), (-2147483648, 2147483647), (-2147483648, 2147483647)], [(473, [(2, 0, 40, 0), (1, 2, 0, 1)]), (11, [(2, 0, 40, 0), (0, 0, 0, 15), (2, 1, 48, 0)]), (472, [(1, 3, 0, 0), (1, 2, 0, 0)]), (81, [(1, 3, 0, 0), (0, 0, 0, 16), (1, 4, 0, 0)]), (82, [(1, 4, 0, 0), (0, 0, 0, 255), (1, 5, 0, 0)])], (0, 0, 0), [], [], ([], [(297, [(2, 1, 48, 0), (1, 2, 0, 1), (2, 0, 40, 0)]), (475, [(1, 5, 0, 0), (1, 2, 0, 1)])]), ([], []))
set_option maxRecDepth 100000 in
theorem l_wb1_1 (g : GG) : LOK Yt (PSt g) t_wb1_1 := by
  intro ρ α Γ M as hT hB hA hP
  have g0 : Γ (α 0) = 40 := tyAt hA (i := 0) rfl
  have g1 : Γ (α 1) = 48 := tyAt hA (i := 1) rfl
  have b2 : -2147483648 ≤ ρ 2 ∧ ρ 2 ≤ 2147483647 := hB 2
  have b3 : -2147483648 ≤ ρ 3 ∧ ρ 3 ≤ 2147483647 := hB 3
  have b4 : -2147483648 ≤ ρ 4 ∧ ρ 4 ≤ 2147483647 := hB 4
  have b5 : -2147483648 ≤ ρ 5 ∧ ρ 5 ≤ 2147483647 := hB 5
  have h0 : Γ (α 0) = 40 ∧ tyO Γ M (α 0) [(15, 48, [(0, 400)])] ∧ Q473 g (vw M (α 0) 15 [(0, 400)]) (clp [] (M.2.2.2.2 (α 0))) (ρ 2 + 1) := hP _ (List.mem_of_getElem? (i := 0) rfl)
  have h1 : 0 ≤ (15 : Int) ∧ M.2.2.2.1 (α 0) (15 : Int).toNat = some (α 1) := hP _ (List.mem_of_getElem? (i := 1) rfl)
  have h2 : 0 ≤ (ρ 2 + 0 : Int) ∧ ∀ r : Nat, r < 4 → tqB g ((ρ 2 + 0 : Int).toNat + r) = aNd (sHr (ρ 3 + 0) (24 - 8 * (r : Int))) 255 := hP _ (List.mem_of_getElem? (i := 2) rfl)
  have h3 : ρ 4 + 0 = sHr (ρ 3 + 0) (16) := hP _ (List.mem_of_getElem? (i := 3) rfl)
  have h4 : ρ 5 + 0 = aNd (ρ 4 + 0) (255) := hP _ (List.mem_of_getElem? (i := 4) rfl)
  try simp only [Int.add_zero] at h0 h1 h2 h3 h4
  have key : (Γ (α 0) = 40 ∧ M.2.2.2.1 (α 0) 15 = some (α 1) ∧ Γ (α 1) = 48 ∧ tyO Γ M (α 0) [] ∧ Q297 g (hcl [vi (ρ 2 + 1)] (clp [(0, 400)] (M.2.2.2.2 (α 1))))  (clp [] (M.2.2.2.2 (α 0))) (ρ 2 + 1)) ∧ (0 ≤ (ρ 2 + 1 : Int) ∧ ρ 5 + 0 = tqB g (ρ 2 + 1 : Int).toNat) ∧ True := by
    try simp only [Int.add_zero]
    have e3 : fl M (α 0) 15 = α 1 := fl_eq (show M.2.2.2.1 (α 0) 15 = some (α 1) from h1.2)
    obtain ⟨-, -, h⟩ := h0
    have h : ∀ j : Nat, (j : Int) < ρ 2 + 1 → clp [(0, 400)] (M.2.2.2.2 (fl M (α 0) 15)) j = tqB g j := h
    rw [e3] at h
    obtain ⟨h20, h2⟩ := h2
    refine ⟨⟨g0, h1.2, g1, fun _ h => absurd h List.not_mem_nil, fun j hj => ?_⟩, ⟨by omega, ?_⟩, trivial⟩
    · rw [hcl1 (by omega)]
      exact h j hj
    · have x : tqB g ((ρ 2).toNat + 1) = aNd (sHr (ρ 3) 16) 255 := h2 1 (by decide)
      rw [h4, h3, show (ρ 2 + 1).toNat = (ρ 2).toNat + 1 by omega, x]
  exact ⟨nB, qB (key.1) (qB (key.2.1) (nB))⟩
def t_wb1_2 : KT := ((0, 0, 0, 0), [(2, 0, 40, 0), (2, 1, 48, 0), (1, 2, 0, 0), (1, 3, 0, 0), (1, 4, 0, 0), (1, 5, 0, 0)], [(0, 0), (0, 0), (-2147483648, 2147483647), (-2147483648, 2147483647), (-2147483648, 2147483647), (-2147483648, 2147483647)], [(473, [(2, 0, 40, 0), (1, 2, 0, 2)]), (11, [(2, 0, 40, 0), (0, 0, 0, 15), (2, 1, 48, 0)]), (472, [(1, 3, 0, 0), (1, 2, 0, 0)]), (81, [(1, 3, 0, 0), (0, 0, 0, 8), (1, 4, 0, 0)]), (82, [(1, 4, 0, 0), (0, 0, 0, 255), (1, 5, 0, 0)])], (0, 0, 0), [], [], ([], [(297, [(2, 1, 48, 0), (1, 2, 0, 2), (2, 0, 40, 0)]), (475, [(1, 5, 0, 0), (1, 2, 0, 2)])]), ([], []))
set_option maxRecDepth 100000 in
theorem l_wb1_2 (g : GG) : LOK Yt (PSt g) t_wb1_2 := by
  intro ρ α Γ M as hT hB hA hP
  have g0 : Γ (α 0) = 40 := tyAt hA (i := 0) rfl
  have g1 : Γ (α 1) = 48 := tyAt hA (i := 1) rfl
  have b2 : -2147483648 ≤ ρ 2 ∧ ρ 2 ≤ 2147483647 := hB 2
  have b3 : -2147483648 ≤ ρ 3 ∧ ρ 3 ≤ 2147483647 := hB 3
  have b4 : -2147483648 ≤ ρ 4 ∧ ρ 4 ≤ 2147483647 := hB 4
  have b5 : -2147483648 ≤ ρ 5 ∧ ρ 5 ≤ 2147483647 := hB 5
  have h0 : Γ (α 0) = 40 ∧ tyO Γ M (α 0) [(15, 48, [(0, 400)])] ∧ Q473 g (vw M (α 0) 15 [(0, 400)]) (clp [] (M.2.2.2.2 (α 0))) (ρ 2 + 2) := hP _ (List.mem_of_getElem? (i := 0) rfl)
  have h1 : 0 ≤ (15 : Int) ∧ M.2.2.2.1 (α 0) (15 : Int).toNat = some (α 1) := hP _ (List.mem_of_getElem? (i := 1) rfl)
  have h2 : 0 ≤ (ρ 2 + 0 : Int) ∧ ∀ r : Nat, r < 4 → tqB g ((ρ 2 + 0 : Int).toNat + r) = aNd (sHr (ρ 3 + 0) (24 - 8 * (r : Int))) 255 := hP _ (List.mem_of_getElem? (i := 2) rfl)
  have h3 : ρ 4 + 0 = sHr (ρ 3 + 0) (8) := hP _ (List.mem_of_getElem? (i := 3) rfl)
  have h4 : ρ 5 + 0 = aNd (ρ 4 + 0) (255) := hP _ (List.mem_of_getElem? (i := 4) rfl)
  try simp only [Int.add_zero] at h0 h1 h2 h3 h4
  have key : (Γ (α 0) = 40 ∧ M.2.2.2.1 (α 0) 15 = some (α 1) ∧ Γ (α 1) = 48 ∧ tyO Γ M (α 0) [] ∧ Q297 g (hcl [vi (ρ 2 + 2)] (clp [(0, 400)] (M.2.2.2.2 (α 1))))  (clp [] (M.2.2.2.2 (α 0))) (ρ 2 + 2)) ∧ (0 ≤ (ρ 2 + 2 : Int) ∧ ρ 5 + 0 = tqB g (ρ 2 + 2 : Int).toNat) ∧ True := by
    try simp only [Int.add_zero]
    have e3 : fl M (α 0) 15 = α 1 := fl_eq (show M.2.2.2.1 (α 0) 15 = some (α 1) from h1.2)
    obtain ⟨-, -, h⟩ := h0
    have h : ∀ j : Nat, (j : Int) < ρ 2 + 2 → clp [(0, 400)] (M.2.2.2.2 (fl M (α 0) 15)) j = tqB g j := h
    rw [e3] at h
    obtain ⟨h20, h2⟩ := h2
    refine ⟨⟨g0, h1.2, g1, fun _ h => absurd h List.not_mem_nil, fun j hj => ?_⟩, ⟨by omega, ?_⟩, trivial⟩
    · rw [hcl1 (by omega)]
      exact h j hj
    · have x : tqB g ((ρ 2).toNat + 2) = aNd (sHr (ρ 3) 8) 255 := h2 2 (by decide)
      rw [h4, h3, show (ρ 2 + 2).toNat = (ρ 2).toNat + 2 by omega, x]
  exact ⟨nB, qB (key.1) (qB (key.2.1) (nB))⟩
def t_wb1_3 : KT := ((0, 0, 0, 0), [(2, 0, 40, 0), (2, 1, 48, 0), (1, 2, 0, 0), (1, 3, 0, 0), (1, 4, 0, 0), (1, 5, 0, 0)], [(0, 0), (0, 0), (-2147483648, 2147483647), (-2147483648, 2147483647), (-2147483648, 2147483647), (-2147483648, 2147483647)], [(473, [(2, 0, 40, 0), (1, 2, 0, 3)]), (11, [(2, 0, 40, 0), (0, 0, 0, 15), (2, 1, 48, 0)]), (472, [(1, 3, 0, 0), (1, 2, 0, 0)]), (81, [(1, 3, 0, 0), (0, 0, 0, 0), (1, 4, 0, 0)]), (82, [(1, 4, 0, 0), (0, 0, 0, 255), (1, 5, 0, 0)])], (0, 0, 0), [], [], ([], [(297, [(2, 1, 48, 0), (1, 2, 0, 3), (2, 0, 40, 0)]), (475, [(1, 5, 0, 0), (1, 2, 0, 3)])]), ([], []))
set_option maxRecDepth 100000 in
theorem l_wb1_3 (g : GG) : LOK Yt (PSt g) t_wb1_3 := by
  intro ρ α Γ M as hT hB hA hP
  have g0 : Γ (α 0) = 40 := tyAt hA (i := 0) rfl
  have g1 : Γ (α 1) = 48 := tyAt hA (i := 1) rfl
  have b2 : -2147483648 ≤ ρ 2 ∧ ρ 2 ≤ 2147483647 := hB 2
  have b3 : -2147483648 ≤ ρ 3 ∧ ρ 3 ≤ 2147483647 := hB 3
  have b4 : -2147483648 ≤ ρ 4 ∧ ρ 4 ≤ 2147483647 := hB 4
  have b5 : -2147483648 ≤ ρ 5 ∧ ρ 5 ≤ 2147483647 := hB 5
  have h0 : Γ (α 0) = 40 ∧ tyO Γ M (α 0) [(15, 48, [(0, 400)])] ∧ Q473 g (vw M (α 0) 15 [(0, 400)]) (clp [] (M.2.2.2.2 (α 0))) (ρ 2 + 3) := hP _ (List.mem_of_getElem? (i := 0) rfl)
  have h1 : 0 ≤ (15 : Int) ∧ M.2.2.2.1 (α 0) (15 : Int).toNat = some (α 1) := hP _ (List.mem_of_getElem? (i := 1) rfl)
  have h2 : 0 ≤ (ρ 2 + 0 : Int) ∧ ∀ r : Nat, r < 4 → tqB g ((ρ 2 + 0 : Int).toNat + r) = aNd (sHr (ρ 3 + 0) (24 - 8 * (r : Int))) 255 := hP _ (List.mem_of_getElem? (i := 2) rfl)
  have h3 : ρ 4 + 0 = sHr (ρ 3 + 0) (0) := hP _ (List.mem_of_getElem? (i := 3) rfl)
  have h4 : ρ 5 + 0 = aNd (ρ 4 + 0) (255) := hP _ (List.mem_of_getElem? (i := 4) rfl)
  try simp only [Int.add_zero] at h0 h1 h2 h3 h4
  have key : (Γ (α 0) = 40 ∧ M.2.2.2.1 (α 0) 15 = some (α 1) ∧ Γ (α 1) = 48 ∧ tyO Γ M (α 0) [] ∧ Q297 g (hcl [vi (ρ 2 + 3)] (clp [(0, 400)] (M.2.2.2.2 (α 1))))  (clp [] (M.2.2.2.2 (α 0))) (ρ 2 + 3)) ∧ (0 ≤ (ρ 2 + 3 : Int) ∧ ρ 5 + 0 = tqB g (ρ 2 + 3 : Int).toNat) ∧ True := by
    try simp only [Int.add_zero]
    have e3 : fl M (α 0) 15 = α 1 := fl_eq (show M.2.2.2.1 (α 0) 15 = some (α 1) from h1.2)
    obtain ⟨-, -, h⟩ := h0
    have h : ∀ j : Nat, (j : Int) < ρ 2 + 3 → clp [(0, 400)] (M.2.2.2.2 (fl M (α 0) 15)) j = tqB g j := h
    rw [e3] at h
    obtain ⟨h20, h2⟩ := h2
    refine ⟨⟨g0, h1.2, g1, fun _ h => absurd h List.not_mem_nil, fun j hj => ?_⟩, ⟨by omega, ?_⟩, trivial⟩
    · rw [hcl1 (by omega)]
      exact h j hj
    · have x : tqB g ((ρ 2).toNat + 3) = aNd (sHr (ρ 3) 0) 255 := h2 3 (by decide)
      rw [h4, h3, show (ρ 2 + 3).toNat = (ρ 2).toNat + 3 by omega, x]
  exact ⟨nB, qB (key.1) (qB (key.2.1) (nB))⟩
def t_wb2 : KT := ((0, 0, 0, 0), [(2, 0, 40, 0), (2, 1, 48, 0), (1, 2, 0, 0), (1, 3, 0, 0)], [(0, 0), (0, 0), (0, 399), (-2147483648, 2147483647)], [(297, [(2, 1, 48, 0), (1, 2, 0, 0), (2, 0, 40, 0)]), (10, [(2, 1, 48, 0), (1, 2, 0, 0), (1, 3, 0, 0)]), (475, [(1, 3, 0, 0), (1, 2, 0, 0)])], (0, 0, 0), [], [], ([], [(473, [(2, 0, 40, 0), (1, 2, 0, 1)])]), ([], []))
set_option maxRecDepth 100000 in
theorem l_wb2 (g : GG) : LOK Yt (PSt g) t_wb2 := by
  intro ρ α Γ M as hT hB hA hP
  have g0 : Γ (α 0) = 40 := tyAt hA (i := 0) rfl
  have g1 : Γ (α 1) = 48 := tyAt hA (i := 1) rfl
  have b2 : 0 ≤ ρ 2 ∧ ρ 2 ≤ 399 := hB 2
  have b3 : -2147483648 ≤ ρ 3 ∧ ρ 3 ≤ 2147483647 := hB 3
  have h0 : Γ (α 0) = 40 ∧ M.2.2.2.1 (α 0) 15 = some (α 1) ∧ Γ (α 1) = 48 ∧ tyO Γ M (α 0) [] ∧ Q297 g (hcl [vi (ρ 2 + 0)] (clp [(0, 400)] (M.2.2.2.2 (α 1))))  (clp [] (M.2.2.2.2 (α 0))) (ρ 2 + 0) := hP _ (List.mem_of_getElem? (i := 0) rfl)
  have h1 : 0 ≤ (ρ 2 + 0 : Int) ∧ M.2.2.2.2 (α 1) (ρ 2 + 0 : Int).toNat = ρ 3 + 0 := hP _ (List.mem_of_getElem? (i := 1) rfl)
  have h2 : 0 ≤ (ρ 2 + 0 : Int) ∧ ρ 3 + 0 = tqB g (ρ 2 + 0 : Int).toNat := hP _ (List.mem_of_getElem? (i := 2) rfl)
  try simp only [Int.add_zero] at h0 h1 h2
  have key : (Γ (α 0) = 40 ∧ tyO Γ M (α 0) [(15, 48, [(0, 400)])] ∧ Q473 g (vw M (α 0) 15 [(0, 400)]) (clp [] (M.2.2.2.2 (α 0))) (ρ 2 + 1)) ∧ True := by
    try simp only [Int.add_zero]
    obtain ⟨-, hr, -, -, h⟩ := h0
    have h : ∀ j : Nat, (j : Int) < ρ 2 → hcl [vi (ρ 2)] (clp [(0, 400)] (M.2.2.2.2 (α 1))) j = tqB g j := h
    have e3 : fl M (α 0) 15 = α 1 := fl_eq hr
    refine ⟨⟨g0, tyO_of hT g0 (by decide) (by decide), fun j hj => ?_⟩, trivial⟩
    show clp [(0, 400)] (M.2.2.2.2 (fl M (α 0) 15)) j = tqB g j
    rw [e3]
    by_cases hc : (j : Int) < ρ 2
    · have := h j hc
      rw [hcl1 (by omega)] at this
      exact this
    · have ej : j = (ρ 2).toNat := by omega
      rw [ej, cAll (by omega), h1.2]
      exact h2.2
  exact ⟨nB, qB (key.1) (nB)⟩
def t_wb3 : KT := ((0, 0, 0, 0), [(2, 0, 40, 0), (1, 1, 0, 0), (1, 2, 0, 0)], [(0, 0), (-2147483648, 2147483647), (0, 396)], [(10, [(2, 0, 40, 0), (0, 0, 0, 16), (1, 1, 0, 4)]), (476, [(1, 1, 0, 0), (1, 2, 0, 0)]), (473, [(2, 0, 40, 0), (1, 1, 0, 4)])], (0, 0, 0), [], [], ([], [(456, [(2, 0, 40, 0), (1, 2, 0, 4)]), (473, [(2, 0, 40, 0), (1, 2, 0, 4)])]), ([], []))
set_option maxRecDepth 100000 in
theorem l_wb3 (g : GG) : LOK Yt (PSt g) t_wb3 := by
  intro ρ α Γ M as hT hB hA hP
  have g0 : Γ (α 0) = 40 := tyAt hA (i := 0) rfl
  have b1 : -2147483648 ≤ ρ 1 ∧ ρ 1 ≤ 2147483647 := hB 1
  have b2 : 0 ≤ ρ 2 ∧ ρ 2 ≤ 396 := hB 2
  have h0 : 0 ≤ (16 : Int) ∧ M.2.2.2.2 (α 0) (16 : Int).toNat = ρ 1 + 4 := hP _ (List.mem_of_getElem? (i := 0) rfl)
  have h1 : (ρ 1 + 0 : Int) = ρ 2 + 0 := hP _ (List.mem_of_getElem? (i := 1) rfl)
  have h2 : Γ (α 0) = 40 ∧ tyO Γ M (α 0) [(15, 48, [(0, 400)])] ∧ Q473 g (vw M (α 0) 15 [(0, 400)]) (clp [] (M.2.2.2.2 (α 0))) (ρ 1 + 4) := hP _ (List.mem_of_getElem? (i := 2) rfl)
  try simp only [Int.add_zero] at h0 h1 h2
  have key : (Γ (α 0) = 40 ∧ tyO Γ M (α 0) [] ∧ Q456 g  (clp [(16, 17)] (M.2.2.2.2 (α 0))) (ρ 2 + 4)) ∧ (Γ (α 0) = 40 ∧ tyO Γ M (α 0) [(15, 48, [(0, 400)])] ∧ Q473 g (vw M (α 0) 15 [(0, 400)]) (clp [] (M.2.2.2.2 (α 0))) (ρ 2 + 4)) ∧ True := by
    try simp only [Int.add_zero]
    have e : M.2.2.2.2 (α 0) 16 = ρ 1 + 4 := h0.2
    rw [h1] at e h2
    exact ⟨⟨g0, fun _ h => absurd h List.not_mem_nil, e⟩, h2, trivial⟩
  exact ⟨nB, qB (key.1) (qB (key.2.1) (nB))⟩
def t_wfe0 : KT := ((0, 0, 0, 0), [(2, 0, 40, 0), (1, 1, 0, 0), (1, 2, 0, 0)], [(0, 0), (-2147483648, 2147483647), (0, 400)], [(479, [(2, 0, 40, 0), (1, 2, 0, 0)]), (10, [(2, 0, 40, 0), (0, 0, 0, 16), (1, 1, 0, 0)])], (0, 0, 0), [], [], ([], [(476, [(1, 1, 0, 0), (1, 2, 0, 0)])]), ([], []))
set_option maxRecDepth 100000 in
theorem l_wfe0 (g : GG) : LOK Yt (PSt g) t_wfe0 := by
  intro ρ α Γ M as hT hB hA hP
  have g0 : Γ (α 0) = 40 := tyAt hA (i := 0) rfl
  have b1 : -2147483648 ≤ ρ 1 ∧ ρ 1 ≤ 2147483647 := hB 1
  have b2 : 0 ≤ ρ 2 ∧ ρ 2 ≤ 400 := hB 2
  have h0 : Γ (α 0) = 40 ∧ tyO Γ M (α 0) [(15, 48, [(0, 400)])] ∧ Q479 g (vw M (α 0) 15 [(0, 400)]) (clp [(16, 17)] (M.2.2.2.2 (α 0))) (ρ 2 + 0) := hP _ (List.mem_of_getElem? (i := 0) rfl)
  have h1 : 0 ≤ (16 : Int) ∧ M.2.2.2.2 (α 0) (16 : Int).toNat = ρ 1 + 0 := hP _ (List.mem_of_getElem? (i := 1) rfl)
  try simp only [Int.add_zero] at h0 h1
  have key : ((ρ 1 + 0 : Int) = ρ 2 + 0) ∧ True := by
    try simp only [Int.add_zero]
    obtain ⟨-, -, q, -⟩ := h0
    have q : M.2.2.2.2 (α 0) 16 = ρ 2 := q
    have e : M.2.2.2.2 (α 0) 16 = ρ 1 := h1.2
    exact ⟨by omega, trivial⟩
  exact ⟨nB, qB (key.1) (nB)⟩
def t_wfe1 : KT := ((0, 0, 0, 0), [(2, 0, 40, 0), (1, 1, 0, 0), (1, 2, 0, 0)], [(0, 0), (381, 400), (0, 400)], [(476, [(1, 1, 0, 0), (1, 2, 0, 0)]), (479, [(2, 0, 40, 0), (1, 2, 0, 0)])], (0, 0, 0), [], [], ([], [(477, [(0, 0, 0, -1), (1, 2, 0, 0)]), (480, [(2, 0, 40, 0), (1, 2, 0, 0)])]), ([], []))
set_option maxRecDepth 100000 in
theorem l_wfe1 (g : GG) : LOK Yt (PSt g) t_wfe1 := by
  intro ρ α Γ M as hT hB hA hP
  have g0 : Γ (α 0) = 40 := tyAt hA (i := 0) rfl
  have b1 : 381 ≤ ρ 1 ∧ ρ 1 ≤ 400 := hB 1
  have b2 : 0 ≤ ρ 2 ∧ ρ 2 ≤ 400 := hB 2
  have h0 : (ρ 1 + 0 : Int) = ρ 2 + 0 := hP _ (List.mem_of_getElem? (i := 0) rfl)
  have h1 : Γ (α 0) = 40 ∧ tyO Γ M (α 0) [(15, 48, [(0, 400)])] ∧ Q479 g (vw M (α 0) 15 [(0, 400)]) (clp [(16, 17)] (M.2.2.2.2 (α 0))) (ρ 2 + 0) := hP _ (List.mem_of_getElem? (i := 1) rfl)
  try simp only [Int.add_zero] at h0 h1
  have key : (((-1) : Int) = fedR (ρ 2 + 0)) ∧ (Γ (α 0) = 40 ∧ tyO Γ M (α 0) [(15, 48, [(0, 400)])] ∧ Q480 g (vw M (α 0) 15 [(0, 400)]) (clp [(16, 17)] (M.2.2.2.2 (α 0))) (ρ 2 + 0)) ∧ True := by
    try simp only [Int.add_zero]
    have hl : ¬ ρ 2 ≤ 380 := by omega
    have eR : fedR (ρ 2) = -1 := if_neg hl
    have eL : fedL (ρ 2) = ρ 2 := if_neg hl
    obtain ⟨x1, x2, x3, x4⟩ := h1
    rw [eR]
    refine ⟨rfl, ⟨x1, x2, ?_⟩, trivial⟩
    show _ = fedL (ρ 2) ∧ ∀ j : Nat, (j : Int) < fedL (ρ 2) → _
    rw [eL]
    exact ⟨x3, x4⟩
  exact ⟨nB, qB (key.1) (qB (key.2.1) (nB))⟩
def t_wfe2 : KT := ((0, 0, 0, 0), [(2, 0, 40, 0), (1, 1, 0, 0), (1, 2, 0, 0)], [(0, 0), (0, 380), (0, 400)], [(476, [(1, 1, 0, 0), (1, 2, 0, 0)]), (479, [(2, 0, 40, 0), (1, 2, 0, 0)])], (0, 0, 0), [], [], ([(2, 0, 380)], [(456, [(2, 0, 40, 0), (1, 2, 0, 0)]), (473, [(2, 0, 40, 0), (1, 2, 0, 0)])]), ([], []))
set_option maxRecDepth 100000 in
theorem l_wfe2 (g : GG) : LOK Yt (PSt g) t_wfe2 := by
  intro ρ α Γ M as hT hB hA hP
  have g0 : Γ (α 0) = 40 := tyAt hA (i := 0) rfl
  have b1 : 0 ≤ ρ 1 ∧ ρ 1 ≤ 380 := hB 1
  have b2 : 0 ≤ ρ 2 ∧ ρ 2 ≤ 400 := hB 2
  have h0 : (ρ 1 + 0 : Int) = ρ 2 + 0 := hP _ (List.mem_of_getElem? (i := 0) rfl)
  have h1 : Γ (α 0) = 40 ∧ tyO Γ M (α 0) [(15, 48, [(0, 400)])] ∧ Q479 g (vw M (α 0) 15 [(0, 400)]) (clp [(16, 17)] (M.2.2.2.2 (α 0))) (ρ 2 + 0) := hP _ (List.mem_of_getElem? (i := 1) rfl)
  try simp only [Int.add_zero] at h0 h1
  have key : (0 ≤ ρ 2 ∧ ρ 2 ≤ 380) ∧ (Γ (α 0) = 40 ∧ tyO Γ M (α 0) [] ∧ Q456 g  (clp [(16, 17)] (M.2.2.2.2 (α 0))) (ρ 2 + 0)) ∧ (Γ (α 0) = 40 ∧ tyO Γ M (α 0) [(15, 48, [(0, 400)])] ∧ Q473 g (vw M (α 0) 15 [(0, 400)]) (clp [] (M.2.2.2.2 (α 0))) (ρ 2 + 0)) ∧ True := by
    try simp only [Int.add_zero]
    obtain ⟨x1, x2, x3, x4⟩ := h1
    exact ⟨⟨by omega, by omega⟩, ⟨g0, fun _ h => absurd h List.not_mem_nil, x3⟩, ⟨g0, x2, x4⟩, trivial⟩
  exact ⟨qB (key.1) (nB), qB (key.2.1) (qB (key.2.2.1) (nB))⟩
def t_wfe3 : KT := ((0, 0, 0, 0), [(2, 0, 40, 0), (1, 1, 0, 0), (1, 2, 0, 0)], [(0, 0), (-2147483648, 2147483647), (0, 380)], [(456, [(2, 0, 40, 0), (1, 2, 0, 20)]), (473, [(2, 0, 40, 0), (1, 2, 0, 20)]), (10, [(2, 0, 40, 0), (0, 0, 0, 16), (1, 1, 0, 0)])], (0, 0, 0), [], [], ([], [(477, [(1, 1, 0, 0), (1, 2, 0, 0)]), (480, [(2, 0, 40, 0), (1, 2, 0, 0)])]), ([], []))
set_option maxRecDepth 100000 in
theorem l_wfe3 (g : GG) : LOK Yt (PSt g) t_wfe3 := by
  intro ρ α Γ M as hT hB hA hP
  have g0 : Γ (α 0) = 40 := tyAt hA (i := 0) rfl
  have b1 : -2147483648 ≤ ρ 1 ∧ ρ 1 ≤ 2147483647 := hB 1
  have b2 : 0 ≤ ρ 2 ∧ ρ 2 ≤ 380 := hB 2
  have h0 : Γ (α 0) = 40 ∧ tyO Γ M (α 0) [] ∧ Q456 g  (clp [(16, 17)] (M.2.2.2.2 (α 0))) (ρ 2 + 20) := hP _ (List.mem_of_getElem? (i := 0) rfl)
  have h1 : Γ (α 0) = 40 ∧ tyO Γ M (α 0) [(15, 48, [(0, 400)])] ∧ Q473 g (vw M (α 0) 15 [(0, 400)]) (clp [] (M.2.2.2.2 (α 0))) (ρ 2 + 20) := hP _ (List.mem_of_getElem? (i := 1) rfl)
  have h2 : 0 ≤ (16 : Int) ∧ M.2.2.2.2 (α 0) (16 : Int).toNat = ρ 1 + 0 := hP _ (List.mem_of_getElem? (i := 2) rfl)
  try simp only [Int.add_zero] at h0 h1 h2
  have key : ((ρ 1 + 0 : Int) = fedR (ρ 2 + 0)) ∧ (Γ (α 0) = 40 ∧ tyO Γ M (α 0) [(15, 48, [(0, 400)])] ∧ Q480 g (vw M (α 0) 15 [(0, 400)]) (clp [(16, 17)] (M.2.2.2.2 (α 0))) (ρ 2 + 0)) ∧ True := by
    try simp only [Int.add_zero]
    obtain ⟨-, -, q⟩ := h0
    obtain ⟨-, x2, x4⟩ := h1
    have q : M.2.2.2.2 (α 0) 16 = ρ 2 + 20 := q
    have e : M.2.2.2.2 (α 0) 16 = ρ 1 := h2.2
    have hl : ρ 2 ≤ 380 := by omega
    have eR : fedR (ρ 2) = ρ 2 + 20 := if_pos hl
    have eL : fedL (ρ 2) = ρ 2 + 20 := if_pos hl
    rw [eR]
    refine ⟨by omega, ⟨g0, x2, ?_⟩, trivial⟩
    show _ = fedL (ρ 2) ∧ ∀ j : Nat, (j : Int) < fedL (ρ 2) → _
    rw [eL]
    exact ⟨q, x4⟩
  exact ⟨nB, qB (key.1) (qB (key.2.1) (nB))⟩
def t_wii0 : KT := ((0, 0, 0, 0), [(1, 0, 0, 0), (1, 1, 0, 0)], [(-2147483648, -1), (-2147483648, 2147483647)], [], (0, 0, 0), [], [], ([], [(483, [(1, 0, 0, 0), (1, 1, 0, 0)])]), ([], []))
set_option maxRecDepth 100000 in
theorem l_wii0 (g : GG) : LOK Yt (PSt g) t_wii0 := by
  intro ρ α Γ M as hT hB hA hP
  have b0 : -2147483648 ≤ ρ 0 ∧ ρ 0 ≤ -1 := hB 0
  have b1 : -2147483648 ≤ ρ 1 ∧ ρ 1 ≤ 2147483647 := hB 1
  have key : ((ρ 0 + 0 : Int) < 0 ∨ (ρ 1 + 0 : Int) < ρ 0 + 0) ∧ True := by
    try simp only [Int.add_zero]
    exact ⟨Or.inl (by omega), trivial⟩
  exact ⟨nB, qB (key.1) (nB)⟩
def t_wii1 : KT := ((0, 0, 0, 0), [(1, 0, 0, 0), (1, 1, 0, 0)], [(-2147483648, 2147483647), (-2147483648, 2147483647)], [(21, [(1, 1, 0, 0), (1, 0, 0, 0)])], (0, 0, 0), [], [], ([], [(483, [(1, 0, 0, 0), (1, 1, 0, 0)])]), ([], []))
set_option maxRecDepth 100000 in
theorem l_wii1 (g : GG) : LOK Yt (PSt g) t_wii1 := by
  intro ρ α Γ M as hT hB hA hP
  have b0 : -2147483648 ≤ ρ 0 ∧ ρ 0 ≤ 2147483647 := hB 0
  have b1 : -2147483648 ≤ ρ 1 ∧ ρ 1 ≤ 2147483647 := hB 1
  have h0 : ρ 1 + 0 < ρ 0 + 0 := hP _ (List.mem_of_getElem? (i := 0) rfl)
  try simp only [Int.add_zero] at h0
  have key : ((ρ 0 + 0 : Int) < 0 ∨ (ρ 1 + 0 : Int) < ρ 0 + 0) ∧ True := by
    try simp only [Int.add_zero]
    exact ⟨Or.inr (by omega), trivial⟩
  exact ⟨nB, qB (key.1) (nB)⟩
def t_wii2 : KT := ((0, 0, 0, 0), [(1, 0, 0, 0), (1, 1, 0, 0)], [(0, 2147483647), (-2147483648, 2147483647)], [(6, [(1, 0, 0, 0), (1, 1, 0, 0)])], (0, 0, 0), [], [], ([], [(482, [(1, 0, 0, 0), (1, 1, 0, 0)])]), ([], []))
set_option maxRecDepth 100000 in
theorem l_wii2 (g : GG) : LOK Yt (PSt g) t_wii2 := by
  intro ρ α Γ M as hT hB hA hP
  have b0 : 0 ≤ ρ 0 ∧ ρ 0 ≤ 2147483647 := hB 0
  have b1 : -2147483648 ≤ ρ 1 ∧ ρ 1 ≤ 2147483647 := hB 1
  have h0 : ρ 0 + 0 ≤ ρ 1 + 0 := hP _ (List.mem_of_getElem? (i := 0) rfl)
  try simp only [Int.add_zero] at h0
  have key : (0 ≤ (ρ 0 + 0 : Int) ∧ (ρ 0 + 0 : Int) ≤ ρ 1 + 0) ∧ True := by
    try simp only [Int.add_zero]
    exact ⟨⟨by omega, by omega⟩, trivial⟩
  exact ⟨nB, qB (key.1) (nB)⟩
def t_wem1 : KT := ((0, 0, 0, 0), [(1, 0, 0, 0), (1, 1, 0, 0), (1, 2, 0, 0)], [(-2147483648, 2147483647), (-2147483648, 2147483647), (0, 400)], [(483, [(1, 0, 0, 0), (1, 1, 0, 0)]), (476, [(1, 1, 0, 0), (1, 2, 0, 0)])], (0, 0, 0), [], [], ([], [(483, [(1, 0, 0, 0), (1, 2, 0, 0)])]), ([], []))
set_option maxRecDepth 100000 in
theorem l_wem1 (g : GG) : LOK Yt (PSt g) t_wem1 := by
  intro ρ α Γ M as hT hB hA hP
  have b0 : -2147483648 ≤ ρ 0 ∧ ρ 0 ≤ 2147483647 := hB 0
  have b1 : -2147483648 ≤ ρ 1 ∧ ρ 1 ≤ 2147483647 := hB 1
  have b2 : 0 ≤ ρ 2 ∧ ρ 2 ≤ 400 := hB 2
  have h0 : (ρ 0 + 0 : Int) < 0 ∨ (ρ 1 + 0 : Int) < ρ 0 + 0 := hP _ (List.mem_of_getElem? (i := 0) rfl)
  have h1 : (ρ 1 + 0 : Int) = ρ 2 + 0 := hP _ (List.mem_of_getElem? (i := 1) rfl)
  try simp only [Int.add_zero] at h0 h1
  have key : ((ρ 0 + 0 : Int) < 0 ∨ (ρ 2 + 0 : Int) < ρ 0 + 0) ∧ True := by
    try simp only [Int.add_zero]
    rw [h1] at h0
    exact ⟨h0, trivial⟩
  exact ⟨nB, qB (key.1) (nB)⟩
def t_wem2 : KT := ((0, 0, 0, 0), [(2, 0, 40, 0), (1, 1, 0, 0), (1, 2, 0, 0), (1, 3, 0, 0)], [(0, 0), (0, 400), (-2147483648, 2147483647), (0, 400)], [(479, [(2, 0, 40, 0), (1, 3, 0, 0)]), (482, [(1, 1, 0, 0), (1, 2, 0, 0)]), (476, [(1, 2, 0, 0), (1, 3, 0, 0)])], (0, 0, 0), [], [], ([], [(473, [(2, 0, 40, 0), (1, 1, 0, 0)]), (482, [(1, 1, 0, 0), (1, 3, 0, 0)])]), ([], []))
set_option maxRecDepth 100000 in
theorem l_wem2 (g : GG) : LOK Yt (PSt g) t_wem2 := by
  intro ρ α Γ M as hT hB hA hP
  have g0 : Γ (α 0) = 40 := tyAt hA (i := 0) rfl
  have b1 : 0 ≤ ρ 1 ∧ ρ 1 ≤ 400 := hB 1
  have b2 : -2147483648 ≤ ρ 2 ∧ ρ 2 ≤ 2147483647 := hB 2
  have b3 : 0 ≤ ρ 3 ∧ ρ 3 ≤ 400 := hB 3
  have h0 : Γ (α 0) = 40 ∧ tyO Γ M (α 0) [(15, 48, [(0, 400)])] ∧ Q479 g (vw M (α 0) 15 [(0, 400)]) (clp [(16, 17)] (M.2.2.2.2 (α 0))) (ρ 3 + 0) := hP _ (List.mem_of_getElem? (i := 0) rfl)
  have h1 : 0 ≤ (ρ 1 + 0 : Int) ∧ (ρ 1 + 0 : Int) ≤ ρ 2 + 0 := hP _ (List.mem_of_getElem? (i := 1) rfl)
  have h2 : (ρ 2 + 0 : Int) = ρ 3 + 0 := hP _ (List.mem_of_getElem? (i := 2) rfl)
  try simp only [Int.add_zero] at h0 h1 h2
  have key : (Γ (α 0) = 40 ∧ tyO Γ M (α 0) [(15, 48, [(0, 400)])] ∧ Q473 g (vw M (α 0) 15 [(0, 400)]) (clp [] (M.2.2.2.2 (α 0))) (ρ 1 + 0)) ∧ (0 ≤ (ρ 1 + 0 : Int) ∧ (ρ 1 + 0 : Int) ≤ ρ 3 + 0) ∧ True := by
    try simp only [Int.add_zero]
    obtain ⟨-, x2, x3, x4⟩ := h0
    exact ⟨⟨g0, x2, fun j hj => x4 j (by omega)⟩, ⟨by omega, by omega⟩, trivial⟩
  exact ⟨nB, qB (key.1) (qB (key.2.1) (nB))⟩
def t_wem3 : KT := ((0, 0, 0, 0), [(2, 0, 40, 0), (1, 1, 0, 0)], [(0, 0), (0, 400)], [(473, [(2, 0, 40, 0), (1, 1, 0, 0)]), (10, [(2, 0, 40, 0), (0, 0, 0, 16), (1, 1, 0, 0)])], (0, 0, 0), [], [], ([], [(479, [(2, 0, 40, 0), (1, 1, 0, 0)])]), ([], []))
set_option maxRecDepth 100000 in
theorem l_wem3 (g : GG) : LOK Yt (PSt g) t_wem3 := by
  intro ρ α Γ M as hT hB hA hP
  have g0 : Γ (α 0) = 40 := tyAt hA (i := 0) rfl
  have b1 : 0 ≤ ρ 1 ∧ ρ 1 ≤ 400 := hB 1
  have h0 : Γ (α 0) = 40 ∧ tyO Γ M (α 0) [(15, 48, [(0, 400)])] ∧ Q473 g (vw M (α 0) 15 [(0, 400)]) (clp [] (M.2.2.2.2 (α 0))) (ρ 1 + 0) := hP _ (List.mem_of_getElem? (i := 0) rfl)
  have h1 : 0 ≤ (16 : Int) ∧ M.2.2.2.2 (α 0) (16 : Int).toNat = ρ 1 + 0 := hP _ (List.mem_of_getElem? (i := 1) rfl)
  try simp only [Int.add_zero] at h0 h1
  have key : (Γ (α 0) = 40 ∧ tyO Γ M (α 0) [(15, 48, [(0, 400)])] ∧ Q479 g (vw M (α 0) 15 [(0, 400)]) (clp [(16, 17)] (M.2.2.2.2 (α 0))) (ρ 1 + 0)) ∧ True := by
    try simp only [Int.add_zero]
    obtain ⟨-, x2, x4⟩ := h0
    have e : M.2.2.2.2 (α 0) 16 = ρ 1 := h1.2
    exact ⟨⟨g0, x2, e, x4⟩, trivial⟩
  exact ⟨nB, qB (key.1) (nB)⟩
def t_wty0 : KT := ((0, 0, 0, 0), [(2, 0, 40, 0)], [(0, 0)], [(10, [(2, 0, 40, 0), (0, 0, 0, 16), (0, 0, 0, 0)])], (0, 0, 0), [], [], ([], [(479, [(2, 0, 40, 0), (0, 0, 0, 0)])]), ([], []))
set_option maxRecDepth 100000 in
theorem l_wty0 (g : GG) : LOK Yt (PSt g) t_wty0 := by
  intro ρ α Γ M as hT hB hA hP
  have g0 : Γ (α 0) = 40 := tyAt hA (i := 0) rfl
  have h0 : 0 ≤ (16 : Int) ∧ M.2.2.2.2 (α 0) (16 : Int).toNat = 0 := hP _ (List.mem_of_getElem? (i := 0) rfl)
  try simp only [Int.add_zero] at h0
  have key : (Γ (α 0) = 40 ∧ tyO Γ M (α 0) [(15, 48, [(0, 400)])] ∧ Q479 g (vw M (α 0) 15 [(0, 400)]) (clp [(16, 17)] (M.2.2.2.2 (α 0))) (0)) ∧ True := by
    try simp only [Int.add_zero]
    exact ⟨⟨g0, tyO_of hT g0 (by decide) (by decide), h0.2, fun j hj => absurd hj (by omega)⟩, trivial⟩
  exact ⟨nB, qB (key.1) (nB)⟩
def t_urf0 : KT := ((0, 0, 0, 0), [(2, 0, 40, 0), (1, 1, 0, 0), (1, 2, 0, 0), (1, 3, 0, 0), (1, 4, 0, 0), (1, 5, 0, 0)], [(0, 0), (0, 0), (0, 0), (0, 0), (0, 0), (0, 0)], [(10, [(2, 0, 40, 0), (0, 0, 0, 20), (1, 4, 0, 0)]), (10, [(2, 0, 40, 0), (0, 0, 0, 21), (1, 5, 0, 0)])], (0, 0, 0), [], [], ([], [(470, [(1, 1, 0, 0), (1, 4, 0, 0), (1, 5, 0, 0), (1, 2, 0, 0)]), (481, [(2, 0, 40, 0), (1, 1, 0, 0), (1, 2, 0, 0), (1, 3, 0, 0)]), (461, [(1, 1, 0, 0)])]), ([], []))
set_option maxRecDepth 100000 in
theorem l_urf0 (g : GG) : LOK Yt (PSt g) t_urf0 := by
  intro ρ α Γ M as hT hB hA hP
  have g0 : Γ (α 0) = 40 := tyAt hA (i := 0) rfl
  have b1 : 0 ≤ ρ 1 ∧ ρ 1 ≤ 0 := hB 1
  have b2 : 0 ≤ ρ 2 ∧ ρ 2 ≤ 0 := hB 2
  have b3 : 0 ≤ ρ 3 ∧ ρ 3 ≤ 0 := hB 3
  have b4 : 0 ≤ ρ 4 ∧ ρ 4 ≤ 0 := hB 4
  have b5 : 0 ≤ ρ 5 ∧ ρ 5 ≤ 0 := hB 5
  have h0 : 0 ≤ (20 : Int) ∧ M.2.2.2.2 (α 0) (20 : Int).toNat = ρ 4 + 0 := hP _ (List.mem_of_getElem? (i := 0) rfl)
  have h1 : 0 ≤ (21 : Int) ∧ M.2.2.2.2 (α 0) (21 : Int).toNat = ρ 5 + 0 := hP _ (List.mem_of_getElem? (i := 1) rfl)
  try simp only [Int.add_zero] at h0 h1
  have key : ((0 ≤ (ρ 1 + 0 : Int) ∧ 0 ≤ (ρ 4 + 0 : Int) ∧ ((ρ 4 + 0 : Int) ≠ 0 → 2 ≤ (ρ 5 + 0 : Int))) ∧ tS (tqB g) (ρ 1 + 0 : Int).toNat = some ((ρ 4 + 0 : Int), (if (ρ 4 + 0 : Int) = 0 then 0 else 2 * (ρ 5 + 0 : Int)), (ρ 2 + 0 : Int))) ∧ (Γ (α 0) = 40 ∧ tyO Γ M (α 0) [(19, 50, [(0, 144)])] ∧ Q481 g (vw M (α 0) 19 [(0, 144)]) (clp [] (M.2.2.2.2 (α 0))) (ρ 1 + 0) (ρ 2 + 0) (ρ 3 + 0)) ∧ ((ρ 1 + 0 : Int) ≤ tqL g) ∧ True := by
    try simp only [Int.add_zero]
    have e1 : ρ 1 = 0 := by omega
    have e2 : ρ 2 = 0 := by omega
    have e3 : ρ 3 = 0 := by omega
    have e4 : ρ 4 = 0 := by omega
    have e5 : ρ 5 = 0 := by omega
    rw [e1, e2, e3, e4, e5]
    exact ⟨⟨⟨by decide, by decide, fun h => absurd rfl h⟩, rfl⟩, ⟨g0, tyO_of hT g0 (by decide) (by decide), fun h => absurd rfl h⟩, Int.natCast_nonneg _, trivial⟩
  exact ⟨nB, qB (key.1) (qB (key.2.1) (qB (key.2.2.1) (nB)))⟩
def t_urf1 : KT := ((0, 0, 0, 0), [(2, 0, 40, 0), (1, 1, 0, 0), (1, 2, 0, 0)], [(0, 0), (0, 399), (-2147483648, 2147483647)], [(458, [(2, 0, 40, 0), (1, 2, 0, 0)]), (21, [(1, 1, 0, 0), (1, 2, 0, 0)])], (0, 0, 0), [], [], ([], [(460, [(1, 1, 0, 0)])]), ([], []))
set_option maxRecDepth 100000 in
theorem l_urf1 (g : GG) : LOK Yt (PSt g) t_urf1 := by
  intro ρ α Γ M as hT hB hA hP
  have g0 : Γ (α 0) = 40 := tyAt hA (i := 0) rfl
  have b1 : 0 ≤ ρ 1 ∧ ρ 1 ≤ 399 := hB 1
  have b2 : -2147483648 ≤ ρ 2 ∧ ρ 2 ≤ 2147483647 := hB 2
  have h0 : Γ (α 0) = 40 ∧ tyO Γ M (α 0) [(15, 48, [(0, 400)])] ∧ Q458 g (vw M (α 0) 15 [(0, 400)]) (clp [] (M.2.2.2.2 (α 0))) (ρ 2 + 0) := hP _ (List.mem_of_getElem? (i := 0) rfl)
  have h1 : ρ 1 + 0 < ρ 2 + 0 := hP _ (List.mem_of_getElem? (i := 1) rfl)
  try simp only [Int.add_zero] at h0 h1
  have key : (0 ≤ (ρ 1 + 0 : Int) ∧ (ρ 1 + 0 : Int) < tqL g) ∧ True := by
    try simp only [Int.add_zero]
    obtain ⟨-, -, q, -⟩ := h0
    have q : ρ 2 = tqL g := q
    exact ⟨⟨by omega, by omega⟩, trivial⟩
  exact ⟨nB, qB (key.1) (nB)⟩
def t_urf2 : KT := ((0, 0, 0, 0), [(2, 0, 40, 0), (2, 1, 48, 0), (1, 2, 0, 0), (1, 3, 0, 0), (1, 4, 0, 0)], [(0, 0), (0, 0), (-2147483648, 2147483647), (0, 399), (-2147483648, 2147483647)], [(458, [(2, 0, 40, 0), (1, 4, 0, 0)]), (11, [(2, 0, 40, 0), (0, 0, 0, 15), (2, 1, 48, 0)]), (10, [(2, 1, 48, 0), (1, 3, 0, 0), (1, 2, 0, 0)]), (460, [(1, 3, 0, 0)])], (0, 0, 0), [], [], ([], [(475, [(1, 2, 0, 0), (1, 3, 0, 0)])]), ([], []))
set_option maxRecDepth 100000 in
theorem l_urf2 (g : GG) : LOK Yt (PSt g) t_urf2 := by
  intro ρ α Γ M as hT hB hA hP
  have g0 : Γ (α 0) = 40 := tyAt hA (i := 0) rfl
  have g1 : Γ (α 1) = 48 := tyAt hA (i := 1) rfl
  have b2 : -2147483648 ≤ ρ 2 ∧ ρ 2 ≤ 2147483647 := hB 2
  have b3 : 0 ≤ ρ 3 ∧ ρ 3 ≤ 399 := hB 3
  have b4 : -2147483648 ≤ ρ 4 ∧ ρ 4 ≤ 2147483647 := hB 4
  have h0 : Γ (α 0) = 40 ∧ tyO Γ M (α 0) [(15, 48, [(0, 400)])] ∧ Q458 g (vw M (α 0) 15 [(0, 400)]) (clp [] (M.2.2.2.2 (α 0))) (ρ 4 + 0) := hP _ (List.mem_of_getElem? (i := 0) rfl)
  have h1 : 0 ≤ (15 : Int) ∧ M.2.2.2.1 (α 0) (15 : Int).toNat = some (α 1) := hP _ (List.mem_of_getElem? (i := 1) rfl)
  have h2 : 0 ≤ (ρ 3 + 0 : Int) ∧ M.2.2.2.2 (α 1) (ρ 3 + 0 : Int).toNat = ρ 2 + 0 := hP _ (List.mem_of_getElem? (i := 2) rfl)
  have h3 : 0 ≤ (ρ 3 + 0 : Int) ∧ (ρ 3 + 0 : Int) < tqL g := hP _ (List.mem_of_getElem? (i := 3) rfl)
  try simp only [Int.add_zero] at h0 h1 h2 h3
  have key : (0 ≤ (ρ 3 + 0 : Int) ∧ ρ 2 + 0 = tqB g (ρ 3 + 0 : Int).toNat) ∧ True := by
    try simp only [Int.add_zero]
    have e3 : fl M (α 0) 15 = α 1 := fl_eq (show M.2.2.2.1 (α 0) 15 = some (α 1) from h1.2)
    obtain ⟨-, -, -, h⟩ := h0
    have h : ∀ j : Nat, (j : Int) < tqL g → clp [(0, 400)] (M.2.2.2.2 (fl M (α 0) 15)) j = tqB g j := h
    have x := h (ρ 3).toNat (by omega)
    rw [e3, cAll (by omega), h2.2] at x
    exact ⟨⟨by omega, x⟩, trivial⟩
  exact ⟨nB, qB (key.1) (nB)⟩
def t_urg1 : KT := ((0, 0, 0, 0), [(1, 0, 0, 0), (1, 1, 0, 0), (1, 2, 0, 0), (1, 3, 0, 0), (1, 4, 0, 0)], [(-2147483648, 2147483647), (-2147483648, 2147483647), (-2147483648, 2147483647), (0, 24), (1, 1)], [(470, [(1, 0, 0, 0), (1, 1, 0, 0), (1, 2, 0, 0), (1, 3, 0, 0)]), (27, [(1, 3, 0, 0), (0, 0, 0, 2), (1, 4, 0, 0)])], (0, 0, 0), [], [], ([], [(492, [(1, 0, 0, 0)])]), ([], []))
set_option maxRecDepth 100000 in
theorem l_urg1 (g : GG) : LOK Yt (PSt g) t_urg1 := by
  intro ρ α Γ M as hT hB hA hP
  have b0 : -2147483648 ≤ ρ 0 ∧ ρ 0 ≤ 2147483647 := hB 0
  have b1 : -2147483648 ≤ ρ 1 ∧ ρ 1 ≤ 2147483647 := hB 1
  have b2 : -2147483648 ≤ ρ 2 ∧ ρ 2 ≤ 2147483647 := hB 2
  have b3 : 0 ≤ ρ 3 ∧ ρ 3 ≤ 24 := hB 3
  have b4 : 1 ≤ ρ 4 ∧ ρ 4 ≤ 1 := hB 4
  have h0 : (0 ≤ (ρ 0 + 0 : Int) ∧ 0 ≤ (ρ 1 + 0 : Int) ∧ ((ρ 1 + 0 : Int) ≠ 0 → 2 ≤ (ρ 2 + 0 : Int))) ∧ tS (tqB g) (ρ 0 + 0 : Int).toNat = some ((ρ 1 + 0 : Int), (if (ρ 1 + 0 : Int) = 0 then 0 else 2 * (ρ 2 + 0 : Int)), (ρ 3 + 0 : Int)) := hP _ (List.mem_of_getElem? (i := 0) rfl)
  have h1 : ρ 4 + 0 = (ρ 3 + 0 : Int).tmod (2) := hP _ (List.mem_of_getElem? (i := 1) rfl)
  try simp only [Int.add_zero] at h0 h1
  have key : (0 ≤ (ρ 0 + 0 : Int) ∧ ∃ e f s, tS (tqB g) (ρ 0 + 0 : Int).toNat = some (e, f, s) ∧ ¬ cEnd s f) ∧ True := by
    try simp only [Int.add_zero]
    obtain ⟨⟨i0, r0, c0⟩, hs⟩ := h0
    obtain ⟨d1, d2, -⟩ := dm (p := ρ 3) (by omega) (show (0 : Int) < 2 by decide)
    rw [d2] at h1
    exact ⟨⟨i0, _, _, _, hs, fun h => by have := h.1; omega⟩, trivial⟩
  exact ⟨nB, qB (key.1) (nB)⟩
def t_urg2 : KT := ((0, 0, 0, 0), [(1, 0, 0, 0), (1, 1, 0, 0), (1, 2, 0, 0), (1, 3, 0, 0)], [(-2147483648, 2147483647), (-2147483648, 2147483647), (-2147483648, 2147483647), (0, 3)], [(470, [(1, 0, 0, 0), (1, 1, 0, 0), (1, 2, 0, 0), (1, 3, 0, 0)])], (0, 0, 0), [], [], ([], [(492, [(1, 0, 0, 0)])]), ([], []))
set_option maxRecDepth 100000 in
theorem l_urg2 (g : GG) : LOK Yt (PSt g) t_urg2 := by
  intro ρ α Γ M as hT hB hA hP
  have b0 : -2147483648 ≤ ρ 0 ∧ ρ 0 ≤ 2147483647 := hB 0
  have b1 : -2147483648 ≤ ρ 1 ∧ ρ 1 ≤ 2147483647 := hB 1
  have b2 : -2147483648 ≤ ρ 2 ∧ ρ 2 ≤ 2147483647 := hB 2
  have b3 : 0 ≤ ρ 3 ∧ ρ 3 ≤ 3 := hB 3
  have h0 : (0 ≤ (ρ 0 + 0 : Int) ∧ 0 ≤ (ρ 1 + 0 : Int) ∧ ((ρ 1 + 0 : Int) ≠ 0 → 2 ≤ (ρ 2 + 0 : Int))) ∧ tS (tqB g) (ρ 0 + 0 : Int).toNat = some ((ρ 1 + 0 : Int), (if (ρ 1 + 0 : Int) = 0 then 0 else 2 * (ρ 2 + 0 : Int)), (ρ 3 + 0 : Int)) := hP _ (List.mem_of_getElem? (i := 0) rfl)
  try simp only [Int.add_zero] at h0
  have key : (0 ≤ (ρ 0 + 0 : Int) ∧ ∃ e f s, tS (tqB g) (ρ 0 + 0 : Int).toNat = some (e, f, s) ∧ ¬ cEnd s f) ∧ True := by
    try simp only [Int.add_zero]
    obtain ⟨⟨i0, r0, c0⟩, hs⟩ := h0
    exact ⟨⟨i0, _, _, _, hs, fun h => by have := h.2.1; omega⟩, trivial⟩
  exact ⟨nB, qB (key.1) (nB)⟩
def t_urg3 : KT := ((0, 0, 0, 0), [(1, 0, 0, 0), (1, 1, 0, 0), (1, 2, 0, 0), (1, 3, 0, 0), (1, 4, 0, 0)], [(-2147483648, 2147483647), (1, 12), (-2147483648, 2147483647), (0, 24), (-2147483648, 2147483647)], [(470, [(1, 0, 0, 0), (1, 1, 0, 0), (1, 2, 0, 0), (1, 3, 0, 0)]), (26, [(1, 3, 0, 0), (0, 0, 0, 2), (1, 4, 0, 0)]), (99, [(1, 4, 0, 0), (1, 2, 0, 0), (0, 0, 0, 0)])], (0, 0, 0), [], [], ([], [(492, [(1, 0, 0, 0)])]), ([], []))
set_option maxRecDepth 100000 in
theorem l_urg3 (g : GG) : LOK Yt (PSt g) t_urg3 := by
  intro ρ α Γ M as hT hB hA hP
  have b0 : -2147483648 ≤ ρ 0 ∧ ρ 0 ≤ 2147483647 := hB 0
  have b1 : 1 ≤ ρ 1 ∧ ρ 1 ≤ 12 := hB 1
  have b2 : -2147483648 ≤ ρ 2 ∧ ρ 2 ≤ 2147483647 := hB 2
  have b3 : 0 ≤ ρ 3 ∧ ρ 3 ≤ 24 := hB 3
  have b4 : -2147483648 ≤ ρ 4 ∧ ρ 4 ≤ 2147483647 := hB 4
  have h0 : (0 ≤ (ρ 0 + 0 : Int) ∧ 0 ≤ (ρ 1 + 0 : Int) ∧ ((ρ 1 + 0 : Int) ≠ 0 → 2 ≤ (ρ 2 + 0 : Int))) ∧ tS (tqB g) (ρ 0 + 0 : Int).toNat = some ((ρ 1 + 0 : Int), (if (ρ 1 + 0 : Int) = 0 then 0 else 2 * (ρ 2 + 0 : Int)), (ρ 3 + 0 : Int)) := hP _ (List.mem_of_getElem? (i := 0) rfl)
  have h1 : ρ 4 + 0 = wI ((ρ 3 + 0 : Int).tdiv (2)) := hP _ (List.mem_of_getElem? (i := 1) rfl)
  have h2 : (ρ 4 + 0 : Int) ≠ ρ 2 + 0 := hP _ (List.mem_of_getElem? (i := 2) rfl)
  try simp only [Int.add_zero] at h0 h1 h2
  have key : (0 ≤ (ρ 0 + 0 : Int) ∧ ∃ e f s, tS (tqB g) (ρ 0 + 0 : Int).toNat = some (e, f, s) ∧ ¬ cEnd s f) ∧ True := by
    try simp only [Int.add_zero]
    obtain ⟨⟨i0, r0, c0⟩, hs⟩ := h0
    obtain ⟨d1, -⟩ := dm (p := ρ 3) (by omega) (show (0 : Int) < 2 by decide)
    rw [d1, wI_id (by unfold inI; omega)] at h1
    
    have cc := c0 (by omega)
    rw [if_neg (show ρ 1 ≠ 0 by omega)] at hs
    exact ⟨⟨i0, _, _, _, hs, fun h => by have := h.1; rcases h.2.2 with h3 | h3 <;> omega⟩, trivial⟩
  exact ⟨nB, qB (key.1) (nB)⟩
def t_urg4 : KT := ((0, 0, 0, 0), [(1, 0, 0, 0), (1, 1, 0, 0), (1, 2, 0, 0), (1, 3, 0, 0), (1, 4, 0, 0)], [(-2147483648, 2147483647), (0, 0), (-2147483648, 2147483647), (4, 24), (0, 0)], [(470, [(1, 0, 0, 0), (1, 1, 0, 0), (1, 2, 0, 0), (1, 3, 0, 0)]), (27, [(1, 3, 0, 0), (0, 0, 0, 2), (1, 4, 0, 0)])], (0, 0, 0), [], [], ([], [(493, [(1, 0, 0, 0), (1, 1, 0, 0), (1, 3, 0, 0)])]), ([], []))
set_option maxRecDepth 100000 in
theorem l_urg4 (g : GG) : LOK Yt (PSt g) t_urg4 := by
  intro ρ α Γ M as hT hB hA hP
  have b0 : -2147483648 ≤ ρ 0 ∧ ρ 0 ≤ 2147483647 := hB 0
  have b1 : 0 ≤ ρ 1 ∧ ρ 1 ≤ 0 := hB 1
  have b2 : -2147483648 ≤ ρ 2 ∧ ρ 2 ≤ 2147483647 := hB 2
  have b3 : 4 ≤ ρ 3 ∧ ρ 3 ≤ 24 := hB 3
  have b4 : 0 ≤ ρ 4 ∧ ρ 4 ≤ 0 := hB 4
  have h0 : (0 ≤ (ρ 0 + 0 : Int) ∧ 0 ≤ (ρ 1 + 0 : Int) ∧ ((ρ 1 + 0 : Int) ≠ 0 → 2 ≤ (ρ 2 + 0 : Int))) ∧ tS (tqB g) (ρ 0 + 0 : Int).toNat = some ((ρ 1 + 0 : Int), (if (ρ 1 + 0 : Int) = 0 then 0 else 2 * (ρ 2 + 0 : Int)), (ρ 3 + 0 : Int)) := hP _ (List.mem_of_getElem? (i := 0) rfl)
  have h1 : ρ 4 + 0 = (ρ 3 + 0 : Int).tmod (2) := hP _ (List.mem_of_getElem? (i := 1) rfl)
  try simp only [Int.add_zero] at h0 h1
  have key : ((0 ≤ (ρ 0 + 0 : Int) ∧ 0 ≤ (ρ 1 + 0 : Int)) ∧ ∃ f, tS (tqB g) (ρ 0 + 0 : Int).toNat = some ((ρ 1 + 0 : Int), f, (ρ 3 + 0 : Int)) ∧ cEnd (ρ 3 + 0 : Int) f) ∧ True := by
    try simp only [Int.add_zero]
    obtain ⟨⟨i0, r0, c0⟩, hs⟩ := h0
    obtain ⟨d1, d2, -⟩ := dm (p := ρ 3) (by omega) (show (0 : Int) < 2 by decide)
    rw [d2] at h1
    
    have er : ρ 1 = 0 := by omega
    rw [if_pos er] at hs
    exact ⟨⟨⟨i0, r0⟩, _, hs, by omega, by omega, Or.inl rfl⟩, trivial⟩
  exact ⟨nB, qB (key.1) (nB)⟩
def t_urg5 : KT := ((0, 0, 0, 0), [(1, 0, 0, 0), (1, 1, 0, 0), (1, 2, 0, 0), (1, 3, 0, 0), (1, 4, 0, 0), (1, 5, 0, 0)], [(-2147483648, 2147483647), (1, 12), (-2147483648, 2147483647), (4, 24), (0, 0), (-2147483648, 2147483647)], [(470, [(1, 0, 0, 0), (1, 1, 0, 0), (1, 2, 0, 0), (1, 3, 0, 0)]), (27, [(1, 3, 0, 0), (0, 0, 0, 2), (1, 4, 0, 0)]), (26, [(1, 3, 0, 0), (0, 0, 0, 2), (1, 5, 0, 0)]), (6, [(1, 5, 0, 0), (1, 2, 0, 0)]), (6, [(1, 2, 0, 0), (1, 5, 0, 0)])], (0, 0, 0), [], [], ([], [(493, [(1, 0, 0, 0), (1, 1, 0, 0), (1, 3, 0, 0)])]), ([], []))
set_option maxRecDepth 100000 in
theorem l_urg5 (g : GG) : LOK Yt (PSt g) t_urg5 := by
  intro ρ α Γ M as hT hB hA hP
  have b0 : -2147483648 ≤ ρ 0 ∧ ρ 0 ≤ 2147483647 := hB 0
  have b1 : 1 ≤ ρ 1 ∧ ρ 1 ≤ 12 := hB 1
  have b2 : -2147483648 ≤ ρ 2 ∧ ρ 2 ≤ 2147483647 := hB 2
  have b3 : 4 ≤ ρ 3 ∧ ρ 3 ≤ 24 := hB 3
  have b4 : 0 ≤ ρ 4 ∧ ρ 4 ≤ 0 := hB 4
  have b5 : -2147483648 ≤ ρ 5 ∧ ρ 5 ≤ 2147483647 := hB 5
  have h0 : (0 ≤ (ρ 0 + 0 : Int) ∧ 0 ≤ (ρ 1 + 0 : Int) ∧ ((ρ 1 + 0 : Int) ≠ 0 → 2 ≤ (ρ 2 + 0 : Int))) ∧ tS (tqB g) (ρ 0 + 0 : Int).toNat = some ((ρ 1 + 0 : Int), (if (ρ 1 + 0 : Int) = 0 then 0 else 2 * (ρ 2 + 0 : Int)), (ρ 3 + 0 : Int)) := hP _ (List.mem_of_getElem? (i := 0) rfl)
  have h1 : ρ 4 + 0 = (ρ 3 + 0 : Int).tmod (2) := hP _ (List.mem_of_getElem? (i := 1) rfl)
  have h2 : ρ 5 + 0 = wI ((ρ 3 + 0 : Int).tdiv (2)) := hP _ (List.mem_of_getElem? (i := 2) rfl)
  have h3 : ρ 5 + 0 ≤ ρ 2 + 0 := hP _ (List.mem_of_getElem? (i := 3) rfl)
  have h4 : ρ 2 + 0 ≤ ρ 5 + 0 := hP _ (List.mem_of_getElem? (i := 4) rfl)
  try simp only [Int.add_zero] at h0 h1 h2 h3 h4
  have key : ((0 ≤ (ρ 0 + 0 : Int) ∧ 0 ≤ (ρ 1 + 0 : Int)) ∧ ∃ f, tS (tqB g) (ρ 0 + 0 : Int).toNat = some ((ρ 1 + 0 : Int), f, (ρ 3 + 0 : Int)) ∧ cEnd (ρ 3 + 0 : Int) f) ∧ True := by
    try simp only [Int.add_zero]
    obtain ⟨⟨i0, r0, c0⟩, hs⟩ := h0
    obtain ⟨d1, d2, -⟩ := dm (p := ρ 3) (by omega) (show (0 : Int) < 2 by decide)
    rw [d2] at h1
    
    obtain ⟨d3, -⟩ := dm (p := ρ 3) (by omega) (show (0 : Int) < 2 by decide)
    rw [d3, wI_id (by unfold inI; omega)] at h2
    rw [if_neg (show ρ 1 ≠ 0 by omega)] at hs
    exact ⟨⟨⟨i0, r0⟩, _, hs, by omega, by omega, Or.inr (by omega)⟩, trivial⟩
  exact ⟨nB, qB (key.1) (nB)⟩
def t_urh1 : KT := ((0, 0, 0, 0), [(1, 0, 0, 0), (1, 1, 0, 0)], [(59, 59), (-2147483648, 2147483647)], [(475, [(1, 0, 0, 0), (1, 1, 0, 0)]), (460, [(1, 1, 0, 0)]), (492, [(1, 1, 0, 0)])], (0, 0, 0), [], [], ([], [(466, [(1, 1, 0, 0)])]), ([], []))
set_option maxRecDepth 100000 in
theorem l_urh1 (g : GG) : LOK Yt (PSt g) t_urh1 := by
  intro ρ α Γ M as hT hB hA hP
  have b0 : 59 ≤ ρ 0 ∧ ρ 0 ≤ 59 := hB 0
  have b1 : -2147483648 ≤ ρ 1 ∧ ρ 1 ≤ 2147483647 := hB 1
  have h0 : 0 ≤ (ρ 1 + 0 : Int) ∧ ρ 0 + 0 = tqB g (ρ 1 + 0 : Int).toNat := hP _ (List.mem_of_getElem? (i := 0) rfl)
  have h1 : 0 ≤ (ρ 1 + 0 : Int) ∧ (ρ 1 + 0 : Int) < tqL g := hP _ (List.mem_of_getElem? (i := 1) rfl)
  have h2 : 0 ≤ (ρ 1 + 0 : Int) ∧ ∃ e f s, tS (tqB g) (ρ 1 + 0 : Int).toNat = some (e, f, s) ∧ ¬ cEnd s f := hP _ (List.mem_of_getElem? (i := 2) rfl)
  try simp only [Int.add_zero] at h0 h1 h2
  have key : (TR (tqB g) (tqL g) (ρ 1 + 0 : Int)) ∧ True := by
    try simp only [Int.add_zero]
    obtain ⟨i0, e, f, s, hs, hn⟩ := h2
    have cb : tqB g (ρ 1).toNat = ρ 0 := (h0.2).symm
    have ei : ((ρ 1).toNat : Int) = ρ 1 := by omega
    exact ⟨Or.inl ⟨(ρ 1).toNat, ei.symm, by rw [ei]; exact h1.2, (by rw [hs]; exact fun h => nomatch h), (tS_end hs (by rw [cb]; omega)).trans (if_neg fun h => hn h.1)⟩, trivial⟩
  exact ⟨nB, qB (key.1) (nB)⟩
def t_urh2 : KT := ((0, 0, 0, 0), [(2, 0, 40, 0), (1, 1, 0, 0), (1, 2, 0, 0)], [(0, 0), (-2147483648, 2147483647), (-2147483648, 2147483647)], [(458, [(2, 0, 40, 0), (1, 2, 0, 0)]), (6, [(1, 1, 0, 0), (1, 2, 0, 0)]), (6, [(1, 2, 0, 0), (1, 1, 0, 0)]), (492, [(1, 1, 0, 0)])], (0, 0, 0), [], [], ([], [(466, [(1, 1, 0, 0)])]), ([], []))
set_option maxRecDepth 100000 in
theorem l_urh2 (g : GG) : LOK Yt (PSt g) t_urh2 := by
  intro ρ α Γ M as hT hB hA hP
  have g0 : Γ (α 0) = 40 := tyAt hA (i := 0) rfl
  have b1 : -2147483648 ≤ ρ 1 ∧ ρ 1 ≤ 2147483647 := hB 1
  have b2 : -2147483648 ≤ ρ 2 ∧ ρ 2 ≤ 2147483647 := hB 2
  have h0 : Γ (α 0) = 40 ∧ tyO Γ M (α 0) [(15, 48, [(0, 400)])] ∧ Q458 g (vw M (α 0) 15 [(0, 400)]) (clp [] (M.2.2.2.2 (α 0))) (ρ 2 + 0) := hP _ (List.mem_of_getElem? (i := 0) rfl)
  have h1 : ρ 1 + 0 ≤ ρ 2 + 0 := hP _ (List.mem_of_getElem? (i := 1) rfl)
  have h2 : ρ 2 + 0 ≤ ρ 1 + 0 := hP _ (List.mem_of_getElem? (i := 2) rfl)
  have h3 : 0 ≤ (ρ 1 + 0 : Int) ∧ ∃ e f s, tS (tqB g) (ρ 1 + 0 : Int).toNat = some (e, f, s) ∧ ¬ cEnd s f := hP _ (List.mem_of_getElem? (i := 3) rfl)
  try simp only [Int.add_zero] at h0 h1 h2 h3
  have key : (TR (tqB g) (tqL g) (ρ 1 + 0 : Int)) ∧ True := by
    try simp only [Int.add_zero]
    obtain ⟨-, -, q, -⟩ := h0
    have q : ρ 2 = tqL g := q
    have ei : (ρ 1).toNat = (tqL g).toNat := by omega
    
    obtain ⟨i0, e, f, s, hs, hn⟩ := h3
    rw [ei] at hs
    exact ⟨Or.inr (Or.inl ⟨by omega, by omega, _, _, _, hs, fun h => hn h.1⟩), trivial⟩
  exact ⟨nB, qB (key.1) (nB)⟩
def t_urv : KT := ((0, 0, 0, 0), [(2, 0, 40, 0), (1, 1, 0, 0)], [(0, 0), (0, 400)], [], (0, 0, 0), [], [], ([], [(469, [(2, 0, 40, 0), (1, 1, 0, 0)])]), ([], []))
set_option maxRecDepth 100000 in
theorem l_urv (g : GG) : LOK Yt (PSt g) t_urv := by
  intro ρ α Γ M as hT hB hA hP
  have g0 : Γ (α 0) = 40 := tyAt hA (i := 0) rfl
  have b1 : 0 ≤ ρ 1 ∧ ρ 1 ≤ 400 := hB 1
  have key : (Γ (α 0) = 40 ∧ tyO Γ M (α 0) [] ∧ Q469 g  (clp [(20, 22)] (M.2.2.2.2 (α 0))) (ρ 1 + 0)) ∧ True := by
    try simp only [Int.add_zero]
    exact ⟨⟨g0, fun _ h => absurd h List.not_mem_nil, fun h => absurd h (by omega)⟩, trivial⟩
  exact ⟨nB, qB (key.1) (nB)⟩
def t_urk1 : KT := ((0, 0, 0, 0), [(2, 0, 40, 0), (1, 1, 0, 0), (1, 2, 0, 0), (1, 3, 0, 0), (1, 4, 0, 0)], [(0, 0), (-2147483648, 2147483647), (-2147483648, 2147483647), (0, 0), (-2147483648, 2147483647)], [(458, [(2, 0, 40, 0), (1, 2, 0, 0)]), (6, [(1, 1, 0, 0), (1, 2, 0, 0)]), (6, [(1, 2, 0, 0), (1, 1, 0, 0)]), (493, [(1, 1, 0, 0), (1, 3, 0, 0), (1, 4, 0, 0)])], (0, 0, 0), [], [], ([], [(466, [(1, 1, 0, 0)])]), ([], []))
set_option maxRecDepth 100000 in
theorem l_urk1 (g : GG) : LOK Yt (PSt g) t_urk1 := by
  intro ρ α Γ M as hT hB hA hP
  have g0 : Γ (α 0) = 40 := tyAt hA (i := 0) rfl
  have b1 : -2147483648 ≤ ρ 1 ∧ ρ 1 ≤ 2147483647 := hB 1
  have b2 : -2147483648 ≤ ρ 2 ∧ ρ 2 ≤ 2147483647 := hB 2
  have b3 : 0 ≤ ρ 3 ∧ ρ 3 ≤ 0 := hB 3
  have b4 : -2147483648 ≤ ρ 4 ∧ ρ 4 ≤ 2147483647 := hB 4
  have h0 : Γ (α 0) = 40 ∧ tyO Γ M (α 0) [(15, 48, [(0, 400)])] ∧ Q458 g (vw M (α 0) 15 [(0, 400)]) (clp [] (M.2.2.2.2 (α 0))) (ρ 2 + 0) := hP _ (List.mem_of_getElem? (i := 0) rfl)
  have h1 : ρ 1 + 0 ≤ ρ 2 + 0 := hP _ (List.mem_of_getElem? (i := 1) rfl)
  have h2 : ρ 2 + 0 ≤ ρ 1 + 0 := hP _ (List.mem_of_getElem? (i := 2) rfl)
  have h3 : (0 ≤ (ρ 1 + 0 : Int) ∧ 0 ≤ (ρ 3 + 0 : Int)) ∧ ∃ f, tS (tqB g) (ρ 1 + 0 : Int).toNat = some ((ρ 3 + 0 : Int), f, (ρ 4 + 0 : Int)) ∧ cEnd (ρ 4 + 0 : Int) f := hP _ (List.mem_of_getElem? (i := 3) rfl)
  try simp only [Int.add_zero] at h0 h1 h2 h3
  have key : (TR (tqB g) (tqL g) (ρ 1 + 0 : Int)) ∧ True := by
    try simp only [Int.add_zero]
    obtain ⟨-, -, q, -⟩ := h0
    have q : ρ 2 = tqL g := q
    have ei : (ρ 1).toNat = (tqL g).toNat := by omega
    
    obtain ⟨i0, f, hs, hn⟩ := h3
    rw [ei] at hs
    exact ⟨Or.inr (Or.inl ⟨by omega, by omega, _, _, _, hs, fun h => h.2 (by omega)⟩), trivial⟩
  exact ⟨nB, qB (key.1) (nB)⟩
def t_urk3 : KT := ((0, 0, 0, 0), [(2, 0, 40, 0), (1, 1, 0, 0), (1, 2, 0, 0), (1, 3, 0, 0), (1, 4, 0, 0), (1, 5, 0, 0)], [(0, 0), (-2147483648, 2147483647), (-2147483648, 2147483647), (1, 11), (0, 24), (-2147483648, 2147483647)], [(458, [(2, 0, 40, 0), (1, 2, 0, 0)]), (6, [(1, 1, 0, 0), (1, 2, 0, 0)]), (6, [(1, 2, 0, 0), (1, 1, 0, 0)]), (493, [(1, 1, 0, 0), (1, 3, 0, 0), (1, 4, 0, 0)]), (10, [(2, 0, 40, 0), (0, 0, 0, 20), (1, 3, 0, 1)]), (10, [(2, 0, 40, 0), (0, 0, 0, 21), (1, 5, 0, 0)]), (26, [(1, 4, 0, 0), (0, 0, 0, 2), (1, 5, 0, 0)])], (0, 0, 0), [], [], ([], [(466, [(0, 0, 0, -1)]), (469, [(2, 0, 40, 0), (0, 0, 0, -1)])]), ([], []))
set_option maxRecDepth 100000 in
theorem l_urk3 (g : GG) : LOK Yt (PSt g) t_urk3 := by
  intro ρ α Γ M as hT hB hA hP
  have g0 : Γ (α 0) = 40 := tyAt hA (i := 0) rfl
  have b1 : -2147483648 ≤ ρ 1 ∧ ρ 1 ≤ 2147483647 := hB 1
  have b2 : -2147483648 ≤ ρ 2 ∧ ρ 2 ≤ 2147483647 := hB 2
  have b3 : 1 ≤ ρ 3 ∧ ρ 3 ≤ 11 := hB 3
  have b4 : 0 ≤ ρ 4 ∧ ρ 4 ≤ 24 := hB 4
  have b5 : -2147483648 ≤ ρ 5 ∧ ρ 5 ≤ 2147483647 := hB 5
  have h0 : Γ (α 0) = 40 ∧ tyO Γ M (α 0) [(15, 48, [(0, 400)])] ∧ Q458 g (vw M (α 0) 15 [(0, 400)]) (clp [] (M.2.2.2.2 (α 0))) (ρ 2 + 0) := hP _ (List.mem_of_getElem? (i := 0) rfl)
  have h1 : ρ 1 + 0 ≤ ρ 2 + 0 := hP _ (List.mem_of_getElem? (i := 1) rfl)
  have h2 : ρ 2 + 0 ≤ ρ 1 + 0 := hP _ (List.mem_of_getElem? (i := 2) rfl)
  have h3 : (0 ≤ (ρ 1 + 0 : Int) ∧ 0 ≤ (ρ 3 + 0 : Int)) ∧ ∃ f, tS (tqB g) (ρ 1 + 0 : Int).toNat = some ((ρ 3 + 0 : Int), f, (ρ 4 + 0 : Int)) ∧ cEnd (ρ 4 + 0 : Int) f := hP _ (List.mem_of_getElem? (i := 3) rfl)
  have h4 : 0 ≤ (20 : Int) ∧ M.2.2.2.2 (α 0) (20 : Int).toNat = ρ 3 + 1 := hP _ (List.mem_of_getElem? (i := 4) rfl)
  have h5 : 0 ≤ (21 : Int) ∧ M.2.2.2.2 (α 0) (21 : Int).toNat = ρ 5 + 0 := hP _ (List.mem_of_getElem? (i := 5) rfl)
  have h6 : ρ 5 + 0 = wI ((ρ 4 + 0 : Int).tdiv (2)) := hP _ (List.mem_of_getElem? (i := 6) rfl)
  try simp only [Int.add_zero] at h0 h1 h2 h3 h4 h5 h6
  have key : (TR (tqB g) (tqL g) ((-1) : Int)) ∧ (Γ (α 0) = 40 ∧ tyO Γ M (α 0) [] ∧ Q469 g  (clp [(20, 22)] (M.2.2.2.2 (α 0))) ((-1))) ∧ True := by
    try simp only [Int.add_zero]
    obtain ⟨-, -, q, -⟩ := h0
    have q : ρ 2 = tqL g := q
    have ei : (ρ 1).toNat = (tqL g).toNat := by omega
    
    obtain ⟨i0, f, hs, hn⟩ := h3
    rw [ei] at hs
    obtain ⟨d1, -⟩ := dm (p := ρ 4) (by omega) (show (0 : Int) < 2 by decide)
    rw [d1, wI_id (by unfold inI; omega)] at h6
    exact ⟨Or.inr (Or.inr ⟨rfl, by omega, _, _, _, hs, hn, by omega⟩), ⟨g0, fun _ h => absurd h List.not_mem_nil, fun _ => ⟨_, f, _, hs, h4.2, h5.2.trans h6⟩⟩, trivial⟩
  exact ⟨nB, qB (key.1) (qB (key.2.1) (nB))⟩
def t_urkX : KT := ((0, 0, 0, 0), [(1, 0, 0, 0), (1, 1, 0, 0)], [(-2147483648, 2147483647), (-2147483648, 2147483647)], [(6, [(1, 0, 0, 0), (1, 1, 0, 0)]), (6, [(1, 1, 0, 0), (1, 0, 0, 0)]), (99, [(1, 0, 0, 0), (1, 1, 0, 0), (0, 0, 0, 0)])], (0, 0, 0), [], [], ([(0, 1, 0)], []), ([], []))
set_option maxRecDepth 100000 in
theorem l_urkX (g : GG) : LOK Yt (PSt g) t_urkX := by
  intro ρ α Γ M as hT hB hA hP
  have b0 : -2147483648 ≤ ρ 0 ∧ ρ 0 ≤ 2147483647 := hB 0
  have b1 : -2147483648 ≤ ρ 1 ∧ ρ 1 ≤ 2147483647 := hB 1
  have h0 : ρ 0 + 0 ≤ ρ 1 + 0 := hP _ (List.mem_of_getElem? (i := 0) rfl)
  have h1 : ρ 1 + 0 ≤ ρ 0 + 0 := hP _ (List.mem_of_getElem? (i := 1) rfl)
  have h2 : (ρ 0 + 0 : Int) ≠ ρ 1 + 0 := hP _ (List.mem_of_getElem? (i := 2) rfl)
  try simp only [Int.add_zero] at h0 h1 h2
  have key : (1 ≤ ρ 0 ∧ ρ 0 ≤ 0) ∧ True := by
    try simp only [Int.add_zero]
    exact absurd (show ρ 0 = ρ 1 by omega) (show ρ 0 ≠ ρ 1 from h2)
  exact ⟨qB (key.1) (nB), nB⟩
def t_urk4 : KT := ((0, 0, 0, 0), [(1, 0, 0, 0), (1, 1, 0, 0), (1, 2, 0, 0), (1, 3, 0, 0)], [(59, 59), (-2147483648, 2147483647), (11, 11), (-2147483648, 2147483647)], [(475, [(1, 0, 0, 0), (1, 1, 0, 0)]), (460, [(1, 1, 0, 0)]), (493, [(1, 1, 0, 0), (1, 2, 0, 0), (1, 3, 0, 0)])], (0, 0, 0), [], [], ([], [(466, [(1, 1, 0, 0)])]), ([], []))
set_option maxRecDepth 100000 in
theorem l_urk4 (g : GG) : LOK Yt (PSt g) t_urk4 := by
  intro ρ α Γ M as hT hB hA hP
  have b0 : 59 ≤ ρ 0 ∧ ρ 0 ≤ 59 := hB 0
  have b1 : -2147483648 ≤ ρ 1 ∧ ρ 1 ≤ 2147483647 := hB 1
  have b2 : 11 ≤ ρ 2 ∧ ρ 2 ≤ 11 := hB 2
  have b3 : -2147483648 ≤ ρ 3 ∧ ρ 3 ≤ 2147483647 := hB 3
  have h0 : 0 ≤ (ρ 1 + 0 : Int) ∧ ρ 0 + 0 = tqB g (ρ 1 + 0 : Int).toNat := hP _ (List.mem_of_getElem? (i := 0) rfl)
  have h1 : 0 ≤ (ρ 1 + 0 : Int) ∧ (ρ 1 + 0 : Int) < tqL g := hP _ (List.mem_of_getElem? (i := 1) rfl)
  have h2 : (0 ≤ (ρ 1 + 0 : Int) ∧ 0 ≤ (ρ 2 + 0 : Int)) ∧ ∃ f, tS (tqB g) (ρ 1 + 0 : Int).toNat = some ((ρ 2 + 0 : Int), f, (ρ 3 + 0 : Int)) ∧ cEnd (ρ 3 + 0 : Int) f := hP _ (List.mem_of_getElem? (i := 2) rfl)
  try simp only [Int.add_zero] at h0 h1 h2
  have key : (TR (tqB g) (tqL g) (ρ 1 + 0 : Int)) ∧ True := by
    try simp only [Int.add_zero]
    obtain ⟨⟨i0, e0⟩, f, hs, hn⟩ := h2
    have cb : tqB g (ρ 1).toNat = ρ 0 := (h0.2).symm
    have ei : ((ρ 1).toNat : Int) = ρ 1 := by omega
    exact ⟨Or.inl ⟨(ρ 1).toNat, ei.symm, by rw [ei]; exact h1.2, (by rw [hs]; exact fun h => nomatch h), (tS_end hs (by rw [cb]; omega)).trans (if_neg fun h => h.2 (by omega))⟩, trivial⟩
  exact ⟨nB, qB (key.1) (nB)⟩
def t_urk5 : KT := ((0, 0, 0, 0), [(1, 0, 0, 0), (1, 1, 0, 0), (1, 2, 0, 0), (1, 3, 0, 0), (1, 4, 0, 0), (2, 5, 40, 0), (1, 6, 0, 0)], [(59, 59), (-2147483648, 2147483647), (0, 10), (4, 24), (-2147483648, 2147483647), (0, 0), (-2147483648, 2147483647)], [(475, [(1, 0, 0, 0), (1, 1, 0, 0)]), (460, [(1, 1, 0, 0)]), (493, [(1, 1, 0, 0), (1, 2, 0, 0), (1, 3, 0, 0)]), (26, [(1, 3, 0, 0), (0, 0, 0, 2), (1, 4, 0, 0)])], (0, 0, 0), [], [], ([], [(470, [(1, 1, 0, 1), (1, 2, 0, 1), (1, 4, 0, 0), (0, 0, 0, 0)]), (461, [(1, 1, 0, 1)]), (481, [(2, 5, 40, 0), (1, 1, 0, 1), (0, 0, 0, 0), (1, 6, 0, 0)])]), ([], []))
set_option maxRecDepth 100000 in
theorem l_urk5 (g : GG) : LOK Yt (PSt g) t_urk5 := by
  intro ρ α Γ M as hT hB hA hP
  have b0 : 59 ≤ ρ 0 ∧ ρ 0 ≤ 59 := hB 0
  have b1 : -2147483648 ≤ ρ 1 ∧ ρ 1 ≤ 2147483647 := hB 1
  have b2 : 0 ≤ ρ 2 ∧ ρ 2 ≤ 10 := hB 2
  have b3 : 4 ≤ ρ 3 ∧ ρ 3 ≤ 24 := hB 3
  have b4 : -2147483648 ≤ ρ 4 ∧ ρ 4 ≤ 2147483647 := hB 4
  have g5 : Γ (α 5) = 40 := tyAt hA (i := 5) rfl
  have b6 : -2147483648 ≤ ρ 6 ∧ ρ 6 ≤ 2147483647 := hB 6
  have h0 : 0 ≤ (ρ 1 + 0 : Int) ∧ ρ 0 + 0 = tqB g (ρ 1 + 0 : Int).toNat := hP _ (List.mem_of_getElem? (i := 0) rfl)
  have h1 : 0 ≤ (ρ 1 + 0 : Int) ∧ (ρ 1 + 0 : Int) < tqL g := hP _ (List.mem_of_getElem? (i := 1) rfl)
  have h2 : (0 ≤ (ρ 1 + 0 : Int) ∧ 0 ≤ (ρ 2 + 0 : Int)) ∧ ∃ f, tS (tqB g) (ρ 1 + 0 : Int).toNat = some ((ρ 2 + 0 : Int), f, (ρ 3 + 0 : Int)) ∧ cEnd (ρ 3 + 0 : Int) f := hP _ (List.mem_of_getElem? (i := 2) rfl)
  have h3 : ρ 4 + 0 = wI ((ρ 3 + 0 : Int).tdiv (2)) := hP _ (List.mem_of_getElem? (i := 3) rfl)
  try simp only [Int.add_zero] at h0 h1 h2 h3
  have key : ((0 ≤ (ρ 1 + 1 : Int) ∧ 0 ≤ (ρ 2 + 1 : Int) ∧ ((ρ 2 + 1 : Int) ≠ 0 → 2 ≤ (ρ 4 + 0 : Int))) ∧ tS (tqB g) (ρ 1 + 1 : Int).toNat = some ((ρ 2 + 1 : Int), (if (ρ 2 + 1 : Int) = 0 then 0 else 2 * (ρ 4 + 0 : Int)), (0 : Int))) ∧ ((ρ 1 + 1 : Int) ≤ tqL g) ∧ (Γ (α 5) = 40 ∧ tyO Γ M (α 5) [(19, 50, [(0, 144)])] ∧ Q481 g (vw M (α 5) 19 [(0, 144)]) (clp [] (M.2.2.2.2 (α 5))) (ρ 1 + 1) (0) (ρ 6 + 0)) ∧ True := by
    try simp only [Int.add_zero]
    obtain ⟨⟨i0, e0⟩, f, hs, hn⟩ := h2
    have cb : tqB g (ρ 1).toNat = ρ 0 := (h0.2).symm
    have ei : ((ρ 1).toNat : Int) = ρ 1 := by omega
    
    obtain ⟨d1, -⟩ := dm (p := ρ 3) (by omega) (show (0 : Int) < 2 by decide)
    rw [d1, wI_id (by unfold inI; omega)] at h3
    have x := (tS_end hs (by rw [cb]; omega)).trans (if_pos ⟨hn, by omega⟩)
    have es : ρ 3 = 2 * ρ 4 := by have := hn.1; omega
    refine ⟨⟨⟨by omega, by omega, fun _ => by omega⟩, ?_⟩, by have := h1.2; omega, ⟨g5, tyO_of hT g5 (by decide) (by decide), fun h => absurd rfl h⟩, trivial⟩
    rw [show (ρ 1 + 1).toNat = (ρ 1).toNat + 1 by omega, if_neg (show ρ 2 + 1 ≠ 0 by omega), ← es]
    exact x
  exact ⟨nB, qB (key.1) (qB (key.2.1) (qB (key.2.2.1) (nB)))⟩
def t_urs1 : KT := ((0, 0, 0, 0), [(1, 0, 0, 0), (1, 1, 0, 0), (1, 2, 0, 0), (1, 3, 0, 0), (1, 4, 0, 0)], [(-2147483648, 2147483647), (-2147483648, 2147483647), (-2147483648, 2147483647), (-2147483648, 2147483647), (24, 24)], [(470, [(1, 1, 0, 0), (1, 2, 0, 0), (1, 3, 0, 0), (1, 4, 0, 0)]), (475, [(1, 0, 0, 0), (1, 1, 0, 0)]), (460, [(1, 1, 0, 0)]), (99, [(1, 0, 0, 0), (0, 0, 0, 59), (0, 0, 0, 0)])], (0, 0, 0), [], [], ([], [(466, [(1, 1, 0, 0)])]), ([], []))
set_option maxRecDepth 100000 in
theorem l_urs1 (g : GG) : LOK Yt (PSt g) t_urs1 := by
  intro ρ α Γ M as hT hB hA hP
  have b0 : -2147483648 ≤ ρ 0 ∧ ρ 0 ≤ 2147483647 := hB 0
  have b1 : -2147483648 ≤ ρ 1 ∧ ρ 1 ≤ 2147483647 := hB 1
  have b2 : -2147483648 ≤ ρ 2 ∧ ρ 2 ≤ 2147483647 := hB 2
  have b3 : -2147483648 ≤ ρ 3 ∧ ρ 3 ≤ 2147483647 := hB 3
  have b4 : 24 ≤ ρ 4 ∧ ρ 4 ≤ 24 := hB 4
  have h0 : (0 ≤ (ρ 1 + 0 : Int) ∧ 0 ≤ (ρ 2 + 0 : Int) ∧ ((ρ 2 + 0 : Int) ≠ 0 → 2 ≤ (ρ 3 + 0 : Int))) ∧ tS (tqB g) (ρ 1 + 0 : Int).toNat = some ((ρ 2 + 0 : Int), (if (ρ 2 + 0 : Int) = 0 then 0 else 2 * (ρ 3 + 0 : Int)), (ρ 4 + 0 : Int)) := hP _ (List.mem_of_getElem? (i := 0) rfl)
  have h1 : 0 ≤ (ρ 1 + 0 : Int) ∧ ρ 0 + 0 = tqB g (ρ 1 + 0 : Int).toNat := hP _ (List.mem_of_getElem? (i := 1) rfl)
  have h2 : 0 ≤ (ρ 1 + 0 : Int) ∧ (ρ 1 + 0 : Int) < tqL g := hP _ (List.mem_of_getElem? (i := 2) rfl)
  have h3 : (ρ 0 + 0 : Int) ≠ 59 := hP _ (List.mem_of_getElem? (i := 3) rfl)
  try simp only [Int.add_zero] at h0 h1 h2 h3
  have key : (TR (tqB g) (tqL g) (ρ 1 + 0 : Int)) ∧ True := by
    try simp only [Int.add_zero]
    obtain ⟨⟨i0, r0, c0⟩, hs⟩ := h0
    have cb : tqB g (ρ 1).toNat = ρ 0 := (h1.2).symm
    have ei : ((ρ 1).toNat : Int) = ρ 1 := by omega
    exact ⟨Or.inl ⟨(ρ 1).toNat, ei.symm, by rw [ei]; exact h2.2, (by rw [hs]; exact fun h => nomatch h), (tS_sgn hs (by rw [cb]; exact h3)).trans (if_neg fun h => h.1 (by omega))⟩, trivial⟩
  exact ⟨nB, qB (key.1) (nB)⟩
def t_urs2 : KT := ((0, 0, 0, 0), [(1, 0, 0, 0), (1, 1, 0, 0), (1, 2, 0, 0), (1, 3, 0, 0), (1, 4, 0, 0), (1, 5, 0, 0)], [(-2147483648, 2147483647), (-2147483648, 2147483647), (-2147483648, 2147483647), (-2147483648, 2147483647), (-2147483648, 2147483647), (-1, -1)], [(470, [(1, 1, 0, 0), (1, 2, 0, 0), (1, 3, 0, 0), (1, 4, 0, 0)]), (475, [(1, 0, 0, 0), (1, 1, 0, 0)]), (460, [(1, 1, 0, 0)]), (99, [(1, 0, 0, 0), (0, 0, 0, 59), (0, 0, 0, 0)]), (467, [(1, 5, 0, 0), (1, 0, 0, 0)]), (99, [(1, 0, 0, 0), (0, 0, 0, 46), (0, 0, 0, 0)])], (0, 0, 0), [], [], ([], [(466, [(1, 1, 0, 0)])]), ([], []))
set_option maxRecDepth 100000 in
theorem l_urs2 (g : GG) : LOK Yt (PSt g) t_urs2 := by
  intro ρ α Γ M as hT hB hA hP
  have b0 : -2147483648 ≤ ρ 0 ∧ ρ 0 ≤ 2147483647 := hB 0
  have b1 : -2147483648 ≤ ρ 1 ∧ ρ 1 ≤ 2147483647 := hB 1
  have b2 : -2147483648 ≤ ρ 2 ∧ ρ 2 ≤ 2147483647 := hB 2
  have b3 : -2147483648 ≤ ρ 3 ∧ ρ 3 ≤ 2147483647 := hB 3
  have b4 : -2147483648 ≤ ρ 4 ∧ ρ 4 ≤ 2147483647 := hB 4
  have b5 : -1 ≤ ρ 5 ∧ ρ 5 ≤ -1 := hB 5
  have h0 : (0 ≤ (ρ 1 + 0 : Int) ∧ 0 ≤ (ρ 2 + 0 : Int) ∧ ((ρ 2 + 0 : Int) ≠ 0 → 2 ≤ (ρ 3 + 0 : Int))) ∧ tS (tqB g) (ρ 1 + 0 : Int).toNat = some ((ρ 2 + 0 : Int), (if (ρ 2 + 0 : Int) = 0 then 0 else 2 * (ρ 3 + 0 : Int)), (ρ 4 + 0 : Int)) := hP _ (List.mem_of_getElem? (i := 0) rfl)
  have h1 : 0 ≤ (ρ 1 + 0 : Int) ∧ ρ 0 + 0 = tqB g (ρ 1 + 0 : Int).toNat := hP _ (List.mem_of_getElem? (i := 1) rfl)
  have h2 : 0 ≤ (ρ 1 + 0 : Int) ∧ (ρ 1 + 0 : Int) < tqL g := hP _ (List.mem_of_getElem? (i := 2) rfl)
  have h3 : (ρ 0 + 0 : Int) ≠ 59 := hP _ (List.mem_of_getElem? (i := 3) rfl)
  have h4 : (ρ 5 + 0 : Int) = -1 ↔ ¬ dgt (ρ 0 + 0 : Int) := hP _ (List.mem_of_getElem? (i := 4) rfl)
  have h5 : (ρ 0 + 0 : Int) ≠ 46 := hP _ (List.mem_of_getElem? (i := 5) rfl)
  try simp only [Int.add_zero] at h0 h1 h2 h3 h4 h5
  have key : (TR (tqB g) (tqL g) (ρ 1 + 0 : Int)) ∧ True := by
    try simp only [Int.add_zero]
    obtain ⟨⟨i0, r0, c0⟩, hs⟩ := h0
    have cb : tqB g (ρ 1).toNat = ρ 0 := (h1.2).symm
    have ei : ((ρ 1).toNat : Int) = ρ 1 := by omega
    
    have nd := h4.mp (by omega)
    have no : ¬ cStd (tqB g) (ρ 1).toNat (ρ 4) := fun h => by
      by_cases ev : ρ 4 % 2 = 0 ∨ (ρ 1).toNat = 0
      · have := h.1 ev
        rw [cb] at this
        rcases this with x | x
        · exact nd x
        · exact h5 x
      · have := h.2 ev
        rw [cb] at this
        by_cases pv : tqB g ((ρ 1).toNat - 1) = 46
        · exact h5 (this.1 pv)
        · exact nd (this.2 pv)
    exact ⟨Or.inl ⟨(ρ 1).toNat, ei.symm, by rw [ei]; exact h2.2, (by rw [hs]; exact fun h => nomatch h), (tS_sgn hs (by rw [cb]; exact h3)).trans (if_neg fun h => no h.2)⟩, trivial⟩
  exact ⟨nB, qB (key.1) (nB)⟩
def t_urs0 : KT := ((0, 0, 0, 0), [(1, 0, 0, 0), (1, 1, 0, 0), (1, 2, 0, 0), (2, 3, 40, 0), (2, 4, 50, 0), (1, 5, 0, 0), (1, 6, 0, 0)], [(-2147483648, 2147483647), (0, 24), (1, 1), (0, 0), (0, 0), (0, 143), (-2147483648, 2147483647)], [(27, [(1, 1, 0, 0), (0, 0, 0, 2), (1, 2, 0, 0)]), (481, [(2, 3, 40, 0), (1, 0, 0, 0), (1, 1, 0, 0), (1, 5, 0, 0)]), (11, [(2, 3, 40, 0), (0, 0, 0, 19), (2, 4, 50, 0)]), (10, [(2, 4, 50, 0), (1, 5, 0, 0), (1, 6, 0, 0)])], (0, 0, 0), [], [], ([], [(494, [(1, 6, 0, 0), (1, 0, 0, 0)])]), ([], []))
set_option maxRecDepth 100000 in
theorem l_urs0 (g : GG) : LOK Yt (PSt g) t_urs0 := by
  intro ρ α Γ M as hT hB hA hP
  have b0 : -2147483648 ≤ ρ 0 ∧ ρ 0 ≤ 2147483647 := hB 0
  have b1 : 0 ≤ ρ 1 ∧ ρ 1 ≤ 24 := hB 1
  have b2 : 1 ≤ ρ 2 ∧ ρ 2 ≤ 1 := hB 2
  have g3 : Γ (α 3) = 40 := tyAt hA (i := 3) rfl
  have g4 : Γ (α 4) = 50 := tyAt hA (i := 4) rfl
  have b5 : 0 ≤ ρ 5 ∧ ρ 5 ≤ 143 := hB 5
  have b6 : -2147483648 ≤ ρ 6 ∧ ρ 6 ≤ 2147483647 := hB 6
  have h0 : ρ 2 + 0 = (ρ 1 + 0 : Int).tmod (2) := hP _ (List.mem_of_getElem? (i := 0) rfl)
  have h1 : Γ (α 3) = 40 ∧ tyO Γ M (α 3) [(19, 50, [(0, 144)])] ∧ Q481 g (vw M (α 3) 19 [(0, 144)]) (clp [] (M.2.2.2.2 (α 3))) (ρ 0 + 0) (ρ 1 + 0) (ρ 5 + 0) := hP _ (List.mem_of_getElem? (i := 1) rfl)
  have h2 : 0 ≤ (19 : Int) ∧ M.2.2.2.1 (α 3) (19 : Int).toNat = some (α 4) := hP _ (List.mem_of_getElem? (i := 2) rfl)
  have h3 : 0 ≤ (ρ 5 + 0 : Int) ∧ M.2.2.2.2 (α 4) (ρ 5 + 0 : Int).toNat = ρ 6 + 0 := hP _ (List.mem_of_getElem? (i := 3) rfl)
  try simp only [Int.add_zero] at h0 h1 h2 h3
  have key : (0 < (ρ 0 + 0 : Int) ∧ ((ρ 6 + 0 : Int) = 1 ↔ tqB g ((ρ 0 + 0 : Int).toNat - 1) = 46)) ∧ True := by
    try simp only [Int.add_zero]
    obtain ⟨d1, d2, -⟩ := dm (p := ρ 1) (by omega) (show (0 : Int) < 2 by decide)
    rw [d2] at h0
    
    have e3 : fl M (α 3) 19 = α 4 := fl_eq (show M.2.2.2.1 (α 3) 19 = some (α 4) from h2.2)
    obtain ⟨-, -, hh⟩ := h1
    have hh : ρ 1 % 2 ≠ 0 → 0 < ρ 0 ∧ (0 ≤ ρ 5 ∧ ρ 5 < 144) ∧ (clp [(0, 144)] (M.2.2.2.2 (fl M (α 3) 19)) (ρ 5).toNat = 1 ↔ tqB g ((ρ 0).toNat - 1) = 46) := hh
    obtain ⟨ip, cr, hh⟩ := hh (by omega)
    rw [e3, cAll (by omega), h3.2] at hh
    exact ⟨⟨ip, hh⟩, trivial⟩
  exact ⟨nB, qB (key.1) (nB)⟩
def t_urs3a : KT := ((0, 0, 0, 0), [(1, 0, 0, 0), (1, 1, 0, 0), (1, 2, 0, 0), (1, 3, 0, 0), (1, 4, 0, 0), (1, 5, 0, 0), (1, 6, 0, 0)], [(46, 46), (-2147483648, 2147483647), (-2147483648, 2147483647), (-2147483648, 2147483647), (0, 24), (1, 1), (0, 0)], [(470, [(1, 1, 0, 0), (1, 2, 0, 0), (1, 3, 0, 0), (1, 4, 0, 0)]), (475, [(1, 0, 0, 0), (1, 1, 0, 0)]), (460, [(1, 1, 0, 0)]), (99, [(1, 0, 0, 0), (0, 0, 0, 59), (0, 0, 0, 0)]), (27, [(1, 4, 0, 0), (0, 0, 0, 2), (1, 5, 0, 0)]), (494, [(1, 6, 0, 0), (1, 1, 0, 0)])], (0, 0, 0), [], [], ([], [(466, [(1, 1, 0, 0)])]), ([], []))
set_option maxRecDepth 100000 in
theorem l_urs3a (g : GG) : LOK Yt (PSt g) t_urs3a := by
  intro ρ α Γ M as hT hB hA hP
  have b0 : 46 ≤ ρ 0 ∧ ρ 0 ≤ 46 := hB 0
  have b1 : -2147483648 ≤ ρ 1 ∧ ρ 1 ≤ 2147483647 := hB 1
  have b2 : -2147483648 ≤ ρ 2 ∧ ρ 2 ≤ 2147483647 := hB 2
  have b3 : -2147483648 ≤ ρ 3 ∧ ρ 3 ≤ 2147483647 := hB 3
  have b4 : 0 ≤ ρ 4 ∧ ρ 4 ≤ 24 := hB 4
  have b5 : 1 ≤ ρ 5 ∧ ρ 5 ≤ 1 := hB 5
  have b6 : 0 ≤ ρ 6 ∧ ρ 6 ≤ 0 := hB 6
  have h0 : (0 ≤ (ρ 1 + 0 : Int) ∧ 0 ≤ (ρ 2 + 0 : Int) ∧ ((ρ 2 + 0 : Int) ≠ 0 → 2 ≤ (ρ 3 + 0 : Int))) ∧ tS (tqB g) (ρ 1 + 0 : Int).toNat = some ((ρ 2 + 0 : Int), (if (ρ 2 + 0 : Int) = 0 then 0 else 2 * (ρ 3 + 0 : Int)), (ρ 4 + 0 : Int)) := hP _ (List.mem_of_getElem? (i := 0) rfl)
  have h1 : 0 ≤ (ρ 1 + 0 : Int) ∧ ρ 0 + 0 = tqB g (ρ 1 + 0 : Int).toNat := hP _ (List.mem_of_getElem? (i := 1) rfl)
  have h2 : 0 ≤ (ρ 1 + 0 : Int) ∧ (ρ 1 + 0 : Int) < tqL g := hP _ (List.mem_of_getElem? (i := 2) rfl)
  have h3 : (ρ 0 + 0 : Int) ≠ 59 := hP _ (List.mem_of_getElem? (i := 3) rfl)
  have h4 : ρ 5 + 0 = (ρ 4 + 0 : Int).tmod (2) := hP _ (List.mem_of_getElem? (i := 4) rfl)
  have h5 : 0 < (ρ 1 + 0 : Int) ∧ ((ρ 6 + 0 : Int) = 1 ↔ tqB g ((ρ 1 + 0 : Int).toNat - 1) = 46) := hP _ (List.mem_of_getElem? (i := 5) rfl)
  try simp only [Int.add_zero] at h0 h1 h2 h3 h4 h5
  have key : (TR (tqB g) (tqL g) (ρ 1 + 0 : Int)) ∧ True := by
    try simp only [Int.add_zero]
    obtain ⟨⟨i0, r0, c0⟩, hs⟩ := h0
    have cb : tqB g (ρ 1).toNat = ρ 0 := (h1.2).symm
    have ei : ((ρ 1).toNat : Int) = ρ 1 := by omega
    obtain ⟨d1, d2, -⟩ := dm (p := ρ 4) (by omega) (show (0 : Int) < 2 by decide)
    rw [d2] at h4
    obtain ⟨ip, hh⟩ := h5
    have od : ¬ (ρ 4 % 2 = 0 ∨ (ρ 1).toNat = 0) := by omega
    exact ⟨Or.inl ⟨(ρ 1).toNat, ei.symm, by rw [ei]; exact h2.2, (by rw [hs]; exact fun h => nomatch h), (tS_sgn hs (by rw [cb]; exact h3)).trans (if_neg fun h => by
      have x := (h.2.2 od).2 (fun q => by have := hh.mpr q; omega)
      rw [cb] at x
      rcases x with x | x <;> omega)⟩, trivial⟩
  exact ⟨nB, qB (key.1) (nB)⟩
def t_urs3b : KT := ((0, 0, 0, 0), [(1, 0, 0, 0), (1, 1, 0, 0), (1, 2, 0, 0), (1, 3, 0, 0), (1, 4, 0, 0), (1, 5, 0, 0), (1, 6, 0, 0)], [(-2147483648, 2147483647), (-2147483648, 2147483647), (-2147483648, 2147483647), (-2147483648, 2147483647), (0, 24), (1, 1), (1, 1)], [(470, [(1, 1, 0, 0), (1, 2, 0, 0), (1, 3, 0, 0), (1, 4, 0, 0)]), (475, [(1, 0, 0, 0), (1, 1, 0, 0)]), (460, [(1, 1, 0, 0)]), (99, [(1, 0, 0, 0), (0, 0, 0, 59), (0, 0, 0, 0)]), (27, [(1, 4, 0, 0), (0, 0, 0, 2), (1, 5, 0, 0)]), (494, [(1, 6, 0, 0), (1, 1, 0, 0)]), (99, [(1, 0, 0, 0), (0, 0, 0, 46), (0, 0, 0, 0)])], (0, 0, 0), [], [], ([], [(466, [(1, 1, 0, 0)])]), ([], []))
set_option maxRecDepth 100000 in
theorem l_urs3b (g : GG) : LOK Yt (PSt g) t_urs3b := by
  intro ρ α Γ M as hT hB hA hP
  have b0 : -2147483648 ≤ ρ 0 ∧ ρ 0 ≤ 2147483647 := hB 0
  have b1 : -2147483648 ≤ ρ 1 ∧ ρ 1 ≤ 2147483647 := hB 1
  have b2 : -2147483648 ≤ ρ 2 ∧ ρ 2 ≤ 2147483647 := hB 2
  have b3 : -2147483648 ≤ ρ 3 ∧ ρ 3 ≤ 2147483647 := hB 3
  have b4 : 0 ≤ ρ 4 ∧ ρ 4 ≤ 24 := hB 4
  have b5 : 1 ≤ ρ 5 ∧ ρ 5 ≤ 1 := hB 5
  have b6 : 1 ≤ ρ 6 ∧ ρ 6 ≤ 1 := hB 6
  have h0 : (0 ≤ (ρ 1 + 0 : Int) ∧ 0 ≤ (ρ 2 + 0 : Int) ∧ ((ρ 2 + 0 : Int) ≠ 0 → 2 ≤ (ρ 3 + 0 : Int))) ∧ tS (tqB g) (ρ 1 + 0 : Int).toNat = some ((ρ 2 + 0 : Int), (if (ρ 2 + 0 : Int) = 0 then 0 else 2 * (ρ 3 + 0 : Int)), (ρ 4 + 0 : Int)) := hP _ (List.mem_of_getElem? (i := 0) rfl)
  have h1 : 0 ≤ (ρ 1 + 0 : Int) ∧ ρ 0 + 0 = tqB g (ρ 1 + 0 : Int).toNat := hP _ (List.mem_of_getElem? (i := 1) rfl)
  have h2 : 0 ≤ (ρ 1 + 0 : Int) ∧ (ρ 1 + 0 : Int) < tqL g := hP _ (List.mem_of_getElem? (i := 2) rfl)
  have h3 : (ρ 0 + 0 : Int) ≠ 59 := hP _ (List.mem_of_getElem? (i := 3) rfl)
  have h4 : ρ 5 + 0 = (ρ 4 + 0 : Int).tmod (2) := hP _ (List.mem_of_getElem? (i := 4) rfl)
  have h5 : 0 < (ρ 1 + 0 : Int) ∧ ((ρ 6 + 0 : Int) = 1 ↔ tqB g ((ρ 1 + 0 : Int).toNat - 1) = 46) := hP _ (List.mem_of_getElem? (i := 5) rfl)
  have h6 : (ρ 0 + 0 : Int) ≠ 46 := hP _ (List.mem_of_getElem? (i := 6) rfl)
  try simp only [Int.add_zero] at h0 h1 h2 h3 h4 h5 h6
  have key : (TR (tqB g) (tqL g) (ρ 1 + 0 : Int)) ∧ True := by
    try simp only [Int.add_zero]
    obtain ⟨⟨i0, r0, c0⟩, hs⟩ := h0
    have cb : tqB g (ρ 1).toNat = ρ 0 := (h1.2).symm
    have ei : ((ρ 1).toNat : Int) = ρ 1 := by omega
    obtain ⟨d1, d2, -⟩ := dm (p := ρ 4) (by omega) (show (0 : Int) < 2 by decide)
    rw [d2] at h4
    obtain ⟨ip, hh⟩ := h5
    have od : ¬ (ρ 4 % 2 = 0 ∨ (ρ 1).toNat = 0) := by omega
    exact ⟨Or.inl ⟨(ρ 1).toNat, ei.symm, by rw [ei]; exact h2.2, (by rw [hs]; exact fun h => nomatch h), (tS_sgn hs (by rw [cb]; exact h3)).trans (if_neg fun h => h6 (by rw [← cb]; exact (h.2.2 od).1 (hh.mp (by omega))))⟩, trivial⟩
  exact ⟨nB, qB (key.1) (nB)⟩
def t_urs4a : KT := ((0, 0, 0, 0), [(1, 0, 0, 0), (1, 1, 0, 0), (1, 2, 0, 0), (1, 3, 0, 0), (1, 4, 0, 0), (1, 5, 0, 0), (1, 6, 0, 0), (2, 7, 40, 0), (1, 8, 0, 0)], [(46, 46), (-2147483648, 2147483647), (-2147483648, 2147483647), (-2147483648, 2147483647), (0, 23), (1, 1), (1, 1), (0, 0), (-2147483648, 2147483647)], [(470, [(1, 1, 0, 0), (1, 2, 0, 0), (1, 3, 0, 0), (1, 4, 0, 0)]), (475, [(1, 0, 0, 0), (1, 1, 0, 0)]), (460, [(1, 1, 0, 0)]), (99, [(1, 0, 0, 0), (0, 0, 0, 59), (0, 0, 0, 0)]), (27, [(1, 4, 0, 0), (0, 0, 0, 2), (1, 5, 0, 0)]), (494, [(1, 6, 0, 0), (1, 1, 0, 0)])], (0, 0, 0), [], [], ([], [(470, [(1, 1, 0, 1), (1, 2, 0, 0), (1, 3, 0, 0), (1, 4, 0, 1)]), (461, [(1, 1, 0, 1)]), (481, [(2, 7, 40, 0), (1, 1, 0, 1), (1, 4, 0, 1), (1, 8, 0, 1)])]), ([], []))
set_option maxRecDepth 100000 in
theorem l_urs4a (g : GG) : LOK Yt (PSt g) t_urs4a := by
  intro ρ α Γ M as hT hB hA hP
  have b0 : 46 ≤ ρ 0 ∧ ρ 0 ≤ 46 := hB 0
  have b1 : -2147483648 ≤ ρ 1 ∧ ρ 1 ≤ 2147483647 := hB 1
  have b2 : -2147483648 ≤ ρ 2 ∧ ρ 2 ≤ 2147483647 := hB 2
  have b3 : -2147483648 ≤ ρ 3 ∧ ρ 3 ≤ 2147483647 := hB 3
  have b4 : 0 ≤ ρ 4 ∧ ρ 4 ≤ 23 := hB 4
  have b5 : 1 ≤ ρ 5 ∧ ρ 5 ≤ 1 := hB 5
  have b6 : 1 ≤ ρ 6 ∧ ρ 6 ≤ 1 := hB 6
  have g7 : Γ (α 7) = 40 := tyAt hA (i := 7) rfl
  have b8 : -2147483648 ≤ ρ 8 ∧ ρ 8 ≤ 2147483647 := hB 8
  have h0 : (0 ≤ (ρ 1 + 0 : Int) ∧ 0 ≤ (ρ 2 + 0 : Int) ∧ ((ρ 2 + 0 : Int) ≠ 0 → 2 ≤ (ρ 3 + 0 : Int))) ∧ tS (tqB g) (ρ 1 + 0 : Int).toNat = some ((ρ 2 + 0 : Int), (if (ρ 2 + 0 : Int) = 0 then 0 else 2 * (ρ 3 + 0 : Int)), (ρ 4 + 0 : Int)) := hP _ (List.mem_of_getElem? (i := 0) rfl)
  have h1 : 0 ≤ (ρ 1 + 0 : Int) ∧ ρ 0 + 0 = tqB g (ρ 1 + 0 : Int).toNat := hP _ (List.mem_of_getElem? (i := 1) rfl)
  have h2 : 0 ≤ (ρ 1 + 0 : Int) ∧ (ρ 1 + 0 : Int) < tqL g := hP _ (List.mem_of_getElem? (i := 2) rfl)
  have h3 : (ρ 0 + 0 : Int) ≠ 59 := hP _ (List.mem_of_getElem? (i := 3) rfl)
  have h4 : ρ 5 + 0 = (ρ 4 + 0 : Int).tmod (2) := hP _ (List.mem_of_getElem? (i := 4) rfl)
  have h5 : 0 < (ρ 1 + 0 : Int) ∧ ((ρ 6 + 0 : Int) = 1 ↔ tqB g ((ρ 1 + 0 : Int).toNat - 1) = 46) := hP _ (List.mem_of_getElem? (i := 5) rfl)
  try simp only [Int.add_zero] at h0 h1 h2 h3 h4 h5
  have key : ((0 ≤ (ρ 1 + 1 : Int) ∧ 0 ≤ (ρ 2 + 0 : Int) ∧ ((ρ 2 + 0 : Int) ≠ 0 → 2 ≤ (ρ 3 + 0 : Int))) ∧ tS (tqB g) (ρ 1 + 1 : Int).toNat = some ((ρ 2 + 0 : Int), (if (ρ 2 + 0 : Int) = 0 then 0 else 2 * (ρ 3 + 0 : Int)), (ρ 4 + 1 : Int))) ∧ ((ρ 1 + 1 : Int) ≤ tqL g) ∧ (Γ (α 7) = 40 ∧ tyO Γ M (α 7) [(19, 50, [(0, 144)])] ∧ Q481 g (vw M (α 7) 19 [(0, 144)]) (clp [] (M.2.2.2.2 (α 7))) (ρ 1 + 1) (ρ 4 + 1) (ρ 8 + 1)) ∧ True := by
    try simp only [Int.add_zero]
    obtain ⟨⟨i0, r0, c0⟩, hs⟩ := h0
    have cb : tqB g (ρ 1).toNat = ρ 0 := (h1.2).symm
    have ei : ((ρ 1).toNat : Int) = ρ 1 := by omega
    obtain ⟨d1, d2, -⟩ := dm (p := ρ 4) (by omega) (show (0 : Int) < 2 by decide)
    rw [d2] at h4
    obtain ⟨ip, hh⟩ := h5
    have od : ¬ (ρ 4 % 2 = 0 ∨ (ρ 1).toNat = 0) := by omega
    have ok : cStd (tqB g) (ρ 1).toNat (ρ 4) := ⟨fun h => absurd h od, fun _ => ⟨fun _ => by rw [cb]; omega, fun h => absurd (hh.mp (by omega)) h⟩⟩
    refine ⟨⟨⟨by omega, r0, c0⟩, ?_⟩, by have := h2.2; omega, ⟨g7, tyO_of hT g7 (by decide) (by decide), fun h => absurd (show (ρ 4 + 1) % 2 = 0 by omega) h⟩, trivial⟩
    rw [show (ρ 1 + 1).toNat = (ρ 1).toNat + 1 by omega]
    exact (tS_sgn hs (by rw [cb]; exact h3)).trans (if_pos ⟨by omega, ok⟩)
  exact ⟨nB, qB (key.1) (qB (key.2.1) (qB (key.2.2.1) (nB)))⟩
def t_urs4b : KT := ((0, 0, 0, 0), [(1, 0, 0, 0), (1, 1, 0, 0), (1, 2, 0, 0), (1, 3, 0, 0), (1, 4, 0, 0), (1, 5, 0, 0), (1, 6, 0, 0), (2, 7, 40, 0), (1, 8, 0, 0), (1, 9, 0, 0)], [(-2147483648, 2147483647), (-2147483648, 2147483647), (-2147483648, 2147483647), (-2147483648, 2147483647), (0, 23), (1, 1), (0, 0), (0, 0), (-2147483648, 2147483647), (0, 15)], [(470, [(1, 1, 0, 0), (1, 2, 0, 0), (1, 3, 0, 0), (1, 4, 0, 0)]), (475, [(1, 0, 0, 0), (1, 1, 0, 0)]), (460, [(1, 1, 0, 0)]), (99, [(1, 0, 0, 0), (0, 0, 0, 59), (0, 0, 0, 0)]), (27, [(1, 4, 0, 0), (0, 0, 0, 2), (1, 5, 0, 0)]), (494, [(1, 6, 0, 0), (1, 1, 0, 0)]), (467, [(1, 9, 0, 0), (1, 0, 0, 0)])], (0, 0, 0), [], [], ([], [(470, [(1, 1, 0, 1), (1, 2, 0, 0), (1, 3, 0, 0), (1, 4, 0, 1)]), (461, [(1, 1, 0, 1)]), (481, [(2, 7, 40, 0), (1, 1, 0, 1), (1, 4, 0, 1), (1, 8, 0, 1)])]), ([], []))
set_option maxRecDepth 100000 in
theorem l_urs4b (g : GG) : LOK Yt (PSt g) t_urs4b := by
  intro ρ α Γ M as hT hB hA hP
  have b0 : -2147483648 ≤ ρ 0 ∧ ρ 0 ≤ 2147483647 := hB 0
  have b1 : -2147483648 ≤ ρ 1 ∧ ρ 1 ≤ 2147483647 := hB 1
  have b2 : -2147483648 ≤ ρ 2 ∧ ρ 2 ≤ 2147483647 := hB 2
  have b3 : -2147483648 ≤ ρ 3 ∧ ρ 3 ≤ 2147483647 := hB 3
  have b4 : 0 ≤ ρ 4 ∧ ρ 4 ≤ 23 := hB 4
  have b5 : 1 ≤ ρ 5 ∧ ρ 5 ≤ 1 := hB 5
  have b6 : 0 ≤ ρ 6 ∧ ρ 6 ≤ 0 := hB 6
  have g7 : Γ (α 7) = 40 := tyAt hA (i := 7) rfl
  have b8 : -2147483648 ≤ ρ 8 ∧ ρ 8 ≤ 2147483647 := hB 8
  have b9 : 0 ≤ ρ 9 ∧ ρ 9 ≤ 15 := hB 9
  have h0 : (0 ≤ (ρ 1 + 0 : Int) ∧ 0 ≤ (ρ 2 + 0 : Int) ∧ ((ρ 2 + 0 : Int) ≠ 0 → 2 ≤ (ρ 3 + 0 : Int))) ∧ tS (tqB g) (ρ 1 + 0 : Int).toNat = some ((ρ 2 + 0 : Int), (if (ρ 2 + 0 : Int) = 0 then 0 else 2 * (ρ 3 + 0 : Int)), (ρ 4 + 0 : Int)) := hP _ (List.mem_of_getElem? (i := 0) rfl)
  have h1 : 0 ≤ (ρ 1 + 0 : Int) ∧ ρ 0 + 0 = tqB g (ρ 1 + 0 : Int).toNat := hP _ (List.mem_of_getElem? (i := 1) rfl)
  have h2 : 0 ≤ (ρ 1 + 0 : Int) ∧ (ρ 1 + 0 : Int) < tqL g := hP _ (List.mem_of_getElem? (i := 2) rfl)
  have h3 : (ρ 0 + 0 : Int) ≠ 59 := hP _ (List.mem_of_getElem? (i := 3) rfl)
  have h4 : ρ 5 + 0 = (ρ 4 + 0 : Int).tmod (2) := hP _ (List.mem_of_getElem? (i := 4) rfl)
  have h5 : 0 < (ρ 1 + 0 : Int) ∧ ((ρ 6 + 0 : Int) = 1 ↔ tqB g ((ρ 1 + 0 : Int).toNat - 1) = 46) := hP _ (List.mem_of_getElem? (i := 5) rfl)
  have h6 : (ρ 9 + 0 : Int) = -1 ↔ ¬ dgt (ρ 0 + 0 : Int) := hP _ (List.mem_of_getElem? (i := 6) rfl)
  try simp only [Int.add_zero] at h0 h1 h2 h3 h4 h5 h6
  have key : ((0 ≤ (ρ 1 + 1 : Int) ∧ 0 ≤ (ρ 2 + 0 : Int) ∧ ((ρ 2 + 0 : Int) ≠ 0 → 2 ≤ (ρ 3 + 0 : Int))) ∧ tS (tqB g) (ρ 1 + 1 : Int).toNat = some ((ρ 2 + 0 : Int), (if (ρ 2 + 0 : Int) = 0 then 0 else 2 * (ρ 3 + 0 : Int)), (ρ 4 + 1 : Int))) ∧ ((ρ 1 + 1 : Int) ≤ tqL g) ∧ (Γ (α 7) = 40 ∧ tyO Γ M (α 7) [(19, 50, [(0, 144)])] ∧ Q481 g (vw M (α 7) 19 [(0, 144)]) (clp [] (M.2.2.2.2 (α 7))) (ρ 1 + 1) (ρ 4 + 1) (ρ 8 + 1)) ∧ True := by
    try simp only [Int.add_zero]
    obtain ⟨⟨i0, r0, c0⟩, hs⟩ := h0
    have cb : tqB g (ρ 1).toNat = ρ 0 := (h1.2).symm
    have ei : ((ρ 1).toNat : Int) = ρ 1 := by omega
    obtain ⟨d1, d2, -⟩ := dm (p := ρ 4) (by omega) (show (0 : Int) < 2 by decide)
    rw [d2] at h4
    obtain ⟨ip, hh⟩ := h5
    have od : ¬ (ρ 4 % 2 = 0 ∨ (ρ 1).toNat = 0) := by omega
    have dg : dgt (ρ 0) := Decidable.byContradiction fun h => by have := h6.mpr h; omega
    have ok : cStd (tqB g) (ρ 1).toNat (ρ 4) := ⟨fun h => absurd h od, fun _ => ⟨fun h => absurd (hh.mpr h) (by omega), fun _ => by rw [cb]; exact dg⟩⟩
    refine ⟨⟨⟨by omega, r0, c0⟩, ?_⟩, by have := h2.2; omega, ⟨g7, tyO_of hT g7 (by decide) (by decide), fun h => absurd (show (ρ 4 + 1) % 2 = 0 by omega) h⟩, trivial⟩
    rw [show (ρ 1 + 1).toNat = (ρ 1).toNat + 1 by omega]
    exact (tS_sgn hs (by rw [cb]; exact h3)).trans (if_pos ⟨by omega, ok⟩)
  exact ⟨nB, qB (key.1) (qB (key.2.1) (qB (key.2.2.1) (nB)))⟩
def t_urs5a : KT := ((0, 0, 0, 0), [(1, 0, 0, 0), (1, 1, 0, 0), (1, 2, 0, 0), (1, 3, 0, 0), (1, 4, 0, 0), (1, 5, 0, 0), (2, 6, 40, 0), (2, 7, 50, 0), (1, 8, 0, 0)], [(46, 46), (-2147483648, 2147483647), (-2147483648, 2147483647), (-2147483648, 2147483647), (0, 23), (0, 0), (0, 0), (0, 0), (0, 143)], [(470, [(1, 1, 0, 0), (1, 2, 0, 0), (1, 3, 0, 0), (1, 4, 0, 0)]), (475, [(1, 0, 0, 0), (1, 1, 0, 0)]), (460, [(1, 1, 0, 0)]), (99, [(1, 0, 0, 0), (0, 0, 0, 59), (0, 0, 0, 0)]), (27, [(1, 4, 0, 0), (0, 0, 0, 2), (1, 5, 0, 0)]), (11, [(2, 6, 40, 0), (0, 0, 0, 19), (2, 7, 50, 0)]), (10, [(2, 7, 50, 0), (1, 8, 0, 0), (0, 0, 0, 1)])], (0, 0, 0), [], [], ([], [(470, [(1, 1, 0, 1), (1, 2, 0, 0), (1, 3, 0, 0), (1, 4, 0, 1)]), (461, [(1, 1, 0, 1)]), (481, [(2, 6, 40, 0), (1, 1, 0, 1), (1, 4, 0, 1), (1, 8, 0, 0)])]), ([], []))
set_option maxRecDepth 100000 in
theorem l_urs5a (g : GG) : LOK Yt (PSt g) t_urs5a := by
  intro ρ α Γ M as hT hB hA hP
  have b0 : 46 ≤ ρ 0 ∧ ρ 0 ≤ 46 := hB 0
  have b1 : -2147483648 ≤ ρ 1 ∧ ρ 1 ≤ 2147483647 := hB 1
  have b2 : -2147483648 ≤ ρ 2 ∧ ρ 2 ≤ 2147483647 := hB 2
  have b3 : -2147483648 ≤ ρ 3 ∧ ρ 3 ≤ 2147483647 := hB 3
  have b4 : 0 ≤ ρ 4 ∧ ρ 4 ≤ 23 := hB 4
  have b5 : 0 ≤ ρ 5 ∧ ρ 5 ≤ 0 := hB 5
  have g6 : Γ (α 6) = 40 := tyAt hA (i := 6) rfl
  have g7 : Γ (α 7) = 50 := tyAt hA (i := 7) rfl
  have b8 : 0 ≤ ρ 8 ∧ ρ 8 ≤ 143 := hB 8
  have h0 : (0 ≤ (ρ 1 + 0 : Int) ∧ 0 ≤ (ρ 2 + 0 : Int) ∧ ((ρ 2 + 0 : Int) ≠ 0 → 2 ≤ (ρ 3 + 0 : Int))) ∧ tS (tqB g) (ρ 1 + 0 : Int).toNat = some ((ρ 2 + 0 : Int), (if (ρ 2 + 0 : Int) = 0 then 0 else 2 * (ρ 3 + 0 : Int)), (ρ 4 + 0 : Int)) := hP _ (List.mem_of_getElem? (i := 0) rfl)
  have h1 : 0 ≤ (ρ 1 + 0 : Int) ∧ ρ 0 + 0 = tqB g (ρ 1 + 0 : Int).toNat := hP _ (List.mem_of_getElem? (i := 1) rfl)
  have h2 : 0 ≤ (ρ 1 + 0 : Int) ∧ (ρ 1 + 0 : Int) < tqL g := hP _ (List.mem_of_getElem? (i := 2) rfl)
  have h3 : (ρ 0 + 0 : Int) ≠ 59 := hP _ (List.mem_of_getElem? (i := 3) rfl)
  have h4 : ρ 5 + 0 = (ρ 4 + 0 : Int).tmod (2) := hP _ (List.mem_of_getElem? (i := 4) rfl)
  have h5 : 0 ≤ (19 : Int) ∧ M.2.2.2.1 (α 6) (19 : Int).toNat = some (α 7) := hP _ (List.mem_of_getElem? (i := 5) rfl)
  have h6 : 0 ≤ (ρ 8 + 0 : Int) ∧ M.2.2.2.2 (α 7) (ρ 8 + 0 : Int).toNat = 1 := hP _ (List.mem_of_getElem? (i := 6) rfl)
  try simp only [Int.add_zero] at h0 h1 h2 h3 h4 h5 h6
  have key : ((0 ≤ (ρ 1 + 1 : Int) ∧ 0 ≤ (ρ 2 + 0 : Int) ∧ ((ρ 2 + 0 : Int) ≠ 0 → 2 ≤ (ρ 3 + 0 : Int))) ∧ tS (tqB g) (ρ 1 + 1 : Int).toNat = some ((ρ 2 + 0 : Int), (if (ρ 2 + 0 : Int) = 0 then 0 else 2 * (ρ 3 + 0 : Int)), (ρ 4 + 1 : Int))) ∧ ((ρ 1 + 1 : Int) ≤ tqL g) ∧ (Γ (α 6) = 40 ∧ tyO Γ M (α 6) [(19, 50, [(0, 144)])] ∧ Q481 g (vw M (α 6) 19 [(0, 144)]) (clp [] (M.2.2.2.2 (α 6))) (ρ 1 + 1) (ρ 4 + 1) (ρ 8 + 0)) ∧ True := by
    try simp only [Int.add_zero]
    obtain ⟨⟨i0, r0, c0⟩, hs⟩ := h0
    have cb : tqB g (ρ 1).toNat = ρ 0 := (h1.2).symm
    have ei : ((ρ 1).toNat : Int) = ρ 1 := by omega
    obtain ⟨d1, d2, -⟩ := dm (p := ρ 4) (by omega) (show (0 : Int) < 2 by decide)
    rw [d2] at h4
    
    have e3 : fl M (α 6) 19 = α 7 := fl_eq (show M.2.2.2.1 (α 6) 19 = some (α 7) from h5.2)
    have ev : ρ 4 % 2 = 0 ∨ (ρ 1).toNat = 0 := Or.inl (by omega)
    have hv : M.2.2.2.2 (α 7) (ρ 8).toNat = 1 := h6.2
    have ok : cStd (tqB g) (ρ 1).toNat (ρ 4) := ⟨fun _ => by rw [cb]; exact Or.inr (by omega), fun h => absurd ev h⟩
    refine ⟨⟨⟨by omega, r0, c0⟩, ?_⟩, by have := h2.2; omega, ⟨g6, tyO_of hT g6 (by decide) (by decide), fun _ => ⟨by omega, by omega, ?_⟩⟩, trivial⟩
    · rw [show (ρ 1 + 1).toNat = (ρ 1).toNat + 1 by omega]
      exact (tS_sgn hs (by rw [cb]; exact h3)).trans (if_pos ⟨by omega, ok⟩)
    · show clp [(0, 144)] (M.2.2.2.2 (fl M (α 6) 19)) (ρ 8).toNat = 1 ↔ tqB g ((ρ 1 + 1).toNat - 1) = 46
      rw [e3, cAll (by omega), show (ρ 1 + 1).toNat - 1 = (ρ 1).toNat by omega, cb, hv]
      exact ⟨fun _ => by omega, fun _ => rfl⟩
  exact ⟨nB, qB (key.1) (qB (key.2.1) (qB (key.2.2.1) (nB)))⟩
def t_urs5b : KT := ((0, 0, 0, 0), [(1, 0, 0, 0), (1, 1, 0, 0), (1, 2, 0, 0), (1, 3, 0, 0), (1, 4, 0, 0), (1, 5, 0, 0), (2, 6, 40, 0), (2, 7, 50, 0), (1, 8, 0, 0), (1, 9, 0, 0)], [(-2147483648, 2147483647), (-2147483648, 2147483647), (-2147483648, 2147483647), (-2147483648, 2147483647), (0, 23), (0, 0), (0, 0), (0, 0), (0, 143), (0, 15)], [(470, [(1, 1, 0, 0), (1, 2, 0, 0), (1, 3, 0, 0), (1, 4, 0, 0)]), (475, [(1, 0, 0, 0), (1, 1, 0, 0)]), (460, [(1, 1, 0, 0)]), (99, [(1, 0, 0, 0), (0, 0, 0, 59), (0, 0, 0, 0)]), (27, [(1, 4, 0, 0), (0, 0, 0, 2), (1, 5, 0, 0)]), (11, [(2, 6, 40, 0), (0, 0, 0, 19), (2, 7, 50, 0)]), (10, [(2, 7, 50, 0), (1, 8, 0, 0), (0, 0, 0, 0)]), (467, [(1, 9, 0, 0), (1, 0, 0, 0)]), (99, [(1, 0, 0, 0), (0, 0, 0, 46), (0, 0, 0, 0)])], (0, 0, 0), [], [], ([], [(470, [(1, 1, 0, 1), (1, 2, 0, 0), (1, 3, 0, 0), (1, 4, 0, 1)]), (461, [(1, 1, 0, 1)]), (481, [(2, 6, 40, 0), (1, 1, 0, 1), (1, 4, 0, 1), (1, 8, 0, 0)])]), ([], []))
set_option maxRecDepth 100000 in
theorem l_urs5b (g : GG) : LOK Yt (PSt g) t_urs5b := by
  intro ρ α Γ M as hT hB hA hP
  have b0 : -2147483648 ≤ ρ 0 ∧ ρ 0 ≤ 2147483647 := hB 0
  have b1 : -2147483648 ≤ ρ 1 ∧ ρ 1 ≤ 2147483647 := hB 1
  have b2 : -2147483648 ≤ ρ 2 ∧ ρ 2 ≤ 2147483647 := hB 2
  have b3 : -2147483648 ≤ ρ 3 ∧ ρ 3 ≤ 2147483647 := hB 3
  have b4 : 0 ≤ ρ 4 ∧ ρ 4 ≤ 23 := hB 4
  have b5 : 0 ≤ ρ 5 ∧ ρ 5 ≤ 0 := hB 5
  have g6 : Γ (α 6) = 40 := tyAt hA (i := 6) rfl
  have g7 : Γ (α 7) = 50 := tyAt hA (i := 7) rfl
  have b8 : 0 ≤ ρ 8 ∧ ρ 8 ≤ 143 := hB 8
  have b9 : 0 ≤ ρ 9 ∧ ρ 9 ≤ 15 := hB 9
  have h0 : (0 ≤ (ρ 1 + 0 : Int) ∧ 0 ≤ (ρ 2 + 0 : Int) ∧ ((ρ 2 + 0 : Int) ≠ 0 → 2 ≤ (ρ 3 + 0 : Int))) ∧ tS (tqB g) (ρ 1 + 0 : Int).toNat = some ((ρ 2 + 0 : Int), (if (ρ 2 + 0 : Int) = 0 then 0 else 2 * (ρ 3 + 0 : Int)), (ρ 4 + 0 : Int)) := hP _ (List.mem_of_getElem? (i := 0) rfl)
  have h1 : 0 ≤ (ρ 1 + 0 : Int) ∧ ρ 0 + 0 = tqB g (ρ 1 + 0 : Int).toNat := hP _ (List.mem_of_getElem? (i := 1) rfl)
  have h2 : 0 ≤ (ρ 1 + 0 : Int) ∧ (ρ 1 + 0 : Int) < tqL g := hP _ (List.mem_of_getElem? (i := 2) rfl)
  have h3 : (ρ 0 + 0 : Int) ≠ 59 := hP _ (List.mem_of_getElem? (i := 3) rfl)
  have h4 : ρ 5 + 0 = (ρ 4 + 0 : Int).tmod (2) := hP _ (List.mem_of_getElem? (i := 4) rfl)
  have h5 : 0 ≤ (19 : Int) ∧ M.2.2.2.1 (α 6) (19 : Int).toNat = some (α 7) := hP _ (List.mem_of_getElem? (i := 5) rfl)
  have h6 : 0 ≤ (ρ 8 + 0 : Int) ∧ M.2.2.2.2 (α 7) (ρ 8 + 0 : Int).toNat = 0 := hP _ (List.mem_of_getElem? (i := 6) rfl)
  have h7 : (ρ 9 + 0 : Int) = -1 ↔ ¬ dgt (ρ 0 + 0 : Int) := hP _ (List.mem_of_getElem? (i := 7) rfl)
  have h8 : (ρ 0 + 0 : Int) ≠ 46 := hP _ (List.mem_of_getElem? (i := 8) rfl)
  try simp only [Int.add_zero] at h0 h1 h2 h3 h4 h5 h6 h7 h8
  have key : ((0 ≤ (ρ 1 + 1 : Int) ∧ 0 ≤ (ρ 2 + 0 : Int) ∧ ((ρ 2 + 0 : Int) ≠ 0 → 2 ≤ (ρ 3 + 0 : Int))) ∧ tS (tqB g) (ρ 1 + 1 : Int).toNat = some ((ρ 2 + 0 : Int), (if (ρ 2 + 0 : Int) = 0 then 0 else 2 * (ρ 3 + 0 : Int)), (ρ 4 + 1 : Int))) ∧ ((ρ 1 + 1 : Int) ≤ tqL g) ∧ (Γ (α 6) = 40 ∧ tyO Γ M (α 6) [(19, 50, [(0, 144)])] ∧ Q481 g (vw M (α 6) 19 [(0, 144)]) (clp [] (M.2.2.2.2 (α 6))) (ρ 1 + 1) (ρ 4 + 1) (ρ 8 + 0)) ∧ True := by
    try simp only [Int.add_zero]
    obtain ⟨⟨i0, r0, c0⟩, hs⟩ := h0
    have cb : tqB g (ρ 1).toNat = ρ 0 := (h1.2).symm
    have ei : ((ρ 1).toNat : Int) = ρ 1 := by omega
    obtain ⟨d1, d2, -⟩ := dm (p := ρ 4) (by omega) (show (0 : Int) < 2 by decide)
    rw [d2] at h4
    
    have e3 : fl M (α 6) 19 = α 7 := fl_eq (show M.2.2.2.1 (α 6) 19 = some (α 7) from h5.2)
    have ev : ρ 4 % 2 = 0 ∨ (ρ 1).toNat = 0 := Or.inl (by omega)
    have hv : M.2.2.2.2 (α 7) (ρ 8).toNat = 0 := h6.2
    have dg : dgt (ρ 0) := Decidable.byContradiction fun h => by have := h7.mpr h; omega
    have ok : cStd (tqB g) (ρ 1).toNat (ρ 4) := ⟨fun _ => by rw [cb]; exact Or.inl dg, fun h => absurd ev h⟩
    refine ⟨⟨⟨by omega, r0, c0⟩, ?_⟩, by have := h2.2; omega, ⟨g6, tyO_of hT g6 (by decide) (by decide), fun _ => ⟨by omega, by omega, ?_⟩⟩, trivial⟩
    · rw [show (ρ 1 + 1).toNat = (ρ 1).toNat + 1 by omega]
      exact (tS_sgn hs (by rw [cb]; exact h3)).trans (if_pos ⟨by omega, ok⟩)
    · show clp [(0, 144)] (M.2.2.2.2 (fl M (α 6) 19)) (ρ 8).toNat = 1 ↔ tqB g ((ρ 1 + 1).toNat - 1) = 46
      rw [e3, cAll (by omega), show (ρ 1 + 1).toNat - 1 = (ρ 1).toNat by omega, cb, hv]
      exact ⟨fun h => absurd h (by decide), fun h => absurd h h8⟩
  exact ⟨nB, qB (key.1) (qB (key.2.1) (qB (key.2.2.1) (nB)))⟩
def t_urs7 : KT := ((0, 0, 0, 0), [(2, 0, 40, 0), (1, 1, 0, 0), (1, 2, 0, 0)], [(0, 0), (-2147483648, 2147483647), (-2147483648, 2147483647)], [(6, [(1, 1, 0, 0), (1, 2, 0, 0)]), (21, [(1, 2, 0, 0), (1, 1, 0, 0)])], (0, 0, 0), [], [], ([], [(466, [(0, 0, 0, -1)]), (469, [(2, 0, 40, 0), (0, 0, 0, -1)])]), ([], []))
set_option maxRecDepth 100000 in
theorem l_urs7 (g : GG) : LOK Yt (PSt g) t_urs7 := by
  intro ρ α Γ M as hT hB hA hP
  have g0 : Γ (α 0) = 40 := tyAt hA (i := 0) rfl
  have b1 : -2147483648 ≤ ρ 1 ∧ ρ 1 ≤ 2147483647 := hB 1
  have b2 : -2147483648 ≤ ρ 2 ∧ ρ 2 ≤ 2147483647 := hB 2
  have h0 : ρ 1 + 0 ≤ ρ 2 + 0 := hP _ (List.mem_of_getElem? (i := 0) rfl)
  have h1 : ρ 2 + 0 < ρ 1 + 0 := hP _ (List.mem_of_getElem? (i := 1) rfl)
  try simp only [Int.add_zero] at h0 h1
  have key : (TR (tqB g) (tqL g) ((-1) : Int)) ∧ (Γ (α 0) = 40 ∧ tyO Γ M (α 0) [] ∧ Q469 g  (clp [(20, 22)] (M.2.2.2.2 (α 0))) ((-1))) ∧ True := by
    try simp only [Int.add_zero]
    exact absurd h0 (by omega)
  exact ⟨nB, qB (key.1) (qB (key.2.1) (nB))⟩
def t_utu1 : KT := ((0, 0, 0, 0), [(2, 0, 40, 0), (1, 1, 0, 0)], [(0, 0), (-2147483648, 2147483647)], [(466, [(1, 1, 0, 0)]), (10, [(2, 0, 40, 0), (0, 0, 0, 17), (1, 1, 0, 0)])], (0, 0, 0), [], [], ([], [(485, [(2, 0, 40, 0)])]), ([], []))
set_option maxRecDepth 100000 in
theorem l_utu1 (g : GG) : LOK Yt (PSt g) t_utu1 := by
  intro ρ α Γ M as hT hB hA hP
  have g0 : Γ (α 0) = 40 := tyAt hA (i := 0) rfl
  have b1 : -2147483648 ≤ ρ 1 ∧ ρ 1 ≤ 2147483647 := hB 1
  have h0 : TR (tqB g) (tqL g) (ρ 1 + 0 : Int) := hP _ (List.mem_of_getElem? (i := 0) rfl)
  have h1 : 0 ≤ (17 : Int) ∧ M.2.2.2.2 (α 0) (17 : Int).toNat = ρ 1 + 0 := hP _ (List.mem_of_getElem? (i := 1) rfl)
  try simp only [Int.add_zero] at h0 h1
  have key : (Γ (α 0) = 40 ∧ tyO Γ M (α 0) [] ∧ Q485 g  (clp [(17, 18)] (M.2.2.2.2 (α 0))) ) ∧ True := by
    try simp only [Int.add_zero]
    have e : M.2.2.2.2 (α 0) 17 = ρ 1 := h1.2
    refine ⟨⟨g0, fun _ h => absurd h List.not_mem_nil, ?_⟩, trivial⟩
    show TR (tqB g) (tqL g) (M.2.2.2.2 (α 0) 17)
    rw [e]
    exact h0
  exact ⟨nB, qB (key.1) (nB)⟩
def t_utu2 : KT := ((0, 0, 0, 0), [(2, 0, 40, 0), (1, 1, 0, 0), (1, 2, 0, 0), (1, 3, 0, 0)], [(0, 0), (-2147483648, 2147483647), (-2147483648, 2147483647), (-1, -1)], [(469, [(2, 0, 40, 0), (1, 3, 0, 0)]), (10, [(2, 0, 40, 0), (0, 0, 0, 20), (1, 1, 0, 0)]), (10, [(2, 0, 40, 0), (0, 0, 0, 21), (1, 2, 0, 0)]), (466, [(1, 3, 0, 0)])], (0, 0, 0), [], [], ([], [(488, [(1, 1, 0, 0), (1, 2, 0, 0)])]), ([], []))
set_option maxRecDepth 100000 in
theorem l_utu2 (g : GG) : LOK Yt (PSt g) t_utu2 := by
  intro ρ α Γ M as hT hB hA hP
  have g0 : Γ (α 0) = 40 := tyAt hA (i := 0) rfl
  have b1 : -2147483648 ≤ ρ 1 ∧ ρ 1 ≤ 2147483647 := hB 1
  have b2 : -2147483648 ≤ ρ 2 ∧ ρ 2 ≤ 2147483647 := hB 2
  have b3 : -1 ≤ ρ 3 ∧ ρ 3 ≤ -1 := hB 3
  have h0 : Γ (α 0) = 40 ∧ tyO Γ M (α 0) [] ∧ Q469 g  (clp [(20, 22)] (M.2.2.2.2 (α 0))) (ρ 3 + 0) := hP _ (List.mem_of_getElem? (i := 0) rfl)
  have h1 : 0 ≤ (20 : Int) ∧ M.2.2.2.2 (α 0) (20 : Int).toNat = ρ 1 + 0 := hP _ (List.mem_of_getElem? (i := 1) rfl)
  have h2 : 0 ≤ (21 : Int) ∧ M.2.2.2.2 (α 0) (21 : Int).toNat = ρ 2 + 0 := hP _ (List.mem_of_getElem? (i := 2) rfl)
  have h3 : TR (tqB g) (tqL g) (ρ 3 + 0 : Int) := hP _ (List.mem_of_getElem? (i := 3) rfl)
  try simp only [Int.add_zero] at h0 h1 h2 h3
  have key : (TR (tqB g) (tqL g) (-1) ∧ ∃ e f s, tS (tqB g) (tqL g).toNat = some (e, f, s) ∧ (ρ 1 + 0 : Int) = e + 1 ∧ (ρ 2 + 0 : Int) = s / 2) ∧ True := by
    try simp only [Int.add_zero]
    obtain ⟨-, -, h⟩ := h0
    have e3 : ρ 3 = -1 := by omega
    obtain ⟨e, f, s, hs, x1, x2⟩ := h e3
    have x1 : M.2.2.2.2 (α 0) 20 = e + 1 := x1
    have x2 : M.2.2.2.2 (α 0) 21 = s / 2 := x2
    have y1 : M.2.2.2.2 (α 0) 20 = ρ 1 := h1.2
    have y2 : M.2.2.2.2 (α 0) 21 = ρ 2 := h2.2
    rw [e3] at h3
    exact ⟨⟨h3, e, f, s, hs, by omega, by omega⟩, trivial⟩
  exact ⟨nB, qB (key.1) (nB)⟩
def t_utu0 : KT := ((0, 0, 0, 0), [(2, 0, 40, 0), (1, 1, 0, 0)], [(0, 0), (-2147483648, 2147483647)], [(497, [(2, 0, 40, 0)]), (10, [(2, 0, 40, 0), (0, 0, 0, 16), (1, 1, 0, 0)])], (0, 0, 0), [], [], ([], [(458, [(2, 0, 40, 0), (1, 1, 0, 0)])]), ([], []))
set_option maxRecDepth 100000 in
theorem l_utu0 (g : GG) : LOK Yt (PSt g) t_utu0 := by
  intro ρ α Γ M as hT hB hA hP
  have g0 : Γ (α 0) = 40 := tyAt hA (i := 0) rfl
  have b1 : -2147483648 ≤ ρ 1 ∧ ρ 1 ≤ 2147483647 := hB 1
  have h0 : Γ (α 0) = 40 ∧ tyO Γ M (α 0) [(15, 48, [(0, 400)])] ∧ Q497 g (vw M (α 0) 15 [(0, 400)]) (clp [(16, 17)] (M.2.2.2.2 (α 0)))  := hP _ (List.mem_of_getElem? (i := 0) rfl)
  have h1 : 0 ≤ (16 : Int) ∧ M.2.2.2.2 (α 0) (16 : Int).toNat = ρ 1 + 0 := hP _ (List.mem_of_getElem? (i := 1) rfl)
  try simp only [Int.add_zero] at h0 h1
  have key : (Γ (α 0) = 40 ∧ tyO Γ M (α 0) [(15, 48, [(0, 400)])] ∧ Q458 g (vw M (α 0) 15 [(0, 400)]) (clp [] (M.2.2.2.2 (α 0))) (ρ 1 + 0)) ∧ True := by
    try simp only [Int.add_zero]
    obtain ⟨-, ht, q, h⟩ := h0
    have q : M.2.2.2.2 (α 0) 16 = tqL g := q
    have e : M.2.2.2.2 (α 0) 16 = ρ 1 := h1.2
    exact ⟨⟨g0, ht, by omega, h⟩, trivial⟩
  exact ⟨nB, qB (key.1) (nB)⟩
def t_utu3 : KT := ((0, 0, 0, 0), [(2, 0, 40, 0), (1, 1, 0, 0), (1, 2, 0, 0), (1, 3, 0, 0)], [(0, 0), (-2147483648, 2147483647), (-2147483648, 2147483647), (-2147483648, 2147483647)], [(93, [(2, 0, 40, 0), (1, 2, 0, 0)]), (8, [(2, 0, 40, 0), (1, 3, 0, 0)]), (94, [(2, 0, 40, 0), (1, 1, 0, 0)]), (488, [(1, 2, 0, 0), (1, 3, 0, 0)])], (0, 0, 0), [], [], ([], [(486, [(1, 1, 0, 0)])]), ([], []))
set_option maxRecDepth 100000 in
theorem l_utu3 (g : GG) : LOK Yt (PSt g) t_utu3 := by
  intro ρ α Γ M as hT hB hA hP
  have g0 : Γ (α 0) = 40 := tyAt hA (i := 0) rfl
  have b1 : -2147483648 ≤ ρ 1 ∧ ρ 1 ≤ 2147483647 := hB 1
  have b2 : -2147483648 ≤ ρ 2 ∧ ρ 2 ≤ 2147483647 := hB 2
  have b3 : -2147483648 ≤ ρ 3 ∧ ρ 3 ≤ 2147483647 := hB 3
  have h0 : nwE Γ M (α 0) fun r c => ρ 2 + 0 = r := hP _ (List.mem_of_getElem? (i := 0) rfl)
  have h1 : nwE Γ M (α 0) fun r c => ρ 3 + 0 = c := hP _ (List.mem_of_getElem? (i := 1) rfl)
  have h2 : nwE Γ M (α 0) fun r c => ρ 1 + 0 = r * c := hP _ (List.mem_of_getElem? (i := 2) rfl)
  have h3 : TR (tqB g) (tqL g) (-1) ∧ ∃ e f s, tS (tqB g) (tqL g).toNat = some (e, f, s) ∧ (ρ 2 + 0 : Int) = e + 1 ∧ (ρ 3 + 0 : Int) = s / 2 := hP _ (List.mem_of_getElem? (i := 3) rfl)
  try simp only [Int.add_zero] at h0 h1 h2 h3
  have key : (TX (tqB g) (tqL g) (ρ 1 + 0 : Int)) ∧ True := by
    try simp only [Int.add_zero]
    have e : ρ 1 = ρ 2 * ρ 3 := (nw1 hT ((h0.and h1).and h2)).out fun r c ⟨hr, hc, ⟨x, y⟩, z⟩ => by rw [x, y]; exact z
    obtain ⟨r1, e1, f, s, hs, x1, x2⟩ := h3
    exact ⟨⟨-1, r1, fun h => absurd rfl h, fun _ => ⟨e1, f, s, hs, by rw [e, x1, x2]⟩⟩, trivial⟩
  exact ⟨nB, qB (key.1) (nB)⟩
def t_ufl2 : KT := ((0, 0, 0, 0), [(2, 0, 40, 0), (1, 1, 0, 0), (1, 2, 0, 0)], [(0, 0), (-2147483648, 2147483647), (-1, 400)], [(3577, [(2, 0, 40, 0), (1, 2, 0, 0), (1, 2, 0, 0)]), (10, [(2, 0, 40, 0), (0, 0, 0, 17), (1, 1, 0, 0)])], (0, 0, 0), [], [], ([], [(476, [(1, 1, 0, 0), (1, 2, 0, 0)])]), ([], []))
set_option maxRecDepth 100000 in
theorem l_ufl2 (g : GG) : LOK Yt (PSt g) t_ufl2 := by
  intro ρ α Γ M as hT hB hA hP
  have g0 : Γ (α 0) = 40 := tyAt hA (i := 0) rfl
  have b1 : -2147483648 ≤ ρ 1 ∧ ρ 1 ≤ 2147483647 := hB 1
  have b2 : -1 ≤ ρ 2 ∧ ρ 2 ≤ 400 := hB 2
  have h0 : Γ (α 0) = 40 ∧ 40 ≠ 0 ∧ ρ 2 + 0 ≤ M.2.2.2.2 (α 0) 17 ∧ M.2.2.2.2 (α 0) 17 ≤ ρ 2 + 0 := (fId_eq g 40 17 (α 0) (ρ 2 + 0) (ρ 2 + 0) Γ M (by decide)).mp (hP _ (List.mem_of_getElem? (i := 0) rfl))
  have h1 : 0 ≤ (17 : Int) ∧ M.2.2.2.2 (α 0) (17 : Int).toNat = ρ 1 + 0 := hP _ (List.mem_of_getElem? (i := 1) rfl)
  try simp only [Int.add_zero] at h0 h1
  have key : ((ρ 1 + 0 : Int) = ρ 2 + 0) ∧ True := by
    try simp only [Int.add_zero]
    have e : M.2.2.2.2 (α 0) 17 = ρ 1 := h1.2
    obtain ⟨-, -, x1, x2⟩ := h0
    exact ⟨by omega, trivial⟩
  exact ⟨nB, qB (key.1) (nB)⟩
