/-! p44: views, holes -/
theorem vsv1 {M : MM} {a j t b lo hi : Nat} (h : M.2.2.2.1 a j = some b) : vsv M a ([(j, t)], lo, hi) = clp [(lo, hi)] (M.2.2.2.2 b) := by
  show clp [(lo, hi)] (M.2.2.2.2 (fl M a j)) = _
  rw [fl_eq h]
/-- a step of a path taken -/
theorem vsvS {M : MM} {a j t b : Nat} {p : PTH} {r : Nat × Nat} (h : M.2.2.2.1 a j = some b) : vsv M a ((j, t) :: p, r) = vsv M b (p, r) := by
  show clp [r] (M.2.2.2.2 (wlk M (fl M a j) p)) = _
  rw [fl_eq h]
  rfl
theorem hlU {f : Nat → Int} {i x : Int} (h0 : 0 ≤ i) (hx : f i.toNat = x) : upZ (hcl [vi i] f) i x = f := by
  funext j
  by_cases h : (j : Int) = i
  · rw [upZ_at h, ← hx]
    congr 1
    omega
  · rw [upZ_ne h, hcl1 h]
theorem hlN {f : Nat → Int} {i x : Int} {j : Nat} (h : (j : Int) ≠ i) : f j = upZ (hcl [vi i] f) i x j := by rw [upZ_ne h, hcl1 h]
theorem vB {Γ : Nat → Nat} {M : MM} (hT : HTy Yt Γ M) {a τ : Nat} (p : PTH) (ha : Γ a = τ) (h0 : τ ≠ 0) (hp : okP τ p = true) (he : endT τ p ≠ 0) {r : Nat × Nat × Int × Int} (hr : r ∈ (Yt (endT τ p)).2.2.1) {k lo hi : Nat} (h1 : r.1 ≤ k) (h2 : k < r.2.1) (h3 : lo ≤ k) (h4 : k < hi) : r.2.2.1 ≤ vsv M a (p, lo, hi) k ∧ vsv M a (p, lo, hi) k ≤ r.2.2.2 := by
  have e : vsv M a (p, lo, hi) k = M.2.2.2.2 (wlk M a p) k := clp_in lo hi List.mem_cons_self h3 h4
  rw [e]
  exact tyB hT (wk_end p a τ ha (pic_p hT p a τ ha h0 hp)) he hr h1 h2
theorem cdim {Γ : Nat → Nat} {M : MM} (hT : HTy Yt Γ M) {a : Nat} (ha : Γ a = 1) : (2 ≤ vsv M a ([], 0, 2) 0 ∧ vsv M a ([], 0, 2) 0 ≤ 12) ∧ (2 ≤ vsv M a ([], 0, 2) 1 ∧ vsv M a ([], 0, 2) 1 ≤ 12) :=
  ⟨vB hT [] ha (by decide) rfl (by decide) (r := (0, 1, 2, 12)) (by decide) (Nat.le_refl _) (by decide) (by decide) (by decide), vB hT [] ha (by decide) rfl (by decide) (r := (1, 2, 2, 12)) (by decide) (Nat.le_refl _) (by decide) (by decide) (by decide)⟩
theorem wdim {Γ : Nat → Nat} {M : MM} (hT : HTy Yt Γ M) {a : Nat} (ha : Γ a = 38) : (2 ≤ vsv M a ([(0, 1)], 0, 2) 0 ∧ vsv M a ([(0, 1)], 0, 2) 0 ≤ 12) ∧ (2 ≤ vsv M a ([(0, 1)], 0, 2) 1 ∧ vsv M a ([(0, 1)], 0, 2) 1 ≤ 12) :=
  ⟨vB hT [(0, 1)] ha (by decide) (by decide) (by decide) (r := (0, 1, 2, 12)) (by decide) (Nat.le_refl _) (by decide) (by decide) (by decide), vB hT [(0, 1)] ha (by decide) (by decide) (by decide) (r := (1, 2, 2, 12)) (by decide) (Nat.le_refl _) (by decide) (by decide) (by decide)⟩
theorem fdim {Γ : Nat → Nat} {M : MM} (hT : HTy Yt Γ M) {a : Nat} (ha : Γ a = 54) : (2 ≤ vsv M a ([(0, 38), (0, 1)], 0, 2) 0 ∧ vsv M a ([(0, 38), (0, 1)], 0, 2) 0 ≤ 12) ∧ (2 ≤ vsv M a ([(0, 38), (0, 1)], 0, 2) 1 ∧ vsv M a ([(0, 38), (0, 1)], 0, 2) 1 ≤ 12) :=
  ⟨vB hT [(0, 38), (0, 1)] ha (by decide) (by decide) (by decide) (r := (0, 1, 2, 12)) (by decide) (Nat.le_refl _) (by decide) (by decide) (by decide), vB hT [(0, 38), (0, 1)] ha (by decide) (by decide) (by decide) (r := (1, 2, 2, 12)) (by decide) (Nat.le_refl _) (by decide) (by decide) (by decide)⟩
theorem cph {Γ : Nat → Nat} {M : MM} (hT : HTy Yt Γ M) {a : Nat} (ha : Γ a = 1) {k : Nat} (hk : k < 144) : -127 ≤ vsv M a ([(2, 2)], 0, 144) k ∧ vsv M a ([(2, 2)], 0, 144) k ≤ 127 :=
  vB hT [(2, 2)] ha (by decide) (by decide) (by decide) (r := (0, 144, -127, 127)) (by decide) (Nat.zero_le _) hk (Nat.zero_le _) hk
/-- a path after a place is known -/
theorem wkS {Γ : Nat → Nat} {M : MM} {a j t b : Nat} {p : PTH} (h : M.2.2.2.1 a j = some b) : wlk M a ((j, t) :: p) = wlk M b p := by
  show wlk M (fl M a j) p = _
  rw [fl_eq h]
theorem hlX {f : Nat → Int} {i x : Int} : upZ (hcl [vi i] f) i x = upZ f i x := by
  funext j
  by_cases h : (j : Int) = i
  · rw [upZ_at h, upZ_at h]
  · rw [upZ_ne h, upZ_ne h, hcl1 h]
theorem hlc {f : Nat → Int} {i : Int} {j : Nat} (h : (j : Int) ≠ i) : hcl [vi i] f j = f j := hcl1 h
/-- rows of which all cells are the same -/
theorem row_eq {M : MM} {a b : Nat} (h : ∀ j : Nat, (j : Int) < 144 → vsv M a ([], 0, 144) j = vsv M b ([], 0, 144) j) : clp [(0, 144)] (M.2.2.2.2 a) = clp [(0, 144)] (M.2.2.2.2 b) := by
  funext j
  by_cases hj : (j : Int) < 144
  · exact h j hj
  · rw [cOut (by omega), cOut (by omega)]
theorem fph {Γ : Nat → Nat} {M : MM} (hT : HTy Yt Γ M) {a : Nat} (ha : Γ a = 54) {k : Nat} (hk : k < 144) : -127 ≤ vsv M a ([(0, 38), (0, 1), (2, 2)], 0, 144) k ∧ vsv M a ([(0, 38), (0, 1), (2, 2)], 0, 144) k ≤ 127 :=
  vB hT [(0, 38), (0, 1), (2, 2)] ha (by decide) (by decide) (by decide) (r := (0, 144, -127, 127)) (by decide) (Nat.zero_le _) hk (Nat.zero_le _) hk
