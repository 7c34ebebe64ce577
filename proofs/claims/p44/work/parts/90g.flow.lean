/-! cuts as flows: what a cut does to the whirls of a map -/
abbrev hE (C r c : Nat) : Nat := 2 * (r * C + c)
abbrev vE (C r c : Nat) : Nat := 2 * (r * C + c) + 1
/-- round a ring: to the right, down, back, up -/
def kwF (C : Nat) (w : Nat → Int) (r c : Nat) : Int := w (hE C r c) + w (vE C r (c + 1)) - w (hE C (r + 1) c) - w (vE C r c)
/-- a cut along a row, along a column: the edges that it goes over -/
def rI (C r f l e : Nat) : Int := if e % 2 = 1 ∧ e / 2 / C = r ∧ f ≤ e / 2 % C ∧ e / 2 % C ≤ l then 1 else 0
def cI (C c f l e : Nat) : Int := if e % 2 = 0 ∧ e / 2 % C = c ∧ f ≤ e / 2 / C ∧ e / 2 / C ≤ l then 1 else 0
theorem hE_d {C r c : Nat} (hc : c < C) : hE C r c % 2 = 0 ∧ hE C r c / 2 / C = r ∧ hE C r c / 2 % C = c := by
  have := rc_d (r := r) hc
  have e : hE C r c / 2 = r * C + c := by unfold hE; omega
  rw [e]
  exact ⟨by unfold hE; omega, this.1, this.2⟩
theorem vE_d {C r c : Nat} (hc : c < C) : vE C r c % 2 = 1 ∧ vE C r c / 2 / C = r ∧ vE C r c / 2 % C = c := by
  have := rc_d (r := r) hc
  have e : vE C r c / 2 = r * C + c := by unfold vE; omega
  rw [e]
  exact ⟨by unfold vE; omega, this.1, this.2⟩
theorem rI_h {C r f l r2 c2 : Nat} (hc : c2 < C) : rI C r f l (hE C r2 c2) = 0 := if_neg fun h => by
  have := (hE_d (r := r2) hc).1
  omega
theorem cI_v {C c f l r2 c2 : Nat} (hc : c2 < C) : cI C c f l (vE C r2 c2) = 0 := if_neg fun h => by
  have := (vE_d (r := r2) hc).1
  omega
theorem rI_v {C r f l r2 c2 : Nat} (hc : c2 < C) : rI C r f l (vE C r2 c2) = if r2 = r ∧ f ≤ c2 ∧ c2 ≤ l then 1 else 0 := by
  obtain ⟨h1, h2, h3⟩ := vE_d (r := r2) hc
  unfold rI
  rw [h1, h2, h3]
  by_cases h : r2 = r ∧ f ≤ c2 ∧ c2 ≤ l
  · rw [if_pos h, if_pos ⟨rfl, h⟩]
  · rw [if_neg h, if_neg (fun q => h q.2)]
theorem cI_h {C c f l r2 c2 : Nat} (hc : c2 < C) : cI C c f l (hE C r2 c2) = if c2 = c ∧ f ≤ r2 ∧ r2 ≤ l then 1 else 0 := by
  obtain ⟨h1, h2, h3⟩ := hE_d (r := r2) hc
  unfold cI
  rw [h1, h2, h3]
  by_cases h : c2 = c ∧ f ≤ r2 ∧ r2 ≤ l
  · rw [if_pos h, if_pos ⟨rfl, h⟩]
  · rw [if_neg h, if_neg (fun q => h q.2)]
theorem kw_add (C : Nat) (w v : Nat → Int) (r c : Nat) : kwF C (fun e => w e + v e) r c = kwF C w r c + kwF C v r c := by
  show w (hE C r c) + v (hE C r c) + (w (vE C r (c + 1)) + v (vE C r (c + 1))) - (w (hE C (r + 1) c) + v (hE C (r + 1) c)) - (w (vE C r c) + v (vE C r c)) = _
  unfold kwF
  omega
/-- along a row, from the column ahead of f to l -/
theorem kw_row {C r f l : Nat} (s : Int) {r2 c2 : Nat} (hc : c2 + 1 < C) (hf : f ≤ l + 1) : kwF C (fun e => s * rI C r f l e) r2 c2 = s * ((if r2 = r ∧ c2 + 1 = f then 1 else 0) - (if r2 = r ∧ c2 = l then 1 else 0)) := by
  unfold kwF
  simp only [rI_h (show c2 < C by omega), rI_v hc, rI_v (show c2 < C by omega), Int.mul_zero]
  rw [show ∀ a b : Int, 0 + s * a - 0 - s * b = s * (a - b) from fun a b => by rw [Int.mul_sub]; omega]
  congr 1
  by_cases h1 : r2 = r
  · by_cases h2 : f ≤ c2 + 1 ∧ c2 + 1 ≤ l
    · rw [if_pos ⟨h1, h2⟩]
      by_cases h3 : c2 + 1 = f
      · rw [if_neg (by omega), if_pos ⟨h1, h3⟩, if_neg (by omega)]
      · rw [if_pos ⟨h1, by omega, by omega⟩, if_neg (by omega), if_neg (by omega)]
        rfl
    · rw [if_neg (fun q => h2 q.2)]
      by_cases h3 : f ≤ c2 ∧ c2 ≤ l
      · rw [if_pos ⟨h1, h3⟩, if_neg (by omega), if_pos ⟨h1, by omega⟩]
      · rw [if_neg (fun q => h3 q.2)]
        by_cases h4 : c2 + 1 = f
        · rw [if_pos ⟨h1, h4⟩, if_pos ⟨h1, by omega⟩]
          rfl
        · rw [if_neg (fun q => h4 q.2), if_neg (by omega)]
  · rw [if_neg (fun q => h1 q.1), if_neg (fun q => h1 q.1), if_neg (fun q => h1 q.1), if_neg (fun q => h1 q.1)]
/-- along a column, from the row ahead of f to l: the other way round -/
theorem kw_col {C c f l : Nat} (s : Int) {r2 c2 : Nat} (hc : c2 + 1 < C) (hf : f ≤ l + 1) : kwF C (fun e => s * cI C c f l e) r2 c2 = s * ((if c2 = c ∧ r2 = l then 1 else 0) - (if c2 = c ∧ r2 + 1 = f then 1 else 0)) := by
  unfold kwF
  simp only [cI_v hc, cI_v (show c2 < C by omega), cI_h (show c2 < C by omega), Int.mul_zero]
  rw [show ∀ a b : Int, s * a + 0 - s * b - 0 = s * (a - b) from fun a b => by rw [Int.mul_sub]; omega]
  congr 1
  by_cases h1 : c2 = c
  · by_cases h2 : f ≤ r2 ∧ r2 ≤ l
    · rw [if_pos ⟨h1, h2⟩]
      by_cases h3 : r2 = l
      · rw [if_neg (by omega), if_pos ⟨h1, h3⟩, if_neg (by omega)]
      · rw [if_pos ⟨h1, by omega, by omega⟩, if_neg (by omega), if_neg (by omega)]
        rfl
    · rw [if_neg (fun q => h2 q.2)]
      by_cases h3 : f ≤ r2 + 1 ∧ r2 + 1 ≤ l
      · rw [if_pos ⟨h1, h3⟩, if_neg (by omega), if_pos ⟨h1, by omega⟩]
      · rw [if_neg (fun q => h3 q.2)]
        by_cases h4 : r2 + 1 = f
        · rw [if_pos (show c2 = c ∧ r2 + 1 = f from ⟨h1, h4⟩), if_pos ⟨h1, by omega⟩]
          rfl
        · rw [if_neg (by omega), if_neg (fun q => h4 q.2)]
  · rw [if_neg (fun q => h1 q.1), if_neg (fun q => h1 q.1), if_neg (fun q => h1 q.1), if_neg (fun q => h1 q.1)]
