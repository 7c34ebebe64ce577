/-! a map's text: where it is wrong -/
abbrev dgt (c : Int) : Prop := (48 ≤ c ∧ c ≤ 57) ∨ (97 ≤ c ∧ c ≤ 102)
abbrev cEnd (s f : Int) : Prop := s % 2 = 0 ∧ 4 ≤ s ∧ (f = 0 ∨ s = f)
abbrev cStd (b : Nat → Int) (i : Nat) (s : Int) : Prop := ((s % 2 = 0 ∨ i = 0) → dgt (b i) ∨ b i = 46) ∧ (¬ (s % 2 = 0 ∨ i = 0) → (b (i - 1) = 46 → b i = 46) ∧ (b (i - 1) ≠ 46 → dgt (b i)))
/-- rows that have ended, signs of the last of these, signs since; none: wrong before -/
def tS (b : Nat → Int) : Nat → Option (Int × Int × Int)
  | 0 => some (0, 0, 0)
  | i + 1 => match tS b i with
    | none => none
    | some (e, f, s) => if b i = 59 then (if cEnd s f ∧ e ≠ 11 then some (e + 1, s, 0) else none) else (if s ≠ 24 ∧ cStd b i s then some (e, f, s + 1) else none)
theorem tS_end {b : Nat → Int} {i : Nat} {e f s : Int} (h : tS b i = some (e, f, s)) (hb : b i = 59) : tS b (i + 1) = if cEnd s f ∧ e ≠ 11 then some (e + 1, s, 0) else none := by
  show (match tS b i with
    | none => none
    | some (e, f, s) => if b i = 59 then (if cEnd s f ∧ e ≠ 11 then some (e + 1, s, 0) else none) else (if s ≠ 24 ∧ cStd b i s then some (e, f, s + 1) else none)) = _
  rw [h]
  exact if_pos hb
theorem tS_sgn {b : Nat → Int} {i : Nat} {e f s : Int} (h : tS b i = some (e, f, s)) (hb : b i ≠ 59) : tS b (i + 1) = if s ≠ 24 ∧ cStd b i s then some (e, f, s + 1) else none := by
  show (match tS b i with
    | none => none
    | some (e, f, s) => if b i = 59 then (if cEnd s f ∧ e ≠ 11 then some (e + 1, s, 0) else none) else (if s ≠ 24 ∧ cStd b i s then some (e, f, s + 1) else none)) = _
  rw [h]
  exact if_neg hb
theorem tS_none {b : Nat → Int} {i : Nat} (h : tS b i = none) : ∀ k, tS b (i + k) = none
  | 0 => h
  | k + 1 => by
    show (match tS b (i + k) with
      | none => none
      | some (e, f, s) => if b (i + k) = 59 then (if cEnd s f ∧ e ≠ 11 then some (e + 1, s, 0) else none) else (if s ≠ 24 ∧ cStd b (i + k) s then some (e, f, s + 1) else none)) = none
    rw [tS_none h k]
/-- where the text of n signs is wrong: within, at the end, nowhere (-1) -/
def TR (b : Nat → Int) (n r : Int) : Prop := (∃ i : Nat, r = (i : Int) ∧ (i : Int) < n ∧ tS b i ≠ none ∧ tS b (i + 1) = none) ∨ (r = n ∧ 0 ≤ n ∧ ∃ e f s, tS b n.toNat = some (e, f, s) ∧ ¬ (cEnd s f ∧ e ≠ 0)) ∨ (r = -1 ∧ 0 ≤ n ∧ ∃ e f s, tS b n.toNat = some (e, f, s) ∧ cEnd s f ∧ e ≠ 0)
theorem TR_in {b : Nat → Int} {n r : Int} {i : Nat} (h : TR b n r) (hi : (i : Int) < n) (h1 : tS b i ≠ none) (h2 : tS b (i + 1) = none) : r = (i : Int) := by
  have no : ∀ e f s, tS b n.toNat = some (e, f, s) → False := fun e f s hs => by
    have := tS_none h2 (n.toNat - (i + 1))
    rw [show i + 1 + (n.toNat - (i + 1)) = n.toNat by omega, hs] at this
    cases this
  rcases h with ⟨k, rfl, h4, h5, h6⟩ | ⟨-, -, e, f, s, hs, -⟩ | ⟨-, -, e, f, s, hs, -⟩
  · by_cases hc : i < k
    · have := tS_none h2 (k - (i + 1))
      rw [show i + 1 + (k - (i + 1)) = k by omega] at this
      exact absurd this h5
    · by_cases hc2 : k < i
      · have := tS_none h6 (i - (k + 1))
        rw [show k + 1 + (i - (k + 1)) = i by omega] at this
        exact absurd this h1
      · omega
  · exact (no e f s hs).elim
  · exact (no e f s hs).elim
theorem TR_one {b : Nat → Int} {n r r2 : Int} (h : TR b n r) (h2 : TR b n r2) : r = r2 := by
  rcases h with ⟨i, rfl, h4, h5, h6⟩ | ⟨rfl, h0, e, f, s, hs, hn⟩ | ⟨rfl, h0, e, f, s, hs, hn⟩
  · exact (TR_in h2 h4 h5 h6).symm
  · rcases h2 with ⟨i, rfl, h4, h5, h6⟩ | ⟨rfl, -⟩ | ⟨-, -, e2, f2, s2, hs2, hn2⟩
    · have := tS_none h6 (r.toNat - (i + 1))
      rw [show i + 1 + (r.toNat - (i + 1)) = r.toNat by omega, hs] at this
      cases this
    · rfl
    · rw [hs] at hs2
      cases hs2
      exact absurd hn2 hn
  · rcases h2 with ⟨i, rfl, h4, h5, h6⟩ | ⟨rfl, -, e2, f2, s2, hs2, hn2⟩ | ⟨rfl, -⟩
    · have := tS_none h6 (n.toNat - (i + 1))
      rw [show i + 1 + (n.toNat - (i + 1)) = n.toNat by omega, hs] at this
      cases this
    · rw [hs] at hs2
      cases hs2
      exact absurd hn hn2
    · rfl
/-- how many pixels, or none -/
def TX (b : Nat → Int) (n x : Int) : Prop := ∃ r, TR b n r ∧ (r ≠ -1 → x = -1) ∧ (r = -1 → ∃ e f s, tS b n.toNat = some (e, f, s) ∧ x = (e + 1) * (s / 2))
theorem TX_one {b : Nat → Int} {n x x2 : Int} (h : TX b n x) (h2 : TX b n x2) : x = x2 := by
  obtain ⟨r, a1, a2, a3⟩ := h
  obtain ⟨r2, b1, b2, b3⟩ := h2
  cases TR_one a1 b1
  by_cases hr : r = -1
  · obtain ⟨e, f, s, hs, hx⟩ := a3 hr
    obtain ⟨e2, f2, s2, hs2, hx2⟩ := b3 hr
    rw [hs] at hs2
    cases hs2
    rw [hx, hx2]
  · rw [a2 hr, b2 hr]
