/-! draws -/
def drF (x : Int) : Int := wI (wI (1664525 * x) + 1013904223)
def drN : Nat → Int → Int
  | 0, s => s
  | n + 1, s => drF (drN n s)
/-- what is drawn from: the third of the three numbers -/
def sdG (g : Nat × Nat × Nat) : Int := (g.2.2 : Int) - 2147483648
theorem drN_s (n : Nat) (s : Int) : drN (n + 1) s = drF (drN n s) := rfl
theorem drF_in (x : Int) : inI (drF x) := wI_in _
theorem sdG_of {x : Int} (h : inI x) : ∃ z : Nat, x = (z : Int) - 2147483648 := ⟨(x + 2147483648).toNat, by unfold inI at h; omega⟩
/-! the tape: bytes that are wanted -/
def tqN (z j : Nat) : Int := ((z / 256 ^ j % 256 : Nat) : Int)
def tqB (g : Nat × Nat × Nat) (j : Nat) : Int := tqN (g.2.2 / 512) j
def tqL (g : Nat × Nat × Nat) : Int := ((g.2.2 % 512 : Nat) : Int)
theorem tgN_b (z j : Nat) : 0 ≤ tqN z j ∧ tqN z j ≤ 255 := by
  unfold tqN
  have := Nat.mod_lt (z / 256 ^ j) (show 0 < 256 by decide)
  omega
theorem tg_of : ∀ (n : Nat) (f : Nat → Int), (∀ j, j < n → 0 ≤ f j ∧ f j ≤ 255) → ∃ z, ∀ j, j < n → tqN z j = f j
  | 0, _, _ => ⟨0, fun j hj => absurd hj (Nat.not_lt_zero j)⟩
  | n + 1, f, h => by
    obtain ⟨z, hz⟩ := tg_of n (fun j => f (j + 1)) (fun j hj => h (j + 1) (Nat.succ_lt_succ hj))
    have h0 := h 0 (Nat.succ_pos n)
    refine ⟨(f 0).toNat + 256 * z, fun j hj => ?_⟩
    cases j with
    | zero =>
      unfold tqN
      rw [Nat.pow_zero, Nat.div_one]
      omega
    | succ j =>
      have := hz j (Nat.lt_of_succ_lt_succ hj)
      unfold tqN at this ⊢
      rw [Nat.pow_succ, Nat.mul_comm (256 ^ j) 256, ← Nat.div_div_eq_div_mul, show ((f 0).toNat + 256 * z) / 256 = z by omega]
      exact this
/-- what feeding answers; how long the tape is then -/
def fedR (l : Int) : Int := if l ≤ 380 then l + 20 else -1
def fedL (l : Int) : Int := if l ≤ 380 then l + 20 else l
