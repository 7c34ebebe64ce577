/-! draws -/
def drF (x : Int) : Int := wI (wI (1664525 * x) + 1013904223)
def drN : Nat → Int → Int
  | 0, s => s
  | n + 1, s => drF (drN n s)
/-- what is drawn from: the third of the three numbers -/
def sdG (g : Nat × Nat × Nat) : Int := (g.2.2 : Int) - 2147483648
theorem drN_s (n : Nat) (s : Int) : drN (n + 1) s = drF (drN n s) := rfl
theorem drF_in (x : Int) : inI (drF x) := wI_in _
theorem sdG_of {x : Int} (h : inI x) : ∃ z : Nat, x = (z : Int) - 2147483648 := ⟨(x + 2147483648).toNat, by unfold inI at h; omega⟩
