/-! runs of the evaluator from the law's entry, by bounds of the script's first numbers -/
def C2 (p q r : Int × Int) : CT := [F32, q, r, F32, F32, F32, p, (-9223372036854775808, 9223372036854775807)]
noncomputable def runB (L : Nat) (p q r : Int × Int) : Bool := seF 1000000 1200 lawK (ops lawK) (ops lawK) [Sum.inl (Sum.inr (Sum.inr (some 0))), Sum.inl (Sum.inr (Sum.inr none)), Sum.inl (Sum.inr (Sum.inr none)), Sum.inl (Sum.inr (Sum.inr none))] [] [] (T0 L) 1 0 (C2 p q r)
def Inb (p : Int × Int) (x : Int) : Prop := p.1 ≤ x ∧ x ≤ p.2
theorem rho_ok2 (xs : Nat → Int32) {p q r : Int × Int} (hp : Inb p (aNd (xs 0).toInt 63)) (hq : Inb q (xs 1).toInt) (hr : Inb r (xs 2).toInt) : BS (rho xs) (C2 p q r) := by
  refine ⟨⟨rfl, rfl⟩, fun i => ?_⟩
  match i with
  | 0 => exact oi32 (xs 0)
  | 1 => exact hq
  | 2 => exact hr
  | 3 => exact oi32 (xs 3)
  | 4 => exact oi32 (xs 4)
  | 5 => exact oi32 (xs 5)
  | 6 => exact hp
  | 7 => exact oi64 _
  | i + 8 =>
    have e : rho xs (i + 8) = 0 := by unfold rho; rw [if_neg (by omega), if_neg (by omega), if_neg (by omega)]
    rw [e]
    exact ⟨by show (-2147483648 : Int) ≤ 0; decide, by show (0 : Int) ≤ 2147483647; decide⟩
theorem runB_ok {L : Nat} {p q r : Int × Int} (h : runB L p q r = true) (hL : L ≤ 6) (xs : Nat → Int32) (hp : Inb p (aNd (xs 0).toInt 63)) (hq : Inb q (xs 1).toInt) (hr : Inb r (xs 2).toInt) : ∃ d, d ≤ 1300 ∧ Wm d lawK 0 [vr 0, vn, vn, vn] [] (mM0 L xs) (fun r M2 => r = some (vi 1) ∧ M2.1 ≤ 600001 ∧ M2.2.1 ≤ 7302250) := by
  unfold runB at h
  rw [seF_eq] at h
  obtain ⟨e, r2, h3, h4⟩ := se_ok 1000000 1200 lawK 0 [cR 0, cN, cN, cN] [] [] (T0 L) 1 0 (C2 p q r) (by unfold lawK nT; decide) (by rw [List.drop_zero]; exact h)
  rw [List.drop_zero] at h3
  have hz : e.1 = 0 := law_0 e r2 h3
  rw [hz] at h4
  refine ⟨1200, by decide, ?_⟩
  exact (h4 (rho xs) [vr 0, vn, vn, vn] [] [] (mM0 L xs) (rho_ok2 xs hp hq hr) ⟨rfl, rfl, rfl, rfl, trivial⟩ trivial trivial (HR0 L xs hL)).imp (fun r M q => q)
theorem inF (x : Int32) : Inb F32 x.toInt := oi32 x
