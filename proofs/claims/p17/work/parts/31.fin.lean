/-! a run of the evaluator gives the law's end -/
def A6 : Nat := pset (pset (pset (pset (pset (pset 0 0 4294967297) 1 4294967298) 2 4294967299) 3 4294967300) 4 4294967301) 5 4294967302
noncomputable def T0 (L : Nat) : HT := bset 7 (bN 7) 0 (23, L, [], A6)
abbrev F32 : Int × Int := (-2147483648, 2147483647)
def C0 (p : Int × Int) : CT := [F32, F32, F32, F32, F32, F32, p, (-9223372036854775808, 9223372036854775807)]
noncomputable def seL (n L : Nat) (p : Int × Int) : Bool := se n 1200 lawK (ops lawK) (ops lawK) [cR 0, cN, cN, cN] [] [] (T0 L) 1 0 (C0 p)
def rho (xs : Nat → Int32) (i : Nat) : Int := if i < 6 then (xs i).toInt else if i = 6 then aNd (xs 0).toInt 63 else if i = 7 then lOr (lShl (xs 2).toInt 32) (lAnd (xs 3).toInt 4294967295) else 0
theorem A6_at {j : Nat} (h : j < 6) : dec (pget A6 j) = Sum.inr (2, (j : Int), 0) := by
  rcases (by omega : j = 0 ∨ j = 1 ∨ j = 2 ∨ j = 3 ∨ j = 4 ∨ j = 5) with rfl | rfl | rfl | rfl | rfl | rfl <;> rfl
theorem aNd63 (x : Int) : 0 ≤ aNd x 63 ∧ aNd x 63 ≤ 63 := by
  unfold aNd
  have e1 : (Int32.ofInt x &&& Int32.ofInt 63).toBitVec = (Int32.ofInt x).toBitVec &&& (63#32) := rfl
  have e2 : ((Int32.ofInt x).toBitVec &&& (63#32)).toNat = (Int32.ofInt x).toBitVec.toNat &&& 63 := BitVec.toNat_and _ _
  have e3 : (Int32.ofInt x).toBitVec.toNat &&& 63 ≤ 63 := Nat.and_le_right
  have e4 : (Int32.ofInt x &&& Int32.ofInt 63).toInt = (((Int32.ofInt x).toBitVec.toNat &&& 63 : Nat) : Int) := by
    show (Int32.ofInt x &&& Int32.ofInt 63).toBitVec.toInt = _
    rw [e1, BitVec.toInt_eq_toNat_of_lt (by rw [e2]; omega), e2]
  rw [e4]
  omega
theorem oi32 (x : Int32) : -2147483648 ≤ x.toInt ∧ x.toInt ≤ 2147483647 := by
  have h1 := Int32.le_toInt x
  have h2 := Int32.toInt_lt x
  omega
theorem oi64 (x : Int64) : -9223372036854775808 ≤ x.toInt ∧ x.toInt ≤ 9223372036854775807 := by
  have h1 := Int64.le_toInt x
  have h2 := Int64.toInt_lt x
  omega
theorem rho_ok (xs : Nat → Int32) (p : Int × Int) (h1 : p.1 ≤ aNd (xs 0).toInt 63) (h2 : aNd (xs 0).toInt 63 ≤ p.2) : BS (rho xs) (C0 p) := by
  refine ⟨⟨rfl, rfl⟩, fun i => ?_⟩
  match i with
  | 0 => exact oi32 (xs 0)
  | 1 => exact oi32 (xs 1)
  | 2 => exact oi32 (xs 2)
  | 3 => exact oi32 (xs 3)
  | 4 => exact oi32 (xs 4)
  | 5 => exact oi32 (xs 5)
  | 6 => exact ⟨h1, h2⟩
  | 7 => exact oi64 _
  | i + 8 =>
    have e : rho xs (i + 8) = 0 := by unfold rho; rw [if_neg (by omega), if_neg (by omega), if_neg (by omega)]
    rw [e]
    exact ⟨by show (-2147483648 : Int) ≤ 0; decide, by show (0 : Int) ≤ 2147483647; decide⟩
theorem HR0 (L : Nat) (xs : Nat → Int32) (hL : L ≤ 6) : HR (rho xs) (T0 L) 1 0 (mM0 L xs) := by
  refine ⟨rfl, rfl, fun a o ho => ?_⟩
  have ha := bget_lt 7 _ _ _ ho
  unfold T0 at ho
  rw [bget_bset 7 (bN 7) 0 a _ (by decide) ha, bget_bN] at ho
  by_cases h0 : a = 0
  · rw [if_pos h0] at ho
    cases ho
    subst h0
    refine ⟨Nat.zero_lt_one, rfl, fun j hj2 => ?_⟩
    have hj3 : j < L := by
      rcases hj2 with q | q
      · exact absurd (show 23 < 20 from q) (by decide)
      · exact q
    refine ⟨fun _ _ => ?_, fun q => by cases q⟩
    show VR (rho xs) (dec (pget A6 j)) (vi ((mM0 L xs).2.2.2.2 0 j))
    rw [A6_at (by omega)]
    refine Or.inr (Or.inr (Or.inl ⟨rfl, ?_⟩))
    show vi (if 0 = 0 ∧ j < L then (xs j).toInt else 0) = vi (rho xs (j : Int).toNat)
    rw [if_pos ⟨rfl, hj3⟩, Int.toNat_natCast]
    unfold rho
    rw [if_pos (by omega)]
  · rw [if_neg h0] at ho
    cases ho
theorem law_0 (e : OE) (r : List OE) (h : ops lawK = e :: r) : e.1 = 0 := by
  obtain ⟨row, hq⟩ : ∃ row, bget 9 mtT lawK = some row := ⟨_, rfl⟩
  exact (mt_at (by unfold nT; decide) hq).2.2.2 e r h
theorem seL_ok {n L : Nat} {p : Int × Int} (h : seL n L p = true) (hL : L ≤ 6) (xs : Nat → Int32) (h1 : p.1 ≤ aNd (xs 0).toInt 63) (h2 : aNd (xs 0).toInt 63 ≤ p.2) : ∃ d, d ≤ 1300 ∧ Wm d lawK 0 [vr 0, vn, vn, vn] [] (mM0 L xs) (fun r M2 => r = some (vi 1) ∧ M2.1 ≤ 600001 ∧ M2.2.1 ≤ 7302250) := by
  obtain ⟨e, r, h3, h4⟩ := se_ok n 1200 lawK 0 [cR 0, cN, cN, cN] [] [] (T0 L) 1 0 (C0 p) (by unfold lawK nT; decide) (by rw [List.drop_zero]; exact h)
  rw [List.drop_zero] at h3
  have hz : e.1 = 0 := law_0 e r h3
  rw [hz] at h4
  refine ⟨1200, by decide, ?_⟩
  exact (h4 (rho xs) [vr 0, vn, vn, vn] [] [] (mM0 L xs) (rho_ok xs p h1 h2) ⟨rfl, rfl, rfl, rfl, trivial⟩ trivial trivial (HR0 L xs hL)).imp (fun r M q => q)
