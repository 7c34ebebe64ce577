/-! every script of at most six numbers -/
theorem inb_of {a b x : Int} (h1 : a ≤ x) (h2 : x ≤ b) : Inb (a, b) x := ⟨h1, h2⟩
theorem law_run : whole_run := by
  intro L xs hL
  have hb := aNd63 (xs 0).toInt
  have f0 : Inb (0, 63) (aNd (xs 0).toInt 63) := hb
  by_cases h0 : L = 0
  · subst h0; exact runB_ok run_L0 hL xs f0 (inF _) (inF _)
  by_cases h1 : L = 1
  · subst h1; exact runB_ok run_L1 hL xs f0 (inF _) (inF _)
  by_cases h2 : L = 2
  · subst h2; exact runB_ok run_L2 hL xs f0 (inF _) (inF _)
  by_cases h3 : L = 3
  · subst h3; exact runB_ok run_L3 hL xs f0 (inF _) (inF _)
  by_cases h4 : L = 4
  · subst h4; exact runB_ok run_L4 hL xs f0 (inF _) (inF _)
  by_cases h5 : L = 5
  · subst h5; exact runB_ok run_L5 hL xs f0 (inF _) (inF _)
  have h6 : L = 6 := by omega
  subst h6
  have b1 := oi32 (xs 1)
  have b2 := oi32 (xs 2)
  generalize hx : aNd (xs 0).toInt 63 = x at hb
  by_cases hp5 : x ≤ 5
  · skip
    exact runB_ok run_0 hL xs (by rw [hx]; exact inb_of (by omega) (by omega)) (inF _) (inF _)
  by_cases hp6 : x ≤ 6
  · skip
    by_cases hq : (xs 1).toInt ≤ 41
    · skip
      exact runB_ok run_1 hL xs (by rw [hx]; exact inb_of (by omega) (by omega)) (inb_of (by omega) (by omega)) (inF _)
    exact runB_ok run_2 hL xs (by rw [hx]; exact inb_of (by omega) (by omega)) (inb_of (by omega) (by omega)) (inF _)
  by_cases hp12 : x ≤ 12
  · skip
    exact runB_ok run_3 hL xs (by rw [hx]; exact inb_of (by omega) (by omega)) (inF _) (inF _)
  by_cases hp19 : x ≤ 19
  · skip
    exact runB_ok run_4 hL xs (by rw [hx]; exact inb_of (by omega) (by omega)) (inF _) (inF _)
  by_cases hp22 : x ≤ 22
  · skip
    exact runB_ok run_5 hL xs (by rw [hx]; exact inb_of (by omega) (by omega)) (inF _) (inF _)
  by_cases hp26 : x ≤ 26
  · skip
    exact runB_ok run_6 hL xs (by rw [hx]; exact inb_of (by omega) (by omega)) (inF _) (inF _)
  by_cases hp27 : x ≤ 27
  · skip
    by_cases hq : (xs 1).toInt ≤ 3
    · skip
      exact runB_ok run_7 hL xs (by rw [hx]; exact inb_of (by omega) (by omega)) (inb_of (by omega) (by omega)) (inF _)
    exact runB_ok run_8 hL xs (by rw [hx]; exact inb_of (by omega) (by omega)) (inb_of (by omega) (by omega)) (inF _)
  by_cases hp34 : x ≤ 34
  · skip
    exact runB_ok run_9 hL xs (by rw [hx]; exact inb_of (by omega) (by omega)) (inF _) (inF _)
  by_cases hp35 : x ≤ 35
  · skip
    by_cases hq : (xs 1).toInt ≤ -1
    · skip
      exact runB_ok run_10 hL xs (by rw [hx]; exact inb_of (by omega) (by omega)) (inb_of (by omega) (by omega)) (inF _)
    by_cases hq : (xs 1).toInt ≤ 0
    · skip
      by_cases hr : (xs 2).toInt ≤ 0
      · exact runB_ok run_11 hL xs (by rw [hx]; exact inb_of (by omega) (by omega)) (inb_of (by omega) (by omega)) (inb_of (by omega) (by omega))
      by_cases hr : (xs 2).toInt ≤ 1
      · exact runB_ok run_12 hL xs (by rw [hx]; exact inb_of (by omega) (by omega)) (inb_of (by omega) (by omega)) (inb_of (by omega) (by omega))
      by_cases hr : (xs 2).toInt ≤ 2
      · exact runB_ok run_13 hL xs (by rw [hx]; exact inb_of (by omega) (by omega)) (inb_of (by omega) (by omega)) (inb_of (by omega) (by omega))
      exact runB_ok run_14 hL xs (by rw [hx]; exact inb_of (by omega) (by omega)) (inb_of (by omega) (by omega)) (inb_of (by omega) (by omega))
    by_cases hq : (xs 1).toInt ≤ 1
    · skip
      by_cases hr : (xs 2).toInt ≤ 0
      · exact runB_ok run_15 hL xs (by rw [hx]; exact inb_of (by omega) (by omega)) (inb_of (by omega) (by omega)) (inb_of (by omega) (by omega))
      by_cases hr : (xs 2).toInt ≤ 1
      · exact runB_ok run_16 hL xs (by rw [hx]; exact inb_of (by omega) (by omega)) (inb_of (by omega) (by omega)) (inb_of (by omega) (by omega))
      by_cases hr : (xs 2).toInt ≤ 2
      · exact runB_ok run_17 hL xs (by rw [hx]; exact inb_of (by omega) (by omega)) (inb_of (by omega) (by omega)) (inb_of (by omega) (by omega))
      exact runB_ok run_18 hL xs (by rw [hx]; exact inb_of (by omega) (by omega)) (inb_of (by omega) (by omega)) (inb_of (by omega) (by omega))
    exact runB_ok run_19 hL xs (by rw [hx]; exact inb_of (by omega) (by omega)) (inb_of (by omega) (by omega)) (inF _)
  by_cases hp36 : x ≤ 36
  · skip
    by_cases hq : (xs 1).toInt ≤ 1
    · skip
      exact runB_ok run_20 hL xs (by rw [hx]; exact inb_of (by omega) (by omega)) (inb_of (by omega) (by omega)) (inF _)
    by_cases hq : (xs 1).toInt ≤ 3
    · skip
      exact runB_ok run_21 hL xs (by rw [hx]; exact inb_of (by omega) (by omega)) (inb_of (by omega) (by omega)) (inF _)
    by_cases hq : (xs 1).toInt ≤ 6
    · skip
      exact runB_ok run_22 hL xs (by rw [hx]; exact inb_of (by omega) (by omega)) (inb_of (by omega) (by omega)) (inF _)
    by_cases hq : (xs 1).toInt ≤ 8
    · skip
      exact runB_ok run_23 hL xs (by rw [hx]; exact inb_of (by omega) (by omega)) (inb_of (by omega) (by omega)) (inF _)
    by_cases hq : (xs 1).toInt ≤ 10
    · skip
      exact runB_ok run_24 hL xs (by rw [hx]; exact inb_of (by omega) (by omega)) (inb_of (by omega) (by omega)) (inF _)
    by_cases hq : (xs 1).toInt ≤ 12
    · skip
      exact runB_ok run_25 hL xs (by rw [hx]; exact inb_of (by omega) (by omega)) (inb_of (by omega) (by omega)) (inF _)
    by_cases hq : (xs 1).toInt ≤ 15
    · skip
      exact runB_ok run_26 hL xs (by rw [hx]; exact inb_of (by omega) (by omega)) (inb_of (by omega) (by omega)) (inF _)
    by_cases hq : (xs 1).toInt ≤ 17
    · skip
      exact runB_ok run_27 hL xs (by rw [hx]; exact inb_of (by omega) (by omega)) (inb_of (by omega) (by omega)) (inF _)
    by_cases hq : (xs 1).toInt ≤ 19
    · skip
      exact runB_ok run_28 hL xs (by rw [hx]; exact inb_of (by omega) (by omega)) (inb_of (by omega) (by omega)) (inF _)
    by_cases hq : (xs 1).toInt ≤ 22
    · skip
      exact runB_ok run_29 hL xs (by rw [hx]; exact inb_of (by omega) (by omega)) (inb_of (by omega) (by omega)) (inF _)
    by_cases hq : (xs 1).toInt ≤ 25
    · skip
      exact runB_ok run_30 hL xs (by rw [hx]; exact inb_of (by omega) (by omega)) (inb_of (by omega) (by omega)) (inF _)
    exact runB_ok run_31 hL xs (by rw [hx]; exact inb_of (by omega) (by omega)) (inb_of (by omega) (by omega)) (inF _)
  by_cases hp43 : x ≤ 43
  · skip
    exact runB_ok run_32 hL xs (by rw [hx]; exact inb_of (by omega) (by omega)) (inF _) (inF _)
  exact runB_ok run_33 hL xs (by rw [hx]; exact inb_of (by omega) (by omega)) (inF _) (inF _)
