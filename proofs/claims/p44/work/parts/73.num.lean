/-! THE CHECKER: bounds of what numbers make -/
abbrev FB : Int × Int := (-2147483648, 2147483647)
abbrev oFull : Option (AV ⊕ (Int × Int)) := some (.inr FB)
def inB2 (lo hi : Int) : Bool := not (ltB lo (-2147483648)) && not (ltB 2147483647 hi)
theorem inB2_ok {lo hi x : Int} (h : inB2 lo hi = true) (h1 : lo ≤ x) (h2 : x ≤ hi) : inI x := by
  unfold inB2 at h
  rw [Bool.and_eq_true, Bool.not_eq_true', Bool.not_eq_true', ltB_f, ltB_f] at h
  unfold inI
  omega
theorem RVo.full {ρ : Nat → Int} {x : Int} (h : inI x) : RVo ρ oFull x := by
  refine ⟨fun v q => (by cases q), fun p q => ?_⟩
  cases q
  unfold inI at h
  show -2147483648 ≤ x ∧ x ≤ 2147483647
  omega
theorem RVo.bnd {ρ : Nat → Int} {x : Int} {p : Int × Int} (h1 : p.1 ≤ x) (h2 : x ≤ p.2) : RVo ρ (some (.inr p)) x := by
  refine ⟨fun v q => (by cases q), fun q e => ?_⟩
  cases e
  exact ⟨h1, h2⟩
theorem RVo.val {ρ : Nat → Int} {x : Int} {v : AV} (h : iv ρ v = x) : RVo ρ (some (.inl v)) x := by
  refine ⟨fun w q => ?_, fun q e => by cases e⟩
  cases q
  exact h
/-- so much more -/
def offV (v : AV) (c : Int) : AV := (v.1, v.2.1, 0, v.2.2.2 + c)
theorem iv_off {ρ : Nat → Int} {v : AV} {c : Int} : iv ρ (offV v c) = iv ρ v + c := by
  obtain ⟨t, i, a, b⟩ := v
  match t with
  | 0 => rfl
  | t + 1 =>
    show ρ i + (b + c) = ρ i + b + c
    omega
def nAdd (C : BC) (y x : AV) : Option (AV ⊕ (Int × Int)) := cond (inB2 ((ivl C x).1 + (ivl C y).1) ((ivl C x).2 + (ivl C y).2))
  (cond (Nat.beq y.1 0) (some (.inl (offV x y.2.2.2))) (cond (Nat.beq x.1 0) (some (.inl (offV y x.2.2.2))) (some (.inr ((ivl C x).1 + (ivl C y).1, (ivl C x).2 + (ivl C y).2))))) oFull
theorem nAdd_ok : FOK nAdd (fun x y => wI (x + y)) false := by
  intro ρ C y x hC hy hx _
  refine ⟨?_, fun h => by cases h⟩
  have bx := ivl_ok hC hx
  have bY := ivl_ok hC hy
  unfold nAdd
  cases h : inB2 ((ivl C x).1 + (ivl C y).1) ((ivl C x).2 + (ivl C y).2) with
  | false => exact RVo.full (wI_in _)
  | true =>
    have hin := inB2_ok (x := iv ρ x + iv ρ y) h (by omega) (by omega)
    rw [cond_true]
    show RVo ρ _ (wI (iv ρ x + iv ρ y))
    rw [wI_id hin]
    cases h2 : Nat.beq y.1 0 with
    | true => exact RVo.val (by rw [iv_off, iv_c h2])
    | false =>
      cases h3 : Nat.beq x.1 0 with
      | true => exact RVo.val (by rw [iv_off, iv_c h3, Int.add_comm])
      | false => exact RVo.bnd (by show _ + _ ≤ _; omega) (by show _ ≤ _ + _; omega)
def nSub (C : BC) (y x : AV) : Option (AV ⊕ (Int × Int)) := cond (inB2 ((ivl C x).1 - (ivl C y).2) ((ivl C x).2 - (ivl C y).1))
  (cond (Nat.beq y.1 0) (some (.inl (offV x (-y.2.2.2)))) (some (.inr ((ivl C x).1 - (ivl C y).2, (ivl C x).2 - (ivl C y).1)))) oFull
theorem nSub_ok : FOK nSub (fun x y => wI (x - y)) false := by
  intro ρ C y x hC hy hx _
  refine ⟨?_, fun h => by cases h⟩
  have bx := ivl_ok hC hx
  have bY := ivl_ok hC hy
  unfold nSub
  cases h : inB2 ((ivl C x).1 - (ivl C y).2) ((ivl C x).2 - (ivl C y).1) with
  | false => exact RVo.full (wI_in _)
  | true =>
    have hin := inB2_ok (x := iv ρ x - iv ρ y) h (by omega) (by omega)
    rw [cond_true]
    show RVo ρ _ (wI (iv ρ x - iv ρ y))
    rw [wI_id hin]
    cases h2 : Nat.beq y.1 0 with
    | true => exact RVo.val (by rw [iv_off, iv_c h2]; omega)
    | false => exact RVo.bnd (by show _ - _ ≤ _; omega) (by show _ ≤ _ - _; omega)
/-- the greatest size of a number within p -/
def szB (p : Int × Int) : Int := mxB (-p.1) p.2
theorem szB_ok {p : Int × Int} {x : Int} (h1 : p.1 ≤ x) (h2 : x ≤ p.2) : (x.natAbs : Int) ≤ szB p := by
  unfold szB mxB
  cases h : ltB (-p.1) p.2 with
  | true => rw [ltB_iff] at h; rw [cond_true]; omega
  | false => rw [ltB_f] at h; rw [cond_false]; omega
def nMul (C : BC) (y x : AV) : Option (AV ⊕ (Int × Int)) := cond (not (ltB (ivl C x).1 0) && not (ltB (ivl C y).1 0))
  (cond (inB2 0 ((ivl C x).2 * (ivl C y).2)) (some (.inr ((ivl C x).1 * (ivl C y).1, (ivl C x).2 * (ivl C y).2))) oFull)
  (cond (inB2 (-(szB (ivl C x) * szB (ivl C y))) (szB (ivl C x) * szB (ivl C y))) (some (.inr (-(szB (ivl C x) * szB (ivl C y)), szB (ivl C x) * szB (ivl C y)))) oFull)
theorem nMul_ok : FOK nMul (fun x y => wI (x * y)) false := by
  intro ρ C y x hC hy hx _
  refine ⟨?_, fun h => by cases h⟩
  have bx := ivl_ok hC hx
  have bY := ivl_ok hC hy
  unfold nMul
  cases h : (not (ltB (ivl C x).1 0) && not (ltB (ivl C y).1 0)) with
  | true =>
    rw [Bool.and_eq_true, Bool.not_eq_true', Bool.not_eq_true', ltB_f, ltB_f] at h
    rw [cond_true]
    have l1 : (ivl C x).1 * (ivl C y).1 ≤ iv ρ x * iv ρ y := Int.mul_le_mul bx.1 bY.1 (by omega) (by omega)
    have l2 : iv ρ x * iv ρ y ≤ (ivl C x).2 * (ivl C y).2 := Int.mul_le_mul bx.2 bY.2 (by omega) (by omega)
    have l3 : 0 ≤ iv ρ x * iv ρ y := Int.mul_nonneg (by omega) (by omega)
    cases h2 : inB2 0 ((ivl C x).2 * (ivl C y).2) with
    | false => exact RVo.full (wI_in _)
    | true =>
      have hin := inB2_ok (x := iv ρ x * iv ρ y) h2 l3 l2
      show RVo ρ _ (wI (iv ρ x * iv ρ y))
      rw [wI_id hin]
      exact RVo.bnd l1 l2
  | false =>
    rw [cond_false]
    have sx := szB_ok bx.1 bx.2
    have sy := szB_ok bY.1 bY.2
    have s0 : (0 : Int) ≤ (iv ρ x).natAbs := Int.natCast_nonneg _
    have s1 : (0 : Int) ≤ (iv ρ y).natAbs := Int.natCast_nonneg _
    have l : ((iv ρ x * iv ρ y).natAbs : Int) ≤ szB (ivl C x) * szB (ivl C y) := by
      rw [Int.natAbs_mul, Int.natCast_mul]
      exact Int.mul_le_mul sx sy s1 (by omega)
    cases h2 : inB2 (-(szB (ivl C x) * szB (ivl C y))) (szB (ivl C x) * szB (ivl C y)) with
    | false => exact RVo.full (wI_in _)
    | true =>
      have l1 : -(szB (ivl C x) * szB (ivl C y)) ≤ iv ρ x * iv ρ y := by omega
      have l2 : iv ρ x * iv ρ y ≤ szB (ivl C x) * szB (ivl C y) := by omega
      have hin := inB2_ok (x := iv ρ x * iv ρ y) h2 l1 l2
      show RVo ρ _ (wI (iv ρ x * iv ρ y))
      rw [wI_id hin]
      exact RVo.bnd l1 l2
theorem div_le {a b A B : Int} (h1 : 0 ≤ a) (h2 : a ≤ A) (h3 : 0 < B) (h4 : B ≤ b) : 0 ≤ a.tdiv b ∧ a.tdiv b ≤ A / B := by
  obtain ⟨a, rfl⟩ := Int.eq_ofNat_of_zero_le h1
  obtain ⟨A, rfl⟩ := Int.eq_ofNat_of_zero_le (Int.le_trans h1 h2)
  obtain ⟨b, rfl⟩ := Int.eq_ofNat_of_zero_le (show 0 ≤ b by omega)
  obtain ⟨B, rfl⟩ := Int.eq_ofNat_of_zero_le (show 0 ≤ B by omega)
  have e1 : Int.tdiv (a : Int) (b : Int) = ((a / b : Nat) : Int) := rfl
  have e2 : (A : Int) / (B : Int) = ((A / B : Nat) : Int) := rfl
  rw [e1, e2]
  have h5 : a / b ≤ A / B := Nat.div_le_div (by omega) (by omega) (by omega)
  exact ⟨Int.natCast_nonneg _, Int.ofNat_le.mpr h5⟩
def nDiv0 (C : BC) (y x : AV) : Option (AV ⊕ (Int × Int)) := cond (ltB 0 (ivl C y).1 && inB2 (-(szB (ivl C x) / (ivl C y).1)) (szB (ivl C x) / (ivl C y).1))
  (cond (not (ltB (ivl C x).1 0)) (some (.inr ((ivl C x).1 / (ivl C y).2, (ivl C x).2 / (ivl C y).1))) (some (.inr (-(szB (ivl C x) / (ivl C y).1), szB (ivl C x) / (ivl C y).1)))) none
theorem nDiv0_ok : FOK nDiv0 (fun x y => wI (x.tdiv y)) true := by
  intro ρ C y x hC hy hx hn
  have bx := ivl_ok hC hx
  have bY := ivl_ok hC hy
  unfold nDiv0 at hn ⊢
  cases h : (ltB 0 (ivl C y).1 && inB2 (-(szB (ivl C x) / (ivl C y).1)) (szB (ivl C x) / (ivl C y).1)) with
  | false => rw [h] at hn; exact absurd rfl hn
  | true =>
    rw [cond_true]
    obtain ⟨h, h3⟩ := bb2 h
    rw [ltB_iff] at h
    refine ⟨?_, fun _ => by omega⟩
    have sx := szB_ok bx.1 bx.2
    have l : (((iv ρ x).tdiv (iv ρ y)).natAbs : Int) ≤ szB (ivl C x) / (ivl C y).1 := by
      rw [Int.natAbs_tdiv]
      have q := (div_le (a := ((iv ρ x).natAbs : Int)) (b := iv ρ y) (Int.natCast_nonneg _) sx h bY.1).2
      have e : ((iv ρ x).natAbs : Int).tdiv (iv ρ y) = (((iv ρ x).natAbs.div (iv ρ y).natAbs : Nat) : Int) := by
        obtain ⟨b, hb⟩ := Int.eq_ofNat_of_zero_le (show 0 ≤ iv ρ y by omega)
        rw [hb]
        rfl
      rw [e] at q
      exact q
    have hin := inB2_ok (x := (iv ρ x).tdiv (iv ρ y)) h3 (by omega) (by omega)
    show RVo ρ _ (wI ((iv ρ x).tdiv (iv ρ y)))
    rw [wI_id hin]
    cases h2 : not (ltB (ivl C x).1 0) with
    | true =>
      rw [Bool.not_eq_true', ltB_f] at h2
      have q := div_le (by omega) bx.2 h bY.1
      have q2 := div_le (show 0 ≤ (ivl C x).1 by omega) bx.1 (show 0 < iv ρ y by omega) bY.2
      have e1 : (ivl C x).1.tdiv (ivl C y).2 = (ivl C x).1 / (ivl C y).2 := Int.tdiv_eq_ediv_of_nonneg (by omega)
      have e2 : (iv ρ x).tdiv (iv ρ y) = iv ρ x / iv ρ y := Int.tdiv_eq_ediv_of_nonneg (by omega)
      exact RVo.bnd (by show (ivl C x).1 / (ivl C y).2 ≤ _; rw [← e1, e2]; exact q2.2) q.2
    | false => exact RVo.bnd (by show -(szB (ivl C x) / (ivl C y).1) ≤ _; omega) (by show _ ≤ szB (ivl C x) / (ivl C y).1; omega)
/-- by what is not less than 1: no farther from 0 -/
def nDiv (C : BC) (y x : AV) : Option (AV ⊕ (Int × Int)) := cond (ltB 0 (ivl C y).1 && inB2 (-(szB (ivl C x) / (ivl C y).1)) (szB (ivl C x) / (ivl C y).1)) (nDiv0 C y x) (cond (ltB 0 (ivl C y).1 && inB2 (ivl C x).1 (ivl C x).2) (some (.inr (mnB (ivl C x).1 0, mxB (ivl C x).2 0))) none)
theorem mnB_le1 {x y : Int} : mnB x y ≤ x ∧ mnB x y ≤ y := by
  unfold mnB
  cases h : ltB x y with
  | true => rw [ltB_iff] at h; rw [cond_true]; omega
  | false => rw [ltB_f] at h; rw [cond_false]; omega
theorem le_mxB1 {x y : Int} : x ≤ mxB x y ∧ y ≤ mxB x y := by
  unfold mxB
  cases h : ltB x y with
  | true => rw [ltB_iff] at h; rw [cond_true]; omega
  | false => rw [ltB_f] at h; rw [cond_false]; omega
theorem tdiv_pos {x y : Int} (h : 0 ≤ x) (hy : 1 ≤ y) : 0 ≤ x.tdiv y ∧ x.tdiv y ≤ x := by
  rw [Int.tdiv_eq_ediv_of_nonneg h]
  exact ⟨Int.ediv_nonneg h (by omega), Int.ediv_le_self _ h⟩
theorem nDiv_ok : FOK nDiv (fun x y => wI (x.tdiv y)) true := by
  intro ρ C y x hC hy hx hn
  have bx := ivl_ok hC hx
  have bY := ivl_ok hC hy
  unfold nDiv at hn ⊢
  cases h : (ltB 0 (ivl C y).1 && inB2 (-(szB (ivl C x) / (ivl C y).1)) (szB (ivl C x) / (ivl C y).1)) with
  | true =>
    rw [h, cond_true] at hn
    rw [cond_true]
    exact nDiv0_ok ρ C y x hC hy hx hn
  | false =>
    rw [h, cond_false] at hn
    rw [cond_false]
    cases h2 : (ltB 0 (ivl C y).1 && inB2 (ivl C x).1 (ivl C x).2) with
    | false => rw [h2] at hn; exact absurd rfl hn
    | true =>
      rw [cond_true]
      obtain ⟨q1, q2⟩ := bb2 h2
      rw [ltB_iff] at q1
      have hin := inB2_ok (x := iv ρ x) q2 bx.1 bx.2
      refine ⟨?_, fun _ => by omega⟩
      have m1 := mnB_le1 (x := (ivl C x).1) (y := 0)
      have m2 := le_mxB1 (x := (ivl C x).2) (y := 0)
      unfold inI at hin
      have key : mnB (ivl C x).1 0 ≤ (iv ρ x).tdiv (iv ρ y) ∧ (iv ρ x).tdiv (iv ρ y) ≤ mxB (ivl C x).2 0 ∧ inI ((iv ρ x).tdiv (iv ρ y)) := by
        by_cases hs : 0 ≤ iv ρ x
        · have := tdiv_pos hs (show 1 ≤ iv ρ y by omega)
          unfold inI
          omega
        · have := tdiv_pos (show 0 ≤ -(iv ρ x) by omega) (show 1 ≤ iv ρ y by omega)
          rw [Int.neg_tdiv] at this
          unfold inI
          omega
      show RVo ρ _ (wI ((iv ρ x).tdiv (iv ρ y)))
      rw [wI_id key.2.2]
      exact RVo.bnd key.1 key.2.1
def nRem (C : BC) (y x : AV) : Option (AV ⊕ (Int × Int)) := cond (ltB 0 (ivl C y).1)
  (cond (not (ltB (ivl C x).1 0)) (some (.inr (0, mnB (ivl C x).2 ((ivl C y).2 - 1)))) (some (.inr (-((ivl C y).2 - 1), (ivl C y).2 - 1)))) none
theorem nRem_ok : FOK nRem Int.tmod true := by
  intro ρ C y x hC hy hx hn
  have bx := ivl_ok hC hx
  have bY := ivl_ok hC hy
  unfold nRem at hn ⊢
  cases h : ltB 0 (ivl C y).1 with
  | false => rw [h] at hn; exact absurd rfl hn
  | true =>
    rw [cond_true]
    rw [ltB_iff] at h
    refine ⟨?_, fun _ => by omega⟩
    have u1 : (iv ρ x).tmod (iv ρ y) < iv ρ y := Int.tmod_lt_of_pos _ (by omega)
    have u2 : -(iv ρ y) < (iv ρ x).tmod (iv ρ y) := by
      have := Int.tmod_lt_of_pos (-(iv ρ x)) (show (0 : Int) < iv ρ y by omega)
      rw [Int.neg_tmod] at this
      omega
    cases h2 : not (ltB (ivl C x).1 0) with
    | true =>
      rw [Bool.not_eq_true', ltB_f] at h2
      have u3 : 0 ≤ (iv ρ x).tmod (iv ρ y) := Int.tmod_nonneg _ (by omega)
      have u4 : (iv ρ x).tmod (iv ρ y) ≤ iv ρ x := by
        obtain ⟨a, ha⟩ := Int.eq_ofNat_of_zero_le (show 0 ≤ iv ρ x by omega)
        obtain ⟨b, hb⟩ := Int.eq_ofNat_of_zero_le (show 0 ≤ iv ρ y by omega)
        rw [ha, hb]
        have e1 : Int.tmod (a : Int) (b : Int) = ((a % b : Nat) : Int) := rfl
        rw [e1]
        have := Nat.mod_le a b
        omega
      exact RVo.bnd u3 (le_mnB (by omega) (by omega))
    | false => exact RVo.bnd (by show -((ivl C y).2 - 1) ≤ _; omega) (by show _ ≤ (ivl C y).2 - 1; omega)
/-- values that are known -/
def nFold (op : Int → Int → Int) (f : BC → AV → AV → Option (AV ⊕ (Int × Int))) (C : BC) (y x : AV) : Option (AV ⊕ (Int × Int)) :=
  cond (eqB (ivl C x).1 (ivl C x).2 && (eqB (ivl C y).1 (ivl C y).2 && (ltB 0 (ivl C y).1 && inB2 (op (ivl C x).1 (ivl C y).1) (op (ivl C x).1 (ivl C y).1))))
    (some (.inr (op (ivl C x).1 (ivl C y).1, op (ivl C x).1 (ivl C y).1))) (f C y x)
theorem nFold_ok {op op2 : Int → Int → Int} {f : BC → AV → AV → Option (AV ⊕ (Int × Int))} {nz : Bool} (h0 : ∀ x y, inI (op x y) → op2 x y = op x y) (hf : FOK f op2 nz) : FOK (nFold op f) op2 nz := by
  intro ρ C y x hC hy hx hn
  have bx := ivl_ok hC hx
  have bY := ivl_ok hC hy
  unfold nFold at hn ⊢
  cases h : (eqB (ivl C x).1 (ivl C x).2 && (eqB (ivl C y).1 (ivl C y).2 && (ltB 0 (ivl C y).1 && inB2 (op (ivl C x).1 (ivl C y).1) (op (ivl C x).1 (ivl C y).1)))) with
  | false =>
    rw [h, cond_false] at hn
    rw [cond_false]
    exact hf ρ C y x hC hy hx hn
  | true =>
    rw [cond_true]
    obtain ⟨h1, h2⟩ := bb2 h
    obtain ⟨h2, h3⟩ := bb2 h2
    obtain ⟨h3, h4⟩ := bb2 h3
    rw [ltB_iff] at h3
    rw [eqB_iff] at h1 h2
    have e1 : iv ρ x = (ivl C x).1 := by omega
    have e2 : iv ρ y = (ivl C y).1 := by omega
    have e3 := h0 _ _ (inB2_ok (x := op (ivl C x).1 (ivl C y).1) h4 (Int.le_refl _) (Int.le_refl _))
    rw [e1, e2]
    exact ⟨RVo.bnd (Int.le_of_eq e3.symm) (Int.le_of_eq e3), fun _ => by omega⟩
def nDivF := nFold Int.tdiv nDiv
theorem nDivF_ok : FOK nDivF (fun x y => wI (x.tdiv y)) true := nFold_ok (fun _ _ h => wI_id h) nDiv_ok
def nRemF := nFold Int.tmod nRem
theorem nRemF_ok : FOK nRemF Int.tmod true := nFold_ok (fun _ _ _ => rfl) nRem_ok
theorem i32_in (x : Int32) : inI x.toInt := by
  have := oi32 x
  unfold inI
  omega
theorem aNd_bd {x y : Int} (h1 : 0 ≤ y) (h2 : y ≤ 2147483647) : 0 ≤ aNd x y ∧ aNd x y ≤ y := by
  unfold aNd
  have e2 : (Int32.ofInt x &&& Int32.ofInt y).toBitVec.toNat = (Int32.ofInt x).toBitVec.toNat &&& (Int32.ofInt y).toBitVec.toNat := BitVec.toNat_and _ _
  have e3 : (Int32.ofInt x).toBitVec.toNat &&& (Int32.ofInt y).toBitVec.toNat ≤ (Int32.ofInt y).toBitVec.toNat := Nat.and_le_right
  have e5 : (Int32.ofInt y).toInt = y := Int32.toInt_ofInt_of_le (by omega) (by omega)
  have e6 : ((Int32.ofInt y).toBitVec.toNat : Int) = y := by
    have e7 : (Int32.ofInt y).toBitVec.toInt = y := e5
    rw [BitVec.toInt_eq_toNat_cond] at e7
    have := (Int32.ofInt y).toBitVec.isLt
    split at e7 <;> omega
  have e4 : (Int32.ofInt x &&& Int32.ofInt y).toInt = (((Int32.ofInt x &&& Int32.ofInt y).toBitVec.toNat : Nat) : Int) := by
    show (Int32.ofInt x &&& Int32.ofInt y).toBitVec.toInt = _
    rw [BitVec.toInt_eq_toNat_of_lt (by rw [e2]; omega)]
  rw [e4, e2]
  omega
theorem aNd_comm (x y : Int) : aNd x y = aNd y x := by
  unfold aNd
  rw [Int32.and_comm]
def nAnd (C : BC) (y x : AV) : Option (AV ⊕ (Int × Int)) := cond (inB2 (ivl C y).1 (ivl C y).2 && not (ltB (ivl C y).1 0)) (some (.inr (0, (ivl C y).2))) (cond (inB2 (ivl C x).1 (ivl C x).2 && not (ltB (ivl C x).1 0)) (some (.inr (0, (ivl C x).2))) oFull)
theorem nAnd_ok : FOK nAnd aNd false := by
  intro ρ C y x hC hy hx _
  refine ⟨?_, fun h => by cases h⟩
  have bY := ivl_ok hC hy
  have bX := ivl_ok hC hx
  unfold nAnd
  cases h : (inB2 (ivl C y).1 (ivl C y).2 && not (ltB (ivl C y).1 0)) with
  | false =>
    rw [cond_false]
    cases h : (inB2 (ivl C x).1 (ivl C x).2 && not (ltB (ivl C x).1 0)) with
    | false => exact RVo.full (i32_in _)
    | true =>
      obtain ⟨h1, h2⟩ := bb2 h
      rw [Bool.not_eq_true', ltB_f] at h2
      have h3 := inB2_ok (x := iv ρ x) h1 bX.1 bX.2
      unfold inI at h3
      have := aNd_bd (x := iv ρ y) (y := iv ρ x) (by omega) (by omega)
      rw [aNd_comm]
      exact RVo.bnd this.1 (by show _ ≤ (ivl C x).2; omega)
  | true =>
    obtain ⟨h1, h2⟩ := bb2 h
    rw [Bool.not_eq_true', ltB_f] at h2
    have h3 := inB2_ok (x := iv ρ y) h1 bY.1 bY.2
    unfold inI at h3
    have := aNd_bd (x := iv ρ x) (y := iv ρ y) (by omega) (by omega)
    exact RVo.bnd this.1 (by show _ ≤ (ivl C y).2; omega)
def nAny (_ : BC) (_ _ : AV) : Option (AV ⊕ (Int × Int)) := oFull
theorem nXor_ok : FOK nAny xOr false := fun _ _ _ _ _ _ _ _ => ⟨RVo.full (i32_in _), fun h => by cases h⟩
def nShl (C : BC) (y x : AV) : Option (AV ⊕ (Int × Int)) := cond ((Nat.beq x.1 0 && eqB x.2.2.2 1) && (not (ltB (ivl C y).1 0) && not (ltB 30 (ivl C y).2))) (some (.inr (2 ^ (ivl C y).1.toNat, 2 ^ (ivl C y).2.toNat))) oFull
theorem sHl1 : ∀ n : Fin 31, sHl 1 (n.1 : Int) = 2 ^ n.1 := by decide
theorem nShl_ok : FOK nShl sHl false := by
  intro ρ C y x hC hy hx _
  refine ⟨?_, fun h => by cases h⟩
  have bY := ivl_ok hC hy
  unfold nShl
  cases h : ((Nat.beq x.1 0 && eqB x.2.2.2 1) && (not (ltB (ivl C y).1 0) && not (ltB 30 (ivl C y).2))) with
  | false => exact RVo.full (i32_in _)
  | true =>
    obtain ⟨h1, h2⟩ := bb2 h
    obtain ⟨h1, h3⟩ := bb2 h1
    rw [Bool.and_eq_true, Bool.not_eq_true', Bool.not_eq_true', ltB_f, ltB_f] at h2
    rw [eqB_iff] at h3
    rw [iv_c h1, h3]
    have e := sHl1 ⟨(iv ρ y).toNat, by omega⟩
    have e2 : (((iv ρ y).toNat : Nat) : Int) = iv ρ y := by omega
    have e : sHl 1 (((iv ρ y).toNat : Nat) : Int) = 2 ^ (iv ρ y).toNat := e
    rw [e2] at e
    rw [e]
    have m : ∀ a b : Nat, a ≤ b → (2 : Int) ^ a ≤ 2 ^ b := fun a b h => by
      have := Nat.pow_le_pow_right (show 0 < 2 by decide) h
      have e1 : ((2 ^ a : Nat) : Int) = (2 : Int) ^ a := by rw [Int.natCast_pow]; rfl
      have e2 : ((2 ^ b : Nat) : Int) = (2 : Int) ^ b := by rw [Int.natCast_pow]; rfl
      rw [← e1, ← e2]
      exact Int.ofNat_le.mpr this
    exact RVo.bnd (m _ _ (by omega)) (m _ _ (by omega))
theorem nShr_ok : FOK nAny sHr false := fun _ _ _ _ _ _ _ _ => ⟨RVo.full (i32_in _), fun h => by cases h⟩
/-- without sign, by 8 -/
def nUsr (_ : BC) (y _ : AV) : Option (AV ⊕ (Int × Int)) := cond (Nat.beq y.1 0 && eqB y.2.2.2 8) (some (.inr (0, 16777215))) oFull
theorem sUr8 (x : Int) : 0 ≤ sUr x 8 ∧ sUr x 8 ≤ 16777215 := by
  unfold sUr
  have e0 : ((Int32.ofInt 8).toUInt32 &&& Int32.toUInt32 31) = 8 := by decide
  rw [e0]
  generalize (Int32.ofInt x).toUInt32 = u
  have e1 : (u >>> 8).toNat = u.toNat / 256 := by
    rw [UInt32.toNat_shiftRight]
    show u.toNat >>> (8 % 32) = _
    rw [Nat.shiftRight_eq_div_pow]
  have hu := u.toNat_lt
  have e2 : (u >>> 8).toInt32.toInt = (((u >>> 8).toNat : Nat) : Int) := by
    show (u >>> 8).toBitVec.toInt = _
    rw [BitVec.toInt_eq_toNat_of_lt]
    · rfl
    · show 2 * (u >>> 8).toNat < 2 ^ 32
      rw [e1]
      omega
  rw [e2, e1]
  omega
theorem nUsr_ok : FOK nUsr sUr false := by
  intro ρ C y x hC hy hx _
  refine ⟨?_, fun h => by cases h⟩
  unfold nUsr
  cases h : (Nat.beq y.1 0 && eqB y.2.2.2 8) with
  | false => exact RVo.full (i32_in _)
  | true =>
    obtain ⟨h1, h2⟩ := bb2 h
    rw [eqB_iff] at h2
    rw [iv_c h1, h2]
    exact RVo.bnd (sUr8 _).1 (sUr8 _).2
def nNeg (C : BC) (x : AV) : Option (AV ⊕ (Int × Int)) := cond (inB2 (-(ivl C x).2) (-(ivl C x).1)) (some (.inr (-(ivl C x).2, -(ivl C x).1))) oFull
theorem nNeg_ok : FOK1 nNeg (fun x => wI (-x)) := by
  intro ρ C x hC hx _
  have bx := ivl_ok hC hx
  unfold nNeg
  cases h : inB2 (-(ivl C x).2) (-(ivl C x).1) with
  | false => exact RVo.full (wI_in _)
  | true =>
    have hin := inB2_ok (x := -(iv ρ x)) h (by omega) (by omega)
    show RVo ρ _ (wI (-(iv ρ x)))
    rw [wI_id hin]
    exact RVo.bnd (by show -(ivl C x).2 ≤ _; omega) (by show _ ≤ -(ivl C x).1; omega)
def nInc (c : Int) (C : BC) (x : AV) : Option (AV ⊕ (Int × Int)) := nAdd C (aC c) x
theorem nInc_ok (c : Int) : FOK1 (nInc c) (fun x => wI (x + c)) := by
  intro ρ C x hC hx hn
  exact (nAdd_ok ρ C (aC c) x hC rfl hx hn).1
def nMax (C : BC) (y x : AV) : Option (AV ⊕ (Int × Int)) := some (.inr (mxB (ivl C x).1 (ivl C y).1, mxB (ivl C x).2 (ivl C y).2))
def nMin (C : BC) (y x : AV) : Option (AV ⊕ (Int × Int)) := some (.inr (mnB (ivl C x).1 (ivl C y).1, mnB (ivl C x).2 (ivl C y).2))
theorem nMax_ok : FOK nMax mxI false := by
  intro ρ C y x hC hy hx _
  refine ⟨?_, fun h => by cases h⟩
  have bx := ivl_ok hC hx
  have bY := ivl_ok hC hy
  unfold mxI
  refine RVo.bnd ?_ ?_
  · show mxB _ _ ≤ _
    apply mxB_le <;> split <;> omega
  · show _ ≤ mxB _ _
    unfold mxB
    cases h : ltB (ivl C x).2 (ivl C y).2 with
    | true => rw [ltB_iff] at h; rw [cond_true]; split <;> omega
    | false => rw [ltB_f] at h; rw [cond_false]; split <;> omega
theorem nMin_ok : FOK nMin mnI false := by
  intro ρ C y x hC hy hx _
  refine ⟨?_, fun h => by cases h⟩
  have bx := ivl_ok hC hx
  have bY := ivl_ok hC hy
  unfold mnI
  refine RVo.bnd ?_ ?_
  · show mnB _ _ ≤ _
    unfold mnB
    cases h : ltB (ivl C x).1 (ivl C y).1 with
    | true => rw [ltB_iff] at h; rw [cond_true]; split <;> omega
    | false => rw [ltB_f] at h; rw [cond_false]; split <;> omega
  · show _ ≤ mnB _ _
    apply le_mnB <;> split <;> omega
def nAbs (C : BC) (x : AV) : Option (AV ⊕ (Int × Int)) := cond (inB2 (ivl C x).1 (ivl C x).2) (cond (inB2 0 (szB (ivl C x))) (some (.inr (0, szB (ivl C x)))) oFull) none
theorem nAbs_ok : FOK1 nAbs abI := by
  intro ρ C x hC hx hn
  have bx := ivl_ok hC hx
  have sx := szB_ok bx.1 bx.2
  unfold nAbs at hn ⊢
  cases h0 : inB2 (ivl C x).1 (ivl C x).2 with
  | false => rw [h0] at hn; exact absurd rfl hn
  | true =>
    rw [cond_true]
    have hx0 := inB2_ok (x := iv ρ x) h0 bx.1 bx.2
    cases h : inB2 0 (szB (ivl C x)) with
    | false =>
      apply RVo.full
      unfold abI
      split
      · exact hx0
      · exact wI_in _
    | true =>
      have hin := inB2_ok (x := (iv ρ x).natAbs) h (by omega) sx
      unfold abI
      split
      · exact RVo.bnd (by assumption) (by show _ ≤ szB (ivl C x); omega)
      · have hw : wI (0 - iv ρ x) = 0 - iv ρ x := wI_id (by unfold inI at hin ⊢; omega)
        rw [hw]
        exact RVo.bnd (by show 0 ≤ _; omega) (by show _ ≤ szB (ivl C x); omega)
