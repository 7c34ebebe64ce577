/-! whole numbers of the machine and of the small machine -/
theorem oi_eq {x y : Int} (h : (x - y) % 4294967296 = 0) : Int32.ofInt x = Int32.ofInt y := by
  apply Int32.toInt_inj.mp
  rw [Int32.toInt_ofInt, Int32.toInt_ofInt]
  simp only [Int.bmod, Int32.size]
  omega
theorem oi_w (x : Int) : Int32.ofInt (wI x) = Int32.ofInt x := oi_eq (by unfold wI; omega)
theorem oi_add (x y : Int) : Int32.ofInt x + Int32.ofInt y = Int32.ofInt (wI (x + y)) := by rw [oi_w, Int32.ofInt_add]
theorem oi_sub (x y : Int) : Int32.ofInt x - Int32.ofInt y = Int32.ofInt (wI (x - y)) := by rw [oi_w, Int32.ofInt_sub]
theorem oi_mul (x y : Int) : Int32.ofInt x * Int32.ofInt y = Int32.ofInt (wI (x * y)) := by rw [oi_w, Int32.ofInt_mul]
theorem oi_neg (x : Int) : -Int32.ofInt x = Int32.ofInt (wI (-x)) := by rw [oi_w, Int32.ofInt_neg]
theorem oi_to {x : Int} (h : inI x) : (Int32.ofInt x).toInt = x := by
  rw [Int32.toInt_ofInt]
  unfold inI at h
  simp only [Int.bmod, Int32.size]
  omega
theorem oi_in (x : Int32) : inI x.toInt := ⟨Int32.le_toInt x, Int32.toInt_lt x⟩
theorem oi_of (x : Int32) : Int32.ofInt x.toInt = x := Int32.ofInt_toInt x
theorem oi_0 : Int32.ofInt 0 = 0 := by decide +kernel
theorem oi_lt {x y : Int} (hx : inI x) (hy : inI y) : Int32.ofInt x < Int32.ofInt y ↔ x < y := by rw [Int32.lt_iff_toInt_lt, oi_to hx, oi_to hy]
theorem oi_le {x y : Int} (hx : inI x) (hy : inI y) : Int32.ofInt x ≤ Int32.ofInt y ↔ x ≤ y := by rw [Int32.le_iff_toInt_le, oi_to hx, oi_to hy]
theorem oi_inj {x y : Int} (hx : inI x) (hy : inI y) : Int32.ofInt x = Int32.ofInt y ↔ x = y := by
  constructor
  · intro h
    have := congrArg Int32.toInt h
    rwa [oi_to hx, oi_to hy] at this
  · intro h
    rw [h]
theorem oi_n0 {y : Int} (hy : inI y) (h : y ≠ 0) : ¬ Int32.ofInt y = 0 := fun q => h ((oi_inj hy ⟨by decide, by decide⟩).mp (q.trans oi_0.symm))
theorem oi_div {x y : Int} (hx : inI x) (hy : inI y) : Int32.ofInt x / Int32.ofInt y = Int32.ofInt (wI (x.tdiv y)) := by
  apply Int32.toInt_inj.mp
  rw [Int32.toInt_div, oi_to hx, oi_to hy, oi_w, Int32.toInt_ofInt]
theorem oi_rem {x y : Int} (hx : inI x) (hy : inI y) : Int32.ofInt x - Int32.ofInt x / Int32.ofInt y * Int32.ofInt y = Int32.ofInt (x.tmod y) := by
  rw [oi_div hx hy, oi_w, ← Int32.ofInt_mul, ← Int32.ofInt_sub, Int.tmod_def, Int.mul_comm]
theorem oi_tm {x y : Int} (hx : inI x) (h : y ≠ 0) (hy : inI y) : inI (x.tmod y) := by
  have h1 := Int.tmod_lt_of_pos x (b := ((y.natAbs : Nat) : Int)) (by omega)
  have h2 := Int.lt_tmod_of_pos x (b := ((y.natAbs : Nat) : Int)) (by omega)
  have e : x.tmod y = x.tmod ((y.natAbs : Nat) : Int) := by
    rcases Int.natAbs_eq y with q | q
    · rw [← q]
    · have : ((y.natAbs : Nat) : Int) = -y := by omega
      rw [this, Int.tmod_neg]
  unfold inI at *
  omega
theorem oL_eq {x y : Int} (h : (x - y) % 18446744073709551616 = 0) : Int64.ofInt x = Int64.ofInt y := by
  apply Int64.toInt_inj.mp
  rw [Int64.toInt_ofInt, Int64.toInt_ofInt]
  simp only [Int.bmod, Int64.size]
  omega
theorem oL_w (x : Int) : Int64.ofInt (wL x) = Int64.ofInt x := oL_eq (by unfold wL; omega)
theorem oL_add (x y : Int) : Int64.ofInt x + Int64.ofInt y = Int64.ofInt (wL (x + y)) := by rw [oL_w, Int64.ofInt_add]
theorem oL_sub (x y : Int) : Int64.ofInt x - Int64.ofInt y = Int64.ofInt (wL (x - y)) := by rw [oL_w, Int64.ofInt_sub]
theorem oL_mul (x y : Int) : Int64.ofInt x * Int64.ofInt y = Int64.ofInt (wL (x * y)) := by rw [oL_w, Int64.ofInt_mul]
theorem oL_neg (x : Int) : -Int64.ofInt x = Int64.ofInt (wL (-x)) := by rw [oL_w, Int64.ofInt_neg]
theorem oL_to {x : Int} (h : inL x) : (Int64.ofInt x).toInt = x := by
  rw [Int64.toInt_ofInt]
  unfold inL at h
  simp only [Int.bmod, Int64.size]
  omega
theorem oL_in (x : Int64) : inL x.toInt := ⟨Int64.le_toInt x, Int64.toInt_lt x⟩
theorem oL_of (x : Int64) : Int64.ofInt x.toInt = x := Int64.ofInt_toInt x
theorem oL_0 : Int64.ofInt 0 = 0 := by decide +kernel
theorem oL_lt {x y : Int} (hx : inL x) (hy : inL y) : Int64.ofInt x < Int64.ofInt y ↔ x < y := by rw [Int64.lt_iff_toInt_lt, oL_to hx, oL_to hy]
theorem oL_inj {x y : Int} (hx : inL x) (hy : inL y) : Int64.ofInt x = Int64.ofInt y ↔ x = y := by
  constructor
  · intro h
    have := congrArg Int64.toInt h
    rwa [oL_to hx, oL_to hy] at this
  · intro h
    rw [h]
theorem oL_n0 {y : Int} (hy : inL y) (h : y ≠ 0) : ¬ Int64.ofInt y = 0 := fun q => h ((oL_inj hy ⟨by decide, by decide⟩).mp (q.trans oL_0.symm))
theorem oL_div {x y : Int} (hx : inL x) (hy : inL y) : Int64.ofInt x / Int64.ofInt y = Int64.ofInt (wL (x.tdiv y)) := by
  apply Int64.toInt_inj.mp
  rw [Int64.toInt_div, oL_to hx, oL_to hy, oL_w, Int64.toInt_ofInt]
theorem oL_rem {x y : Int} (hx : inL x) (hy : inL y) : Int64.ofInt x - Int64.ofInt x / Int64.ofInt y * Int64.ofInt y = Int64.ofInt (x.tmod y) := by
  rw [oL_div hx hy, oL_w, ← Int64.ofInt_mul, ← Int64.ofInt_sub, Int.tmod_def, Int.mul_comm]
theorem oL_tm {x y : Int} (hx : inL x) (h : y ≠ 0) (hy : inL y) : inL (x.tmod y) := by
  have h1 := Int.tmod_lt_of_pos x (b := ((y.natAbs : Nat) : Int)) (by omega)
  have h2 := Int.lt_tmod_of_pos x (b := ((y.natAbs : Nat) : Int)) (by omega)
  have e : x.tmod y = x.tmod ((y.natAbs : Nat) : Int) := by
    rcases Int.natAbs_eq y with q | q
    · rw [← q]
    · have : ((y.natAbs : Nat) : Int) = -y := by omega
      rw [this, Int.tmod_neg]
  unfold inL at *
  omega
theorem oi_l {x : Int} (h : inI x) : (Int32.ofInt x).toInt64 = Int64.ofInt x := by
  apply Int64.toInt_inj.mp
  rw [Int32.toInt_toInt64, oi_to h, oL_to (by unfold inI at h; unfold inL; omega)]
theorem oL_i {x : Int} (h : inL x) : (Int64.ofInt x).toInt32 = Int32.ofInt (wI x) := by
  apply Int32.toInt_inj.mp
  rw [oi_w, Int32.toInt_ofInt, Int64.toInt_toInt32, oL_to h]
theorem oi_cl {i : Int} (h : inI i) : (Int32.ofInt i).toNatClampNeg = i.toNat := by
  show (Int32.ofInt i).toInt.toNat = i.toNat
  rw [oi_to h]
theorem oi_nn {i : Int} (h : inI i) (h0 : 0 ≤ i) : ¬ Int32.ofInt i < 0 := by
  rw [← oi_0, oi_lt h ⟨by decide, by decide⟩]
  omega
theorem oi_ix {i : Int} {n : Nat} (h : inI i) (h0 : 0 ≤ i) (h1 : i < (n : Int)) : ¬ (Int32.ofInt i < 0 ∨ n ≤ (Int32.ofInt i).toNatClampNeg) := by
  rw [oi_cl h]
  intro q
  rcases q with q | q
  · exact oi_nn h h0 q
  · omega
theorem oL_cm {x y : Int} (hx : inL x) (hy : inL y) : lg_cmp (Int64.ofInt x) (Int64.ofInt y) = Int32.ofInt (lCm x y) := by
  unfold lg_cmp lCm
  by_cases h : y < x
  · rw [if_pos ((oL_lt hy hx).mpr h), if_pos h]; decide +kernel
  · rw [if_neg (fun q => h ((oL_lt hy hx).mp q)), if_neg h]
    by_cases h2 : x = y
    · rw [if_pos ((oL_inj hx hy).mpr h2), if_pos h2]; decide +kernel
    · rw [if_neg (fun q => h2 ((oL_inj hx hy).mp q)), if_neg h2]; decide +kernel
/-! what a state of the small machine is in the machine -/
def mad (base b i : Nat) : Nat := if i = 0 then b else base + (i - 1)
def mrv (base b : Nat) : MV → Value
  | Sum.inl x => .int (Int32.ofInt x)
  | Sum.inr (Sum.inl x) => .long (Int64.ofInt x)
  | Sum.inr (Sum.inr r) => va_rf (r.map (mad base b))
def vok : MV → Prop
  | Sum.inl x => inI x
  | Sum.inr (Sum.inl x) => inL x
  | Sum.inr (Sum.inr _) => True
def LRel (base b : Nat) (lsr : Array Slot) (nL : Nat) (ls : List MV) : Prop := lsr.size = nL ∧ ls.length = nL ∧ lv_wf lsr ∧ ∀ (i : Nat) (v : MV), ls[i]? = some v → v ≠ vn → lsr[i]? = some (.val (mrv base b v))
def lvp (base b : Nat) (ls : List MV) : List (Nat × Value) := (List.range ls.length).filterMap fun i => match ls[i]? with
  | some v => if v = vn then none else some (i, mrv base b v)
  | none => none
theorem lvp_in {base b : Nat} {ls : List MV} {i : Nat} {v : MV} (h : ls[i]? = some v) (hv : v ≠ vn) : (i, mrv base b v) ∈ lvp base b ls := by
  have hi : i < ls.length := (List.getElem?_eq_some_iff.mp h).1
  refine List.mem_filterMap.mpr ⟨i, List.mem_range.mpr hi, ?_⟩
  simp only [h, if_neg hv]
theorem lvp_of {base b : Nat} {ls : List MV} {q : Nat × Value} (h : q ∈ lvp base b ls) : ∃ v, ls[q.1]? = some v ∧ v ≠ vn ∧ q.2 = mrv base b v := by
  obtain ⟨i, -, hi⟩ := List.mem_filterMap.mp h
  cases hl : ls[i]? with
  | none => rw [hl] at hi; cases hi
  | some v =>
    rw [hl] at hi
    dsimp only at hi
    by_cases hv : v = vn
    · rw [if_pos hv] at hi; cases hi
    · rw [if_neg hv] at hi
      cases hi
      exact ⟨v, hl, hv, rfl⟩
theorem LRel.has {base b : Nat} {lsr : Array Slot} {nL : Nat} {ls : List MV} (h : LRel base b lsr nL ls) : lv_has lsr nL (lvp base b ls) := by
  refine ⟨h.1, h.2.2.1, fun q hq => ?_⟩
  obtain ⟨v, h1, h2, h3⟩ := lvp_of hq
  rw [h3]
  exact h.2.2.2 q.1 v h1 h2
theorem mrv_cat2 {base b : Nat} {v : MV} (h : (mrv base b v).category = 2) : ∃ x, v = vl x := by
  match v with
  | Sum.inl x => cases h
  | Sum.inr (Sum.inl x) => exact ⟨x, rfl⟩
  | Sum.inr (Sum.inr none) => cases h
  | Sum.inr (Sum.inr (some a)) => cases h
theorem kl_len (ls : List MV) (i : Nat) : (kl ls i).length = ls.length := by
  unfold kl
  split
  · rw [List.length_set]
  · rfl
theorem kl_get {ls : List MV} {i j : Nat} {u : MV} (h : (kl ls i)[j]? = some u) (hu : u ≠ vn) : ls[j]? = some u ∧ (j = i - 1 → ∀ x, u ≠ vl x) := by
  unfold kl at h
  split at h
  · rename_i x hx
    rw [List.getElem?_set] at h
    by_cases hj : i - 1 = j
    · rw [if_pos hj] at h
      split at h
      · exact absurd (Option.some.inj h).symm hu
      · cases h
    · rw [if_neg hj] at h
      exact ⟨h, fun q => absurd q.symm hj⟩
  · rename_i hx
    refine ⟨h, fun q x hxu => ?_⟩
    subst q
    subst hxu
    exact hx x h
theorem LRel_st1 {base b : Nat} {lsr lsr2 : Array Slot} {nL i : Nat} {ls : List MV} {v : MV} {lv : List (Nat × Value)} (h : LRel base b lsr nL ls) (hi : i < ls.length) (hlv : ∀ q ∈ lvp base b ls, q ∈ lv)
    (h2 : lv_has lsr2 nL ((i, mrv base b v) :: lv.filter (fun q => !(q.1 == i) && !(q.1 + 1 == i && q.2.category == 2)))) : LRel base b lsr2 nL (st1 ls i v) := by
  refine ⟨h2.1, by unfold st1; rw [List.length_set, kl_len]; exact h.2.1, h2.2.1, fun j u hj hu => ?_⟩
  unfold st1 at hj
  rw [List.getElem?_set] at hj
  by_cases hij : i = j
  · rw [if_pos hij, if_pos (by rw [kl_len]; exact hij ▸ hi)] at hj
    cases hj
    subst hij
    exact h2.2.2 (i, _) List.mem_cons_self
  · rw [if_neg hij] at hj
    obtain ⟨h3, h4⟩ := kl_get hj hu
    refine h2.2.2 (j, mrv base b u) (List.mem_cons_of_mem _ (List.mem_filter.mpr ⟨hlv _ (lvp_in h3 hu), ?_⟩))
    have e1 : (j == i) = false := by simp; omega
    by_cases hc : j + 1 = i
    · have e2 : ((mrv base b u).category == 2) = false := by
        by_cases q : (mrv base b u).category = 2
        · obtain ⟨x, hx⟩ := mrv_cat2 q
          exact absurd hx (h4 (by omega) x)
        · simpa using q
      simp only [e1, e2, Bool.and_false, Bool.not_false, Bool.and_self]
    · have e2 : (j + 1 == i) = false := by simpa using hc
      simp only [e1, e2, Bool.false_and, Bool.not_false, Bool.and_self]
theorem LRel_st2 {base b : Nat} {lsr lsr2 : Array Slot} {nL i : Nat} {ls : List MV} {v : MV} (h : LRel base b lsr nL ls) (hi : i + 1 < ls.length)
    (h2 : lv_has lsr2 nL ((i, mrv base b v) :: (lvp base b ls).filter (fun q => !(q.1 == i) && (!(q.1 == i + 1) && !(q.1 + 1 == i && q.2.category == 2))))) : LRel base b lsr2 nL (st2 ls i v) := by
  refine ⟨h2.1, by unfold st2; rw [List.length_set, List.length_set, kl_len]; exact h.2.1, h2.2.1, fun j u hj hu => ?_⟩
  unfold st2 at hj
  rw [List.getElem?_set] at hj
  by_cases hij1 : i + 1 = j
  · rw [if_pos hij1] at hj
    split at hj
    · exact absurd (Option.some.inj hj).symm hu
    · cases hj
  · rw [if_neg hij1, List.getElem?_set] at hj
    by_cases hij : i = j
    · rw [if_pos hij, if_pos (by rw [kl_len]; omega)] at hj
      cases hj
      subst hij
      exact h2.2.2 (i, _) List.mem_cons_self
    · rw [if_neg hij] at hj
      obtain ⟨h3, h4⟩ := kl_get hj hu
      refine h2.2.2 (j, mrv base b u) (List.mem_cons_of_mem _ (List.mem_filter.mpr ⟨lvp_in h3 hu, ?_⟩))
      have e1 : (j == i) = false := by simp; omega
      have e3 : (j == i + 1) = false := by simp; omega
      by_cases hc : j + 1 = i
      · have e2 : ((mrv base b u).category == 2) = false := by
          by_cases q : (mrv base b u).category = 2
          · obtain ⟨x, hx⟩ := mrv_cat2 q
            exact absurd hx (h4 (by omega) x)
          · simpa using q
        simp only [e1, e2, e3, Bool.and_false, Bool.not_false, Bool.and_self]
      · have e2 : (j + 1 == i) = false := by simpa using hc
        simp only [e1, e2, e3, Bool.false_and, Bool.not_false, Bool.and_self]
