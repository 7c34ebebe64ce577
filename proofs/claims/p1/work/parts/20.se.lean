/-! THE EVALUATOR: the small machine, run by the kernel on values of which some are known by their bounds alone -/
abbrev VV : Type := MV ⊕ (Nat × Int × Int)
abbrev ci (x : Int) : VV := Sum.inl (vi x)
abbrev cL (x : Int) : VV := Sum.inl (vl x)
abbrev cR (a : Nat) : VV := Sum.inl (vr a)
abbrev cN : VV := Sum.inl vn
abbrev aI : VV := Sum.inr (0, 0, 0)
/-- place, instruction, its length, three numbers -/
abbrev OE : Type := Nat × Instr × Nat × Nat × Nat × Nat
def BT (α : Type) : Nat → Type
  | 0 => Option α
  | n + 1 => Option (BT α n × BT α n)
def bN {α : Type} : (n : Nat) → BT α n
  | 0 => (none : Option α)
  | n + 1 => (none : Option (BT α n × BT α n))
noncomputable def bget {α : Type} (n : Nat) : BT α n → Nat → Option α :=
  Nat.rec (motive := fun n => BT α n → Nat → Option α) (fun t i => cond (Nat.beq i 0) (show Option α from t) none)
    (fun n ih t i => Option.rec (motive := fun _ => Option α) none (fun p => cond (Nat.ble (Nat.pow 2 n) i) (ih p.2 (Nat.sub i (Nat.pow 2 n))) (ih p.1 i)) (show Option (BT α n × BT α n) from t)) n
noncomputable def bset {α : Type} (n : Nat) : BT α n → Nat → α → BT α n :=
  Nat.rec (motive := fun n => BT α n → Nat → α → BT α n) (fun _ _ v => (some v : Option α))
    (fun n ih t i v => Option.rec (motive := fun _ => Option (BT α n × BT α n))
      (cond (Nat.ble (Nat.pow 2 n) i) (some (bN n, ih (bN n) (Nat.sub i (Nat.pow 2 n)) v)) (some (ih (bN n) i v, bN n)))
      (fun p => cond (Nat.ble (Nat.pow 2 n) i) (some (p.1, ih p.2 (Nat.sub i (Nat.pow 2 n)) v)) (some (ih p.1 i v, p.2)))
      (show Option (BT α n × BT α n) from t)) n
noncomputable def bsetK {α : Type} (n : Nat) : BT α n → Nat → α → (BT α n → Bool) → Bool :=
  Nat.rec (motive := fun n => BT α n → Nat → α → (BT α n → Bool) → Bool) (fun _ _ v k => k (some v : Option α))
    (fun n ih t i v k => Option.rec (motive := fun _ => Bool)
      (cond (Nat.ble (Nat.pow 2 n) i) (ih (bN n) (Nat.sub i (Nat.pow 2 n)) v (fun c => k (some (bN n, c) : Option (BT α n × BT α n)))) (ih (bN n) i v (fun c => k (some (c, bN n) : Option (BT α n × BT α n)))))
      (fun p => cond (Nat.ble (Nat.pow 2 n) i) (ih p.2 (Nat.sub i (Nat.pow 2 n)) v (fun c => k (some (p.1, c) : Option (BT α n × BT α n)))) (ih p.1 i v (fun c => k (some (c, p.2) : Option (BT α n × BT α n)))))
      (show Option (BT α n × BT α n) from t)) n
theorem bsetK_eq {α : Type} : ∀ (n : Nat) (t : BT α n) (i : Nat) (v : α) (k : BT α n → Bool), bsetK n t i v k = k (bset n t i v)
  | 0, _, _, _, _ => rfl
  | n + 1, t, i, v, k => by
    have ih := bsetK_eq (α := α) n
    have key : ∀ t : Option (BT α n × BT α n), (Option.rec (motive := fun _ => Bool)
      (cond (Nat.ble (Nat.pow 2 n) i) (bsetK n (bN n) (Nat.sub i (Nat.pow 2 n)) v (fun c => k (some (bN n, c) : Option (BT α n × BT α n)))) (bsetK n (bN n) i v (fun c => k (some (c, bN n) : Option (BT α n × BT α n)))))
      (fun p => cond (Nat.ble (Nat.pow 2 n) i) (bsetK n p.2 (Nat.sub i (Nat.pow 2 n)) v (fun c => k (some (p.1, c) : Option (BT α n × BT α n)))) (bsetK n p.1 i v (fun c => k (some (c, p.2) : Option (BT α n × BT α n))))) t) = k (bset (n + 1) t i v) := by
      intro t
      show _ = k (Option.rec (motive := fun _ => Option (BT α n × BT α n))
        (cond (Nat.ble (Nat.pow 2 n) i) (some (bN n, bset n (bN n) (Nat.sub i (Nat.pow 2 n)) v)) (some (bset n (bN n) i v, bN n)))
        (fun p => cond (Nat.ble (Nat.pow 2 n) i) (some (p.1, bset n p.2 (Nat.sub i (Nat.pow 2 n)) v)) (some (bset n p.1 i v, p.2))) t)
      cases t with
      | none => cases h : Nat.ble (Nat.pow 2 n) i <;> simp only [cond_true, cond_false, ih]
      | some p => cases h : Nat.ble (Nat.pow 2 n) i <;> simp only [cond_true, cond_false, ih]
    exact key t
theorem bget_bN {α : Type} : ∀ (n i : Nat), bget n (bN (α := α) n) i = none
  | 0, i => by show cond (Nat.beq i 0) none none = none; cases Nat.beq i 0 <;> rfl
  | _ + 1, _ => rfl
theorem bget_lt {α : Type} : ∀ (n : Nat) (t : BT α n) (i : Nat) (o : α), bget n t i = some o → i < 2 ^ n
  | 0, t, i, o, h => by
    have h : cond (Nat.beq i 0) (show Option α from t) none = some o := h
    cases hq : Nat.beq i 0 with
    | false => rw [hq] at h; cases h
    | true => rw [Nat.beq_eq] at hq; subst hq; exact Nat.zero_lt_one
  | n + 1, t, i, o, h => by
    have ih := bget_lt (α := α) n
    have hp : (2 : Nat) ^ (n + 1) = 2 ^ n + 2 ^ n := by rw [Nat.pow_succ]; omega
    have key : ∀ t : Option (BT α n × BT α n), bget (n + 1) t i = some o → i < 2 ^ (n + 1) := by
      intro t
      cases t with
      | none => intro h; cases h
      | some p =>
        show cond (Nat.ble (2 ^ n) i) (bget n p.2 (i - 2 ^ n)) (bget n p.1 i) = some o → _
        cases hq : Nat.ble (2 ^ n) i with
        | true =>
          have h1 := Nat.le_of_ble_eq_true hq
          intro h2
          have := ih _ _ _ h2
          omega
        | false =>
          intro h2
          have := ih _ _ _ h2
          omega
    exact key t h
theorem bget_bset {α : Type} : ∀ (n : Nat) (t : BT α n) (i j : Nat) (v : α), i < 2 ^ n → j < 2 ^ n → bget n (bset n t i v) j = if j = i then some v else bget n t j
  | 0, t, i, j, v, hi, hj => by
    have h1 : i = 0 := by simpa using hi
    have h2 : j = 0 := by simpa using hj
    subst h1; subst h2
    rfl
  | n + 1, t, i, j, v, hi, hj => by
    have ih := bget_bset (α := α) n
    have hp : (2 : Nat) ^ (n + 1) = 2 ^ n + 2 ^ n := by rw [Nat.pow_succ]; omega
    have g : ∀ (p : BT α n × BT α n) (j : Nat), bget (n + 1) (some p : Option (BT α n × BT α n)) j = cond (Nat.ble (2 ^ n) j) (bget n p.2 (j - 2 ^ n)) (bget n p.1 j) := fun p j => rfl
    have gn : ∀ (j : Nat), bget (n + 1) (none : Option (BT α n × BT α n)) j = none := fun j => rfl
    have sn : bset (n + 1) (none : Option (BT α n × BT α n)) i v = cond (Nat.ble (2 ^ n) i) (some (bN n, bset n (bN n) (i - 2 ^ n) v)) (some (bset n (bN n) i v, bN n)) := rfl
    have ss : ∀ p : BT α n × BT α n, bset (n + 1) (some p : Option (BT α n × BT α n)) i v = cond (Nat.ble (2 ^ n) i) (some (p.1, bset n p.2 (i - 2 ^ n) v)) (some (bset n p.1 i v, p.2)) := fun p => rfl
    have key : ∀ t : Option (BT α n × BT α n), bget (n + 1) (bset (n + 1) t i v) j = if j = i then some v else bget (n + 1) t j := by
      intro t
      cases t with
      | none =>
        rw [sn, gn]
        cases h : Nat.ble (2 ^ n) i with
        | true =>
          have h1 := Nat.le_of_ble_eq_true h
          rw [cond_true, g]
          cases h2 : Nat.ble (2 ^ n) j with
          | true =>
            have h3 := Nat.le_of_ble_eq_true h2
            rw [cond_true, ih _ _ _ _ (by omega) (by omega), bget_bN]
            by_cases h4 : j = i
            · rw [if_pos h4, if_pos (by omega)]
            · rw [if_neg h4, if_neg (by omega)]
          | false =>
            have h3 : ¬ 2 ^ n ≤ j := fun q => by rw [Nat.ble_eq_true_of_le q] at h2; cases h2
            rw [cond_false, bget_bN, if_neg (by omega)]
        | false =>
          have h1 : ¬ 2 ^ n ≤ i := fun q => by rw [Nat.ble_eq_true_of_le q] at h; cases h
          rw [cond_false, g]
          cases h2 : Nat.ble (2 ^ n) j with
          | true =>
            have h3 := Nat.le_of_ble_eq_true h2
            rw [cond_true, bget_bN, if_neg (by omega)]
          | false =>
            have h3 : ¬ 2 ^ n ≤ j := fun q => by rw [Nat.ble_eq_true_of_le q] at h2; cases h2
            rw [cond_false, ih _ _ _ _ (by omega) (by omega), bget_bN]
      | some p =>
        rw [ss, g]
        cases h : Nat.ble (2 ^ n) i with
        | true =>
          have h1 := Nat.le_of_ble_eq_true h
          rw [cond_true, g]
          cases h2 : Nat.ble (2 ^ n) j with
          | true =>
            have h3 := Nat.le_of_ble_eq_true h2
            rw [cond_true, cond_true, ih _ _ _ _ (by omega) (by omega)]
            by_cases h4 : j = i
            · rw [if_pos h4, if_pos (by omega)]
            · rw [if_neg h4, if_neg (by omega)]
          | false =>
            have h3 : ¬ 2 ^ n ≤ j := fun q => by rw [Nat.ble_eq_true_of_le q] at h2; cases h2
            rw [cond_false, cond_false, if_neg (by omega)]
        | false =>
          have h1 : ¬ 2 ^ n ≤ i := fun q => by rw [Nat.ble_eq_true_of_le q] at h; cases h
          rw [cond_false, g]
          cases h2 : Nat.ble (2 ^ n) j with
          | true =>
            have h3 := Nat.le_of_ble_eq_true h2
            rw [cond_true, cond_true, if_neg (by omega)]
          | false =>
            have h3 : ¬ 2 ^ n ≤ j := fun q => by rw [Nat.ble_eq_true_of_le q] at h2; cases h2
            rw [cond_false, cond_false, ih _ _ _ _ (by omega) (by omega)]
    exact key t
/-- kind, length, what its cells are that were never written, its cells -/
abbrev OB : Type := Nat × Nat × VV × BT VV 12
abbrev HT : Type := BT OB 7
abbrev CT : Type := List (Int × Int)
/-! numbers -/
theorem blm {n m : Nat} (h : Nat.ble n m = true) : n ≤ m := Nat.le_of_ble_eq_true h
def fI32 (z : Int) : Int := match z with
  | .ofNat n => cond (Nat.ble n 2147483647) (Int.ofNat n) (wI (Int.ofNat n))
  | .negSucc n => cond (Nat.ble n 2147483647) (Int.negSucc n) (wI (Int.negSucc n))
theorem fI32_eq (z : Int) : fI32 z = wI z := by
  cases z with
  | ofNat n =>
    show cond (Nat.ble n 2147483647) (Int.ofNat n) (wI (Int.ofNat n)) = wI (Int.ofNat n)
    generalize h : Nat.ble n 2147483647 = c
    cases c with
    | false => rw [cond_false]
    | true =>
      have h2 := blm h
      rw [cond_true, wI_id]
      unfold inI
      simp only [Int.ofNat_eq_natCast]
      omega
  | negSucc n =>
    show cond (Nat.ble n 2147483647) (Int.negSucc n) (wI (Int.negSucc n)) = wI (Int.negSucc n)
    generalize h : Nat.ble n 2147483647 = c
    cases c with
    | false => rw [cond_false]
    | true =>
      have h2 := blm h
      rw [cond_true, wI_id]
      unfold inI
      simp only [Int.negSucc_eq]
      omega
def fadd (x y : Int) : Int := fI32 (Int.add x y)
def fsub (x y : Int) : Int := fI32 (Int.sub x y)
def fmul (x y : Int) : Int := fI32 (Int.mul x y)
def fdiv (x y : Int) : Int := fI32 (Int.tdiv x y)
theorem fadd_eq (x y : Int) : fadd x y = wI (x + y) := fI32_eq _
theorem fsub_eq (x y : Int) : fsub x y = wI (x - y) := fI32_eq _
theorem fmul_eq (x y : Int) : fmul x y = wI (x * y) := fI32_eq _
theorem fdiv_eq (x y : Int) : fdiv x y = wI (x.tdiv y) := fI32_eq _
def ltB (x y : Int) : Bool := match x, y with
  | .ofNat a, .ofNat b => Nat.ble (Nat.succ a) b
  | .ofNat _, .negSucc _ => false
  | .negSucc _, .ofNat _ => true
  | .negSucc a, .negSucc b => Nat.ble (Nat.succ b) a
def eqB (x y : Int) : Bool := match x, y with
  | .ofNat a, .ofNat b => Nat.beq a b
  | .ofNat _, .negSucc _ => false
  | .negSucc _, .ofNat _ => false
  | .negSucc a, .negSucc b => Nat.beq a b
theorem ble_iff {a b : Nat} : Nat.ble a b = true ↔ a ≤ b := ⟨Nat.le_of_ble_eq_true, Nat.ble_eq_true_of_le⟩
theorem ltB_iff (x y : Int) : ltB x y = true ↔ x < y := by
  cases x with
  | ofNat a => cases y with
    | ofNat b => show Nat.ble (a + 1) b = true ↔ _; rw [ble_iff]; simp only [Int.ofNat_eq_natCast]; omega
    | negSucc b => show false = true ↔ _; constructor <;> intro h <;> first | (cases h; done) | (exfalso; simp only [Int.ofNat_eq_natCast, Int.negSucc_eq] at h; omega)
  | negSucc a => cases y with
    | ofNat b => show true = true ↔ _; constructor <;> intro h <;> first | rfl | (simp only [Int.ofNat_eq_natCast, Int.negSucc_eq]; omega)
    | negSucc b => show Nat.ble (b + 1) a = true ↔ _; rw [ble_iff]; simp only [Int.negSucc_eq]; omega
theorem eqB_iff (x y : Int) : eqB x y = true ↔ x = y := by
  cases x with
  | ofNat a => cases y with
    | ofNat b => show Nat.beq a b = true ↔ _; rw [Nat.beq_eq]; constructor <;> intro h <;> first | rw [h] | (cases h; rfl)
    | negSucc b => show false = true ↔ _; constructor <;> intro h <;> cases h
  | negSucc a => cases y with
    | ofNat b => show false = true ↔ _; constructor <;> intro h <;> cases h
    | negSucc b => show Nat.beq a b = true ↔ _; rw [Nat.beq_eq]; constructor <;> intro h <;> first | rw [h] | (cases h; rfl)
def cmB (c : Jvm.ClassFile.Cond) (x y : Int) : Bool := match c with
  | .eq => eqB x y
  | .ne => not (eqB x y)
  | .lt => ltB x y
  | .ge => not (ltB x y)
  | .gt => ltB y x
  | .le => not (ltB y x)
theorem cmB_iff (c : Jvm.ClassFile.Cond) (x y : Int) : cmB c x y = true ↔ cmI c x y := by
  have n1 : ∀ b : Bool, (!b) = true ↔ ¬ (b = true) := fun b => by cases b <;> simp
  cases c with
  | eq => exact eqB_iff x y
  | ne => show (!(eqB x y)) = true ↔ x ≠ y; rw [n1, eqB_iff]
  | lt => exact ltB_iff x y
  | ge => show (!(ltB x y)) = true ↔ y ≤ x; rw [n1, ltB_iff]; omega
  | gt => exact ltB_iff y x
  | le => show (!(ltB y x)) = true ↔ x ≤ y; rw [n1, ltB_iff]; omega
