/-! THE EVALUATOR: the small machine, run by the kernel on values of which some are known by their bounds alone -/
abbrev VV : Type := MV ⊕ (Nat × Int × Int)
abbrev ci (x : Int) : VV := Sum.inl (vi x)
abbrev cL (x : Int) : VV := Sum.inl (vl x)
abbrev cR (a : Nat) : VV := Sum.inl (vr a)
abbrev cN : VV := Sum.inl vn
abbrev aI : VV := Sum.inr (0, 0, 0)
/-- place, instruction, its length, three numbers -/
abbrev OE : Type := Nat × Instr × Nat × Nat × Nat × Nat
def BT (α : Type) : Nat → Type
  | 0 => Option α
  | n + 1 => Option (BT α n × BT α n)
def bN {α : Type} : (n : Nat) → BT α n
  | 0 => (none : Option α)
  | n + 1 => (none : Option (BT α n × BT α n))
noncomputable def bget {α : Type} (n : Nat) : BT α n → Nat → Option α :=
  Nat.rec (motive := fun n => BT α n → Nat → Option α) (fun t i => cond (Nat.beq i 0) (show Option α from t) none)
    (fun n ih t i => Option.rec (motive := fun _ => Option α) none (fun p => cond (Nat.ble (Nat.pow 2 n) i) (ih p.2 (Nat.sub i (Nat.pow 2 n))) (ih p.1 i)) (show Option (BT α n × BT α n) from t)) n
noncomputable def bset {α : Type} (n : Nat) : BT α n → Nat → α → BT α n :=
  Nat.rec (motive := fun n => BT α n → Nat → α → BT α n) (fun _ _ v => (some v : Option α))
    (fun n ih t i v => Option.rec (motive := fun _ => Option (BT α n × BT α n))
      (cond (Nat.ble (Nat.pow 2 n) i) (some (bN n, ih (bN n) (Nat.sub i (Nat.pow 2 n)) v)) (some (ih (bN n) i v, bN n)))
      (fun p => cond (Nat.ble (Nat.pow 2 n) i) (some (p.1, ih p.2 (Nat.sub i (Nat.pow 2 n)) v)) (some (ih p.1 i v, p.2)))
      (show Option (BT α n × BT α n) from t)) n
noncomputable def bsetK {α : Type} (n : Nat) : BT α n → Nat → α → (BT α n → Bool) → Bool :=
  Nat.rec (motive := fun n => BT α n → Nat → α → (BT α n → Bool) → Bool) (fun _ _ v k => k (some v : Option α))
    (fun n ih t i v k => Option.rec (motive := fun _ => Bool)
      (cond (Nat.ble (Nat.pow 2 n) i) (ih (bN n) (Nat.sub i (Nat.pow 2 n)) v (fun c => k (some (bN n, c) : Option (BT α n × BT α n)))) (ih (bN n) i v (fun c => k (some (c, bN n) : Option (BT α n × BT α n)))))
      (fun p => cond (Nat.ble (Nat.pow 2 n) i) (ih p.2 (Nat.sub i (Nat.pow 2 n)) v (fun c => k (some (p.1, c) : Option (BT α n × BT α n)))) (ih p.1 i v (fun c => k (some (c, p.2) : Option (BT α n × BT α n)))))
      (show Option (BT α n × BT α n) from t)) n
theorem bsetK_eq {α : Type} : ∀ (n : Nat) (t : BT α n) (i : Nat) (v : α) (k : BT α n → Bool), bsetK n t i v k = k (bset n t i v)
  | 0, _, _, _, _ => rfl
  | n + 1, t, i, v, k => by
    have ih := bsetK_eq (α := α) n
    have key : ∀ t : Option (BT α n × BT α n), (Option.rec (motive := fun _ => Bool)
      (cond (Nat.ble (Nat.pow 2 n) i) (bsetK n (bN n) (Nat.sub i (Nat.pow 2 n)) v (fun c => k (some (bN n, c) : Option (BT α n × BT α n)))) (bsetK n (bN n) i v (fun c => k (some (c, bN n) : Option (BT α n × BT α n)))))
      (fun p => cond (Nat.ble (Nat.pow 2 n) i) (bsetK n p.2 (Nat.sub i (Nat.pow 2 n)) v (fun c => k (some (p.1, c) : Option (BT α n × BT α n)))) (bsetK n p.1 i v (fun c => k (some (c, p.2) : Option (BT α n × BT α n))))) t) = k (bset (n + 1) t i v) := by
      intro t
      show _ = k (Option.rec (motive := fun _ => Option (BT α n × BT α n))
        (cond (Nat.ble (Nat.pow 2 n) i) (some (bN n, bset n (bN n) (Nat.sub i (Nat.pow 2 n)) v)) (some (bset n (bN n) i v, bN n)))
        (fun p => cond (Nat.ble (Nat.pow 2 n) i) (some (p.1, bset n p.2 (Nat.sub i (Nat.pow 2 n)) v)) (some (bset n p.1 i v, p.2))) t)
      cases t with
      | none => cases h : Nat.ble (Nat.pow 2 n) i <;> simp only [cond_true, cond_false, ih]
      | some p => cases h : Nat.ble (Nat.pow 2 n) i <;> simp only [cond_true, cond_false, ih]
    exact key t
theorem bget_bN {α : Type} : ∀ (n i : Nat), bget n (bN (α := α) n) i = none
  | 0, i => by show cond (Nat.beq i 0) none none = none; cases Nat.beq i 0 <;> rfl
  | _ + 1, _ => rfl
theorem bget_lt {α : Type} : ∀ (n : Nat) (t : BT α n) (i : Nat) (o : α), bget n t i = some o → i < 2 ^ n
  | 0, t, i, o, h => by
    have h : cond (Nat.beq i 0) (show Option α from t) none = some o := h
    cases hq : Nat.beq i 0 with
    | false => rw [hq] at h; cases h
    | true => rw [Nat.beq_eq] at hq; subst hq; exact Nat.zero_lt_one
  | n + 1, t, i, o, h => by
    have ih := bget_lt (α := α) n
    have hp : (2 : Nat) ^ (n + 1) = 2 ^ n + 2 ^ n := by rw [Nat.pow_succ]; omega
    have key : ∀ t : Option (BT α n × BT α n), bget (n + 1) t i = some o → i < 2 ^ (n + 1) := by
      intro t
      cases t with
      | none => intro h; cases h
      | some p =>
        show cond (Nat.ble (2 ^ n) i) (bget n p.2 (i - 2 ^ n)) (bget n p.1 i) = some o → _
        cases hq : Nat.ble (2 ^ n) i with
        | true =>
          have h1 := Nat.le_of_ble_eq_true hq
          intro h2
          have := ih _ _ _ h2
          omega
        | false =>
          intro h2
          have := ih _ _ _ h2
          omega
    exact key t h
theorem bget_bset {α : Type} : ∀ (n : Nat) (t : BT α n) (i j : Nat) (v : α), i < 2 ^ n → j < 2 ^ n → bget n (bset n t i v) j = if j = i then some v else bget n t j
  | 0, t, i, j, v, hi, hj => by
    have h1 : i = 0 := by simpa using hi
    have h2 : j = 0 := by simpa using hj
    subst h1; subst h2
    rfl
  | n + 1, t, i, j, v, hi, hj => by
    have ih := bget_bset (α := α) n
    have hp : (2 : Nat) ^ (n + 1) = 2 ^ n + 2 ^ n := by rw [Nat.pow_succ]; omega
    have g : ∀ (p : BT α n × BT α n) (j : Nat), bget (n + 1) (some p : Option (BT α n × BT α n)) j = cond (Nat.ble (2 ^ n) j) (bget n p.2 (j - 2 ^ n)) (bget n p.1 j) := fun p j => rfl
    have gn : ∀ (j : Nat), bget (n + 1) (none : Option (BT α n × BT α n)) j = none := fun j => rfl
    have sn : bset (n + 1) (none : Option (BT α n × BT α n)) i v = cond (Nat.ble (2 ^ n) i) (some (bN n, bset n (bN n) (i - 2 ^ n) v)) (some (bset n (bN n) i v, bN n)) := rfl
    have ss : ∀ p : BT α n × BT α n, bset (n + 1) (some p : Option (BT α n × BT α n)) i v = cond (Nat.ble (2 ^ n) i) (some (p.1, bset n p.2 (i - 2 ^ n) v)) (some (bset n p.1 i v, p.2)) := fun p => rfl
    have key : ∀ t : Option (BT α n × BT α n), bget (n + 1) (bset (n + 1) t i v) j = if j = i then some v else bget (n + 1) t j := by
      intro t
      cases t with
      | none =>
        rw [sn, gn]
        cases h : Nat.ble (2 ^ n) i with
        | true =>
          have h1 := Nat.le_of_ble_eq_true h
          rw [cond_true, g]
          cases h2 : Nat.ble (2 ^ n) j with
          | true =>
            have h3 := Nat.le_of_ble_eq_true h2
            rw [cond_true, ih _ _ _ _ (by omega) (by omega), bget_bN]
            by_cases h4 : j = i
            · rw [if_pos h4, if_pos (by omega)]
            · rw [if_neg h4, if_neg (by omega)]
          | false =>
            have h3 : ¬ 2 ^ n ≤ j := fun q => by rw [Nat.ble_eq_true_of_le q] at h2; cases h2
            rw [cond_false, bget_bN, if_neg (by omega)]
        | false =>
          have h1 : ¬ 2 ^ n ≤ i := fun q => by rw [Nat.ble_eq_true_of_le q] at h; cases h
          rw [cond_false, g]
          cases h2 : Nat.ble (2 ^ n) j with
          | true =>
            have h3 := Nat.le_of_ble_eq_true h2
            rw [cond_true, bget_bN, if_neg (by omega)]
          | false =>
            have h3 : ¬ 2 ^ n ≤ j := fun q => by rw [Nat.ble_eq_true_of_le q] at h2; cases h2
            rw [cond_false, ih _ _ _ _ (by omega) (by omega), bget_bN]
      | some p =>
        rw [ss, g]
        cases h : Nat.ble (2 ^ n) i with
        | true =>
          have h1 := Nat.le_of_ble_eq_true h
          rw [cond_true, g]
          cases h2 : Nat.ble (2 ^ n) j with
          | true =>
            have h3 := Nat.le_of_ble_eq_true h2
            rw [cond_true, cond_true, ih _ _ _ _ (by omega) (by omega)]
            by_cases h4 : j = i
            · rw [if_pos h4, if_pos (by omega)]
            · rw [if_neg h4, if_neg (by omega)]
          | false =>
            have h3 : ¬ 2 ^ n ≤ j := fun q => by rw [Nat.ble_eq_true_of_le q] at h2; cases h2
            rw [cond_false, cond_false, if_neg (by omega)]
        | false =>
          have h1 : ¬ 2 ^ n ≤ i := fun q => by rw [Nat.ble_eq_true_of_le q] at h; cases h
          rw [cond_false, g]
          cases h2 : Nat.ble (2 ^ n) j with
          | true =>
            have h3 := Nat.le_of_ble_eq_true h2
            rw [cond_true, cond_true, if_neg (by omega)]
          | false =>
            have h3 : ¬ 2 ^ n ≤ j := fun q => by rw [Nat.ble_eq_true_of_le q] at h2; cases h2
            rw [cond_false, cond_false, ih _ _ _ _ (by omega) (by omega)]
    exact key t
/-! a shorter look-up -/
def bit (i n : Nat) : Bool := Nat.beq (Nat.mod (Nat.shiftRight i n) 2) 1
noncomputable def dn {α : Type} (n i : Nat) (t : BT α (n + 1)) : BT α n := Option.rec (motive := fun _ => BT α n) (bN n) (fun p => Bool.rec (motive := fun _ => BT α n) p.1 p.2 (bit i n)) (show Option (BT α n × BT α n) from t)
noncomputable def gq {α : Type} : (n : Nat) → BT α n → Nat → Option α
  | 0, t, _ => t
  | n + 1, t, i => gq n (dn n i t) i
theorem bit_iff (i n : Nat) : bit i n = true ↔ i / 2 ^ n % 2 = 1 := by
  unfold bit
  rw [Nat.beq_eq]
  show (i >>> n) % 2 = 1 ↔ _
  rw [Nat.shiftRight_eq_div_pow]
theorem gq_eq {α : Type} : ∀ (n : Nat) (t : BT α n) (i : Nat), gq n t i = bget n t (i % 2 ^ n)
  | 0, t, i => by
    have h : i % 2 ^ 0 = 0 := Nat.mod_one i
    rw [h]
    rfl
  | n + 1, t, i => by
    show gq n (dn n i t) i = _
    rw [gq_eq n]
    have hm : i % 2 ^ (n + 1) = i % 2 ^ n + 2 ^ n * (i / 2 ^ n % 2) := Nat.mod_pow_succ
    have hl : i % 2 ^ n < 2 ^ n := Nat.mod_lt _ (Nat.two_pow_pos n)
    have key : ∀ t : Option (BT α n × BT α n), bget n (dn n i (show BT α (n + 1) from t)) (i % 2 ^ n) = bget (n + 1) (show BT α (n + 1) from t) (i % 2 ^ (n + 1)) := by
      intro t
      cases t with
      | none => exact bget_bN n _
      | some p =>
        show bget n (Bool.rec (motive := fun _ => BT α n) p.1 p.2 (bit i n)) (i % 2 ^ n) = cond (Nat.ble (2 ^ n) (i % 2 ^ (n + 1))) (bget n p.2 (i % 2 ^ (n + 1) - 2 ^ n)) (bget n p.1 (i % 2 ^ (n + 1)))
        generalize hb : bit i n = b
        cases b with
        | true =>
          rw [bit_iff] at hb
          rw [hb, Nat.mul_one] at hm
          have h2 : Nat.ble (2 ^ n) (i % 2 ^ (n + 1)) = true := Nat.ble_eq_true_of_le (by omega)
          rw [h2, cond_true, show i % 2 ^ (n + 1) - 2 ^ n = i % 2 ^ n by omega]
        | false =>
          have hb2 : ¬ i / 2 ^ n % 2 = 1 := fun q => by rw [← bit_iff, hb] at q; cases q
          have hb3 : i / 2 ^ n % 2 = 0 := by omega
          rw [hb3, Nat.mul_zero, Nat.add_zero] at hm
          have h2 : Nat.ble (2 ^ n) (i % 2 ^ (n + 1)) = false := by
            cases hq : Nat.ble (2 ^ n) (i % 2 ^ (n + 1)) with
            | false => rfl
            | true => have := Nat.le_of_ble_eq_true hq; omega
          rw [h2, cond_false, hm]
          rfl
    exact key t
noncomputable def q7 {α : Type} (t : BT α 7) (i : Nat) : Option α := cond (Nat.ble i 127) (dn 0 i (dn 1 i (dn 2 i (dn 3 i (dn 4 i (dn 5 i (dn 6 i t))))))) none
noncomputable def q9 {α : Type} (t : BT α 9) (i : Nat) : Option α := dn 0 i (dn 1 i (dn 2 i (dn 3 i (dn 4 i (dn 5 i (dn 6 i (dn 7 i (dn 8 i t))))))))
theorem q7_eq {α : Type} (t : BT α 7) (i : Nat) : q7 t i = bget 7 t i := by
  unfold q7
  cases h : Nat.ble i 127 with
  | true =>
    have h1 := Nat.le_of_ble_eq_true h
    have h2 := gq_eq 7 t i
    rw [Nat.mod_eq_of_lt (show i < 2 ^ 7 by omega)] at h2
    exact h2
  | false =>
    show none = bget 7 t i
    cases hq : bget 7 t i with
    | none => rfl
    | some o =>
      have := bget_lt 7 t i o hq
      rw [Nat.ble_eq_true_of_le (show i ≤ 127 by omega)] at h
      cases h
theorem q9_eq {α : Type} (t : BT α 9) (i : Nat) (hi : i < 512) : q9 t i = bget 9 t i := by
  have h2 := gq_eq 9 t i
  rw [Nat.mod_eq_of_lt (show i < 2 ^ 9 by omega)] at h2
  exact h2
/-! a row of numbers as one number, 40 bits a cell -/
def pget (A j : Nat) : Nat := Nat.mod (Nat.shiftRight A (Nat.mul 40 j)) 1099511627776
def pset (A j v : Nat) : Nat := Nat.sub (Nat.add A (Nat.shiftLeft v (Nat.mul 40 j))) (Nat.shiftLeft (pget A j) (Nat.mul 40 j))
def pclr (A lo n : Nat) : Nat := Nat.sub A (Nat.shiftLeft (Nat.mod (Nat.shiftRight A (Nat.mul 40 lo)) (Nat.shiftLeft 1 (Nat.mul 40 n))) (Nat.mul 40 lo))
noncomputable def pfill (n v : Nat) : Nat := Nat.rec (motive := fun _ => Nat) 0 (fun _ ih => Nat.add (Nat.mul ih 1099511627776) v) n
theorem pget_eq (A j : Nat) : pget A j = A / 2 ^ (40 * j) % 2 ^ 40 := by
  show (A >>> (40 * j)) % 1099511627776 = _
  rw [Nat.shiftRight_eq_div_pow]
theorem pget_lt (A j : Nat) : pget A j < 2 ^ 40 := by rw [pget_eq]; exact Nat.mod_lt _ (Nat.two_pow_pos 40)
theorem p_mod {X Y i j : Nat} (h : i < j) (hm : X % 2 ^ (40 * j) = Y % 2 ^ (40 * j)) : pget X i = pget Y i := by
  have e : 2 ^ (40 * j) = 2 ^ (40 * i) * 2 ^ 40 * 2 ^ (40 * (j - i - 1)) := by
    rw [← Nat.pow_add, ← Nat.pow_add]
    congr 1
    omega
  have key : ∀ Z, pget Z i = Z % 2 ^ (40 * j) / 2 ^ (40 * i) % 2 ^ 40 := by
    intro Z
    rw [pget_eq, ← Nat.mod_mul_right_div_self, ← Nat.mod_mul_right_div_self, e, Nat.mod_mod_of_dvd _ (Nat.dvd_mul_right _ _)]
  rw [key X, key Y, hm]
theorem p_div {X Y i j : Nat} (h : j ≤ i) (hm : X / 2 ^ (40 * j) = Y / 2 ^ (40 * j)) : pget X i = pget Y i := by
  have e : 2 ^ (40 * i) = 2 ^ (40 * j) * 2 ^ (40 * (i - j)) := by
    rw [← Nat.pow_add]
    congr 1
    omega
  rw [pget_eq, pget_eq, e, ← Nat.div_div_eq_div_mul, ← Nat.div_div_eq_div_mul, hm]
theorem pset_eq (A j v : Nat) : pset A j v = (A / 2 ^ (40 * j) / 2 ^ 40 * 2 ^ 40 + v) * 2 ^ (40 * j) + A % 2 ^ (40 * j) := by
  have h1 : A = A / 2 ^ (40 * j) * 2 ^ (40 * j) + A % 2 ^ (40 * j) := by rw [Nat.mul_comm]; exact (Nat.div_add_mod A _).symm
  have h2 : A / 2 ^ (40 * j) = A / 2 ^ (40 * j) / 2 ^ 40 * 2 ^ 40 + pget A j := by rw [pget_eq]; exact (Nat.div_add_mod' _ _).symm
  show A + (v <<< (40 * j)) - (pget A j <<< (40 * j)) = _
  rw [Nat.shiftLeft_eq, Nat.shiftLeft_eq]
  generalize A / 2 ^ (40 * j) / 2 ^ 40 = h at h2 ⊢
  generalize hP : 2 ^ (40 * j) = P at h1 h2 ⊢
  generalize pget A j = d at h2 ⊢
  generalize A % P = lo at h1 ⊢
  rw [h2] at h1
  rw [h1]
  rw [Nat.add_mul, Nat.add_mul]
  generalize h * 2 ^ 40 * P = x
  omega
theorem pget_pset {A j v i : Nat} (hv : v < 2 ^ 40) : pget (pset A j v) i = if i = j then v else pget A i := by
  have hP : 0 < 2 ^ (40 * j) := Nat.two_pow_pos _
  have hlo : A % 2 ^ (40 * j) < 2 ^ (40 * j) := Nat.mod_lt _ hP
  have hd : pset A j v / 2 ^ (40 * j) = A / 2 ^ (40 * j) / 2 ^ 40 * 2 ^ 40 + v := by
    rw [pset_eq, Nat.mul_comm _ (2 ^ (40 * j)), Nat.mul_add_div hP, Nat.div_eq_of_lt hlo, Nat.add_zero]
  have hm : pset A j v % 2 ^ (40 * j) = A % 2 ^ (40 * j) := by
    rw [pset_eq, Nat.mul_comm _ (2 ^ (40 * j)), Nat.mul_add_mod, Nat.mod_eq_of_lt hlo]
  by_cases hij : i = j
  · subst hij
    rw [if_pos rfl, pget_eq, hd, Nat.mul_comm, Nat.mul_add_mod, Nat.mod_eq_of_lt hv]
  · rw [if_neg hij]
    rcases Nat.lt_or_ge i j with h | h
    · exact p_mod h hm
    · refine p_div (j := j + 1) (by omega) ?_
      have e : 2 ^ (40 * (j + 1)) = 2 ^ (40 * j) * 2 ^ 40 := by rw [← Nat.pow_add]; congr 1
      rw [e, ← Nat.div_div_eq_div_mul, ← Nat.div_div_eq_div_mul, hd, Nat.mul_comm, Nat.mul_add_div (Nat.two_pow_pos 40), Nat.div_eq_of_lt hv, Nat.add_zero]
theorem pclr_eq (A lo n : Nat) : pclr A lo n = A / 2 ^ (40 * lo) / 2 ^ (40 * n) * 2 ^ (40 * n) * 2 ^ (40 * lo) + A % 2 ^ (40 * lo) := by
  have h1 : A = A / 2 ^ (40 * lo) * 2 ^ (40 * lo) + A % 2 ^ (40 * lo) := by rw [Nat.mul_comm]; exact (Nat.div_add_mod A _).symm
  have h2 : A / 2 ^ (40 * lo) = A / 2 ^ (40 * lo) / 2 ^ (40 * n) * 2 ^ (40 * n) + A / 2 ^ (40 * lo) % 2 ^ (40 * n) := (Nat.div_add_mod' _ _).symm
  show A - (((A >>> (40 * lo)) % (1 <<< (40 * n))) <<< (40 * lo)) = _
  rw [Nat.shiftLeft_eq, Nat.shiftLeft_eq, Nat.shiftRight_eq_div_pow, Nat.one_mul]
  generalize A / 2 ^ (40 * lo) / 2 ^ (40 * n) = h at h2 ⊢
  generalize A / 2 ^ (40 * lo) % 2 ^ (40 * n) = d at h2 ⊢
  generalize hP : 2 ^ (40 * lo) = P at h1 h2 ⊢
  generalize A % P = l at h1 ⊢
  rw [h2] at h1
  rw [h1, Nat.add_mul]
  generalize h * 2 ^ (40 * n) * P = x
  omega
theorem pget_pclr {A lo n i : Nat} : pget (pclr A lo n) i = if lo ≤ i ∧ i < lo + n then 0 else pget A i := by
  have hP : 0 < 2 ^ (40 * lo) := Nat.two_pow_pos _
  have hl : A % 2 ^ (40 * lo) < 2 ^ (40 * lo) := Nat.mod_lt _ hP
  have hd : pclr A lo n / 2 ^ (40 * lo) = A / 2 ^ (40 * lo) / 2 ^ (40 * n) * 2 ^ (40 * n) := by
    rw [pclr_eq, Nat.mul_comm _ (2 ^ (40 * lo)), Nat.mul_add_div hP, Nat.div_eq_of_lt hl, Nat.add_zero]
  have hm : pclr A lo n % 2 ^ (40 * lo) = A % 2 ^ (40 * lo) := by
    rw [pclr_eq, Nat.mul_comm _ (2 ^ (40 * lo)), Nat.mul_add_mod, Nat.mod_eq_of_lt hl]
  by_cases h1 : i < lo
  · rw [if_neg (by omega)]
    exact p_mod h1 hm
  · by_cases h2 : i < lo + n
    · rw [if_pos ⟨by omega, h2⟩, pget_eq]
      have e : 2 ^ (40 * i) = 2 ^ (40 * lo) * 2 ^ (40 * (i - lo)) := by rw [← Nat.pow_add]; congr 1; omega
      have e2 : 2 ^ (40 * n) = 2 ^ (40 * (i - lo)) * (2 ^ 40 * 2 ^ (40 * (lo + n - i - 1))) := by rw [← Nat.pow_add, ← Nat.pow_add]; congr 1; omega
      rw [e, ← Nat.div_div_eq_div_mul, hd, e2]
      generalize A / 2 ^ (40 * lo) / (2 ^ (40 * (i - lo)) * (2 ^ 40 * 2 ^ (40 * (lo + n - i - 1)))) = y
      rw [Nat.mul_comm y, Nat.mul_assoc, Nat.mul_div_cancel_left _ (Nat.two_pow_pos _), Nat.mul_assoc, Nat.mul_mod_right]
    · rw [if_neg (by omega)]
      refine p_div (j := lo + n) (by omega) ?_
      have e : 2 ^ (40 * (lo + n)) = 2 ^ (40 * lo) * 2 ^ (40 * n) := by rw [← Nat.pow_add]; congr 1; omega
      rw [e, ← Nat.div_div_eq_div_mul, ← Nat.div_div_eq_div_mul, hd, Nat.mul_div_cancel _ (Nat.two_pow_pos _)]
theorem pget_pfill {v : Nat} (hv : v < 2 ^ 40) : ∀ (n j : Nat), j < n → pget (pfill n v) j = v
  | 0, j, h => absurd h (Nat.not_lt_zero j)
  | n + 1, j, h => by
    have e : pfill (n + 1) v = 2 ^ 40 * pfill n v + v := by
      show pfill n v * 1099511627776 + v = _
      rw [Nat.mul_comm]
    cases j with
    | zero =>
      rw [e, pget_eq, Nat.mul_zero, Nat.pow_zero, Nat.div_one, Nat.mul_add_mod, Nat.mod_eq_of_lt hv]
    | succ j =>
      have e2 : 2 ^ (40 * (j + 1)) = 2 ^ 40 * 2 ^ (40 * j) := by rw [← Nat.pow_add]; congr 1; omega
      rw [e, pget_eq, e2, ← Nat.div_div_eq_div_mul, Nat.mul_add_div (Nat.two_pow_pos 40), Nat.div_eq_of_lt hv, Nat.add_zero, ← pget_eq]
      exact pget_pfill hv n j (by omega)
theorem pget_0 (j : Nat) : pget 0 j = 0 := by rw [pget_eq, Nat.zero_div, Nat.zero_mod]
/-- kind, length, the cells of an object or of a row of places, the cells of a row of numbers (unknown ones where the list isn't empty) -/
abbrev OB : Type := Nat × Nat × List (Option VV) × Nat
abbrev HT : Type := BT OB 7
abbrev CT : Type := List (Int × Int)
/-! numbers -/
theorem blm {n m : Nat} (h : Nat.ble n m = true) : n ≤ m := Nat.le_of_ble_eq_true h
def fI32 (z : Int) : Int := match z with
  | .ofNat n => cond (Nat.ble n 2147483647) (Int.ofNat n) (wI (Int.ofNat n))
  | .negSucc n => cond (Nat.ble n 2147483647) (Int.negSucc n) (wI (Int.negSucc n))
theorem fI32_eq (z : Int) : fI32 z = wI z := by
  cases z with
  | ofNat n =>
    show cond (Nat.ble n 2147483647) (Int.ofNat n) (wI (Int.ofNat n)) = wI (Int.ofNat n)
    generalize h : Nat.ble n 2147483647 = c
    cases c with
    | false => rw [cond_false]
    | true =>
      have h2 := blm h
      rw [cond_true, wI_id]
      unfold inI
      simp only [Int.ofNat_eq_natCast]
      omega
  | negSucc n =>
    show cond (Nat.ble n 2147483647) (Int.negSucc n) (wI (Int.negSucc n)) = wI (Int.negSucc n)
    generalize h : Nat.ble n 2147483647 = c
    cases c with
    | false => rw [cond_false]
    | true =>
      have h2 := blm h
      rw [cond_true, wI_id]
      unfold inI
      simp only [Int.negSucc_eq]
      omega
def fadd (x y : Int) : Int := fI32 (Int.add x y)
def fsub (x y : Int) : Int := fI32 (Int.sub x y)
def fmul (x y : Int) : Int := fI32 (Int.mul x y)
def fdiv (x y : Int) : Int := fI32 (Int.tdiv x y)
theorem fadd_eq (x y : Int) : fadd x y = wI (x + y) := fI32_eq _
theorem fsub_eq (x y : Int) : fsub x y = wI (x - y) := fI32_eq _
theorem fmul_eq (x y : Int) : fmul x y = wI (x * y) := fI32_eq _
theorem fdiv_eq (x y : Int) : fdiv x y = wI (x.tdiv y) := fI32_eq _
def ltB (x y : Int) : Bool := match x, y with
  | .ofNat a, .ofNat b => Nat.ble (Nat.succ a) b
  | .ofNat _, .negSucc _ => false
  | .negSucc _, .ofNat _ => true
  | .negSucc a, .negSucc b => Nat.ble (Nat.succ b) a
def eqB (x y : Int) : Bool := match x, y with
  | .ofNat a, .ofNat b => Nat.beq a b
  | .ofNat _, .negSucc _ => false
  | .negSucc _, .ofNat _ => false
  | .negSucc a, .negSucc b => Nat.beq a b
theorem ble_iff {a b : Nat} : Nat.ble a b = true ↔ a ≤ b := ⟨Nat.le_of_ble_eq_true, Nat.ble_eq_true_of_le⟩
theorem ltB_iff (x y : Int) : ltB x y = true ↔ x < y := by
  cases x with
  | ofNat a => cases y with
    | ofNat b => show Nat.ble (a + 1) b = true ↔ _; rw [ble_iff]; simp only [Int.ofNat_eq_natCast]; omega
    | negSucc b => show false = true ↔ _; constructor <;> intro h <;> first | (cases h; done) | (exfalso; simp only [Int.ofNat_eq_natCast, Int.negSucc_eq] at h; omega)
  | negSucc a => cases y with
    | ofNat b => show true = true ↔ _; constructor <;> intro h <;> first | rfl | (simp only [Int.ofNat_eq_natCast, Int.negSucc_eq]; omega)
    | negSucc b => show Nat.ble (b + 1) a = true ↔ _; rw [ble_iff]; simp only [Int.negSucc_eq]; omega
theorem eqB_iff (x y : Int) : eqB x y = true ↔ x = y := by
  cases x with
  | ofNat a => cases y with
    | ofNat b => show Nat.beq a b = true ↔ _; rw [Nat.beq_eq]; constructor <;> intro h <;> first | rw [h] | (cases h; rfl)
    | negSucc b => show false = true ↔ _; constructor <;> intro h <;> cases h
  | negSucc a => cases y with
    | ofNat b => show false = true ↔ _; constructor <;> intro h <;> cases h
    | negSucc b => show Nat.beq a b = true ↔ _; rw [Nat.beq_eq]; constructor <;> intro h <;> first | rw [h] | (cases h; rfl)
def cmB (c : Jvm.ClassFile.Cond) (x y : Int) : Bool := match c with
  | .eq => eqB x y
  | .ne => not (eqB x y)
  | .lt => ltB x y
  | .ge => not (ltB x y)
  | .gt => ltB y x
  | .le => not (ltB y x)
theorem cmB_iff (c : Jvm.ClassFile.Cond) (x y : Int) : cmB c x y = true ↔ cmI c x y := by
  have n1 : ∀ b : Bool, (!b) = true ↔ ¬ (b = true) := fun b => by cases b <;> simp
  cases c with
  | eq => exact eqB_iff x y
  | ne => show (!(eqB x y)) = true ↔ x ≠ y; rw [n1, eqB_iff]
  | lt => exact ltB_iff x y
  | ge => show (!(ltB x y)) = true ↔ y ≤ x; rw [n1, ltB_iff]; omega
  | gt => exact ltB_iff y x
  | le => show (!(ltB y x)) = true ↔ x ≤ y; rw [n1, ltB_iff]; omega
