/-! sets of torn rings as numbers -/
def btS (s i : Int) : Prop := aNd (sHr s i) 1 ≠ 0
def wtS (s i : Int) : Int := aNd s (xOr (sHl 1 i) (-1))
theorem bt_e : ∀ i : Fin 12, (Int32.ofInt ((i.1 : Nat) : Int) &&& 31).toBitVec.smod 32 = BitVec.ofNat 32 i.1 := by decide
theorem bt_x : ∀ i : Fin 12, (Int32.ofInt (xOr (sHl 1 ((i.1 : Nat) : Int)) (-1))).toBitVec.toNat = 4294967295 - 2 ^ i.1 := by decide
theorem bt_m : ∀ i j : Fin 12, (4294967295 - 2 ^ i.1 : Nat).testBit j.1 = decide (j.1 ≠ i.1) := by decide +kernel
theorem nat32 {s : Nat} (hs : s < 2147483648) : (Int32.ofInt (s : Int)).toBitVec.toNat = s := by
  rw [Int32.toBitVec_ofInt, BitVec.ofInt_natCast, BitVec.toNat_ofNat]
  exact Nat.mod_eq_of_lt (by omega)
theorem sHr_nat {s i : Nat} (hs : s < 2147483648) (hi : i < 12) : sHr (s : Int) (i : Int) = ((s >>> i : Nat) : Int) := by
  show (BitVec.sshiftRight' (Int32.ofInt (s : Int)).toBitVec ((Int32.ofInt ((i : Nat) : Int) &&& 31).toBitVec.smod 32)).toInt = _
  have eb : (Int32.ofInt ((i : Nat) : Int) &&& 31).toBitVec.smod 32 = BitVec.ofNat 32 i := bt_e ⟨i, hi⟩
  rw [eb]
  have hm : (Int32.ofInt (s : Int)).toBitVec.msb = false := by
    rw [BitVec.msb_eq_false_iff_two_mul_lt, nat32 hs]
    omega
  rw [BitVec.sshiftRight_eq', BitVec.toNat_ofNat, Nat.mod_eq_of_lt (by omega), BitVec.sshiftRight_eq_of_msb_false hm]
  have hle : s >>> i ≤ s := Nat.shiftRight_le _ _
  rw [BitVec.toInt_eq_toNat_of_lt, BitVec.toNat_ushiftRight, nat32 hs]
  rw [BitVec.toNat_ushiftRight, nat32 hs]
  omega
theorem aNd_nat {s : Nat} {y : Int} (hs : s < 2147483648) : aNd (s : Int) y = ((s &&& (Int32.ofInt y).toBitVec.toNat : Nat) : Int) := by
  unfold aNd
  have e2 : (Int32.ofInt (s : Int) &&& Int32.ofInt y).toBitVec.toNat = s &&& (Int32.ofInt y).toBitVec.toNat := by
    have := BitVec.toNat_and (Int32.ofInt (s : Int)).toBitVec (Int32.ofInt y).toBitVec
    rw [nat32 hs] at this
    exact this
  have hle : s &&& (Int32.ofInt y).toBitVec.toNat ≤ s := Nat.and_le_left
  show (Int32.ofInt (s : Int) &&& Int32.ofInt y).toBitVec.toInt = _
  rw [BitVec.toInt_eq_toNat_of_lt (by rw [e2]; omega), e2]
theorem bt_n {s i : Nat} (hs : s < 4096) (hi : i < 12) : btS (s : Int) (i : Int) ↔ s.testBit i = true := by
  unfold btS
  have hle : s >>> i ≤ s := Nat.shiftRight_le _ _
  rw [sHr_nat (by omega) hi, aNd_nat (by omega), show (Int32.ofInt 1).toBitVec.toNat = 1 from by decide, Nat.and_one_is_mod, Nat.testBit_eq_decide_div_mod_eq, decide_eq_true_iff, Nat.shiftRight_eq_div_pow]
  omega
theorem wt_n {s i : Nat} (hs : s < 4096) (hi : i < 12) : wtS (s : Int) (i : Int) = ((s &&& (4294967295 - 2 ^ i) : Nat) : Int) := by
  unfold wtS
  rw [aNd_nat (by omega), bt_x ⟨i, hi⟩]
theorem wt_le {s i : Int} (h0 : 0 ≤ s) (hs : s ≤ 4095) (h1 : 0 ≤ i) (hi : i ≤ 11) : 0 ≤ wtS s i ∧ wtS s i ≤ s := by
  obtain ⟨n, rfl⟩ := Int.eq_ofNat_of_zero_le h0
  obtain ⟨j, rfl⟩ := Int.eq_ofNat_of_zero_le h1
  rw [wt_n (by omega) (by omega)]
  have : n &&& (4294967295 - 2 ^ j) ≤ n := Nat.and_le_left
  omega
theorem wt_lt {s i : Int} (h0 : 0 ≤ s) (hs : s ≤ 4095) (h1 : 0 ≤ i) (hi : i ≤ 11) (h : btS s i) : wtS s i < s := by
  obtain ⟨n, rfl⟩ := Int.eq_ofNat_of_zero_le h0
  obtain ⟨j, rfl⟩ := Int.eq_ofNat_of_zero_le h1
  rw [bt_n (by omega) (by omega)] at h
  rw [wt_n (by omega) (by omega)]
  have hle : n &&& (4294967295 - 2 ^ j) ≤ n := Nat.and_le_left
  have hne : n &&& (4294967295 - 2 ^ j) ≠ n := by
    intro q
    have := congrArg (fun x => x.testBit j) q
    simp only [Nat.testBit_and] at this
    rw [h, bt_m ⟨j, by omega⟩ ⟨j, by omega⟩] at this
    simp at this
  omega
theorem wt_bt {s i j : Int} (h0 : 0 ≤ s) (hs : s ≤ 4095) (h1 : 0 ≤ i) (hi : i ≤ 11) (h2 : 0 ≤ j) (hj : j ≤ 11) : btS (wtS s i) j ↔ btS s j ∧ j ≠ i := by
  obtain ⟨n, rfl⟩ := Int.eq_ofNat_of_zero_le h0
  obtain ⟨a, rfl⟩ := Int.eq_ofNat_of_zero_le h1
  obtain ⟨b, rfl⟩ := Int.eq_ofNat_of_zero_le h2
  have hle : n &&& (4294967295 - 2 ^ a) ≤ n := Nat.and_le_left
  rw [wt_n (by omega) (by omega), bt_n (by omega) (by omega), bt_n (by omega) (by omega), Nat.testBit_and, bt_m ⟨a, by omega⟩ ⟨b, by omega⟩, Bool.and_eq_true, decide_eq_true_iff]
  constructor
  · rintro ⟨x, y⟩
    exact ⟨x, fun q => y (by have : (b : Int) = (a : Int) := q; show b = a; omega)⟩
  · rintro ⟨x, y⟩
    exact ⟨x, fun q => y (by have q : b = a := q; rw [q])⟩
theorem bt_all {s : Int} (h0 : 0 ≤ s) (hs : s ≤ 4095) (h : ∀ i : Int, 0 ≤ i → i ≤ 11 → ¬ btS s i) : s = 0 := by
  obtain ⟨n, rfl⟩ := Int.eq_ofNat_of_zero_le h0
  have : n = 0 := by
    apply Nat.eq_of_testBit_eq
    intro i
    rw [Nat.zero_testBit]
    by_cases hi : i < 12
    · have := h (i : Int) (by omega) (by omega)
      rw [bt_n (by omega) hi] at this
      cases hb : n.testBit i with
      | false => rfl
      | true => exact absurd hb this
    · exact Nat.testBit_lt_two_pow (Nat.lt_of_lt_of_le (show n < 2 ^ 12 by omega) (Nat.pow_le_pow_right (by decide) (by omega)))
  omega
theorem bt_full {T j : Int} (h0 : 0 ≤ T) (hT : T ≤ 12) (h1 : 0 ≤ j) (hj : j < T) : btS (sHl 1 T - 1) j := by
  obtain ⟨n, rfl⟩ := Int.eq_ofNat_of_zero_le h0
  obtain ⟨b, rfl⟩ := Int.eq_ofNat_of_zero_le h1
  have e := sHl1 ⟨n, by omega⟩
  have e : sHl 1 (n : Int) = 2 ^ n := e
  have hp : (2 : Nat) ^ n ≤ 2 ^ 12 := Nat.pow_le_pow_right (by decide) (by omega)
  have hp0 : 0 < (2 : Nat) ^ n := Nat.two_pow_pos n
  have e2 : sHl 1 (n : Int) - 1 = ((2 ^ n - 1 : Nat) : Int) := by
    rw [e, Int.natCast_sub (by omega)]
    simp
  rw [e2, bt_n (by omega) (by omega), Nat.testBit_two_pow_sub_one, decide_eq_true_iff]
  omega
theorem shl_bd {T : Int} (h0 : 0 ≤ T) (hT : T ≤ 12) : 1 ≤ sHl 1 T ∧ sHl 1 T ≤ 4096 := by
  obtain ⟨n, rfl⟩ := Int.eq_ofNat_of_zero_le h0
  have e := sHl1 ⟨n, by omega⟩
  have e : sHl 1 (n : Int) = 2 ^ n := e
  have hp : (2 : Nat) ^ n ≤ 2 ^ 12 := Nat.pow_le_pow_right (by decide) (by omega)
  have hp0 : 0 < (2 : Nat) ^ n := Nat.two_pow_pos n
  have e2 : sHl 1 (n : Int) = ((2 ^ n : Nat) : Int) := by rw [e]; simp
  rw [e2]
  omega
theorem bt0 {s i : Int} (h0 : 0 ≤ s) (hs : s ≤ 4095) (h1 : 0 ≤ i) (hi : i ≤ 11) (h : btS s i) : 1 ≤ s := by
  have := wt_lt h0 hs h1 hi h
  have := (wt_le h0 hs h1 hi).1
  omega
/-! charges, fars -/
def isPx (r c p : Int) : Prop := 0 ≤ p ∧ p < r * c
def rgP (r c p : Int) : Prop := 0 ≤ p ∧ p < r * c ∧ p / c < r - 1 ∧ p % c < c - 1
def stpR (f : Nat → Int) (a b : Int) : Int := wr (wI (f (10 + b.toNat) - f (10 + a.toNat)))
def chgP (f : Nat → Int) (p : Int) : Prop := rgP (f 0 + 4) (f 1 + 4) p ∧ f (298 + p.toNat) ≠ 1 ∧ f (298 + (p + 1).toNat) ≠ 1 ∧ f (298 + (p + (f 1 + 4)).toNat) ≠ 1 ∧ f (298 + (p + (f 1 + 4) + 1).toNat) ≠ 1
def chgS (f : Nat → Int) (p : Int) : Int := stpR f p (p + 1) + stpR f (p + 1) (p + (f 1 + 4) + 1) + stpR f (p + (f 1 + 4) + 1) (p + (f 1 + 4)) + stpR f (p + (f 1 + 4)) p
noncomputable def chg (f : Nat → Int) (p : Int) : Int := @ite _ (chgP f p) (Classical.propDecidable _) ((chgS f p).tdiv 255) 0
noncomputable def cntT (f : Nat → Int) (n : Nat) : Nat := (List.range n).countP fun (q : Nat) => decide (chg f (q : Int) ≠ 0)
def manyR (f : Nat → Int) : Nat := ((f 0 + 4) * (f 1 + 4)).toNat
theorem chg_no {f : Nat → Int} {p : Int} (h : ¬ chgP f p) : chg f p = 0 := by
  unfold chg
  exact if_neg h
theorem chg_yes {f : Nat → Int} {p : Int} (h : chgP f p) : chg f p = (chgS f p).tdiv 255 := by
  unfold chg
  exact if_pos h
theorem cntT_s (f : Nat → Int) (n : Nat) : (chg f (n : Int) = 0 → cntT f (n + 1) = cntT f n) ∧ (chg f (n : Int) ≠ 0 → cntT f (n + 1) = cntT f n + 1) := by
  unfold cntT
  rw [List.range_succ, List.countP_append]
  constructor
  · intro h
    simp [List.countP_cons, h]
  · intro h
    simp [List.countP_cons, h]
theorem cntT_many (f : Nat → Int) {n : Nat} (h : manyR f ≤ n) : cntT f n = cntT f (manyR f) := by
  obtain ⟨d, rfl⟩ : ∃ d, n = manyR f + d := ⟨n - manyR f, by omega⟩
  clear h
  induction d with
  | zero => rfl
  | succ d ih =>
    rw [show manyR f + (d + 1) = manyR f + d + 1 by omega, (cntT_s f (manyR f + d)).1 (chg_no fun q => ?_), ih]
    have := q.1.2.1
    unfold manyR at this
    omega
def tsF (r c p s : Int) : Int := if s = 0 then p / c + 1 else if s = 1 then r - 1 - p / c else if s = 2 then p % c + 1 else c - 1 - p % c
def fbF (r c p : Int) : Int := mnI (mnI (tsF r c p 0) (tsF r c p 1)) (mnI (tsF r c p 2) (tsF r c p 3))
def abN (x : Int) : Int := if 0 ≤ x then x else -x
def foF (c p q : Int) : Int := abN (p / c - q / c) + abN (p % c - q % c)
theorem fb_of {r c p s : Int} (h0 : 0 ≤ s) (h1 : s < 4) (h : ∀ t : Int, 0 ≤ t → t < 4 → tsF r c p s ≤ tsF r c p t) : tsF r c p s = fbF r c p := by
  have a0 := h 0 (by decide) (by decide)
  have a1 := h 1 (by decide) (by decide)
  have a2 := h 2 (by decide) (by decide)
  have a3 := h 3 (by decide) (by decide)
  have hs : s = 0 ∨ s = 1 ∨ s = 2 ∨ s = 3 := by omega
  unfold fbF mnI
  rcases hs with rfl | rfl | rfl | rfl <;> (repeat' split) <;> omega
/-! the least sums of fars -/
def LTe (f t l : Nat → Int) (T s i v : Int) : Prop := v = wI (fbF (f 0 + 4) (f 1 + 4) (t i.toNat) + l (wtS s i).toNat) ∨ ∃ k : Int, i < k ∧ k < T ∧ btS (wtS s i) k ∧ chg f (t i.toNat) + chg f (t k.toNat) = 0 ∧ v = wI (foF (f 1 + 4) (t i.toNat) (t k.toNat) + l (wtS (wtS s i) k).toNat)
def LTg (f t l : Nat → Int) (T s : Int) : Prop := ∃ i : Int, (0 ≤ i ∧ i ≤ 11) ∧ btS s i ∧ (∀ j : Int, 0 ≤ j → j < i → ¬ btS s j) ∧ LTe f t l T s i (l s.toNat)
theorem LTe_c {f t l l2 : Nat → Int} {T s i v : Int} (hT : T ≤ 12) (h0 : 0 ≤ s) (hs : s ≤ 4095) (h1 : 0 ≤ i) (hi : i ≤ 11) (hb : btS s i) (hl : ∀ x : Nat, (x : Int) < s → l2 x = l x) (h : LTe f t l T s i v) : LTe f t l2 T s i v := by
  have w1 := wt_le h0 hs h1 hi
  have w2 := wt_lt h0 hs h1 hi hb
  rcases h with h | ⟨k, k1, k2, k3, k4, k5⟩
  · left
    rw [hl _ (by omega)]
    exact h
  · right
    have w3 := wt_le (i := k) w1.1 (by omega) (by omega) (by omega)
    refine ⟨k, k1, k2, k3, k4, ?_⟩
    rw [hl _ (by omega)]
    exact k5
theorem LTg_c {f t l l2 : Nat → Int} {T s : Int} (hT : T ≤ 12) (h0 : 0 ≤ s) (hs : s ≤ 4095) (hl : ∀ x : Nat, (x : Int) ≤ s → l2 x = l x) (h : LTg f t l T s) : LTg f t l2 T s := by
  obtain ⟨i, hi, hb, hm, h⟩ := h
  refine ⟨i, hi, hb, hm, ?_⟩
  rw [hl _ (by omega)]
  exact LTe_c hT h0 hs hi.1 hi.2 hb (fun x hx => hl x (by omega)) h
/-! how manyR are alone -/
def cntP (f : Nat → Int) (T : Int) : Nat := (List.range T.toNat).countP fun j => decide (f j = -1)
theorem cntP_c {f f2 : Nat → Int} {T : Int} (h : ∀ j : Nat, (j : Int) < T → f2 j = f j) : cntP f2 T = cntP f T := cnt_c fun q hq => by rw [h q (by omega)]
theorem cntP_1 {f f2 : Nat → Int} {T : Int} {p : Nat} (hp : (p : Int) < T) (h1 : f p = -1) (h2 : f2 p ≠ -1) (h : ∀ j : Nat, (j : Int) < T → j ≠ p → f2 j = f j) : cntP f T = cntP f2 T + 1 := cnt_1 (p := p) (by omega) (decide_eq_true h1) (decide_eq_false h2) fun q hq hn => by rw [h q (by omega) hn]
theorem cntP_0 {f : Nat → Int} {T : Int} (h : cntP f T = 0) : ∀ j : Nat, (j : Int) < T → f j ≠ -1 := by
  intro j hj q
  have := cnt_pos (n := T.toNat) (P := fun j => decide (f j = -1)) (p := j) (by omega) (decide_eq_true q)
  unfold cntP at h
  omega
theorem cntP_all {f : Nat → Int} {T : Int} (h0 : 0 ≤ T) (h : ∀ j : Nat, (j : Int) < T → f j = -1) : (cntP f T : Int) = T := by
  have : cntP f T = T.toNat := by
    unfold cntP
    rw [List.countP_eq_length.mpr, List.length_range]
    intro a ha
    exact decide_eq_true (h a (by have := List.mem_range.mp ha; omega))
  omega
theorem cntP_z {f : Nat → Int} {T : Int} (h : ∀ j : Nat, (j : Int) < T → f j ≠ -1) : cntP f T = 0 := by
  unfold cntP
  rw [List.countP_eq_zero]
  intro a ha
  rw [decide_eq_true_iff]
  exact h a (by have := List.mem_range.mp ha; omega)
/-! how manyR groups -/
def hasV (f : Nat → Int) (n : Nat) (v : Nat) : Bool := (List.range n).any fun i => decide (f i = (v : Int))
def cntV (f : Nat → Int) (n : Int) : Nat := (List.range 144).countP (hasV f n.toNat)
theorem hasV_iff {f : Nat → Int} {n v : Nat} : hasV f n v = true ↔ ∃ i, i < n ∧ f i = (v : Int) := by
  unfold hasV
  rw [List.any_eq_true]
  constructor
  · rintro ⟨i, h1, h2⟩
    exact ⟨i, List.mem_range.mp h1, of_decide_eq_true h2⟩
  · rintro ⟨i, h1, h2⟩
    exact ⟨i, List.mem_range.mpr h1, decide_eq_true h2⟩
theorem cntV_le {f : Nat → Int} {n : Int} : cntV f n ≤ 144 := cnt_le
theorem bool_ext {a b : Bool} (h : a = true ↔ b = true) : a = b := by
  cases a <;> cases b <;> simp_all
theorem cntV_id {f : Nat → Int} {n : Int} (h0 : 0 ≤ n) (h1 : n ≤ 144) (h : ∀ j : Nat, (j : Int) < n → f j = (j : Int)) : (cntV f n : Int) = n := by
  have key : ∀ m : Nat, m ≤ 144 → (List.range m).countP (hasV f n.toNat) = min m n.toNat := by
    intro m hm
    induction m with
    | zero => simp
    | succ m ih =>
      rw [List.range_succ, List.countP_append, ih (by omega)]
      by_cases hc : m < n.toNat
      · have : hasV f n.toNat m = true := hasV_iff.mpr ⟨m, hc, h m (by omega)⟩
        simp only [List.countP_cons, List.countP_nil, this, if_true]
        omega
      · have : hasV f n.toNat m = false := by
          cases hb : hasV f n.toNat m with
          | false => rfl
          | true =>
            obtain ⟨i, i1, i2⟩ := hasV_iff.mp hb
            rw [h i (by omega)] at i2
            omega
        simp only [List.countP_cons, List.countP_nil, this, Bool.false_eq_true, if_false]
        omega
  have := key 144 (Nat.le_refl _)
  unfold cntV
  omega
/-- one group goes into another one -/
theorem cntV_1 {f f2 : Nat → Int} {n one gone : Int} (h1 : 0 ≤ one ∧ one < n) (hg : f one.toNat ≠ gone) (h0 : 0 ≤ gone ∧ gone < 144) (ho : ∃ o : Nat, (o : Int) < n ∧ f o = gone) (h : ∀ i : Nat, (i : Int) < n → (f i = gone → f2 i = f one.toNat) ∧ (f i ≠ gone → f2 i = f i)) : cntV f n = cntV f2 n + 1 := by
  obtain ⟨o, o1, o2⟩ := ho
  refine cnt_1 (p := gone.toNat) (by omega) (hasV_iff.mpr ⟨o, by omega, by omega⟩) ?_ fun v hv hn => bool_ext ?_
  · cases hb : hasV f2 n.toNat gone.toNat with
    | false => rfl
    | true =>
      obtain ⟨i, i1, i2⟩ := hasV_iff.mp hb
      exfalso
      by_cases hc : f i = gone
      · rw [(h i (by omega)).1 hc] at i2
        omega
      · rw [(h i (by omega)).2 hc] at i2
        omega
  · rw [hasV_iff, hasV_iff]
    constructor
    · rintro ⟨i, i1, i2⟩
      by_cases hc : f i = gone
      · rw [(h i (by omega)).1 hc] at i2
        exact ⟨one.toNat, by omega, i2⟩
      · rw [(h i (by omega)).2 hc] at i2
        exact ⟨i, i1, i2⟩
    · rintro ⟨i, i1, i2⟩
      by_cases hc : f i = gone
      · omega
      · exact ⟨i, i1, by rw [(h i (by omega)).2 hc]; exact i2⟩
/-! sums of rows -/
def sumR (f : Nat → Int) : Nat → Int
  | 0 => 0
  | n + 1 => sumR f n + f n
theorem sumR_c {f f2 : Nat → Int} : ∀ {n : Nat}, (∀ j, j < n → f2 j = f j) → sumR f2 n = sumR f n
  | 0, _ => rfl
  | n + 1, h => by
    show sumR f2 n + f2 n = sumR f n + f n
    rw [sumR_c (n := n) (fun j hj => h j (by omega)), h n (by omega)]
theorem sumR_1 {f f2 : Nat → Int} {p : Nat} : ∀ {n : Nat}, p < n → (∀ j, j < n → j ≠ p → f2 j = f j) → sumR f2 n = sumR f n - f p + f2 p
  | 0, hp, _ => by omega
  | n + 1, hp, h => by
    show sumR f2 n + f2 n = sumR f n + f n - f p + f2 p
    by_cases hn : p = n
    · subst hn
      rw [sumR_c (n := p) (fun j hj => h j (by omega) (by omega))]
      omega
    · rw [sumR_1 (n := n) (by omega) (fun j hj hq => h j (by omega) hq), h n (by omega) (fun q => hn q.symm)]
      omega
theorem sumR_bd {f : Nat → Int} : ∀ {n : Nat}, (∀ j, j < n → 0 ≤ f j) → 0 ≤ sumR f n
  | 0, _ => Int.le_refl _
  | n + 1, h => by
    show 0 ≤ sumR f n + f n
    have := sumR_bd (n := n) (fun j hj => h j (by omega))
    have := h n (by omega)
    omega
def grF (c e : Int) : Int := if e % 2 = 0 then e / 2 + 1 else e / 2 + c
theorem sumR_ub {f : Nat → Int} : ∀ {n : Nat}, (∀ j, j < n → f j ≤ 143) → sumR f n ≤ 143 * (n : Int)
  | 0, _ => Int.le_refl _
  | n + 1, h => by
    show sumR f n + f n ≤ 143 * ((n + 1 : Nat) : Int)
    have := sumR_ub (n := n) (fun j hj => h j (by omega))
    have := h n (by omega)
    omega
