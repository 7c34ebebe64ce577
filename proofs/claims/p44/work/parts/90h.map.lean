/-! p44: steps, whirls -/
def stA (ph : Nat → Int) (a b : Nat) : Int := wr (ph b - ph a)
/-- the steps round a ring, the first j of them -/
def crlP (C : Nat) (ph : Nat → Int) (q : Nat) (j : Int) : Int := stA ph q (q + 1) + stA ph (q + 1) (q + C + 1) + (if 3 ≤ j then stA ph (q + C + 1) (q + C) else 0) + (if 4 ≤ j then stA ph (q + C) q else 0)
def crl (C : Nat) (ph : Nat → Int) (q : Nat) : Int := crlP C ph q 4
theorem wr_bd0 (x : Int) : -127 ≤ wr x ∧ wr x ≤ 127 := by
  have h : (x.tmod 255).natAbs < 255 := by
    rw [Int.natAbs_tmod]
    exact Nat.mod_lt _ (by decide)
  unfold wr
  split
  · omega
  · split <;> omega
theorem wr_k (x : Int) : ∃ k, x = wr x + 255 * k := by
  have h := Int.tmod_def x 255
  unfold wr
  split
  · exact ⟨x.tdiv 255 + 1, by omega⟩
  · split
    · exact ⟨x.tdiv 255 - 1, by omega⟩
    · exact ⟨x.tdiv 255, by omega⟩
theorem wr_u {x y k : Int} (h1 : -127 ≤ y) (h2 : y ≤ 127) (h : x = y + 255 * k) : wr x = y := by
  obtain ⟨k2, h3⟩ := wr_k x
  have := wr_bd0 x
  omega
theorem wr_neg (x : Int) : wr (-x) = -wr x := by
  obtain ⟨k, h⟩ := wr_k x
  have := wr_bd0 x
  exact wr_u (k := -k) (by omega) (by omega) (by omega)
theorem crl_dvd (C : Nat) (ph : Nat → Int) (q : Nat) : ∃ k, crl C ph q = 255 * k := by
  unfold crl crlP stA
  rw [if_pos (by decide), if_pos (by decide)]
  obtain ⟨k1, h1⟩ := wr_k (ph (q + 1) - ph q)
  obtain ⟨k2, h2⟩ := wr_k (ph (q + C + 1) - ph (q + 1))
  obtain ⟨k3, h3⟩ := wr_k (ph (q + C) - ph (q + C + 1))
  obtain ⟨k4, h4⟩ := wr_k (ph q - ph (q + C))
  exact ⟨-(k1 + k2 + k3 + k4), by omega⟩
theorem crl_bd (C : Nat) (ph : Nat → Int) (q : Nat) : -508 ≤ crl C ph q ∧ crl C ph q ≤ 508 := by
  unfold crl crlP stA
  rw [if_pos (by decide), if_pos (by decide)]
  have h1 := wr_bd0 (ph (q + 1) - ph q)
  have h2 := wr_bd0 (ph (q + C + 1) - ph (q + 1))
  have h3 := wr_bd0 (ph (q + C) - ph (q + C + 1))
  have h4 := wr_bd0 (ph q - ph (q + C))
  omega
/-- the torn rings below n, by number, with their charges -/
def TRB (R C : Int) (ph : Nat → Int) (k : Int) (rg cg : Nat → Int) : Prop := (∀ i : Nat, (i : Int) < k → rgP R C (rg i) ∧ 255 * cg i = crl C.toNat ph (rg i).toNat ∧ cg i ≠ 0) ∧ ∀ i j : Nat, i < j → (j : Int) < k → rg i < rg j
def TRN (R C : Int) (ph : Nat → Int) (k : Int) (rg cg : Nat → Int) (n : Int) : Prop := (0 ≤ k ∧ k ≤ n) ∧ TRB R C ph k rg cg ∧ (∀ i : Nat, (i : Int) < k → rg i < n) ∧ ∀ q : Int, rgP R C q → q < n → crl C.toNat ph q.toNat ≠ 0 → ∃ i : Nat, (i : Int) < k ∧ rg i = q
def TRF (R C : Int) (ph : Nat → Int) (k : Int) (rg cg : Nat → Int) : Prop := (0 ≤ k ∧ k ≤ 81) ∧ TRB R C ph k rg cg ∧ ∀ q : Int, rgP R C q → crl C.toNat ph q.toNat ≠ 0 → ∃ i : Nat, (i : Int) < k ∧ rg i = q
theorem TRB_c {R C k : Int} {ph rg cg rg2 cg2 : Nat → Int} (h1 : ∀ j : Nat, (j : Int) < k → rg2 j = rg j) (h2 : ∀ j : Nat, (j : Int) < k → cg2 j = cg j) (h : TRB R C ph k rg cg) : TRB R C ph k rg2 cg2 := by
  refine ⟨fun i hi => ?_, fun i j hij hj => ?_⟩
  · rw [h1 i hi, h2 i hi]
    exact h.1 i hi
  · rw [h1 i (by omega), h1 j hj]
    exact h.2 i j hij hj
theorem TRN_c {R C k n : Int} {ph rg cg rg2 cg2 : Nat → Int} (h1 : ∀ j : Nat, (j : Int) < k → rg2 j = rg j) (h2 : ∀ j : Nat, (j : Int) < k → cg2 j = cg j) (h : TRN R C ph k rg cg n) : TRN R C ph k rg2 cg2 n := by
  refine ⟨h.1, TRB_c h1 h2 h.2.1, fun i hi => ?_, fun q hq hn hc => ?_⟩
  · rw [h1 i hi]
    exact h.2.2.1 i hi
  · obtain ⟨i, hi, e⟩ := h.2.2.2 q hq hn hc
    exact ⟨i, hi, by rw [h1 i hi]; exact e⟩
/-- a torn one more -/
theorem TRN_s {R C k n : Int} {ph rg cg : Nat → Int} (h : TRN R C ph k rg cg n) (hr : rgP R C n) (e1 : rg k.toNat = n) (e2 : 255 * cg k.toNat = crl C.toNat ph n.toNat) (e3 : cg k.toNat ≠ 0) : TRN R C ph (k + 1) rg cg (n + 1) := by
  obtain ⟨⟨a1, a2⟩, ⟨b1, b2⟩, c, d⟩ := h
  refine ⟨⟨by omega, by omega⟩, ⟨fun i hi => ?_, fun i j hij hj => ?_⟩, fun i hi => ?_, fun q hq hn hc => ?_⟩
  · by_cases hk : (i : Int) < k
    · exact b1 i hk
    · have : i = k.toNat := by omega
      subst this
      rw [e1]
      exact ⟨hr, e2, e3⟩
  · by_cases hk : (j : Int) < k
    · exact b2 i j hij hk
    · have : j = k.toNat := by omega
      subst this
      rw [e1]
      exact c i (by omega)
  · by_cases hk : (i : Int) < k
    · have := c i hk
      omega
    · have : i = k.toNat := by omega
      subst this
      rw [e1]
      omega
  · by_cases hk : q < n
    · obtain ⟨i, hi, e⟩ := d q hq hk hc
      exact ⟨i, by omega, e⟩
    · have : q = n := by omega
      subst this
      exact ⟨k.toNat, by omega, e1⟩
/-- none -/
theorem TRN_0 {R C k n : Int} {ph rg cg : Nat → Int} (h : TRN R C ph k rg cg n) (h0 : ¬ (rgP R C n ∧ crl C.toNat ph n.toNat ≠ 0)) : TRN R C ph k rg cg (n + 1) := by
  obtain ⟨⟨a1, a2⟩, b, c, d⟩ := h
  refine ⟨⟨a1, by omega⟩, b, fun i hi => by have := c i hi; omega, fun q hq hn hc => ?_⟩
  by_cases hk : q < n
  · exact d q hq hk hc
  · have : q = n := by omega
    subst this
    exact absurd ⟨hq, hc⟩ h0
theorem TRN_f {R C k n : Int} {ph rg cg : Nat → Int} (h : TRN R C ph k rg cg n) (hn : R * C ≤ n) (h81 : n ≤ 81) : TRF R C ph k rg cg :=
  ⟨⟨h.1.1, Int.le_trans h.1.2 h81⟩, h.2.1, fun q hq hc => h.2.2.2 q hq (Int.lt_of_lt_of_le hq.2.1 hn) hc⟩
/-! who is joined with whom -/
def upZ (f : Nat → Int) (i x : Int) : Nat → Int := fun j => if (j : Int) = i then x else f j
theorem upZ_at {f : Nat → Int} {i x : Int} {j : Nat} (h : (j : Int) = i) : upZ f i x j = x := if_pos h
theorem upZ_ne {f : Nat → Int} {i x : Int} {j : Nat} (h : (j : Int) ≠ i) : upZ f i x j = f j := if_neg h
def MT1 (k : Int) (cg mt : Nat → Int) (i : Nat) : Prop := mt i = -1 ∨ ∃ m : Nat, (m : Int) < k ∧ m ≠ i ∧ mt i = (m : Int) ∧ mt m = (i : Int) ∧ cg m ≠ cg i
def MTP (k : Int) (cg mt : Nat → Int) : Prop := ∀ i : Nat, (i : Int) < k → mt i = -2 ∨ MT1 k cg mt i
def MAT (k : Int) (cg mt : Nat → Int) : Prop := ∀ i : Nat, (i : Int) < k → MT1 k cg mt i
theorem MTP_c {k : Int} {cg cg2 mt mt2 : Nat → Int} (h1 : ∀ j : Nat, (j : Int) < k → cg2 j = cg j) (h2 : ∀ j : Nat, (j : Int) < k → mt2 j = mt j) (h : MTP k cg mt) : MTP k cg2 mt2 := by
  intro i hi
  unfold MT1
  rw [h1 i hi, h2 i hi]
  rcases h i hi with h | h | ⟨m, m1, m2, m3, m4, m5⟩
  · exact Or.inl h
  · exact Or.inr (Or.inl h)
  · exact Or.inr (Or.inr ⟨m, m1, m2, m3, by rw [h2 m m1]; exact m4, by rw [h1 m m1]; exact m5⟩)
/-- one goes to the border -/
theorem MTP_b {k i : Int} {cg mt : Nat → Int} (h0 : 0 ≤ i) (h : MTP k cg (upZ mt i (-2))) (h1 : mt i.toNat = -1) : MTP k cg mt := by
  intro j hj
  by_cases hji : (j : Int) = i
  · have : j = i.toNat := by omega
    subst this
    exact Or.inr (Or.inl h1)
  · rcases h j hj with h2 | h2 | ⟨m, m1, m2, m3, m4, m5⟩
    · rw [upZ_ne hji] at h2
      exact Or.inl h2
    · rw [upZ_ne hji] at h2
      exact Or.inr (Or.inl h2)
    · rw [upZ_ne hji] at m3
      by_cases hmi : (m : Int) = i
      · rw [upZ_at hmi] at m4
        omega
      · rw [upZ_ne hmi] at m4
        exact Or.inr (Or.inr ⟨m, m1, m2, m3, m4, m5⟩)
/-- two are joined -/
theorem MTP_2 {k i m : Int} {cg mt : Nat → Int} (h0 : 0 ≤ i ∧ i < m ∧ m < k) (h : MTP k cg (upZ (upZ mt m (-2)) i (-2))) (h1 : mt i.toNat = m) (h2 : mt m.toNat = i) (hc : cg m.toNat ≠ cg i.toNat) : MTP k cg mt := by
  intro j hj
  by_cases hji : (j : Int) = i
  · have : j = i.toNat := by omega
    subst this
    exact Or.inr (Or.inr ⟨m.toNat, by omega, by omega, by omega, by omega, hc⟩)
  · by_cases hjm : (j : Int) = m
    · have : j = m.toNat := by omega
      subst this
      exact Or.inr (Or.inr ⟨i.toNat, by omega, by omega, by omega, by omega, fun e => hc e.symm⟩)
    · rcases h j hj with h3 | h3 | ⟨n, n1, n2, n3, n4, n5⟩
      · rw [upZ_ne hji, upZ_ne hjm] at h3
        exact Or.inl h3
      · rw [upZ_ne hji, upZ_ne hjm] at h3
        exact Or.inr (Or.inl h3)
      · rw [upZ_ne hji, upZ_ne hjm] at n3
        by_cases hni : (n : Int) = i
        · rw [upZ_at hni] at n4
          omega
        · rw [upZ_ne hni] at n4
          by_cases hnm : (n : Int) = m
          · rw [upZ_at hnm] at n4
            omega
          · rw [upZ_ne hnm] at n4
            exact Or.inr (Or.inr ⟨n, n1, n2, n3, n4, n5⟩)
/-- those that are alone are not nearer to the border than d; the first n of them farther -/
def FRR (R C k : Int) (rg mt : Nat → Int) (d n : Int) : Prop := ∀ j : Nat, (j : Int) < k → mt j = -2 → ((j : Int) < n → d < fbF R C (rg j)) ∧ d ≤ fbF R C (rg j)
theorem fbF_bd {R C p : Int} (hR : R ≤ 12) (h : rgP R C p) (hC : 0 < C) : 1 ≤ fbF R C p ∧ fbF R C p ≤ 12 := by
  obtain ⟨h1, h2, h3, h4⟩ := h
  have c1 : 0 ≤ p / C := Int.ediv_nonneg h1 (by omega)
  have c2 : 0 ≤ p % C := Int.emod_nonneg p (by omega)
  unfold fbF tsF mnI
  simp only [if_true, if_neg (show ¬ ((1 : Int) = 0) by decide), if_neg (show ¬ ((2 : Int) = 0) by decide), if_neg (show ¬ ((2 : Int) = 1) by decide), if_neg (show ¬ ((3 : Int) = 0) by decide), if_neg (show ¬ ((3 : Int) = 1) by decide), if_neg (show ¬ ((3 : Int) = 2) by decide)]
  generalize p / C = a at *
  generalize p % C = b at *
  split <;> split <;> split <;> omega
theorem TRF_rg {R C k : Int} {ph rg cg : Nat → Int} (h : TRF R C ph k rg cg) {i : Nat} (hi : (i : Int) < k) : rgP R C (rg i) := (h.2.1.1 i hi).1
/-- two lists of the same torn rings are as long -/
theorem inc_le {f : Nat → Int} {k : Nat} (h : ∀ i j : Nat, i < j → j < k → f i < f j) (h0 : ∀ i, i < k → 0 ≤ f i) : ∀ i, i < k → (i : Int) ≤ f i := by
  intro i
  induction i with
  | zero => exact fun hi => h0 0 hi
  | succ i ih =>
    intro hi
    have := ih (by omega)
    have := h i (i + 1) (by omega) hi
    omega
theorem sub_le {f f2 : Nat → Int} : ∀ (k k2 : Nat), (∀ i j : Nat, i < j → j < k → f i < f j) → (∀ i j : Nat, i < j → j < k2 → f2 i < f2 j) → (∀ i, i < k → ∃ j, j < k2 ∧ f2 j = f i) → k ≤ k2
  | 0, _, _, _, _ => Nat.zero_le _
  | k + 1, k2, h1, h2, h3 => by
    obtain ⟨j, hj, ej⟩ := h3 k (by omega)
    have := sub_le k j (fun a b hab hb => h1 a b hab (by omega)) (fun a b hab hb => h2 a b hab (by omega)) (fun i hi => by
      obtain ⟨m, hm, em⟩ := h3 i (by omega)
      have hlt := h1 i k hi (by omega)
      by_cases hmj : m < j
      · exact ⟨m, hmj, em⟩
      · exfalso
        by_cases he : m = j
        · subst he
          omega
        · have := h2 j m (by omega) hm
          omega)
    omega
theorem TRF_one {R C k k2 : Int} {ph rg cg rg2 cg2 : Nat → Int} (h : TRF R C ph k rg cg) (h2 : TRF R C ph k2 rg2 cg2) : k = k2 := by
  have key : ∀ {k k2 : Int} {rg cg rg2 cg2 : Nat → Int}, TRF R C ph k rg cg → TRF R C ph k2 rg2 cg2 → k.toNat ≤ k2.toNat := by
    intro k k2 rg cg rg2 cg2 h h2
    refine sub_le (f := rg) (f2 := rg2) _ _ (fun i j hij hj => h.2.1.2 i j hij (by omega)) (fun i j hij hj => h2.2.1.2 i j hij (by omega)) (fun i hi => ?_)
    obtain ⟨x1, x2, x3⟩ := h.2.1.1 i (by omega)
    obtain ⟨j, hj, e⟩ := h2.2.2 (rg i) x1 (by omega)
    exact ⟨j, by omega, e⟩
  have a := key h h2
  have b := key h2 h
  have c := h.1.1
  have d := h2.1.1
  omega
/-! by the least: the set of those that are left -/
def LFT (k : Int) (mt : Nat → Int) (s n : Int) : Prop := (0 ≤ s ∧ s ≤ 4095) ∧ ∀ j : Nat, (j : Int) < k → (btS s (j : Int) ↔ mt j = -2) ∧ ((j : Int) < n → mt j ≠ -2)
def LM1 (k : Int) (cg : Nat → Int) (s n r : Int) : Prop := r = -1 ∨ ((n < r ∧ r < k) ∧ btS s r ∧ cg r.toNat ≠ cg n.toNat)
theorem LFT_1 {k s n s1 : Int} {mt : Nat → Int} (hk : k ≤ 12) (hn : 0 ≤ n ∧ n < k) (h : LFT k (upZ mt n (-2)) s n) (e : s1 = wtS s n) (hm : mt n.toNat = -1) : LFT k mt s1 (n + 1) := by
  obtain ⟨hb, h⟩ := h
  have w := wt_le hb.1 hb.2 hn.1 (by omega)
  subst e
  refine ⟨⟨w.1, by omega⟩, fun j hj => ?_⟩
  obtain ⟨h1, h2⟩ := h j hj
  rw [wt_bt hb.1 hb.2 hn.1 (by omega) (by omega) (by omega)]
  by_cases hjn : (j : Int) = n
  · have : j = n.toNat := by omega
    subst this
    exact ⟨⟨fun q => absurd hjn q.2, fun q => by omega⟩, fun _ => by omega⟩
  · rw [upZ_ne hjn] at h1 h2
    exact ⟨⟨fun q => h1.mp q.1, fun q => ⟨h1.mpr q, hjn⟩⟩, fun q => h2 (by omega)⟩
theorem LFT_2 {k s n r s1 s2 : Int} {mt : Nat → Int} (hk : k ≤ 12) (hn : 0 ≤ n ∧ n < r ∧ r < k) (h : LFT k (upZ (upZ mt r (-2)) n (-2)) s n) (e : s1 = wtS s n) (e2 : s2 = wtS s1 r) (hm : mt n.toNat = r) (hr : mt r.toNat = n) : LFT k mt s2 (n + 1) := by
  obtain ⟨hb, h⟩ := h
  have w := wt_le hb.1 hb.2 hn.1 (by omega)
  subst e
  have w2 := wt_le (s := wtS s n) (i := r) w.1 (by omega) (by omega) (by omega)
  subst e2
  refine ⟨⟨w2.1, by omega⟩, fun j hj => ?_⟩
  obtain ⟨h1, h2⟩ := h j hj
  rw [wt_bt (s := wtS s n) (i := r) w.1 (by omega) (by omega) (by omega) (by omega) (by omega), wt_bt hb.1 hb.2 hn.1 (by omega) (by omega) (by omega)]
  by_cases hjn : (j : Int) = n
  · have : j = n.toNat := by omega
    subst this
    exact ⟨⟨fun q => absurd hjn q.1.2, fun q => by omega⟩, fun _ => by omega⟩
  · by_cases hjr : (j : Int) = r
    · have : j = r.toNat := by omega
      subst this
      exact ⟨⟨fun q => absurd hjr q.2, fun q => by omega⟩, fun q => by omega⟩
    · rw [upZ_ne hjn, upZ_ne hjr] at h1 h2
      exact ⟨⟨fun q => h1.mp q.1.1, fun q => ⟨⟨h1.mpr q, hjn⟩, hjr⟩⟩, fun q => h2 (by omega)⟩
/-! joining: the cuts so far as a flow -/
def dcB : Nat := 1099511627776
/-- numbers that are told: of the torn rings how many, which, their mates, their charges; columns and rows -/
def zD (g : Nat × Nat × Nat) (j : Nat) : Int := ((g.2.2 / dcB ^ j % dcB : Nat) : Int) - 549755813888
theorem zD_of : ∀ (n : Nat) (f : Nat → Int), (∀ j, j < n → -549755813888 ≤ f j ∧ f j < 549755813888) → ∃ z, ∀ (p q j : Nat), j < n → zD (p, q, z) j = f j
  | 0, _, _ => ⟨0, fun _ _ j hj => absurd hj (Nat.not_lt_zero j)⟩
  | n + 1, f, h => by
    obtain ⟨z, hz⟩ := zD_of n (fun j => f (j + 1)) (fun j hj => h (j + 1) (Nat.succ_lt_succ hj))
    have h0 := h 0 (Nat.succ_pos n)
    refine ⟨(f 0 + 549755813888).toNat + dcB * z, fun p q j hj => ?_⟩
    cases j with
    | zero =>
      unfold zD dcB
      show ((((f 0 + 549755813888).toNat + 1099511627776 * z) / 1099511627776 ^ 0 % 1099511627776 : Nat) : Int) - 549755813888 = f 0
      rw [Nat.pow_zero, Nat.div_one]
      omega
    | succ j =>
      have := hz p q j (Nat.lt_of_succ_lt_succ hj)
      unfold zD at this ⊢
      show ((((f 0 + 549755813888).toNat + dcB * z) / dcB ^ (j + 1) % dcB : Nat) : Int) - 549755813888 = f (j + 1)
      rw [Nat.pow_succ, Nat.mul_comm (dcB ^ j) dcB, ← Nat.div_div_eq_div_mul, show ((f 0 + 549755813888).toNat + dcB * z) / dcB = z by unfold dcB; omega]
      exact this
def zK (g : Nat × Nat × Nat) : Int := zD g 0
def zC (g : Nat × Nat × Nat) : Int := zD g 1
def zR (g : Nat × Nat × Nat) : Int := zD g 2
def zRg (g : Nat × Nat × Nat) (i : Nat) : Int := zD g (10 + i)
def zMt (g : Nat × Nat × Nat) (i : Nat) : Int := zD g (140 + i)
def zCg (g : Nat × Nat × Nat) (i : Nat) : Int := zD g (270 + i)
/-- the charges of those that are joined when the first n have been told -/
def dnB (g : Nat × Nat × Nat) (n : Int) (i : Nat) : Bool := decide ((i : Int) < n ∨ (0 ≤ zMt g i ∧ zMt g i < n))
def bas (g : Nat × Nat × Nat) (n : Int) (r c : Nat) : Int := sm (fun i => if zRg g i = ((r * (zC g).toNat + c : Nat) : Int) ∧ dnB g n i = true then zCg g i else 0) (zK g).toNat
def ei (r c : Int) (r2 c2 : Nat) : Int := if r = (r2 : Int) ∧ c = (c2 : Int) then 1 else 0
def SUP (ov w : Nat → Int) (b : Int) : Prop := ∀ e : Nat, e < 288 → (0 ≤ ov e ∧ ov e ≤ b) ∧ (ov e = 0 → w e = 0)
def KWZ (g : Nat × Nat × Nat) (w : Nat → Int) (X : Nat → Nat → Int) : Prop := ∀ r c : Nat, ((r + 1 : Nat) : Int) < zR g → ((c + 1 : Nat) : Int) < zC g → kwF (zC g).toNat w r c = X r c
def XX (g : Nat × Nat × Nat) (n r c a q d b : Int) (r2 c2 : Nat) : Int := bas g n r2 c2 + zCg g n.toNat * (a * ei r c r2 c2 + b * ei q d r2 c2)
def WS (g : Nat × Nat × Nat) (ov : Nat → Int) (n r c a q d b k : Int) : Prop := ∃ w, SUP ov w (2 * n + k) ∧ KWZ g w (XX g n r c a q d b)
/-- a cut more between two rings (or past the border), whatever its sign -/
def WS2 (g : Nat × Nat × Nat) (ov : Nat → Int) (n r c a q d b k r1 c1 r2 c2 : Int) : Prop := ∀ s : Int, ∃ w, SUP ov w (2 * n + (k + 1)) ∧ KWZ g w fun x y => XX g n r c a q d b x y + s * (ei r1 c1 x y - ei r2 c2 x y)
def zS (g : Nat × Nat × Nat) (j : Nat) : Int := zD g (10 + j)
def zB (g : Nat × Nat × Nat) (j : Nat) : Int := zD g (160 + j)
def zI (g : Nat × Nat × Nat) (j : Nat) : Int := zD g (310 + j)
