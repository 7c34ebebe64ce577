/-! p44: the flood: neighbours, what is laid, the front -/
def edP (r c e : Int) : Prop := 0 ≤ e ∧ e < 2 * (r * c) ∧ (e % 2 = 0 → (e / 2) % c < c - 1) ∧ (e % 2 ≠ 0 → (e / 2) / c < r - 1)
def nbP (r c p s : Int) : Prop := (s = 0 → c ≤ p) ∧ (s = 1 → 0 < p % c) ∧ (s = 2 → p % c < c - 1) ∧ (s ≠ 0 → s ≠ 1 → s ≠ 2 → p / c < r - 1)
def tipI (C e : Int) : Int := if e % 2 = 0 then e / 2 + 1 else e / 2 + C
/-- an edge that may be gone over has these two pixels -/
def lk (R C : Int) (pe : Nat → Prop) (p q : Nat) : Prop := ∃ e : Nat, edP R C e ∧ pe e ∧ (((p : Int) = (e : Int) / 2 ∧ (q : Int) = tipI C e) ∨ ((q : Int) = (e : Int) / 2 ∧ (p : Int) = tipI C e))
theorem lk_sym {R C : Int} {pe : Nat → Prop} {p q : Nat} (h : lk R C pe p q) : lk R C pe q p := by
  obtain ⟨e, h1, h2, h3⟩ := h
  exact ⟨e, h1, h2, h3.symm⟩
theorem lk_imp {R C : Int} {pe pe2 : Nat → Prop} (hp : ∀ e : Nat, edP R C e → pe e → pe2 e) {p q : Nat} (h : lk R C pe p q) : lk R C pe2 p q := by
  obtain ⟨e, h1, h2, h3⟩ := h
  exact ⟨e, h1, hp e h1 h2, h3⟩
theorem tip_lt {R C e : Int} (hC : 0 < C) (h : edP R C e) : e / 2 < tipI C e ∧ tipI C e < R * C ∧ 0 ≤ e / 2 := by
  obtain ⟨h0, h1, h2, h3⟩ := h
  have hd : e / 2 = C * (e / 2 / C) + e / 2 % C := (Int.mul_ediv_add_emod (e / 2) C).symm
  have hm := Int.emod_nonneg (e / 2) (show C ≠ 0 by omega)
  have hm2 := Int.emod_lt_of_pos (e / 2) hC
  have hq : e / 2 / C ≤ R - 1 := by
    have : e / 2 / C < R := Int.ediv_lt_of_lt_mul hC (by omega)
    omega
  have hl : C * (e / 2 / C) ≤ C * (R - 1) := Int.mul_le_mul_of_nonneg_left hq (by omega)
  have he : C * (R - 1) = R * C - C := by rw [Int.mul_sub, Int.mul_comm, Int.mul_one]
  unfold tipI
  by_cases hz : e % 2 = 0
  · rw [if_pos hz]
    have := h2 hz
    omega
  · rw [if_neg hz]
    have h4 := h3 hz
    have hl2 : C * (e / 2 / C) ≤ C * (R - 2) := Int.mul_le_mul_of_nonneg_left (by omega) (by omega)
    have he2 : C * (R - 2) = R * C - 2 * C := by rw [Int.mul_sub, Int.mul_comm]; omega
    omega
theorem lk_lt {R C : Int} (hC : 0 < C) {pe : Nat → Prop} {p q : Nat} (h : lk R C pe p q) : (p : Int) < R * C ∧ (q : Int) < R * C ∧ p ≠ q := by
  obtain ⟨e, h1, -, h3⟩ := h
  have := tip_lt hC h1
  rcases h3 with h3 | h3 <;> exact ⟨by omega, by omega, by omega⟩
/-- the pixel beside one, and the edge there -/
def nbq (C p t : Int) : Int := if t = 0 then p - C else if t = 1 then p - 1 else if t = 2 then p + 1 else p + C
def nbe (C p t : Int) : Int := if t = 0 then 2 * (p - C) + 1 else if t = 1 then 2 * (p - 1) else if t = 2 then 2 * p else 2 * p + 1
theorem nb_up {C p : Int} (hC : 0 < C) (h : C ≤ p) : (p - C) / C = p / C - 1 ∧ (p - C) % C = p % C := by
  constructor
  · have := Int.add_mul_ediv_right p (-1) (show C ≠ 0 by omega)
    rw [show p - C = p + -1 * C by omega, this]
    omega
  · rw [show p - C = p + -1 * C by omega, Int.add_mul_emod_self_right]
theorem nb_left {C p : Int} (hC : 0 < C) (h : 0 < p % C) : (p - 1) / C = p / C ∧ (p - 1) % C = p % C - 1 := by
  have hd := Int.mul_ediv_add_emod p C
  have hm := Int.emod_lt_of_pos p hC
  have e : p - 1 = (p % C - 1) + p / C * C := by rw [Int.mul_comm]; omega
  constructor
  · rw [e, Int.add_mul_ediv_right _ _ (by omega), Int.ediv_eq_zero_of_lt (by omega) (by omega), Int.zero_add]
  · rw [e, Int.add_mul_emod_self_right, Int.emod_eq_of_lt (by omega) (by omega)]
theorem nb_lk {R C p t : Int} {pe : Nat → Prop} (hC : 0 < C) (h0 : 0 ≤ p) (h1 : p < R * C) (ht : 0 ≤ t ∧ t < 4) (hn : nbP R C p t) (hp : pe (nbe C p t).toNat) : 0 ≤ nbq C p t ∧ nbq C p t < R * C ∧ edP R C (nbe C p t) ∧ lk R C pe p.toNat (nbq C p t).toNat := by
  obtain ⟨n0, n1, n2, n3⟩ := hn
  have hd := Int.mul_ediv_add_emod p C
  have hm := Int.emod_nonneg p (show C ≠ 0 by omega)
  have hq : p / C < R := Int.ediv_lt_of_lt_mul hC h1
  have hq0 : 0 ≤ p / C := Int.ediv_nonneg h0 (by omega)
  unfold nbq nbe at *
  by_cases t0 : t = 0
  · have a := n0 t0
    rw [if_pos t0] at hp ⊢
    rw [if_pos t0]
    obtain ⟨b1, b2⟩ := nb_up hC a
    have he : edP R C (2 * (p - C) + 1) := by
      refine ⟨by omega, by omega, fun q => by omega, fun _ => ?_⟩
      rw [show (2 * (p - C) + 1) / 2 = p - C by omega, b1]
      omega
    refine ⟨by omega, by omega, he, (2 * (p - C) + 1).toNat, ?_, hp, Or.inr ?_⟩
    · have e : (((2 * (p - C) + 1).toNat : Nat) : Int) = 2 * (p - C) + 1 := by omega
      rw [e]
      exact he
    · have e : (((2 * (p - C) + 1).toNat : Nat) : Int) = 2 * (p - C) + 1 := by omega
      rw [e]
      unfold tipI
      rw [if_neg (by omega)]
      omega
  · rw [if_neg t0] at hp ⊢
    rw [if_neg t0]
    by_cases t1 : t = 1
    · have a := n1 t1
      rw [if_pos t1] at hp ⊢
      rw [if_pos t1]
      obtain ⟨b1, b2⟩ := nb_left hC a
      have hp1 : 1 ≤ p := by
        rcases Int.lt_or_le 0 p with h | h
        · omega
        · have : p = 0 := by omega
          rw [this, Int.zero_emod] at a
          omega
      have hm2 := Int.emod_lt_of_pos p hC
      have he : edP R C (2 * (p - 1)) := by
        refine ⟨by omega, by omega, fun _ => ?_, fun q => by omega⟩
        rw [show (2 * (p - 1)) / 2 = p - 1 by omega, b2]
        omega
      refine ⟨by omega, by omega, he, (2 * (p - 1)).toNat, ?_, hp, Or.inr ?_⟩
      · have e : (((2 * (p - 1)).toNat : Nat) : Int) = 2 * (p - 1) := by omega
        rw [e]
        exact he
      · have e : (((2 * (p - 1)).toNat : Nat) : Int) = 2 * (p - 1) := by omega
        rw [e]
        unfold tipI
        rw [if_pos (by omega)]
        omega
    · rw [if_neg t1] at hp ⊢
      rw [if_neg t1]
      by_cases t2 : t = 2
      · have a := n2 t2
        rw [if_pos t2] at hp ⊢
        rw [if_pos t2]
        have he : edP R C (2 * p) := ⟨by omega, by omega, fun _ => by rw [show 2 * p / 2 = p by omega]; exact a, fun q => by omega⟩
        have e : (((2 * p).toNat : Nat) : Int) = 2 * p := by omega
        have tl := (tip_lt hC he).2.1
        have tt : tipI C (2 * p) = p + 1 := by unfold tipI; rw [if_pos (by omega)]; omega
        rw [tt] at tl
        refine ⟨by omega, tl, he, (2 * p).toNat, by rw [e]; exact he, hp, Or.inl ?_⟩
        rw [e, tt]
        omega
      · have a := n3 t0 t1 t2
        rw [if_neg t2] at hp ⊢
        rw [if_neg t2]
        have he : edP R C (2 * p + 1) := ⟨by omega, by omega, fun q => by omega, fun _ => by rw [show (2 * p + 1) / 2 = p by omega]; exact a⟩
        have e : (((2 * p + 1).toNat : Nat) : Int) = 2 * p + 1 := by omega
        have tl := (tip_lt hC he).2.1
        have tt : tipI C (2 * p + 1) = p + C := by unfold tipI; rw [if_neg (by omega)]; omega
        rw [tt] at tl
        refine ⟨by omega, tl, he, (2 * p + 1).toNat, by rw [e]; exact he, hp, Or.inl ?_⟩
        rw [e, tt]
        omega
theorem lk_nb {R C : Int} {pe : Nat → Prop} (hC : 0 < C) {p q : Nat} (h : lk R C pe p q) : ∃ t : Int, (0 ≤ t ∧ t < 4) ∧ nbP R C p t ∧ pe (nbe C p t).toNat ∧ nbq C p t = q := by
  obtain ⟨e, he, hp, hc⟩ := h
  have tl := tip_lt hC he
  obtain ⟨h0, h1, h2, h3⟩ := he
  have hd := Int.mul_ediv_add_emod ((e : Int) / 2) C
  have hm := Int.emod_nonneg ((e : Int) / 2) (show C ≠ 0 by omega)
  have hm2 := Int.emod_lt_of_pos ((e : Int) / 2) hC
  have hq0 : 0 ≤ (e : Int) / 2 / C := Int.ediv_nonneg tl.2.2 (by omega)
  by_cases hz : (e : Int) % 2 = 0
  · have a := h2 hz
    have tt : tipI C e = (e : Int) / 2 + 1 := if_pos hz
    rw [tt] at hc
    rcases hc with ⟨c1, c2⟩ | ⟨c1, c2⟩
    · refine ⟨2, by omega, ⟨fun q => by omega, fun q => by omega, fun _ => by rw [c1]; exact a, fun _ _ q => absurd rfl q⟩, ?_, ?_⟩
      · rw [show nbe C p 2 = 2 * (p : Int) from rfl, show (2 * (p : Int)).toNat = e by omega]
        exact hp
      · show (p : Int) + 1 = q
        omega
    · have b : (p : Int) % C = (e : Int) / 2 % C + 1 := by
        rw [c2, show (e : Int) / 2 + 1 = ((e : Int) / 2 % C + 1) + (e : Int) / 2 / C * C by rw [Int.mul_comm]; omega, Int.add_mul_emod_self_right, Int.emod_eq_of_lt (by omega) (by omega)]
      refine ⟨1, by omega, ⟨fun q => by omega, fun _ => by rw [b]; omega, fun q => by omega, fun _ q => absurd rfl q⟩, ?_, ?_⟩
      · rw [show nbe C p 1 = 2 * ((p : Int) - 1) from rfl, show (2 * ((p : Int) - 1)).toNat = e by omega]
        exact hp
      · show (p : Int) - 1 = q
        omega
  · have a := h3 hz
    have tt : tipI C e = (e : Int) / 2 + C := if_neg hz
    rw [tt] at hc
    rcases hc with ⟨c1, c2⟩ | ⟨c1, c2⟩
    · refine ⟨3, by omega, ⟨fun q => by omega, fun q => by omega, fun q => by omega, fun _ _ _ => by rw [c1]; exact a⟩, ?_, ?_⟩
      · rw [show nbe C p 3 = 2 * (p : Int) + 1 from rfl, show (2 * (p : Int) + 1).toNat = e by omega]
        exact hp
      · show (p : Int) + C = q
        omega
    · refine ⟨0, by omega, ⟨fun _ => by omega, fun q => by omega, fun q => by omega, fun q => absurd rfl q⟩, ?_, ?_⟩
      · rw [show nbe C p 0 = 2 * ((p : Int) - C) + 1 from rfl, show (2 * ((p : Int) - C) + 1).toNat = e by omega]
        exact hp
      · show (p : Int) - C = q
        omega
/-! how many are laid -/
def ind (S : Nat → Int) (p : Nat) : Int := if S p = -1 then 0 else 1
theorem ind_bd (S : Nat → Int) (p : Nat) : 0 ≤ ind S p ∧ ind S p ≤ 1 := by
  unfold ind
  split <;> omega
theorem ct_le (S : Nat → Int) : ∀ n : Nat, 0 ≤ sm (ind S) n ∧ sm (ind S) n ≤ n
  | 0 => ⟨Int.le_refl _, Int.le_refl _⟩
  | n + 1 => by
    have := ct_le S n
    have := ind_bd S n
    show 0 ≤ sm (ind S) n + ind S n ∧ sm (ind S) n + ind S n ≤ ((n + 1 : Nat) : Int)
    omega
theorem ct_lt {S : Nat → Int} {p : Nat} (hp : S p = -1) : ∀ n : Nat, p < n → sm (ind S) n < n
  | 0, h => absurd h (Nat.not_lt_zero p)
  | n + 1, h => by
    have h1 := ct_le S n
    have h2 := ind_bd S n
    show sm (ind S) n + ind S n < ((n + 1 : Nat) : Int)
    by_cases hn : p < n
    · have := ct_lt hp n hn
      omega
    · have e : p = n := by omega
      subst e
      have : ind S p = 0 := if_pos hp
      omega
theorem ct_all {S : Nat → Int} {n : Nat} (h : ∀ p : Nat, p < n → S p ≠ -1) : sm (ind S) n = n := by
  have := sm_e (f := ind S) (h := fun _ => 1) n fun i hi => if_neg (h i hi)
  rw [this]
  clear this h
  induction n with
  | zero => rfl
  | succ n ih =>
    show sm (fun _ => (1 : Int)) n + 1 = _
    rw [ih]
    omega
theorem ct_up {S : Nat → Int} {p n : Nat} (hp : S p ≠ -1) (h : p < n) : sm (ind S) n = sm (ind (upZ S p (-1))) n + 1 := by
  have := sm_1 (ind (upZ S p (-1))) (ind S) p n fun i _ hi => by
    unfold ind
    rw [upZ_ne (by omega)]
  rw [this, if_pos h]
  have e1 : ind S p = 1 := if_neg hp
  have e2 : ind (upZ S p (-1)) p = 0 := if_pos (upZ_at rfl)
  omega
/-! what is laid -/
section
variable (R C : Int) (ph : Nat → Int) (pe : Nat → Prop) (lad k : Int) (H F S V T : Nat → Int)
def flP (p : Nat) : Prop := (0 ≤ S p ∧ S p < k) ∧ (1 ≤ V p ∧ V p ≤ lad) ∧ (∃ t : Int, H p = ph p + 255 * t) ∧
  ((F p = -1 ∧ T (S p).toNat = (p : Int)) ∨ (T (S p).toNat ≠ (p : Int) ∧ ∃ q : Nat, F p = (q : Int) ∧ lk R C pe q p ∧ S q = S p ∧ V q < V p ∧ H p - H q = stA ph q p))
def flJ : Prop := ((0 ≤ k ∧ k ≤ lad) ∧ sm (ind S) (R * C).toNat = lad) ∧ (∀ p : Nat, (p : Int) < R * C → S p ≠ -1 → flP R C ph pe lad k H F S V T p) ∧
  (∀ i : Nat, (i : Int) < k → ∃ s : Nat, T i = (s : Int) ∧ (s : Int) < R * C ∧ S s = (i : Int) ∧ F s = -1) ∧
  ∀ p q : Nat, lk R C pe p q → S p ≠ -1 → (S q ≠ -1 → S q = S p) ∧ (S q = -1 → S p = k - 1)
def flB : Prop := ∀ p : Nat, (p : Int) < R * C → S p ≠ -1 → -(127 * V p) ≤ H p ∧ H p ≤ 127 * V p
def flI : Prop := flJ R C ph pe lad k H F S V T ∧ flB R C H S V
/-- but for p, which comes next -/
def flX (p : Nat) : Prop := ((p : Int) < R * C ∧ S p ≠ -1) ∧
  ((flI R C ph pe lad k H F (upZ S p (-1)) V T ∧ ∃ q : Nat, F p = (q : Int) ∧ lk R C pe q p ∧ S q = S p ∧ H p - H q = stA ph q p) ∨
   (flI R C ph pe lad (k - 1) H F (upZ S p (-1)) V T ∧ (S p = k - 1 ∧ F p = -1 ∧ T (k - 1).toNat = (p : Int) ∧ H p = ph p) ∧ ∀ a b : Nat, lk R C pe a b → upZ S p (-1) a ≠ -1 → upZ S p (-1) b ≠ -1))
end
theorem lk_ne {R C : Int} (hC : 0 < C) {pe : Nat → Prop} {p q : Nat} (h : lk R C pe p q) : ((q : Nat) : Int) ≠ (p : Int) := by
  have := (lk_lt hC h).2.2
  omega
theorem flI_next {R C : Int} {ph : Nat → Int} {pe : Nat → Prop} {lad k : Int} {H F S V T : Nat → Int} {p : Nat} (hC : 0 < C) (hph : -127 ≤ ph p ∧ ph p ≤ 127) (hV : V p = lad + 1) (h : flX R C ph pe lad k H F S V T p) : flI R C ph pe (lad + 1) k H F S V T := by
  obtain ⟨⟨hpn, hp⟩, h⟩ := h
  have ne : ∀ q : Nat, q ≠ p → upZ S p (-1) q = S q := fun q hq => upZ_ne (by omega)
  have at_ : upZ S p (-1) p = -1 := upZ_at rfl
  have sb : ∀ x y : Nat, -127 ≤ stA ph x y ∧ stA ph x y ≤ 127 := fun x y => wr_bd0 _
  rcases h with ⟨⟨⟨⟨⟨k0, kl⟩, hct⟩, hL, hT, h3⟩, hB⟩, q, hF, hq, hS, hH⟩ | ⟨⟨⟨⟨⟨k0, kl⟩, hct⟩, hL, hT, h3⟩, hB⟩, ⟨s1, s2, s3, s4⟩, hN⟩
  · have hqp : q ≠ p := (lk_lt hC hq).2.2
    have hqn := (lk_lt hC hq).1
    have hSq : upZ S p (-1) q ≠ -1 := by rw [ne q hqp, hS]; exact hp
    have hlq := hL q hqn hSq
    have hk1 : S p = k - 1 := by
      have := (h3 q p hq hSq).2 at_
      rw [ne q hqp, hS] at this
      exact this
    refine ⟨⟨⟨⟨k0, by omega⟩, by rw [ct_up hp (show p < (R * C).toNat by omega), hct]⟩, fun a ha hSa => ?_, fun i hi => ?_, fun a b hab hSa => ?_⟩, fun a ha hSa => ?_⟩
    · by_cases hap : a = p
      · subst hap
        refine ⟨?_, by omega, ?_, Or.inr ⟨?_, q, hF, hq, hS, ?_, hH⟩⟩
        · have := hlq.1
          rw [ne q hqp, hS] at this
          exact this
        · obtain ⟨t, ht⟩ := hlq.2.2.1
          obtain ⟨u, hu⟩ := wr_k (ph a - ph q)
          exact ⟨t - u, by unfold stA at hH; omega⟩
        · have hb := hlq.1
          rw [ne q hqp, hS] at hb
          obtain ⟨s, t1, t2, t3, -⟩ := hT (S a).toNat (by omega)
          intro e
          have : s = a := by omega
          subst this
          rw [at_] at t3
          omega
        · have := hlq.2.1
          omega
      · have hl := hL a ha (by rw [ne a hap]; exact hSa)
        unfold flP at hl ⊢
        rw [ne a hap] at hl
        obtain ⟨l1, l2, l3, l4⟩ := hl
        refine ⟨l1, by omega, l3, ?_⟩
        rcases l4 with l4 | ⟨l4, b, l5, l6, l7, l8⟩
        · exact Or.inl l4
        · refine Or.inr ⟨l4, b, l5, l6, ?_, l8⟩
          by_cases hbp : b = p
          · subst hbp
            rw [at_] at l7
            exact absurd l7.symm hSa
          · rw [ne b hbp] at l7
            exact l7
    · obtain ⟨s, t1, t2, t3, t4⟩ := hT i hi
      refine ⟨s, t1, t2, ?_, t4⟩
      by_cases hsp : s = p
      · subst hsp
        rw [at_] at t3
        omega
      · rw [ne s hsp] at t3
        exact t3
    · have hne := lk_ne hC hab
      by_cases hap : a = p
      · subst hap
        refine ⟨fun hb => ?_, fun _ => hk1⟩
        have hbp : b ≠ a := by omega
        have := (h3 b a (lk_sym hab) (by rw [ne b hbp]; exact hb)).2 at_
        rw [ne b hbp] at this
        omega
      · by_cases hbp : b = p
        · subst hbp
          refine ⟨fun _ => ?_, fun hb => absurd hb hp⟩
          have := (h3 a b hab (by rw [ne a hap]; exact hSa)).2 at_
          rw [ne a hap] at this
          omega
        · have := h3 a b hab (by rw [ne a hap]; exact hSa)
          rw [ne a hap, ne b hbp] at this
          exact this
    · by_cases hap : a = p
      · subst hap
        have := hB q hqn hSq
        have := hlq.2.1
        have := sb q a
        omega
      · exact hB a ha (by rw [ne a hap]; exact hSa)
  · refine ⟨⟨⟨⟨by omega, by omega⟩, by rw [ct_up hp (show p < (R * C).toNat by omega), hct]⟩, fun a ha hSa => ?_, fun i hi => ?_, fun a b hab hSa => ?_⟩, fun a ha hSa => ?_⟩
    · by_cases hap : a = p
      · subst hap
        exact ⟨by omega, by omega, ⟨0, by omega⟩, Or.inl ⟨s2, by rw [s1]; exact s3⟩⟩
      · have hl := hL a ha (by rw [ne a hap]; exact hSa)
        unfold flP at hl ⊢
        rw [ne a hap] at hl
        obtain ⟨l1, l2, l3, l4⟩ := hl
        refine ⟨by omega, by omega, l3, ?_⟩
        rcases l4 with l4 | ⟨l4, b, l5, l6, l7, l8⟩
        · exact Or.inl l4
        · refine Or.inr ⟨l4, b, l5, l6, ?_, l8⟩
          by_cases hbp : b = p
          · subst hbp
            rw [at_] at l7
            exact absurd l7.symm hSa
          · rw [ne b hbp] at l7
            exact l7
    · by_cases hik : (i : Int) < k - 1
      · obtain ⟨s, t1, t2, t3, t4⟩ := hT i hik
        refine ⟨s, t1, t2, ?_, t4⟩
        by_cases hsp : s = p
        · subst hsp
          rw [at_] at t3
          omega
        · rw [ne s hsp] at t3
          exact t3
      · have e : (k - 1).toNat = i := by omega
        rw [e] at s3
        exact ⟨p, s3, hpn, by omega, s2⟩
    · have hne := lk_ne hC hab
      by_cases hap : a = p
      · subst hap
        refine ⟨fun hb => ?_, fun _ => s1⟩
        have := hN b a (lk_sym hab) (by rw [ne b (by omega)]; exact hb)
        exact absurd at_ this
      · by_cases hbp : b = p
        · subst hbp
          have := hN a b hab (by rw [ne a hap]; exact hSa)
          exact absurd at_ this
        · have h4 := h3 a b hab (by rw [ne a hap]; exact hSa)
          have h5 := hN a b hab (by rw [ne a hap]; exact hSa)
          rw [ne b hbp] at h5
          rw [ne a hap, ne b hbp] at h4
          exact ⟨h4.1, fun q => absurd q h5⟩
    · by_cases hap : a = p
      · subst hap
        omega
      · exact hB a ha (by rw [ne a hap]; exact hSa)
/-- pictures that are alike where it counts -/
theorem flI_c {R C : Int} {ph ph2 : Nat → Int} {pe pe2 : Nat → Prop} {lad k : Int} {H F S V T H2 F2 S2 V2 T2 : Nat → Int} (hC : 0 < C) (hn : R * C ≤ 144) (hp : ∀ e : Nat, edP R C e → (pe e ↔ pe2 e)) (q0 : ∀ p : Nat, p < 144 → ph2 p = ph p) (q1 : ∀ p : Nat, p < 144 → S p ≠ -1 → H2 p = H p ∧ F2 p = F p ∧ V2 p = V p) (q2 : ∀ p : Nat, p < 144 → S2 p = S p) (q3 : ∀ i : Nat, (i : Int) < k → T2 i = T i) (h : flI R C ph pe lad k H F S V T) : flI R C ph2 pe2 lad k H2 F2 S2 V2 T2 := by
  have l1 : ∀ {p q : Nat}, lk R C pe p q → lk R C pe2 p q := fun h => lk_imp (fun e he q => (hp e he).mp q) h
  have l2 : ∀ {p q : Nat}, lk R C pe2 p q → lk R C pe p q := fun h => lk_imp (fun e he q => (hp e he).mpr q) h
  obtain ⟨⟨⟨a0, a1⟩, a2, a3, a4⟩, a5⟩ := h
  refine ⟨⟨⟨a0, ?_⟩, fun p h1 h2 => ?_, fun i hi => ?_, fun p q h1 h2 => ?_⟩, fun p h1 h2 => ?_⟩
  · rw [← a1]
    refine sm_e _ fun i hi => ?_
    unfold ind
    rw [q2 i (by omega)]
  · rw [q2 p (by omega)] at h2
    obtain ⟨b1, b2, ⟨t, b3⟩, b4⟩ := a2 p h1 h2
    obtain ⟨c1, c2, c3⟩ := q1 p (by omega) h2
    unfold flP
    rw [q2 p (by omega), c1, c2, c3, q3 (S p).toNat (by omega), q0 p (by omega)]
    refine ⟨b1, b2, ⟨t, b3⟩, ?_⟩
    rcases b4 with b4 | ⟨b4, q, d1, d2, d3, d4, d5⟩
    · exact Or.inl b4
    · have hq := lk_lt hC d2
      obtain ⟨e1, e2, e3⟩ := q1 q (by omega) (by rw [d3]; exact h2)
      refine Or.inr ⟨b4, q, d1, l1 d2, by rw [q2 q (by omega)]; exact d3, by rw [e3]; exact d4, ?_⟩
      rw [e1]
      unfold stA at d5 ⊢
      rw [q0 p (by omega), q0 q (by omega)]
      exact d5
  · obtain ⟨s, b1, b2, b3, b4⟩ := a3 i hi
    have hs : S s ≠ -1 := by omega
    refine ⟨s, by rw [q3 i hi]; exact b1, b2, by rw [q2 s (by omega)]; exact b3, ?_⟩
    rw [(q1 s (by omega) hs).2.1]
    exact b4
  · have hq := lk_lt hC h1
    rw [q2 p (by omega)] at h2 ⊢
    rw [q2 q (by omega)]
    exact a4 p q (l2 h1) h2
  · rw [q2 p (by omega)] at h2
    obtain ⟨c1, c2, c3⟩ := q1 p (by omega) h2
    rw [c1, c3]
    exact a5 p h1 h2
/-- how many have been laid bounds all -/
theorem flI_bd {R C : Int} {ph : Nat → Int} {pe : Nat → Prop} {lad k : Int} {H F S V T : Nat → Int} (hn : 0 ≤ R * C) (h : flI R C ph pe lad k H F S V T) : (0 ≤ k ∧ k ≤ lad) ∧ lad ≤ R * C ∧ ∀ p : Nat, (p : Int) < R * C → S p ≠ -1 → -(127 * (R * C)) ≤ H p ∧ H p ≤ 127 * (R * C) := by
  obtain ⟨⟨⟨a0, a1⟩, a2, -⟩, a5⟩ := h
  have := (ct_le S (R * C).toNat).2
  refine ⟨a0, by omega, fun p h1 h2 => ?_⟩
  have := a5 p h1 h2
  have := (a2 p h1 h2).2.1
  omega
theorem flI_all {R C : Int} {ph : Nat → Int} {pe : Nat → Prop} {lad k : Int} {H F S V T : Nat → Int} (hn : 0 ≤ R * C) (h : flI R C ph pe lad k H F S V T) (ha : ∀ p : Nat, (p : Int) < R * C → S p ≠ -1) : lad = R * C := by
  have := ct_all (S := S) (n := (R * C).toNat) fun p hp => ha p (by omega)
  have := h.1.1.2
  omega
theorem flJ_laid {R C : Int} {ph : Nat → Int} {pe : Nat → Prop} {lad k : Int} {H F S V T : Nat → Int} (hn : 0 ≤ R * C) (h : flJ R C ph pe lad k H F S V T) (hl : R * C ≤ lad) : ∀ p : Nat, (p : Int) < R * C → S p ≠ -1 := fun p hp hS => by
  have := ct_lt hS (R * C).toNat (by omega)
  have := h.1.2
  omega
