/-! p44: the front -/
section
variable (R C : Int) (pe : Nat → Prop) (S via wa : Nat → Int) (cnt b s x r : Int)
def fnI : Prop := 0 ≤ cnt ∧ (∀ j : Nat, (j : Int) < cnt → ∃ q : Nat, wa j = (q : Int) ∧ (q : Int) < R * C ∧ S q = -1 ∧ via q ≠ -1) ∧
  (∀ i j : Nat, i < j → (j : Int) < cnt → wa i ≠ wa j) ∧
  (∀ q : Nat, (q : Int) < R * C → S q = -1 → via q ≠ -1 → (∃ j : Nat, (j : Int) < cnt ∧ wa j = (q : Int)) ∧ ∃ p : Nat, via q = (p : Int) ∧ S p ≠ -1 ∧ lk R C pe p q) ∧
  (∀ p q : Nat, lk R C pe p q → S p ≠ -1 → S q = -1 → (p : Int) < b → (p : Int) ≠ x → via q ≠ -1) ∧
  ∀ t : Int, 0 ≤ t → t < s → nbP R C x t → pe (nbe C x t).toNat → S (nbq C x t).toNat = -1 → via (nbq C x t).toNat ≠ -1
/-- r is taken away, and not laid yet -/
def fnT : Prop := 0 ≤ cnt ∧ (∀ j : Nat, (j : Int) < cnt → ∃ q : Nat, wa j = (q : Int) ∧ (q : Int) < R * C ∧ S q = -1 ∧ via q ≠ -1 ∧ (q : Int) ≠ r) ∧
  (∀ i j : Nat, i < j → (j : Int) < cnt → wa i ≠ wa j) ∧
  (∀ q : Nat, (q : Int) < R * C → S q = -1 → via q ≠ -1 → (q : Int) ≠ r → (∃ j : Nat, (j : Int) < cnt ∧ wa j = (q : Int)) ∧ ∃ p : Nat, via q = (p : Int) ∧ S p ≠ -1 ∧ lk R C pe p q) ∧
  ∀ p q : Nat, lk R C pe p q → S p ≠ -1 → S q = -1 → via q ≠ -1
end
section
variable {R C : Int} {pe : Nat → Prop} {S S2 via via2 wa wa2 : Nat → Int} {cnt b s x r : Int}
theorem fn_new {to fr : Nat} (h : fnI R C pe S via wa cnt b s x) (h0 : via to = -1) (ht : (to : Int) < R * C) (hS : S to = -1) (hf : S fr ≠ -1) (hl : lk R C pe fr to) (v1 : via2 to = (fr : Int)) (v2 : ∀ q : Nat, q ≠ to → via2 q = via q) (w1 : wa2 cnt.toNat = (to : Int)) (w2 : ∀ j : Nat, (j : Int) < cnt → wa2 j = wa j) : fnI R C pe S via2 wa2 (cnt + 1) b s x := by
  obtain ⟨a0, a1, a2, a3, a4, a5⟩ := h
  have nt : ∀ j : Nat, (j : Int) < cnt → wa j ≠ (to : Int) := fun j hj e => by
    obtain ⟨q, q1, -, -, q4⟩ := a1 j hj
    have : q = to := by omega
    subst this
    exact q4 h0
  have vm : ∀ q : Nat, via q ≠ -1 → via2 q ≠ -1 := fun q hq => by
    by_cases e : q = to
    · subst e
      exact absurd h0 hq
    · rw [v2 q e]
      exact hq
  refine ⟨by omega, fun j hj => ?_, fun i j hij hj => ?_, fun q hq hq2 hv => ?_, fun p q h1 h2 h3 h4 h5 => vm q (a4 p q h1 h2 h3 h4 h5), fun t h1 h2 h3 h4 h5 => vm _ (a5 t h1 h2 h3 h4 h5)⟩
  · by_cases e : (j : Int) < cnt
    · rw [w2 j e]
      obtain ⟨q, q1, q2, q3, q4⟩ := a1 j e
      exact ⟨q, q1, q2, q3, vm q q4⟩
    · have : j = cnt.toNat := by omega
      subst this
      exact ⟨to, w1, ht, hS, by rw [v1]; omega⟩
  · rw [w2 i (by omega)]
    by_cases e : (j : Int) < cnt
    · rw [w2 j e]
      exact a2 i j hij e
    · have : j = cnt.toNat := by omega
      subst this
      rw [w1]
      exact nt i (by omega)
  · by_cases e : q = to
    · subst e
      exact ⟨⟨cnt.toNat, by omega, w1⟩, fr, v1, hf, hl⟩
    · rw [v2 q e] at hv
      obtain ⟨⟨j, j1, j2⟩, p, p1, p2, p3⟩ := a3 q hq hq2 hv
      exact ⟨⟨j, by omega, by rw [w2 j j1]; exact j2⟩, p, by rw [v2 q e]; exact p1, p2, p3⟩
theorem fn_old {to fr : Nat} (h : fnI R C pe S via wa cnt b s x) (h0 : via to ≠ -1) (ht : (to : Int) < R * C) (hS : S to = -1) (hf : S fr ≠ -1) (hl : lk R C pe fr to) (v1 : via2 to = (fr : Int)) (v2 : ∀ q : Nat, q ≠ to → via2 q = via q) : fnI R C pe S via2 wa cnt b s x := by
  obtain ⟨a0, a1, a2, a3, a4, a5⟩ := h
  have vm : ∀ q : Nat, via q ≠ -1 → via2 q ≠ -1 := fun q hq => by
    by_cases e : q = to
    · subst e
      rw [v1]
      omega
    · rw [v2 q e]
      exact hq
  refine ⟨a0, fun j hj => ?_, a2, fun q hq hq2 hv => ?_, fun p q h1 h2 h3 h4 h5 => vm q (a4 p q h1 h2 h3 h4 h5), fun t h1 h2 h3 h4 h5 => vm _ (a5 t h1 h2 h3 h4 h5)⟩
  · obtain ⟨q, q1, q2, q3, q4⟩ := a1 j hj
    exact ⟨q, q1, q2, q3, vm q q4⟩
  · by_cases e : q = to
    · subst e
      exact ⟨(a3 q hq hq2 h0).1, fr, v1, hf, hl⟩
    · rw [v2 q e] at hv
      obtain ⟨h1, p, p1, p2, p3⟩ := a3 q hq hq2 hv
      exact ⟨h1, p, by rw [v2 q e]; exact p1, p2, p3⟩
/-- no more numbers below n than n -/
theorem pigeon : ∀ (n m : Nat) (f : Nat → Nat), (∀ j, j < m → f j < n) → (∀ i j, i < j → j < m → f i ≠ f j) → m ≤ n
  | 0, m, f, h, _ => by
    rcases Nat.eq_zero_or_pos m with e | e
    · omega
    · exact absurd (h 0 e) (Nat.not_lt_zero _)
  | n + 1, m, f, h, hd => by
    by_cases hm : m = 0
    · omega
    · have hl : m - 1 < m := by omega
      by_cases hf : ∃ i, i < m ∧ f i = n
      · obtain ⟨i, hi, ei⟩ := hf
        have := pigeon n (m - 1) (fun j => if j = i then f (m - 1) else f j) (fun j hj => by
          show (if j = i then f (m - 1) else f j) < n
          by_cases e : j = i
          · rw [if_pos e]
            have h1 := h (m - 1) hl
            have h2 : f (m - 1) ≠ n := fun q => by
              have := hd i (m - 1) (by omega) hl
              omega
            omega
          · rw [if_neg e]
            have h1 := h j (by omega)
            have h2 : f j ≠ n := fun q => by
              rcases Nat.lt_or_gt_of_ne e with e2 | e2
              · have := hd j i e2 hi
                omega
              · have := hd i j e2 (by omega)
                omega
            omega) (fun a c hac hc => by
          show (if a = i then f (m - 1) else f a) ≠ (if c = i then f (m - 1) else f c)
          by_cases ea : a = i
          · rw [if_pos ea, if_neg (by omega)]
            exact fun q => hd c (m - 1) (by omega) hl q.symm
          · rw [if_neg ea]
            by_cases ec : c = i
            · rw [if_pos ec]
              exact hd a (m - 1) (by omega) hl
            · rw [if_neg ec]
              exact hd a c hac (by omega))
        omega
      · have := pigeon n m f (fun j hj => by
          have h1 := h j hj
          have h2 : f j ≠ n := fun q => hf ⟨j, hj, q⟩
          omega) hd
        omega
theorem fn_cnt (h : fnI R C pe S via wa cnt b s x) (hn : 0 ≤ R * C) : cnt ≤ R * C := by
  obtain ⟨a0, a1, a2, -⟩ := h
  have := pigeon (R * C).toNat cnt.toNat (fun j => (wa j).toNat) (fun j hj => by
    obtain ⟨q, q1, q2, -⟩ := a1 j (by omega)
    show (wa j).toNat < _
    omega) (fun i j hij hj => by
    obtain ⟨q, q1, -⟩ := a1 j (by omega)
    obtain ⟨p, p1, -⟩ := a1 i (by omega)
    have := a2 i j hij (by omega)
    show (wa i).toNat ≠ (wa j).toNat
    omega)
  omega
theorem fn_take {at_ : Int} (h : fnI R C pe S via wa cnt b 0 (-1)) (hb : R * C ≤ b) (hC : 0 < C) (h0 : 0 ≤ at_) (h1 : at_ < cnt) (hr : wa at_.toNat = r) (w1 : at_ < cnt - 1 → wa2 at_.toNat = wa (cnt - 1).toNat) (w2 : ∀ j : Nat, (j : Int) < cnt - 1 → (j : Int) ≠ at_ → wa2 j = wa j) : (0 ≤ r ∧ r < R * C) ∧ (S r.toNat = -1 ∧ via r.toNat ≠ -1) ∧ fnT R C pe S via wa2 (cnt - 1) r := by
  obtain ⟨a0, a1, a2, a3, a4, -⟩ := h
  obtain ⟨q, q1, q2, q3, q4⟩ := a1 at_.toNat (by omega)
  have eq : r.toNat = q := by omega
  have dis : ∀ i j : Nat, (i : Int) < cnt → (j : Int) < cnt → i ≠ j → wa i ≠ wa j := fun i j hi hj hne => by
    rcases Nat.lt_or_gt_of_ne hne with e | e
    · exact a2 i j e hj
    · exact fun z => a2 j i e hi z.symm
  -- where an entry was
  have src : ∀ j : Nat, (j : Int) < cnt - 1 → ∃ m : Nat, (m : Int) < cnt ∧ m ≠ at_.toNat ∧ wa2 j = wa m ∧ ((j : Int) ≠ at_ → m = j) ∧ ((j : Int) = at_ → m = (cnt - 1).toNat) := fun j hj => by
    by_cases e : (j : Int) = at_
    · have : j = at_.toNat := by omega
      refine ⟨(cnt - 1).toNat, by omega, by omega, ?_, fun z => absurd e z, fun _ => rfl⟩
      rw [this]
      exact w1 (by omega)
    · exact ⟨j, by omega, by omega, w2 j hj e, fun _ => rfl, fun z => absurd z e⟩
  refine ⟨⟨by omega, by omega⟩, ⟨by rw [eq]; exact q3, by rw [eq]; exact q4⟩, by omega, fun j hj => ?_, fun i j hij hj => ?_, fun p hp hp2 hv hne => ?_, fun a c h3 h4 h5 => ?_⟩
  · obtain ⟨m, m1, m2, m3, -⟩ := src j hj
    obtain ⟨p, p1, p2, p3, p4⟩ := a1 m m1
    refine ⟨p, by rw [m3]; exact p1, p2, p3, p4, ?_⟩
    have := dis m at_.toNat m1 (by omega) m2
    omega
  · obtain ⟨m, m1, m2, m3, m4, m5⟩ := src i (by omega)
    obtain ⟨n, n1, n2, n3, n4, n5⟩ := src j hj
    rw [m3, n3]
    refine dis m n m1 n1 fun e => ?_
    by_cases ei : (i : Int) = at_
    · have := m5 ei
      have := n4 (by omega)
      omega
    · have := m4 ei
      by_cases ej : (j : Int) = at_
      · have := n5 ej
        omega
      · have := n4 ej
        omega
  · obtain ⟨⟨j, j1, j2⟩, p5⟩ := a3 p hp hp2 hv
    refine ⟨?_, p5⟩
    have hja : j ≠ at_.toNat := fun e => by
      subst e
      omega
    by_cases e : (j : Int) = cnt - 1
    · refine ⟨at_.toNat, by omega, ?_⟩
      rw [w1 (by omega), show (cnt - 1).toNat = j by omega]
      exact j2
    · exact ⟨j, by omega, by rw [w2 j (by omega) (by omega)]; exact j2⟩
  · have := (lk_lt hC h3).1
    exact a4 a c h3 h4 h5 (by omega) (by omega)
theorem fn_none (h : fnI R C pe S via wa cnt b 0 (-1)) (hb : R * C ≤ b) (hC : 0 < C) (hc : cnt ≤ 0) : (∀ p q : Nat, lk R C pe p q → S p ≠ -1 → S q ≠ -1) ∧ ∀ r : Int, fnT R C pe S via wa cnt r := by
  obtain ⟨a0, a1, a2, a3, a4, -⟩ := h
  have no : ∀ q : Nat, (q : Int) < R * C → S q = -1 → via q ≠ -1 → False := fun q h1 h2 h3 => by
    obtain ⟨⟨j, hj, -⟩, -⟩ := a3 q h1 h2 h3
    omega
  refine ⟨fun p q h1 h2 h3 => ?_, fun r => ⟨a0, fun j hj => by omega, fun i j _ hj => by omega, fun q h1 h2 h3 _ => (no q h1 h2 h3).elim, fun p q h1 h2 h3 => ?_⟩⟩
  · have := lk_lt hC h1
    exact no q this.2.1 h3 (a4 p q h1 h2 h3 (by omega) (by omega))
  · have := lk_lt hC h1
    exact a4 p q h1 h2 h3 (by omega) (by omega)
theorem fn_after {q : Nat} (hn : R * C ≤ 144) (hC : 0 < C) (h : fnT R C pe S via wa cnt (q : Int)) (h1 : ∀ p : Nat, p < 144 → p ≠ q → S2 p = S p) (h2 : S2 q ≠ -1) : fnI R C pe S2 via wa cnt b 0 (q : Int) := by
  obtain ⟨a0, a1, a2, a3, a4⟩ := h
  have ne : ∀ p : Nat, p < 144 → S2 p = -1 → p ≠ q ∧ S p = -1 := fun p h9 hp => by
    have e : p ≠ q := fun e => h2 (e ▸ hp)
    exact ⟨e, (h1 p h9 e).symm.trans hp⟩
  refine ⟨a0, fun j hj => ?_, a2, fun p hp hp2 hv => ?_, fun p c h3 h4 h5 _ h7 => ?_, fun t h3 h4 => by omega⟩
  · obtain ⟨p, p1, p2, p3, p4, p5⟩ := a1 j hj
    exact ⟨p, p1, p2, by rw [h1 p (by omega) (by omega)]; exact p3, p4⟩
  · obtain ⟨e1, e2⟩ := ne p (by omega) hp2
    obtain ⟨b1, m, m1, m2, m3⟩ := a3 p hp e2 hv (by omega)
    refine ⟨b1, m, m1, ?_, m3⟩
    have hl := lk_lt hC m3
    by_cases e : m = q
    · subst e
      exact h2
    · rw [h1 m (by omega) e]
      exact m2
  · have hl := lk_lt hC h3
    rw [h1 p (by omega) (by omega)] at h4
    exact a4 p c h3 h4 (ne c (by omega) h5).2
/-- one side more -/
theorem fn_side (h : fnI R C pe S via wa cnt b s x) (h0 : 0 ≤ s) (hs : nbP R C x s → pe (nbe C x s).toNat → S (nbq C x s).toNat = -1 → via (nbq C x s).toNat ≠ -1) : fnI R C pe S via wa cnt b (s + 1) x := by
  obtain ⟨a0, a1, a2, a3, a4, a5⟩ := h
  refine ⟨a0, a1, a2, a3, a4, fun t h1 h2 => ?_⟩
  by_cases e : t = s
  · subst e
    exact hs
  · exact a5 t h1 (by omega)
/-- all four -/
theorem fn_end {b2 : Int} {p0 : Nat} (h : fnI R C pe S via wa cnt b s (p0 : Int)) (hs : 4 ≤ s) (hC : 0 < C) (hb : ∀ p : Int, p < b2 → p < b ∨ p = p0) : fnI R C pe S via wa cnt b2 0 (-1) := by
  obtain ⟨a0, a1, a2, a3, a4, a5⟩ := h
  refine ⟨a0, a1, a2, a3, fun p q h1 h2 h3 h4 _ => ?_, fun t h1 h2 => by omega⟩
  by_cases e : p = p0
  · subst e
    obtain ⟨t, t1, t2, t3, t4⟩ := lk_nb hC h1
    have := a5 t t1.1 (by omega) t2 t3 (by rw [t4]; exact h3)
    rw [t4] at this
    exact this
  · have := hb p h4
    exact a4 p q h1 h2 h3 (by omega) (by omega)
/-- not laid -/
theorem fn_skip {p0 : Nat} (h : fnI R C pe S via wa cnt (p0 : Int) 0 (-1)) (hS : S p0 = -1) : fnI R C pe S via wa cnt ((p0 : Int) + 1) 0 (-1) := by
  obtain ⟨a0, a1, a2, a3, a4, a5⟩ := h
  refine ⟨a0, a1, a2, a3, fun p q h1 h2 h3 h4 h5 => ?_, a5⟩
  by_cases e : p = p0
  · subst e
    exact absurd hS h2
  · exact a4 p q h1 h2 h3 (by omega) h5
theorem fn_at {p0 : Nat} (h : fnI R C pe S via wa cnt (p0 : Int) 0 (-1)) : fnI R C pe S via wa cnt (p0 : Int) 0 (p0 : Int) := by
  obtain ⟨a0, a1, a2, a3, a4, -⟩ := h
  exact ⟨a0, a1, a2, a3, fun p q h1 h2 h3 h4 _ => a4 p q h1 h2 h3 h4 (by omega), fun t h1 h2 => by omega⟩
theorem fn_all {b2 : Int} (h : fnI R C pe S via wa cnt b 0 (-1)) (hC : 0 < C) (hb : R * C ≤ b) : fnI R C pe S via wa cnt b2 0 (-1) := by
  obtain ⟨a0, a1, a2, a3, a4, a5⟩ := h
  exact ⟨a0, a1, a2, a3, fun p q h1 h2 h3 _ h5 => a4 p q h1 h2 h3 (by have := (lk_lt hC h1).1; omega) h5, fun t h1 h2 => by omega⟩
theorem fn_start (h : ∀ q : Nat, (q : Int) < R * C → via q = -1) : fnI R C pe S via wa 0 0 0 (-1) :=
  ⟨Int.le_refl _, fun j hj => by omega, fun i j _ hj => by omega, fun q h1 _ h3 => absurd (h q h1) h3, fun p q _ _ _ h4 => by omega, fun t h1 h2 => by omega⟩
theorem fn_pe {pe2 : Nat → Prop} (hp : ∀ e : Nat, edP R C e → (pe e ↔ pe2 e)) (hC : 0 < C) (h : fnI R C pe S via wa cnt b 0 (-1)) : fnI R C pe2 S via wa cnt b 0 (-1) := by
  have l1 : ∀ {p q : Nat}, lk R C pe p q → lk R C pe2 p q := fun h => lk_imp (fun e he q => (hp e he).mp q) h
  have l2 : ∀ {p q : Nat}, lk R C pe2 p q → lk R C pe p q := fun h => lk_imp (fun e he q => (hp e he).mpr q) h
  obtain ⟨a0, a1, a2, a3, a4, a5⟩ := h
  refine ⟨a0, a1, a2, fun q h1 h2 h3 => ?_, fun p q h1 => a4 p q (l2 h1), fun t h1 h2 => by omega⟩
  obtain ⟨b1, p, b2, b3, b4⟩ := a3 q h1 h2 h3
  exact ⟨b1, p, b2, b3, l1 b4⟩
/-- pictures that are alike where it counts -/
theorem fn_c (hn : R * C ≤ 144) (hC : 0 < C) (h1 : ∀ j : Nat, j < 144 → S2 j = S j) (h2 : ∀ j : Nat, j < 144 → via2 j = via j) (h3 : ∀ j : Nat, (j : Int) < cnt → wa2 j = wa j) {pe2 : Nat → Prop} (hp : ∀ e : Nat, edP R C e → (pe e ↔ pe2 e)) (hx : s ≤ 0 ∨ (0 ≤ x ∧ x < R * C)) (hs4 : s ≤ 4) (h : fnI R C pe S via wa cnt b s x) : fnI R C pe2 S2 via2 wa2 cnt b s x := by
  have l1 : ∀ {p q : Nat}, lk R C pe p q → lk R C pe2 p q := fun h => lk_imp (fun e he q => (hp e he).mp q) h
  have l2 : ∀ {p q : Nat}, lk R C pe2 p q → lk R C pe p q := fun h => lk_imp (fun e he q => (hp e he).mpr q) h
  obtain ⟨a0, a1, a2, a3, a4, a5⟩ := h
  refine ⟨a0, fun j hj => ?_, fun i j hij hj => ?_, fun q g1 g2 g3 => ?_, fun p q g1 g2 g3 g4 g5 => ?_, fun t g1 g2 g3 g4 g5 => ?_⟩
  · obtain ⟨q, q1, q2, q3, q4⟩ := a1 j hj
    exact ⟨q, by rw [h3 j hj]; exact q1, q2, by rw [h1 q (by omega)]; exact q3, by rw [h2 q (by omega)]; exact q4⟩
  · rw [h3 i (by omega), h3 j hj]
    exact a2 i j hij hj
  · rw [h1 q (by omega)] at g2
    rw [h2 q (by omega)] at g3
    obtain ⟨⟨j, j1, j2⟩, p, b2, b3, b4⟩ := a3 q g1 g2 g3
    refine ⟨⟨j, j1, by rw [h3 j j1]; exact j2⟩, p, by rw [h2 q (by omega)]; exact b2, ?_, l1 b4⟩
    have := lk_lt hC b4
    rw [h1 p (by omega)]
    exact b3
  · have q := lk_lt hC g1
    rw [h1 p (by omega)] at g2
    rw [h1 _ (by omega)] at g3
    rw [h2 _ (by omega)]
    exact a4 p _ (l2 g1) g2 g3 g4 g5
  · have hx2 : 0 ≤ x ∧ x < R * C := by
      rcases hx with hx | hx
      · omega
      · exact hx
    have q := nb_lk (pe := pe2) hC hx2.1 hx2.2 ⟨g1, by omega⟩ g3 g4
    rw [h1 _ (by omega)] at g5
    rw [h2 _ (by omega)]
    have he : edP R C (((nbe C x t).toNat : Nat) : Int) := by
      rw [show (((nbe C x t).toNat : Nat) : Int) = nbe C x t by have := q.2.2.1.1; omega]
      exact q.2.2.1
    exact a5 t g1 g2 g3 ((hp _ he).mpr g4) g5
end
/-! a map joined has heights -/
def stp (C : Nat) (ph : Nat → Int) (e : Nat) : Int := stA ph (e / 2) (if e % 2 = 0 then e / 2 + 1 else e / 2 + C)
theorem stA_neg (ph : Nat → Int) (a b : Nat) : stA ph b a = -stA ph a b := by
  unfold stA
  rw [← wr_neg]
  congr 1
  omega
theorem JNF_pot {R C : Int} {ph ov : Nat → Int} (hC : 0 < C) (h : JNF R C ph ov) : ∃ P : Nat → Int, ∀ e : Nat, edP R C e → e < 288 → ov e = 0 → P (tipI C e).toNat - P ((e : Int) / 2).toNat = stA ph ((e : Int) / 2).toNat (tipI C e).toNat := by
  obtain ⟨w, w1, w2⟩ := h
  have hD : ∀ r c, r + 1 < R.toNat → c + 1 < C.toNat → (fun e => stp C.toNat ph e - 255 * w e) (2 * (r * C.toNat + c)) + (fun e => stp C.toNat ph e - 255 * w e) (2 * (r * C.toNat + (c + 1)) + 1) - (fun e => stp C.toNat ph e - 255 * w e) (2 * ((r + 1) * C.toNat + c)) - (fun e => stp C.toNat ph e - 255 * w e) (2 * (r * C.toNat + c) + 1) = 0 := by
    intro r c hr hc
    have k := w2 r c (by omega) (by omega)
    unfold kwF hE vE at k
    unfold crl crlP at k
    rw [if_pos (by decide), if_pos (by decide)] at k
    show stp C.toNat ph (2 * (r * C.toNat + c)) - 255 * w (2 * (r * C.toNat + c)) + (stp C.toNat ph (2 * (r * C.toNat + (c + 1)) + 1) - 255 * w (2 * (r * C.toNat + (c + 1)) + 1)) - (stp C.toNat ph (2 * ((r + 1) * C.toNat + c)) - 255 * w (2 * ((r + 1) * C.toNat + c))) - (stp C.toNat ph (2 * (r * C.toNat + c) + 1) - 255 * w (2 * (r * C.toNat + c) + 1)) = 0
    have hm : (r + 1) * C.toNat = r * C.toNat + C.toNat := Nat.succ_mul _ _
    rw [hm] at k ⊢
    have s1 : stp C.toNat ph (2 * (r * C.toNat + c)) = stA ph (r * C.toNat + c) (r * C.toNat + c + 1) := by
      unfold stp
      rw [if_pos (by omega), show 2 * (r * C.toNat + c) / 2 = r * C.toNat + c by omega]
    have s2 : stp C.toNat ph (2 * (r * C.toNat + (c + 1)) + 1) = stA ph (r * C.toNat + c + 1) (r * C.toNat + c + C.toNat + 1) := by
      unfold stp
      rw [if_neg (by omega), show (2 * (r * C.toNat + (c + 1)) + 1) / 2 = r * C.toNat + c + 1 by omega, show r * C.toNat + c + 1 + C.toNat = r * C.toNat + c + C.toNat + 1 by omega]
    have s3 : stp C.toNat ph (2 * (r * C.toNat + C.toNat + c)) = stA ph (r * C.toNat + c + C.toNat) (r * C.toNat + c + C.toNat + 1) := by
      unfold stp
      rw [if_pos (by omega), show 2 * (r * C.toNat + C.toNat + c) / 2 = r * C.toNat + c + C.toNat by omega]
    have s4 : stp C.toNat ph (2 * (r * C.toNat + c) + 1) = stA ph (r * C.toNat + c) (r * C.toNat + c + C.toNat) := by
      unfold stp
      rw [if_neg (by omega), show (2 * (r * C.toNat + c) + 1) / 2 = r * C.toNat + c by omega]
    rw [stA_neg ph (r * C.toNat + c + C.toNat) (r * C.toNat + c + C.toNat + 1), stA_neg ph (r * C.toNat + c) (r * C.toNat + c + C.toNat)] at k
    rw [s1, s2, s3, s4]
    omega
  refine ⟨potF C.toNat (fun e => stp C.toNat ph e - 255 * w e), fun e he he2 ho => ?_⟩
  have hw : w e = 0 := (w1 e he2).2 ho
  have tl := tip_lt hC he
  obtain ⟨h0, h1, h2, h3⟩ := he
  have hp0 : ((e : Int) / 2).toNat = e / 2 := by omega
  have hCp : 0 < C.toNat := by omega
  have hd := Nat.div_add_mod (e / 2) C.toNat
  have hmod : (e / 2) % C.toNat < C.toNat := Nat.mod_lt _ hCp
  have cdiv : (((e / 2) / C.toNat : Nat) : Int) = (e : Int) / 2 / C := by
    rw [Int.natCast_ediv, Int.natCast_ediv, show ((C.toNat : Nat) : Int) = C by omega]
    rfl
  have cmod : (((e / 2) % C.toNat : Nat) : Int) = (e : Int) / 2 % C := by
    rw [Int.natCast_emod, Int.natCast_ediv, show ((C.toNat : Nat) : Int) = C by omega]
    rfl
  have hrow : (e / 2) / C.toNat < R.toNat := by
    have : (e : Int) / 2 / C < R := Int.ediv_lt_of_lt_mul hC (by omega)
    omega
  have er : e / 2 = (e / 2) / C.toNat * C.toNat + (e / 2) % C.toNat := by rw [Nat.mul_comm]; omega
  by_cases hz : (e : Int) % 2 = 0
  · have a := h2 hz
    have et : (tipI C e).toNat = e / 2 + 1 := by
      unfold tipI
      rw [if_pos hz]
      omega
    have q := pot_h (D := fun e => stp C.toNat ph e - 255 * w e) hD hrow (show (e / 2) % C.toNat + 1 < C.toNat by omega)
    rw [hp0, et]
    rw [show (e / 2) / C.toNat * C.toNat + ((e / 2) % C.toNat + 1) = e / 2 + 1 by omega, ← er] at q
    rw [q]
    show stp C.toNat ph (2 * (e / 2)) - 255 * w (2 * (e / 2)) = _
    rw [show 2 * (e / 2) = e by omega, hw]
    unfold stp
    rw [if_pos (by omega)]
    omega
  · have a := h3 hz
    have et : (tipI C e).toNat = e / 2 + C.toNat := by
      unfold tipI
      rw [if_neg hz]
      omega
    have q := pot_v (D := fun e => stp C.toNat ph e - 255 * w e) (r := (e / 2) / C.toNat) hmod
    rw [hp0, et]
    rw [Nat.succ_mul, show (e / 2) / C.toNat * C.toNat + C.toNat + (e / 2) % C.toNat = e / 2 + C.toNat by omega, ← er] at q
    rw [q]
    show stp C.toNat ph (2 * (e / 2) + 1) - 255 * w (2 * (e / 2) + 1) = _
    rw [show 2 * (e / 2) + 1 = e by omega, hw]
    unfold stp
    rw [if_neg (by omega)]
    omega
/-- heights are those of the map but for a number for each island -/
theorem flJ_pot {R C : Int} {ph : Nat → Int} {pe : Nat → Prop} {lad k : Int} {H F S V T P : Nat → Int} (hC : 0 < C) (h : flJ R C ph pe lad k H F S V T) (hP : ∀ e : Nat, edP R C e → pe e → P (tipI C e).toNat - P ((e : Int) / 2).toNat = stA ph ((e : Int) / 2).toNat (tipI C e).toNat) : ∀ p : Nat, (p : Int) < R * C → S p ≠ -1 → H p = P p + (H (T (S p).toNat).toNat - P (T (S p).toNat).toNat) := by
  have key : ∀ n : Nat, ∀ p : Nat, (p : Int) < R * C → S p ≠ -1 → V p ≤ (n : Int) → H p = P p + (H (T (S p).toNat).toNat - P (T (S p).toNat).toNat) := by
    intro n
    induction n with
    | zero =>
      intro p h1 h2 h3
      have := (h.2.1 p h1 h2).2.1
      omega
    | succ n ih =>
      intro p h1 h2 h3
      obtain ⟨-, -, -, l4⟩ := h.2.1 p h1 h2
      rcases l4 with ⟨l4, l5⟩ | ⟨-, q, l5, l6, l7, l8, l9⟩
      · rw [l5, show ((p : Int)).toNat = p by omega]
        omega
      · have := ih q (lk_lt hC l6).1 (by rw [l7]; exact h2) (by omega)
        rw [l7] at this
        obtain ⟨e, e1, e2, e3⟩ := l6
        have hp := hP e e1 e2
        rcases e3 with ⟨e3, e4⟩ | ⟨e3, e4⟩
        · rw [← e3, ← e4, show ((p : Int)).toNat = p by omega, show ((q : Int)).toNat = q by omega] at hp
          omega
        · rw [← e3, ← e4, show ((p : Int)).toNat = p by omega, show ((q : Int)).toNat = q by omega, stA_neg] at hp
          omega
  exact fun p h1 h2 => key (V p).toNat p h1 h2 (by have := (h.2.1 p h1 h2).2.1; omega)
/-- no edge that may be gone over jumps -/
def jfP (R C : Int) (ph : Nat → Int) (pe : Nat → Prop) (H S : Nat → Int) : Prop := ∀ e : Nat, edP R C e → pe e → S ((e : Int) / 2).toNat ≠ -1 → S (tipI C e).toNat ≠ -1 → H (tipI C e).toNat - H ((e : Int) / 2).toNat = stA ph ((e : Int) / 2).toNat (tipI C e).toNat
theorem jf_of {R C : Int} {ph ov : Nat → Int} {pe : Nat → Prop} {lad k : Int} {H F S V T : Nat → Int} (hC : 0 < C) (hn : R * C ≤ 144) (hj : JNF R C ph ov) (hp : ∀ e : Nat, pe e → ov e ≤ 0) (h : flJ R C ph pe lad k H F S V T) : jfP R C ph pe H S := by
  have ho : ∀ e : Nat, edP R C e → pe e → ov e = 0 := fun e h1 h2 => by
    obtain ⟨w, w1, -⟩ := hj
    have := (w1 e (by have := h1.2.1; omega)).1
    have := hp e h2
    omega
  obtain ⟨P, hP⟩ := JNF_pot hC hj
  have q := flJ_pot hC h (P := P) fun e e1 e2 => hP e e1 (by have := e1.2.1; omega) (ho e e1 e2)
  intro e e1 e2 s1 s2
  have tl := tip_lt hC e1
  have a := q _ (by omega) s1
  have b := q _ (by omega) s2
  have hl : lk R C pe ((e : Int) / 2).toNat (tipI C e).toNat := ⟨e, e1, e2, Or.inl ⟨by omega, by omega⟩⟩
  rw [(h.2.2.2 _ _ hl s1).1 s2] at b
  have c := hP e e1 (by have := e1.2.1; omega) (ho e e1 e2)
  omega
/-- nothing is laid -/
theorem flI_0 {R C : Int} {ph : Nat → Int} {pe : Nat → Prop} {H F S V T : Nat → Int} (hC : 0 < C) (hn : R * C ≤ 144) (hS : ∀ j : Nat, j < 144 → S j = -1) : flI R C ph pe 0 0 H F S V T := by
  have z : ∀ p : Nat, (p : Int) < R * C → S p = -1 := fun p hp => hS p (by omega)
  refine ⟨⟨⟨⟨Int.le_refl _, Int.le_refl _⟩, sm_z _ _ fun i hi => if_pos (z i (by omega))⟩, fun p h1 h2 => absurd (z p h1) h2, fun i hi => by omega, fun p q h1 h2 => absurd (z p (lk_lt hC h1).1) h2⟩, fun p h1 h2 => absurd (z p h1) h2⟩
