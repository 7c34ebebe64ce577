/-! THE REFERENCE'S ROW: what holds of it between calls -/
theorem cnt_c {n : Nat} {P P2 : Nat → Bool} (h : ∀ q, q < n → P2 q = P q) : (List.range n).countP P2 = (List.range n).countP P := by
  induction n with
  | zero => rfl
  | succ n ih =>
    rw [List.range_succ, List.countP_append, List.countP_append, ih (fun q hq => h q (by omega))]
    simp only [List.countP_cons, List.countP_nil, h n (by omega)]
theorem cnt_1 {n p : Nat} {P P2 : Nat → Bool} (hp : p < n) (h1 : P p = true) (h2 : P2 p = false) (h : ∀ q, q < n → q ≠ p → P2 q = P q) : (List.range n).countP P = (List.range n).countP P2 + 1 := by
  induction n with
  | zero => omega
  | succ n ih =>
    rw [List.range_succ, List.countP_append, List.countP_append]
    simp only [List.countP_cons, List.countP_nil]
    by_cases hn : p = n
    · subst hn
      rw [h1, h2, cnt_c (P := P) (P2 := P2) (fun q hq => h q (by omega) (by omega))]
      simp
    · rw [ih (by omega) (fun q hq hn => h q (by omega) hn), h n (by omega) (fun q => hn q.symm)]
      omega
theorem cnt_pos {n p : Nat} {P : Nat → Bool} (hp : p < n) (h1 : P p = true) : 0 < (List.range n).countP P := by
  rw [List.countP_pos_iff]
  exact ⟨p, List.mem_range.mpr hp, h1⟩
theorem cnt_le {n : Nat} {P : Nat → Bool} : (List.range n).countP P ≤ n := by
  have := List.countP_le_length (p := P) (l := List.range n)
  rw [List.length_range] at this
  exact this
/-- how many are not laid -/
def unl (f : Nat → Int) : Nat := (List.range 144).countP fun p => decide (f (874 + p) ≤ 0)
/-- moves and islands are no more than what is laid; a laid one's way back goes to one laid earlier -/
def RIb (f : Nat → Int) : Prop := ∀ p : Nat, p < 144 → 0 < f (874 + p) → f (874 + p) ≤ f 2 ∧ (f (586 + p) = -1 ∨ ∃ q : Nat, q < 144 ∧ f (586 + p) = (q : Int) ∧ 0 < f (874 + q) ∧ f (874 + q) < f (874 + p))
def RI0 (f : Nat → Int) : Prop := (0 ≤ f 2 ∧ f 2 + unl f ≤ 144) ∧ (0 ≤ f 3 ∧ f 3 + unl f ≤ 144) ∧ RIb f
def RI1 (f : Nat → Int) : Prop := (0 ≤ f 2 ∧ f 2 + unl f ≤ 144) ∧ (0 ≤ f 3 ∧ f 3 + unl f ≤ 145) ∧ RIb f
/-- something is to be laid -/
def EXU (f : Nat → Int) : Prop := ∃ p : Nat, p < 144 ∧ (p : Int) < (f 0 + 4) * (f 1 + 4) ∧ f (298 + p) ≠ 1 ∧ f (874 + p) ≤ 0
def FLc (f : Nat → Int) : Prop := f 4 ≠ 0 → EXU f
def RIF (f : Nat → Int) : Prop := RI0 f ∧ FLc f
/-- not laid; laid; either may be none -/
def UNp (f : Nat → Int) (p : Int) : Prop := p = -1 ∨ (0 ≤ p ∧ p < 144 ∧ f (874 + p.toNat) ≤ 0)
def LAp (f : Nat → Int) (p : Int) : Prop := p = -1 ∨ (0 ≤ p ∧ p < 144 ∧ 0 < f (874 + p.toNat))
theorem unl_le (f : Nat → Int) : unl f ≤ 144 := cnt_le
theorem unl_c {f f2 : Nat → Int} (h : ∀ p, p < 144 → f2 (874 + p) = f (874 + p)) : unl f2 = unl f := cnt_c fun q hq => by rw [h q hq]
theorem unl_pos {f : Nat → Int} {p : Nat} (hp : p < 144) (h : f (874 + p) ≤ 0) : 0 < unl f := cnt_pos (p := p) hp (decide_eq_true h)
theorem RIb_c {f f2 : Nat → Int} (h2 : f2 2 = f 2) (hM : ∀ p, p < 144 → f2 (874 + p) = f (874 + p)) (hF : ∀ p, p < 144 → f2 (586 + p) = f (586 + p)) (h : RIb f) : RIb f2 := by
  intro p hp
  rw [hM p hp, hF p hp, h2]
  intro h0
  obtain ⟨a, b⟩ := h p hp h0
  refine ⟨a, ?_⟩
  rcases b with b | ⟨q, q1, q2, q3, q4⟩
  · exact Or.inl b
  · exact Or.inr ⟨q, q1, q2, by rw [hM q q1]; exact q3, by rw [hM q q1]; exact q4⟩
theorem RI0_c {f f2 : Nat → Int} (h2 : f2 2 = f 2) (h3 : f2 3 = f 3) (hM : ∀ p, p < 144 → f2 (874 + p) = f (874 + p)) (hF : ∀ p, p < 144 → f2 (586 + p) = f (586 + p)) (h : RI0 f) : RI0 f2 := by
  obtain ⟨a, b, c⟩ := h
  refine ⟨?_, ?_, RIb_c h2 hM hF c⟩
  · rw [h2, unl_c hM]; exact a
  · rw [h3, unl_c hM]; exact b
theorem RI1_c {f f2 : Nat → Int} (h2 : f2 2 = f 2) (h3 : f2 3 = f 3) (hM : ∀ p, p < 144 → f2 (874 + p) = f (874 + p)) (hF : ∀ p, p < 144 → f2 (586 + p) = f (586 + p)) (h : RI1 f) : RI1 f2 := by
  obtain ⟨a, b, c⟩ := h
  refine ⟨?_, ?_, RIb_c h2 hM hF c⟩
  · rw [h2, unl_c hM]; exact a
  · rw [h3, unl_c hM]; exact b
theorem RI01 {f : Nat → Int} (h : RI0 f) : RI1 f := ⟨h.1, ⟨h.2.1.1, by have := h.2.1.2; omega⟩, h.2.2⟩
theorem EXU_c {f f2 : Nat → Int} (h0 : f2 0 = f 0) (h1 : f2 1 = f 1) (hH : ∀ p, p < 144 → f2 (298 + p) = f (298 + p)) (hM : ∀ p, p < 144 → f2 (874 + p) = f (874 + p)) (h : EXU f) : EXU f2 := by
  obtain ⟨p, p1, p2, p3, p4⟩ := h
  exact ⟨p, p1, by rw [h0, h1]; exact p2, by rw [hH p p1]; exact p3, by rw [hM p p1]; exact p4⟩
theorem FLc_c {f f2 : Nat → Int} (h0 : f2 0 = f 0) (h1 : f2 1 = f 1) (h4 : f2 4 = f 4) (hH : ∀ p, p < 144 → f2 (298 + p) = f (298 + p)) (hM : ∀ p, p < 144 → f2 (874 + p) = f (874 + p)) (h : FLc f) : FLc f2 := fun h5 => EXU_c h0 h1 hH hM (h (by rw [← h4]; exact h5))
theorem RIF_c {f f2 : Nat → Int} (hA : ∀ k, k < 2314 → f2 k = f k) (h : RIF f) : RIF f2 :=
  ⟨RI0_c (hA 2 (by decide)) (hA 3 (by decide)) (fun p hp => hA _ (by omega)) (fun p hp => hA _ (by omega)) h.1, FLc_c (hA 0 (by decide)) (hA 1 (by decide)) (hA 4 (by decide)) (fun p hp => hA _ (by omega)) (fun p hp => hA _ (by omega)) h.2⟩
theorem LAp_c {f f2 : Nat → Int} {x : Int} (hM : ∀ p, p < 144 → f2 (874 + p) = f (874 + p)) (h : LAp f x) : LAp f2 x := by
  rcases h with h | ⟨a, b, c⟩
  · exact Or.inl h
  · exact Or.inr ⟨a, b, by rw [hM _ (by omega)]; exact c⟩
/-- one is laid: over its cells alone, in two steps -/
theorem lay_ok {f f2 : Nat → Int} {p : Nat} {fr : Int} (hp : p < 144) (h : RI1 f) (hu : f (874 + p) ≤ 0) (hfr : LAp f fr) (h2 : f2 2 = f 2 + 1) (h3 : f2 3 = f 3) (hm : f2 (874 + p) = f 2 + 1) (hf : f2 (586 + p) = fr) (hM : ∀ q, q < 144 → q ≠ p → f2 (874 + q) = f (874 + q)) (hF : ∀ q, q < 144 → q ≠ p → f2 (586 + q) = f (586 + q)) : RI0 f2 ∧ unl f = unl f2 + 1 := by
  obtain ⟨⟨a1, a2⟩, ⟨b1, b2⟩, c⟩ := h
  have hn : unl f = unl f2 + 1 := cnt_1 (p := p) hp (decide_eq_true hu) (decide_eq_false (by rw [hm]; omega)) fun q hq hn => by rw [hM q hq hn]
  refine ⟨⟨⟨by omega, by omega⟩, ⟨by omega, by omega⟩, fun q hq h0 => ?_⟩, hn⟩
  by_cases hqp : q = p
  · subst hqp
    refine ⟨by omega, ?_⟩
    rw [hf]
    rcases hfr with e | ⟨e1, e2, e3⟩
    · exact Or.inl e
    · have hne : fr.toNat ≠ q := fun z => by rw [z] at e3; omega
      refine Or.inr ⟨fr.toNat, by omega, by omega, ?_, ?_⟩
      · rw [hM _ (by omega) hne]; exact e3
      · rw [hM _ (by omega) hne, hm]
        have := (c fr.toNat (by omega) e3).1
        omega
  · rw [hM q hq hqp] at h0 ⊢
    rw [hF q hq hqp]
    obtain ⟨x, y⟩ := c q hq h0
    refine ⟨by omega, ?_⟩
    rcases y with y | ⟨t, t1, t2, t3, t4⟩
    · exact Or.inl y
    · have hne : t ≠ p := fun z => by rw [z] at t3; omega
      exact Or.inr ⟨t, t1, t2, by rw [hM t t1 hne]; exact t3, by rw [hM t t1 hne]; exact t4⟩
/-- nothing is laid -/
theorem clear_ok {f : Nat → Int} (h2 : f 2 = 0) (h3 : f 3 = 0) (hM : ∀ p, p < 144 → f (874 + p) = 0) : RI0 f := by
  have := unl_le f
  refine ⟨⟨by omega, by omega⟩, ⟨by omega, by omega⟩, fun p hp h0 => ?_⟩
  rw [hM p hp] at h0
  omega
theorem FL0 {f : Nat → Int} (h : f 4 = 0) : FLc f := fun h2 => absurd h h2
